def fX9_meetsAnother_l47 (X : XW) (nb : Nat) (l1f6 : Int32) (l2f6 : Nat) (l3f6 : Int32) (l4f6 : Int32) (l5f47 : Int32) (l6f47 : Int32) (K6 : Int32 → Option Int32) (K47 : Int32 → Option Int32) (l7 : Int32) : Option Int32 :=
  if (X.1 0 12) ≤ l7 then K6 (l5f47 + (1 : Int32))
  else if l7 = l1f6 then K47 (l7 + (1 : Int32))
  else if inb l7 6 then bd (27 + 2 * (l7).toNatClampNeg) fun o9 =>
  (fX2_meetsIn X o9 l5f47 l6f47).bind fun v12 =>
  if v12 = 0 then K47 (l7 + (1 : Int32))
  else some (1 : Int32)
  else none
def fX9_meetsAnother_l6 (X : XW) (nb : Nat) (l1f6 : Int32) (l2f6 : Nat) (l3f6 : Int32) (l4f6 : Int32) (K6 : Int32 → Option Int32) (l5 : Int32) : Option Int32 :=
  if ((X.1 0 11) + l4f6) ≤ l5 then some (0 : Int32)
  else if NS ≤ l2f6 ∧ l2f6 < TT nb then (rd (X.2.1 4) 12 l5).bind fun v4 =>
  (fX0_liesAt X l3f6 (X.1 l2f6 5) l5 v4).bind fun v6 =>
  lo1 (fX9_meetsAnother_l47 X nb l1f6 l2f6 l3f6 l4f6 l5 v6 K6) FU (0 : Int32) else none
def fX9_meetsAnother (X : XW) (nb : Nat) (l1 : Int32) (l2 : Nat) (l3 : Int32) (l4 : Int32) : Option Int32 :=
  bd (X.1 0 11) fun v1 =>
  lo1 (fX9_meetsAnother_l6 X nb l1 l2 l3 l4) FU v1
set_option maxRecDepth 100000 in
set_option maxHeartbeats 4000000 in
theorem c_X9_meetsAnother {l : Launch} {s0 : State} {D : va_G} {ev : Nat → Nat} (G0 : Gl s0 D ev) {X : XW} {M : MW} {nb : Nat} {l1 : Int32} {l2 : Nat} {l3 : Int32} {l4 : Int32} {r' : Int32}  (h : fX9_meetsAnother X nb l1 l2 l3 l4 = some r') : CT l s0 D ev yX9_meetsAnother cX9_meetsAnother 8 (some .boolean) 4 0 0 [.ref (ev 0 + 0), .int l1, .ref (ev 0 + l2), .int l3, .int l4] (cells ev X M nb) (QI s0 D ev r' (cells ev X M nb)) := by
  refine ct_of G0 (by decide) (Nat.le_of_ble_eq_true rfl) ?_
  intro p9 e9 s9 m9 args9 below9 meth9 c9 F hr9 hl9 hin9 hargs9 hts9
  have L6 : ∀ (l1f6 : Int32) (l2f6 : Nat) (l3f6 : Int32) (l4f6 : Int32) (N6 : Nat) (l5 : Int32), lo1 (fX9_meetsAnother_l6 X nb l1f6 l2f6 l3f6 l4f6) N6 l5 = some r' → GJ p9 l e9 (rg 4 0 0) s9 m9 args9 below9 meth9 c9 (MQ below9 (QI s0 D ev r' (cells ev X M nb)) args9 s9 0 0 (frA ev)) s0 D ev 8 0 0 6 [(0, .ref (ev 0 + 0)), (1, .int l1f6), (2, .ref (ev 0 + l2f6)), (3, .int l3f6), (4, .int l4f6), (5, .int l5)] ([]) (cells ev X M nb) := by
    intro l1f6 l2f6 l3f6 l4f6 N6
    induction N6 with
    | zero => intro l5 h; cases h
    | succ N6 ih6 =>
      have L47 : ∀ (l5f47 : Int32) (l6f47 : Int32) (N47 : Nat) (l7 : Int32), lo1 (fX9_meetsAnother_l47 X nb l1f6 l2f6 l3f6 l4f6 l5f47 l6f47 (lo1 (fX9_meetsAnother_l6 X nb l1f6 l2f6 l3f6 l4f6) N6)) N47 l7 = some r' → GJ p9 l e9 (rg 4 0 0) s9 m9 args9 below9 meth9 c9 (MQ below9 (QI s0 D ev r' (cells ev X M nb)) args9 s9 0 0 (frA ev)) s0 D ev 8 0 0 47 [(0, .ref (ev 0 + 0)), (1, .int l1f6), (2, .ref (ev 0 + l2f6)), (3, .int l3f6), (4, .int l4f6), (5, .int l5f47), (6, .int l6f47), (7, .int l7)] ([]) (cells ev X M nb) := by
        intro l5f47 l6f47 N47
        induction N47 with
        | zero => intro l7 h; cases h
        | succ N47 ih47 =>
          intro l7 h
          change fX9_meetsAnother_l47 X nb l1f6 l2f6 l3f6 l4f6 l5f47 l6f47 (lo1 (fX9_meetsAnother_l6 X nb l1f6 l2f6 l3f6 l4f6) N6) (lo1 (fX9_meetsAnother_l47 X nb l1f6 l2f6 l3f6 l4f6 l5f47 l6f47 (lo1 (fX9_meetsAnother_l6 X nb l1f6 l2f6 l3f6 l4f6) N6)) N47) l7 = some r' at h
          rw [fX9_meetsAnother_l47] at h
          refine g_iload (i := 7) F dX9_meetsAnother_47 rfl ?_
          refine g_aload_n (i := 0) F dX9_meetsAnother_49 rfl rfl ?_
          refine g_get_9_12 F rfl (kd_lit (by decide)) wd_2_20 dX9_meetsAnother_50 ?_
          refine g_icmp_ge (tgt := 87) F dX9_meetsAnother_53 (by decide) h (fun a16 h => ?_) (fun a16 h => ?_)
          · refine g_iinc (i := 5) (v := (l5f47 + (1 : Int32))) (lv' := [(5, .int (l5f47 + (1 : Int32))), (0, .ref (ev 0 + 0)), (1, .int l1f6), (2, .ref (ev 0 + l2f6)), (3, .int l3f6), (4, .int l4f6), (6, .int l6f47), (7, .int l7)]) F dX9_meetsAnother_87 rfl rfl (by decide) rfl ?_
            refine g_goto (tgt := 6) F dX9_meetsAnother_90 (by decide) ?_
            refine g_lv (lv' := [(0, .ref (ev 0 + 0)), (1, .int l1f6), (2, .ref (ev 0 + l2f6)), (3, .int l3f6), (4, .int l4f6), (5, .int (l5f47 + (1 : Int32)))]) ⟨rfl, rfl, rfl, rfl, rfl, rfl, trivial⟩ ?_
            exact ih6 _ h
          · refine g_iload (i := 7) F dX9_meetsAnother_56 rfl ?_
            refine g_iload_n (i := 1) F dX9_meetsAnother_58 rfl rfl ?_
            refine g_icmp_eq (tgt := 81) F dX9_meetsAnother_59 (by decide) h (fun a15 h => ?_) (fun a15 h => ?_)
            · refine g_iinc (i := 7) (v := (l7 + (1 : Int32))) (lv' := [(7, .int (l7 + (1 : Int32))), (0, .ref (ev 0 + 0)), (1, .int l1f6), (2, .ref (ev 0 + l2f6)), (3, .int l3f6), (4, .int l4f6), (5, .int l5f47), (6, .int l6f47)]) F dX9_meetsAnother_81 rfl rfl (by decide) rfl ?_
              refine g_goto (tgt := 47) F dX9_meetsAnother_84 (by decide) ?_
              refine g_lv (lv' := [(0, .ref (ev 0 + 0)), (1, .int l1f6), (2, .ref (ev 0 + l2f6)), (3, .int l3f6), (4, .int l4f6), (5, .int l5f47), (6, .int l6f47), (7, .int (l7 + (1 : Int32)))]) ⟨rfl, rfl, rfl, rfl, rfl, rfl, rfl, rfl, trivial⟩ ?_
              exact ih47 _ h
            · refine g_aload_n (i := 0) F dX9_meetsAnother_62 rfl rfl ?_
              refine g_get_9_5 F rfl (kd_lit (by decide)) wd_2_5 dX9_meetsAnother_63 ?_
              refine g_iload (i := 7) F dX9_meetsAnother_66 rfl ?_
              obtain ⟨h8, h⟩ := if_at h
              obtain ⟨o9, e10, h⟩ := bd_at h
              refine g_ald_13 F h8 dX9_meetsAnother_68 ?_
              rw [← e10]
              have h11 : kd o9 = 2 := by rw [e10]; exact kd_c (clamp_lt h8)
              refine g_iload (i := 5) F dX9_meetsAnother_69 rfl ?_
              refine g_iload (i := 6) F dX9_meetsAnother_71 rfl ?_
              obtain ⟨v12, e13, h⟩ := bind_at h
              refine g_callVI F (mcR := 0) (msR := 0) (id := o9) (cells_at (kd_hid h11 (by decide)) (xc_2 h11)) (ci := 2) rfl rfl rfl (c_X2_meetsIn G0 e13) wd_31_20 wd_31_17 wd_31_18 wd_31_19 wd_3_0 ⟨by decide, by decide⟩ (nn := 2) (by decide) (As := [.int l5f47, .int l6f47]) rfl rfl (Nat.le_of_ble_eq_true rfl) (by decide) (by decide) ⟨by decide, by decide⟩ dX9_meetsAnother_73 ?_
              refine g_if_eq (tgt := 81) F dX9_meetsAnother_76 (by decide) h (fun a14 h => ?_) (fun a14 h => ?_)
              · refine g_iinc (i := 7) (v := (l7 + (1 : Int32))) (lv' := [(7, .int (l7 + (1 : Int32))), (0, .ref (ev 0 + 0)), (1, .int l1f6), (2, .ref (ev 0 + l2f6)), (3, .int l3f6), (4, .int l4f6), (5, .int l5f47), (6, .int l6f47)]) F dX9_meetsAnother_81 rfl rfl (by decide) rfl ?_
                refine g_goto (tgt := 47) F dX9_meetsAnother_84 (by decide) ?_
                refine g_lv (lv' := [(0, .ref (ev 0 + 0)), (1, .int l1f6), (2, .ref (ev 0 + l2f6)), (3, .int l3f6), (4, .int l4f6), (5, .int l5f47), (6, .int l6f47), (7, .int (l7 + (1 : Int32)))]) ⟨rfl, rfl, rfl, rfl, rfl, rfl, rfl, rfl, trivial⟩ ?_
                exact ih47 _ h
              · refine g_iconst F dX9_meetsAnother_79 (v := 1) (by decide) ?_
                exact g_iret F hr9 (by decide) hl9 (Option.some.inj h) rfl (by decide) (by decide) dX9_meetsAnother_80
      intro l5 h
      change fX9_meetsAnother_l6 X nb l1f6 l2f6 l3f6 l4f6 (lo1 (fX9_meetsAnother_l6 X nb l1f6 l2f6 l3f6 l4f6) N6) l5 = some r' at h
      rw [fX9_meetsAnother_l6] at h
      refine g_iload (i := 5) F dX9_meetsAnother_6 rfl ?_
      refine g_aload_n (i := 0) F dX9_meetsAnother_8 rfl rfl ?_
      refine g_get_9_11 F rfl (kd_lit (by decide)) wd_2_19 dX9_meetsAnother_9 ?_
      refine g_iload (i := 4) F dX9_meetsAnother_12 rfl ?_
      refine g_iadd F dX9_meetsAnother_14 ?_
      refine g_icmp_ge (tgt := 93) F dX9_meetsAnother_15 (by decide) h (fun a17 h => ?_) (fun a17 h => ?_)
      · refine g_iconst F dX9_meetsAnother_93 (v := 0) (by decide) ?_
        exact g_iret F hr9 (by decide) hl9 (Option.some.inj h) rfl (by decide) (by decide) dX9_meetsAnother_94
      · refine g_aload_n (i := 0) F dX9_meetsAnother_18 rfl rfl ?_
        refine g_get_9_0 F rfl (kd_lit (by decide)) wd_1_15 dX9_meetsAnother_19 ?_
        refine g_iload_n (i := 3) F dX9_meetsAnother_22 rfl rfl ?_
        refine g_aload_n (i := 2) F dX9_meetsAnother_23 rfl rfl ?_
        obtain ⟨h3, h⟩ := if_at h
        refine g_get_1_5 F (kd_b h3) h3.2 wd_22_19 dX9_meetsAnother_24 ?_
        refine g_iload (i := 5) F dX9_meetsAnother_27 rfl ?_
        refine g_aload_n (i := 0) F dX9_meetsAnother_29 rfl rfl ?_
        refine g_get_9_0 F rfl (kd_lit (by decide)) wd_1_15 dX9_meetsAnother_30 ?_
        refine g_get_0_2 F rfl (kd_lit (by decide)) wd_34_7 dX9_meetsAnother_33 ?_
        refine g_iload (i := 5) F dX9_meetsAnother_36 rfl ?_
        obtain ⟨v4, e5, h⟩ := bind_at h
        refine g_ildX F rfl rfl e5 dX9_meetsAnother_38 ?_
        obtain ⟨v6, e7, h⟩ := bind_at h
        refine g_callVI F (mcR := 0) (msR := 0) (id := 1) (cells_at (kd_lit (i := 1) (by decide)) (xc_0 rfl)) (ci := 0) rfl rfl rfl (c_X0_liesAt G0 e7) wd_29_3 wd_34_8 wd_29_1 wd_29_2 wd_1_14 ⟨by decide, by decide⟩ (nn := 4) (by decide) (As := [.int l3f6, .int (X.1 l2f6 5), .int l5, .int v4]) rfl rfl (Nat.le_of_ble_eq_true rfl) (by decide) (by decide) ⟨by decide, by decide⟩ dX9_meetsAnother_39 ?_
        refine g_istore (i := 6) (lv' := [(6, .int v6), (0, .ref (ev 0 + 0)), (1, .int l1f6), (2, .ref (ev 0 + l2f6)), (3, .int l3f6), (4, .int l4f6), (5, .int l5)]) F dX9_meetsAnother_42 (by decide) rfl ?_
        refine g_iconst F dX9_meetsAnother_44 (v := 0) (by decide) ?_
        refine g_istore (i := 7) (lv' := [(7, .int (0 : Int32)), (6, .int v6), (0, .ref (ev 0 + 0)), (1, .int l1f6), (2, .ref (ev 0 + l2f6)), (3, .int l3f6), (4, .int l4f6), (5, .int l5)]) F dX9_meetsAnother_45 (by decide) rfl ?_
        refine g_lv (lv' := [(0, .ref (ev 0 + 0)), (1, .int l1f6), (2, .ref (ev 0 + l2f6)), (3, .int l3f6), (4, .int l4f6), (5, .int l5), (6, .int v6), (7, .int (0 : Int32))]) ⟨rfl, rfl, rfl, rfl, rfl, rfl, rfl, rfl, trivial⟩ ?_
        exact L47 _ _ FU _ h
  rw [fX9_meetsAnother] at h
  refine g_lv (lv' := [(0, .ref (ev 0 + 0)), (1, .int l1), (2, .ref (ev 0 + l2)), (3, .int l3), (4, .int l4)]) ⟨rfl, rfl, rfl, rfl, rfl, trivial⟩ ?_
  refine g_aload_n (i := 0) F dX9_meetsAnother_0 rfl rfl ?_
  refine g_get_9_11 F rfl (kd_lit (by decide)) wd_2_19 dX9_meetsAnother_1 ?_
  refine g_topi F h (fun v1 e2 h => ?_)
  refine g_istore (i := 5) (lv' := [(5, .int v1), (0, .ref (ev 0 + 0)), (1, .int l1), (2, .ref (ev 0 + l2)), (3, .int l3), (4, .int l4)]) F dX9_meetsAnother_4 (by decide) rfl ?_
  refine g_lv (lv' := [(0, .ref (ev 0 + 0)), (1, .int l1), (2, .ref (ev 0 + l2)), (3, .int l3), (4, .int l4), (5, .int v1)]) ⟨rfl, rfl, rfl, rfl, rfl, rfl, trivial⟩ ?_
  exact L6 _ _ _ _ FU _ h
def fX9_drop_b124 (nb : Nat) (X : XW) (l3 : Int32) (l5 : Int32) (l6 : Int32) : Option (Int32 × XW) :=
  if l3 = 0 then some (l5, X)
  else some (l6, X)
def fX9_drop_l49 (nb : Nat) (l1f49 : Int32) (l2f49 : Int32) (l3f49 : Int32) (l4f49 : Option Nat) (K49 : XW → Int32 → Int32 → Int32 → Option (Int32 × XW)) (X : XW) (l5 : Int32) (l6 : Int32) (l7 : Int32) : Option (Int32 × XW) :=
  if (100 : Int32) ≤ l7 then fX9_drop_b124 nb X l3f49 l5 l6
  else (rd (X.2.1 3) 100 l7).bind fun v12 =>
  if v12 = (3 : Int32) then K49 X l5 l6 (l7 + (1 : Int32))
  else (l4f49).bind fun b14 =>
  if NS ≤ b14 ∧ b14 < TT nb then bd2 (fX9_stays X nb b14 l7 (X.1 b14 5) l2f49) fun v18 X17 =>
  if v18 = 0 then K49 X17 l5 l6 (l7 + (1 : Int32))
  else (fX9_meetsAnother X17 nb l1f49 b14 l7 l2f49).bind fun v20 =>
  if v20 = 0 then if l5 = (-1 : Int32) then K49 X17 l7 (l6 + (1 : Int32)) (l7 + (1 : Int32))
  else K49 X17 l5 (l6 + (1 : Int32)) (l7 + (1 : Int32))
  else K49 X17 l5 l6 (l7 + (1 : Int32)) else none
def fX9_drop (X : XW) (nb : Nat) (l1 : Int32) (l2 : Int32) (l3 : Int32) : Option (Int32 × XW) :=
  (fX9_boatOf X l1).bind fun r1 =>
  oc r1 (some ((-5 : Int32), X)) (fun b3 => if (fX9_isNight X l2) = 0 then some ((-7 : Int32), X)
  else if (fX9_within l3 (0 : Int32) (1 : Int32)) = 0 then some ((-7 : Int32), X)
  else (fX9_sailAll X nb l2).bind fun X9 =>
  lo4 (fX9_drop_l49 nb l1 l2 l3 (some b3)) FU X9 (-1 : Int32) (0 : Int32) (0 : Int32))
set_option maxRecDepth 100000 in
set_option maxHeartbeats 4000000 in
theorem c_X9_drop {l : Launch} {s0 : State} {D : va_G} {ev : Nat → Nat} (G0 : Gl s0 D ev) {X : XW} {M : MW} {nb : Nat} {l1 : Int32} {l2 : Int32} {l3 : Int32} {r' : Int32} {X' : XW}  (h : fX9_drop X nb l1 l2 l3 = some (r', X')) : CT l s0 D ev yX9_drop cX9_drop 8 (some .int) 7 0 0 [.ref (ev 0 + 0), .int l1, .int l2, .int l3] (cells ev X M nb) (QI s0 D ev r' (cells ev X' M nb)) := by
  refine ct_of G0 (by decide) (Nat.le_of_ble_eq_true rfl) ?_
  intro p9 e9 s9 m9 args9 below9 meth9 c9 F hr9 hl9 hin9 hargs9 hts9
  have U124 : ∀ (X : XW) (l3 : Int32) (l5 : Int32) (l6 : Int32), fX9_drop_b124 nb X l3 l5 l6 = some (r', X') → GJ p9 l e9 (rg 7 0 0) s9 m9 args9 below9 meth9 c9 (MQ below9 (QI s0 D ev r' (cells ev X' M nb)) args9 s9 0 0 (frA ev)) s0 D ev 8 0 0 124 [(3, .int l3), (5, .int l5), (6, .int l6)] ([]) (cells ev X M nb) := by
    intro X l3 l5 l6 h
    rw [fX9_drop_b124] at h
    refine g_iload_n (i := 3) F dX9_drop_124 rfl rfl ?_
    refine g_if_ne (tgt := 133) F dX9_drop_125 (by decide) h (fun a11 h => ?_) (fun a11 h => ?_)
    · refine g_iload (i := 6) F dX9_drop_133 rfl ?_
      have hp := Prod.mk.inj (Option.some.inj h)
      exact g_iret F hr9 rfl hl9 hp.1 (by rw [hp.2]) (by decide) (by decide) dX9_drop_135
    · refine g_iload (i := 5) F dX9_drop_128 rfl ?_
      refine g_goto (tgt := 135) F dX9_drop_130 (by decide) ?_
      have hp := Prod.mk.inj (Option.some.inj h)
      exact g_iret F hr9 rfl hl9 hp.1 (by rw [hp.2]) (by decide) (by decide) dX9_drop_135
  have L49 : ∀ (l1f49 : Int32) (l2f49 : Int32) (l3f49 : Int32) (l4f49 : Option Nat) (N49 : Nat) (X : XW) (l5 : Int32) (l6 : Int32) (l7 : Int32), lo4 (fX9_drop_l49 nb l1f49 l2f49 l3f49 l4f49) N49 X l5 l6 l7 = some (r', X') → GJ p9 l e9 (rg 7 0 0) s9 m9 args9 below9 meth9 c9 (MQ below9 (QI s0 D ev r' (cells ev X' M nb)) args9 s9 0 0 (frA ev)) s0 D ev 8 0 0 49 [(0, .ref (ev 0 + 0)), (1, .int l1f49), (2, .int l2f49), (3, .int l3f49), (4, zr ev l4f49), (5, .int l5), (6, .int l6), (7, .int l7)] ([]) (cells ev X M nb) := by
    intro l1f49 l2f49 l3f49 l4f49 N49
    induction N49 with
    | zero => intro X l5 l6 l7 h; cases h
    | succ N49 ih49 =>
      intro X l5 l6 l7 h
      change fX9_drop_l49 nb l1f49 l2f49 l3f49 l4f49 (lo4 (fX9_drop_l49 nb l1f49 l2f49 l3f49 l4f49) N49) X l5 l6 l7 = some (r', X') at h
      rw [fX9_drop_l49] at h
      refine g_iload (i := 7) F dX9_drop_49 rfl ?_
      refine g_bipush F dX9_drop_51 (v := 100) (by decide) ?_
      refine g_icmp_ge (tgt := 124) F dX9_drop_53 (by decide) h (fun a26 h => ?_) (fun a26 h => ?_)
      · refine g_lv (lv' := [(3, .int l3f49), (5, .int l5), (6, .int l6)]) ⟨rfl, rfl, rfl, trivial⟩ ?_
        exact U124 _ _ _ _ h
      · refine g_aload_n (i := 0) F dX9_drop_56 rfl rfl ?_
        refine g_get_9_0 F rfl (kd_lit (by decide)) wd_1_15 dX9_drop_57 ?_
        refine g_get_0_1 F rfl (kd_lit (by decide)) wd_15_17 dX9_drop_60 ?_
        refine g_iload (i := 7) F dX9_drop_63 rfl ?_
        obtain ⟨v12, e13, h⟩ := bind_at h
        refine g_ildX F rfl rfl e13 dX9_drop_65 ?_
        refine g_iconst F dX9_drop_66 (v := 3) (by decide) ?_
        refine g_icmp_eq (tgt := 118) F dX9_drop_67 (by decide) h (fun a25 h => ?_) (fun a25 h => ?_)
        · refine g_iinc (i := 7) (v := (l7 + (1 : Int32))) (lv' := [(7, .int (l7 + (1 : Int32))), (0, .ref (ev 0 + 0)), (1, .int l1f49), (2, .int l2f49), (3, .int l3f49), (4, zr ev l4f49), (5, .int l5), (6, .int l6)]) F dX9_drop_118 rfl rfl (by decide) rfl ?_
          refine g_goto (tgt := 49) F dX9_drop_121 (by decide) ?_
          refine g_lv (lv' := [(0, .ref (ev 0 + 0)), (1, .int l1f49), (2, .int l2f49), (3, .int l3f49), (4, zr ev l4f49), (5, .int l5), (6, .int l6), (7, .int (l7 + (1 : Int32)))]) ⟨rfl, rfl, rfl, rfl, rfl, rfl, rfl, rfl, trivial⟩ ?_
          exact ih49 _ _ _ _ h
        · refine g_aload_n (i := 0) F dX9_drop_70 rfl rfl ?_
          refine g_zaload (i := 4) F dX9_drop_71 rfl ?_
          refine g_iload (i := 7) F dX9_drop_73 rfl ?_
          refine g_zaload (i := 4) F dX9_drop_75 rfl ?_
          obtain ⟨b14, e15, h⟩ := bind_at h
          rw [e15]
          obtain ⟨h16, h⟩ := if_at h
          refine g_get_1_5 F (kd_b h16) h16.2 wd_22_19 dX9_drop_77 ?_
          refine g_iload_n (i := 2) F dX9_drop_80 rfl rfl ?_
          obtain ⟨v18, X17, e19, h⟩ := bd2_at h
          refine g_callVI F (mcR := 0) (msR := 0) (id := 0) (cells_at (kd_lit (i := 0) (by decide)) (xc_9 rfl)) (ci := 9) rfl rfl rfl (c_X9_stays G0 e19) wd_33_17 wd_33_14 wd_33_15 wd_33_16 wd_1_2 ⟨by decide, by decide⟩ (nn := 4) (by decide) (As := [.ref (ev 0 + b14), .int l7, .int (X.1 b14 5), .int l2f49]) rfl rfl (Nat.le_of_ble_eq_true rfl) (by decide) (by decide) ⟨by decide, by decide⟩ dX9_drop_81 ?_
          refine g_if_eq (tgt := 118) F dX9_drop_84 (by decide) h (fun a24 h => ?_) (fun a24 h => ?_)
          · refine g_iinc (i := 7) (v := (l7 + (1 : Int32))) (lv' := [(7, .int (l7 + (1 : Int32))), (0, .ref (ev 0 + 0)), (1, .int l1f49), (2, .int l2f49), (3, .int l3f49), (4, .ref (ev 0 + b14)), (5, .int l5), (6, .int l6)]) F dX9_drop_118 rfl rfl (by decide) rfl ?_
            refine g_goto (tgt := 49) F dX9_drop_121 (by decide) ?_
            refine g_lv (lv' := [(0, .ref (ev 0 + 0)), (1, .int l1f49), (2, .int l2f49), (3, .int l3f49), (4, zr ev l4f49), (5, .int l5), (6, .int l6), (7, .int (l7 + (1 : Int32)))]) ⟨rfl, rfl, rfl, rfl, (by rw [e15]; rfl), rfl, rfl, rfl, trivial⟩ ?_
            exact ih49 _ _ _ _ h
          · refine g_aload_n (i := 0) F dX9_drop_87 rfl rfl ?_
            refine g_iload_n (i := 1) F dX9_drop_88 rfl rfl ?_
            refine g_aload (i := 4) F dX9_drop_89 rfl ?_
            refine g_iload (i := 7) F dX9_drop_91 rfl ?_
            refine g_iload_n (i := 2) F dX9_drop_93 rfl rfl ?_
            obtain ⟨v20, e21, h⟩ := bind_at h
            refine g_callVI F (mcR := 0) (msR := 0) (id := 0) (cells_at (kd_lit (i := 0) (by decide)) (xc_9 rfl)) (ci := 9) rfl rfl rfl (c_X9_meetsAnother G0 e21) wd_34_6 wd_34_3 wd_34_4 wd_34_5 wd_1_2 ⟨by decide, by decide⟩ (nn := 4) (by decide) (As := [.int l1f49, .ref (ev 0 + b14), .int l7, .int l2f49]) rfl rfl (Nat.le_of_ble_eq_true rfl) (by decide) (by decide) ⟨by decide, by decide⟩ dX9_drop_94 ?_
            refine g_if_ne (tgt := 118) F dX9_drop_97 (by decide) h (fun a23 h => ?_) (fun a23 h => ?_)
            · refine g_iinc (i := 7) (v := (l7 + (1 : Int32))) (lv' := [(7, .int (l7 + (1 : Int32))), (0, .ref (ev 0 + 0)), (1, .int l1f49), (2, .int l2f49), (3, .int l3f49), (4, .ref (ev 0 + b14)), (5, .int l5), (6, .int l6)]) F dX9_drop_118 rfl rfl (by decide) rfl ?_
              refine g_goto (tgt := 49) F dX9_drop_121 (by decide) ?_
              refine g_lv (lv' := [(0, .ref (ev 0 + 0)), (1, .int l1f49), (2, .int l2f49), (3, .int l3f49), (4, zr ev l4f49), (5, .int l5), (6, .int l6), (7, .int (l7 + (1 : Int32)))]) ⟨rfl, rfl, rfl, rfl, (by rw [e15]; rfl), rfl, rfl, rfl, trivial⟩ ?_
              exact ih49 _ _ _ _ h
            · refine g_iload (i := 5) F dX9_drop_100 rfl ?_
              refine g_iconst F dX9_drop_102 (v := -1) (by decide) ?_
              refine g_icmp_ne (tgt := 111) F dX9_drop_103 (by decide) h (fun a22 h => ?_) (fun a22 h => ?_)
              · refine g_iload (i := 5) F dX9_drop_111 rfl ?_
                refine g_istore (i := 5) (lv' := [(5, .int l5), (0, .ref (ev 0 + 0)), (1, .int l1f49), (2, .int l2f49), (3, .int l3f49), (4, .ref (ev 0 + b14)), (6, .int l6), (7, .int l7)]) F dX9_drop_113 (by decide) rfl ?_
                refine g_iinc (i := 6) (v := (l6 + (1 : Int32))) (lv' := [(6, .int (l6 + (1 : Int32))), (5, .int l5), (0, .ref (ev 0 + 0)), (1, .int l1f49), (2, .int l2f49), (3, .int l3f49), (4, .ref (ev 0 + b14)), (7, .int l7)]) F dX9_drop_115 rfl rfl (by decide) rfl ?_
                refine g_iinc (i := 7) (v := (l7 + (1 : Int32))) (lv' := [(7, .int (l7 + (1 : Int32))), (6, .int (l6 + (1 : Int32))), (5, .int l5), (0, .ref (ev 0 + 0)), (1, .int l1f49), (2, .int l2f49), (3, .int l3f49), (4, .ref (ev 0 + b14))]) F dX9_drop_118 rfl rfl (by decide) rfl ?_
                refine g_goto (tgt := 49) F dX9_drop_121 (by decide) ?_
                refine g_lv (lv' := [(0, .ref (ev 0 + 0)), (1, .int l1f49), (2, .int l2f49), (3, .int l3f49), (4, zr ev l4f49), (5, .int l5), (6, .int (l6 + (1 : Int32))), (7, .int (l7 + (1 : Int32)))]) ⟨rfl, rfl, rfl, rfl, (by rw [e15]; rfl), rfl, rfl, rfl, trivial⟩ ?_
                exact ih49 _ _ _ _ h
              · refine g_iload (i := 7) F dX9_drop_106 rfl ?_
                refine g_goto (tgt := 113) F dX9_drop_108 (by decide) ?_
                refine g_istore (i := 5) (lv' := [(5, .int l7), (0, .ref (ev 0 + 0)), (1, .int l1f49), (2, .int l2f49), (3, .int l3f49), (4, .ref (ev 0 + b14)), (6, .int l6), (7, .int l7)]) F dX9_drop_113 (by decide) rfl ?_
                refine g_iinc (i := 6) (v := (l6 + (1 : Int32))) (lv' := [(6, .int (l6 + (1 : Int32))), (5, .int l7), (0, .ref (ev 0 + 0)), (1, .int l1f49), (2, .int l2f49), (3, .int l3f49), (4, .ref (ev 0 + b14)), (7, .int l7)]) F dX9_drop_115 rfl rfl (by decide) rfl ?_
                refine g_iinc (i := 7) (v := (l7 + (1 : Int32))) (lv' := [(7, .int (l7 + (1 : Int32))), (6, .int (l6 + (1 : Int32))), (5, .int l7), (0, .ref (ev 0 + 0)), (1, .int l1f49), (2, .int l2f49), (3, .int l3f49), (4, .ref (ev 0 + b14))]) F dX9_drop_118 rfl rfl (by decide) rfl ?_
                refine g_goto (tgt := 49) F dX9_drop_121 (by decide) ?_
                refine g_lv (lv' := [(0, .ref (ev 0 + 0)), (1, .int l1f49), (2, .int l2f49), (3, .int l3f49), (4, zr ev l4f49), (5, .int l7), (6, .int (l6 + (1 : Int32))), (7, .int (l7 + (1 : Int32)))]) ⟨rfl, rfl, rfl, rfl, (by rw [e15]; rfl), rfl, rfl, rfl, trivial⟩ ?_
                exact ih49 _ _ _ _ h
  rw [fX9_drop] at h
  refine g_lv (lv' := [(0, .ref (ev 0 + 0)), (1, .int l1), (2, .int l2), (3, .int l3)]) ⟨rfl, rfl, rfl, rfl, trivial⟩ ?_
  refine g_aload_n (i := 0) F dX9_drop_0 rfl rfl ?_
  refine g_iload_n (i := 1) F dX9_drop_1 rfl rfl ?_
  obtain ⟨r1, e2, h⟩ := bind_at h
  refine g_callVR F (mcR := 0) (msR := 0) (id := 0) (cells_at (kd_lit (i := 0) (by decide)) (xc_9 rfl)) (ci := 9) rfl rfl rfl (c_X9_boatOf G0 e2) wd_22_23 wd_22_20 wd_22_21 wd_22_22 wd_1_2 ⟨by decide, by decide⟩ (nn := 1) (by decide) (As := [.int l1]) rfl rfl (Nat.le_of_ble_eq_true rfl) (by decide) (by decide) ⟨by decide, by decide⟩ dX9_drop_2 ?_
  refine g_zastore (i := 4) (lv' := [(4, zr ev r1), (0, .ref (ev 0 + 0)), (1, .int l1), (2, .int l2), (3, .int l3)]) F dX9_drop_5 (by decide) rfl ?_
  refine g_zaload (i := 4) F dX9_drop_7 rfl ?_
  rcases oc_at h with ⟨e4, h⟩ | ⟨b3, e4, h⟩
  · rw [e4]
    refine g_ifnnN F dX9_drop_9 ?_
    refine g_bipush F dX9_drop_12 (v := -5) (by decide) ?_
    have hp := Prod.mk.inj (Option.some.inj h)
    exact g_iret F hr9 rfl hl9 hp.1 (by rw [hp.2]) (by decide) (by decide) dX9_drop_14
  · rw [e4]
    refine g_ifnn (tgt := 15) F dX9_drop_9 (by decide) ?_
    refine g_aload_n (i := 0) F dX9_drop_15 rfl rfl ?_
    refine g_iload_n (i := 2) F dX9_drop_16 rfl rfl ?_
    refine g_callVI F (mcR := 0) (msR := 0) (id := 0) (cells_at (kd_lit (i := 0) (by decide)) (xc_9 rfl)) (ci := 9) rfl rfl rfl (c_X9_isNight G0 (X := X) (M := M) (nb := nb) rfl) wd_27_7 wd_27_4 wd_27_5 wd_27_6 wd_1_2 ⟨by decide, by decide⟩ (nn := 1) (by decide) (As := [.int l2]) rfl rfl (Nat.le_of_ble_eq_true rfl) (by decide) (by decide) ⟨by decide, by decide⟩ dX9_drop_17 ?_
    refine g_if_eq (tgt := 32) F dX9_drop_20 (by decide) h (fun a28 h => ?_) (fun a28 h => ?_)
    · refine g_bipush F dX9_drop_32 (v := -7) (by decide) ?_
      have hp := Prod.mk.inj (Option.some.inj h)
      exact g_iret F hr9 rfl hl9 hp.1 (by rw [hp.2]) (by decide) (by decide) dX9_drop_34
    · refine g_iload_n (i := 3) F dX9_drop_23 rfl rfl ?_
      refine g_iconst F dX9_drop_24 (v := 0) (by decide) ?_
      refine g_iconst F dX9_drop_25 (v := 1) (by decide) ?_
      refine g_callSI F (mcR := 0) (msR := 0) (c_X9_within G0 (X := X) (M := M) (nb := nb) rfl) wd_9_7 wd_15_21 wd_9_6 wd_1_2 ⟨by decide, by decide⟩ (nn := 3) (by decide) (As := [.int l3, .int (0 : Int32), .int (1 : Int32)]) rfl rfl (Nat.le_of_ble_eq_true rfl) (by decide) (by decide) ⟨by decide, by decide⟩ dX9_drop_26 ?_
      refine g_if_ne (tgt := 35) F dX9_drop_29 (by decide) h (fun a27 h => ?_) (fun a27 h => ?_)
      · refine g_aload_n (i := 0) F dX9_drop_35 rfl rfl ?_
        refine g_iload_n (i := 2) F dX9_drop_36 rfl rfl ?_
        obtain ⟨X9, e10, h⟩ := bind_at h
        refine g_callVV F (mcR := 0) (msR := 0) (id := 0) (cells_at (kd_lit (i := 0) (by decide)) (xc_9 rfl)) (ci := 9) rfl rfl rfl (c_X9_sailAll G0 e10) wd_31_12 wd_31_9 wd_31_10 wd_31_11 wd_1_2 ⟨by decide, by decide⟩ (nn := 1) (by decide) (As := [.int l2]) rfl rfl (Nat.le_of_ble_eq_true rfl) (by decide) (by decide) ⟨by decide, by decide⟩ dX9_drop_37 ?_
        refine g_iconst F dX9_drop_40 (v := -1) (by decide) ?_
        refine g_istore (i := 5) (lv' := [(5, .int (-1 : Int32)), (4, .ref (ev 0 + b3)), (0, .ref (ev 0 + 0)), (1, .int l1), (2, .int l2), (3, .int l3)]) F dX9_drop_41 (by decide) rfl ?_
        refine g_iconst F dX9_drop_43 (v := 0) (by decide) ?_
        refine g_istore (i := 6) (lv' := [(6, .int (0 : Int32)), (5, .int (-1 : Int32)), (4, .ref (ev 0 + b3)), (0, .ref (ev 0 + 0)), (1, .int l1), (2, .int l2), (3, .int l3)]) F dX9_drop_44 (by decide) rfl ?_
        refine g_iconst F dX9_drop_46 (v := 0) (by decide) ?_
        refine g_istore (i := 7) (lv' := [(7, .int (0 : Int32)), (6, .int (0 : Int32)), (5, .int (-1 : Int32)), (4, .ref (ev 0 + b3)), (0, .ref (ev 0 + 0)), (1, .int l1), (2, .int l2), (3, .int l3)]) F dX9_drop_47 (by decide) rfl ?_
        refine g_lv (lv' := [(0, .ref (ev 0 + 0)), (1, .int l1), (2, .int l2), (3, .int l3), (4, zr ev (some b3)), (5, .int (-1 : Int32)), (6, .int (0 : Int32)), (7, .int (0 : Int32))]) ⟨rfl, rfl, rfl, rfl, rfl, rfl, rfl, rfl, trivial⟩ ?_
        exact L49 _ _ _ _ FU _ _ _ _ h
      · refine g_bipush F dX9_drop_32 (v := -7) (by decide) ?_
        have hp := Prod.mk.inj (Option.some.inj h)
        exact g_iret F hr9 rfl hl9 hp.1 (by rw [hp.2]) (by decide) (by decide) dX9_drop_34
def fX9_waysToMeet_l5 (X : XW) (nb : Nat) (l1f5 : Nat) (l2f5 : Nat) (K5 : Int32 → Int32 → Option Int32) (l3 : Int32) (l4 : Int32) : Option Int32 :=
  if (8 : Int32) ≤ l4 then some l3
  else if NS ≤ l1f5 ∧ l1f5 < TT nb then (fX0_liesAt X (X.1 l1f5 4) (X.1 l1f5 5) (X.1 0 11) l4).bind fun v2 =>
  if NS ≤ l2f5 ∧ l2f5 < TT nb then (fX0_liesAt X (X.1 l2f5 4) (X.1 l2f5 5) (X.1 0 11) l4).bind fun v5 =>
  if v2 = v5 then bd (l3 ||| ((1 : Int32) <<< (l4 &&& (31 : Int32)))) fun v7 =>
  K5 v7 (l4 + (1 : Int32))
  else K5 l3 (l4 + (1 : Int32)) else none else none
def fX9_waysToMeet (X : XW) (nb : Nat) (l1 : Nat) (l2 : Nat) : Option Int32 :=
  lo2 (fX9_waysToMeet_l5 X nb l1 l2) FU (0 : Int32) (0 : Int32)
set_option maxRecDepth 100000 in
set_option maxHeartbeats 4000000 in
theorem c_X9_waysToMeet {l : Launch} {s0 : State} {D : va_G} {ev : Nat → Nat} (G0 : Gl s0 D ev) {X : XW} {M : MW} {nb : Nat} {l1 : Nat} {l2 : Nat} {r' : Int32}  (h : fX9_waysToMeet X nb l1 l2 = some r') : CT l s0 D ev yX9_waysToMeet cX9_waysToMeet 5 (some .int) 4 0 0 [.ref (ev 0 + 0), .ref (ev 0 + l1), .ref (ev 0 + l2)] (cells ev X M nb) (QI s0 D ev r' (cells ev X M nb)) := by
  refine ct_of G0 (by decide) (Nat.le_of_ble_eq_true rfl) ?_
  intro p9 e9 s9 m9 args9 below9 meth9 c9 F hr9 hl9 hin9 hargs9 hts9
  have L5 : ∀ (l1f5 : Nat) (l2f5 : Nat) (N5 : Nat) (l3 : Int32) (l4 : Int32), lo2 (fX9_waysToMeet_l5 X nb l1f5 l2f5) N5 l3 l4 = some r' → GJ p9 l e9 (rg 4 0 0) s9 m9 args9 below9 meth9 c9 (MQ below9 (QI s0 D ev r' (cells ev X M nb)) args9 s9 0 0 (frA ev)) s0 D ev 5 0 0 5 [(0, .ref (ev 0 + 0)), (1, .ref (ev 0 + l1f5)), (2, .ref (ev 0 + l2f5)), (3, .int l3), (4, .int l4)] ([]) (cells ev X M nb) := by
    intro l1f5 l2f5 N5
    induction N5 with
    | zero => intro l3 l4 h; cases h
    | succ N5 ih5 =>
      intro l3 l4 h
      change fX9_waysToMeet_l5 X nb l1f5 l2f5 (lo2 (fX9_waysToMeet_l5 X nb l1f5 l2f5) N5) l3 l4 = some r' at h
      rw [fX9_waysToMeet_l5] at h
      refine g_iload (i := 4) F dX9_waysToMeet_5 rfl ?_
      refine g_bipush F dX9_waysToMeet_7 (v := 8) (by decide) ?_
      refine g_icmp_ge (tgt := 70) F dX9_waysToMeet_9 (by decide) h (fun a10 h => ?_) (fun a10 h => ?_)
      · refine g_iload_n (i := 3) F dX9_waysToMeet_70 rfl rfl ?_
        exact g_iret F hr9 rfl hl9 (Option.some.inj h) rfl (by decide) (by decide) dX9_waysToMeet_71
      · refine g_aload_n (i := 0) F dX9_waysToMeet_12 rfl rfl ?_
        refine g_get_9_0 F rfl (kd_lit (by decide)) wd_1_15 dX9_waysToMeet_13 ?_
        refine g_aload_n (i := 1) F dX9_waysToMeet_16 rfl rfl ?_
        obtain ⟨h1, h⟩ := if_at h
        refine g_get_1_4 F (kd_b h1) h1.2 wd_22_18 dX9_waysToMeet_17 ?_
        refine g_aload_n (i := 1) F dX9_waysToMeet_20 rfl rfl ?_
        refine g_get_1_5 F (kd_b h1) h1.2 wd_22_19 dX9_waysToMeet_21 ?_
        refine g_aload_n (i := 0) F dX9_waysToMeet_24 rfl rfl ?_
        refine g_get_9_11 F rfl (kd_lit (by decide)) wd_2_19 dX9_waysToMeet_25 ?_
        refine g_iload (i := 4) F dX9_waysToMeet_28 rfl ?_
        obtain ⟨v2, e3, h⟩ := bind_at h
        refine g_callVI F (mcR := 0) (msR := 0) (id := 1) (cells_at (kd_lit (i := 1) (by decide)) (xc_0 rfl)) (ci := 0) rfl rfl rfl (c_X0_liesAt G0 e3) wd_29_3 wd_34_8 wd_29_1 wd_29_2 wd_1_14 ⟨by decide, by decide⟩ (nn := 4) (by decide) (As := [.int (X.1 l1f5 4), .int (X.1 l1f5 5), .int (X.1 0 11), .int l4]) rfl rfl (Nat.le_of_ble_eq_true rfl) (by decide) (by decide) ⟨by decide, by decide⟩ dX9_waysToMeet_30 ?_
        refine g_aload_n (i := 0) F dX9_waysToMeet_33 rfl rfl ?_
        refine g_get_9_0 F rfl (kd_lit (by decide)) wd_1_15 dX9_waysToMeet_34 ?_
        refine g_aload_n (i := 2) F dX9_waysToMeet_37 rfl rfl ?_
        obtain ⟨h4, h⟩ := if_at h
        refine g_get_1_4 F (kd_b h4) h4.2 wd_22_18 dX9_waysToMeet_38 ?_
        refine g_aload_n (i := 2) F dX9_waysToMeet_41 rfl rfl ?_
        refine g_get_1_5 F (kd_b h4) h4.2 wd_22_19 dX9_waysToMeet_42 ?_
        refine g_aload_n (i := 0) F dX9_waysToMeet_45 rfl rfl ?_
        refine g_get_9_11 F rfl (kd_lit (by decide)) wd_2_19 dX9_waysToMeet_46 ?_
        refine g_iload (i := 4) F dX9_waysToMeet_49 rfl ?_
        obtain ⟨v5, e6, h⟩ := bind_at h
        refine g_callVI F (mcR := 0) (msR := 0) (id := 1) (cells_at (kd_lit (i := 1) (by decide)) (xc_0 rfl)) (ci := 0) rfl rfl rfl (c_X0_liesAt G0 e6) wd_29_3 wd_34_8 wd_29_1 wd_29_2 wd_1_14 ⟨by decide, by decide⟩ (nn := 4) (by decide) (As := [.int (X.1 l2f5 4), .int (X.1 l2f5 5), .int (X.1 0 11), .int l4]) rfl rfl (Nat.le_of_ble_eq_true rfl) (by decide) (by decide) ⟨by decide, by decide⟩ dX9_waysToMeet_51 ?_
        refine g_icmp_ne (tgt := 64) F dX9_waysToMeet_54 (by decide) h (fun a9 h => ?_) (fun a9 h => ?_)
        · refine g_iinc (i := 4) (v := (l4 + (1 : Int32))) (lv' := [(4, .int (l4 + (1 : Int32))), (0, .ref (ev 0 + 0)), (1, .ref (ev 0 + l1f5)), (2, .ref (ev 0 + l2f5)), (3, .int l3)]) F dX9_waysToMeet_64 rfl rfl (by decide) rfl ?_
          refine g_goto (tgt := 5) F dX9_waysToMeet_67 (by decide) ?_
          refine g_lv (lv' := [(0, .ref (ev 0 + 0)), (1, .ref (ev 0 + l1f5)), (2, .ref (ev 0 + l2f5)), (3, .int l3), (4, .int (l4 + (1 : Int32)))]) ⟨rfl, rfl, rfl, rfl, rfl, trivial⟩ ?_
          exact ih5 _ _ h
        · refine g_iload_n (i := 3) F dX9_waysToMeet_57 rfl rfl ?_
          refine g_iconst F dX9_waysToMeet_58 (v := 1) (by decide) ?_
          refine g_iload (i := 4) F dX9_waysToMeet_59 rfl ?_
          refine g_ishl F dX9_waysToMeet_61 ?_
          refine g_ior F dX9_waysToMeet_62 ?_
          refine g_topi F h (fun v7 e8 h => ?_)
          refine g_istore_n (i := 3) (lv' := [(3, .int v7), (0, .ref (ev 0 + 0)), (1, .ref (ev 0 + l1f5)), (2, .ref (ev 0 + l2f5)), (4, .int l4)]) F dX9_waysToMeet_63 rfl (by decide) rfl ?_
          refine g_iinc (i := 4) (v := (l4 + (1 : Int32))) (lv' := [(4, .int (l4 + (1 : Int32))), (3, .int v7), (0, .ref (ev 0 + 0)), (1, .ref (ev 0 + l1f5)), (2, .ref (ev 0 + l2f5))]) F dX9_waysToMeet_64 rfl rfl (by decide) rfl ?_
          refine g_goto (tgt := 5) F dX9_waysToMeet_67 (by decide) ?_
          refine g_lv (lv' := [(0, .ref (ev 0 + 0)), (1, .ref (ev 0 + l1f5)), (2, .ref (ev 0 + l2f5)), (3, .int v7), (4, .int (l4 + (1 : Int32)))]) ⟨rfl, rfl, rfl, rfl, rfl, trivial⟩ ?_
          exact ih5 _ _ h
  rw [fX9_waysToMeet] at h
  refine g_lv (lv' := [(0, .ref (ev 0 + 0)), (1, .ref (ev 0 + l1)), (2, .ref (ev 0 + l2))]) ⟨rfl, rfl, rfl, trivial⟩ ?_
  refine g_iconst F dX9_waysToMeet_0 (v := 0) (by decide) ?_
  refine g_istore_n (i := 3) (lv' := [(3, .int (0 : Int32)), (0, .ref (ev 0 + 0)), (1, .ref (ev 0 + l1)), (2, .ref (ev 0 + l2))]) F dX9_waysToMeet_1 rfl (by decide) rfl ?_
  refine g_iconst F dX9_waysToMeet_2 (v := 0) (by decide) ?_
  refine g_istore (i := 4) (lv' := [(4, .int (0 : Int32)), (3, .int (0 : Int32)), (0, .ref (ev 0 + 0)), (1, .ref (ev 0 + l1)), (2, .ref (ev 0 + l2))]) F dX9_waysToMeet_3 (by decide) rfl ?_
  refine g_lv (lv' := [(0, .ref (ev 0 + 0)), (1, .ref (ev 0 + l1)), (2, .ref (ev 0 + l2)), (3, .int (0 : Int32)), (4, .int (0 : Int32))]) ⟨rfl, rfl, rfl, rfl, rfl, trivial⟩ ?_
  exact L5 _ _ FU _ _ h
def fX9_rings (X : XW) (nb : Nat) (l1 : Int32) (l2 : Int32) : Option Int32 :=
  (fX9_boatOf X l1).bind fun r1 =>
  (fX9_boatOf X l2).bind fun r3 =>
  oc r1 (some (-5 : Int32)) (fun b5 => oc r3 (some (-5 : Int32)) (fun b7 => if l1 = l2 then some (-5 : Int32)
  else if NS ≤ b5 ∧ b5 < TT nb then (fX1_isGone X nb b5).bind fun v10 =>
  if v10 = 0 then if NS ≤ b7 ∧ b7 < TT nb then (fX1_isGone X nb b7).bind fun v13 =>
  if v13 = 0 then (fX9_waysToMeet X nb b5 b7).bind fun v15 =>
  some v15
  else some (-3 : Int32) else none
  else some (-3 : Int32) else none))
set_option maxRecDepth 100000 in
set_option maxHeartbeats 4000000 in
theorem c_X9_rings {l : Launch} {s0 : State} {D : va_G} {ev : Nat → Nat} (G0 : Gl s0 D ev) {X : XW} {M : MW} {nb : Nat} {l1 : Int32} {l2 : Int32} {r' : Int32}  (h : fX9_rings X nb l1 l2 = some r') : CT l s0 D ev yX9_rings cX9_rings 5 (some .int) 5 0 0 [.ref (ev 0 + 0), .int l1, .int l2] (cells ev X M nb) (QI s0 D ev r' (cells ev X M nb)) := by
  refine ct_of G0 (by decide) (Nat.le_of_ble_eq_true rfl) ?_
  intro p9 e9 s9 m9 args9 below9 meth9 c9 F hr9 hl9 hin9 hargs9 hts9
  rw [fX9_rings] at h
  refine g_lv (lv' := [(0, .ref (ev 0 + 0)), (1, .int l1), (2, .int l2)]) ⟨rfl, rfl, rfl, trivial⟩ ?_
  refine g_aload_n (i := 0) F dX9_rings_0 rfl rfl ?_
  refine g_iload_n (i := 1) F dX9_rings_1 rfl rfl ?_
  obtain ⟨r1, e2, h⟩ := bind_at h
  refine g_callVR F (mcR := 0) (msR := 0) (id := 0) (cells_at (kd_lit (i := 0) (by decide)) (xc_9 rfl)) (ci := 9) rfl rfl rfl (c_X9_boatOf G0 e2) wd_22_23 wd_22_20 wd_22_21 wd_22_22 wd_1_2 ⟨by decide, by decide⟩ (nn := 1) (by decide) (As := [.int l1]) rfl rfl (Nat.le_of_ble_eq_true rfl) (by decide) (by decide) ⟨by decide, by decide⟩ dX9_rings_2 ?_
  refine g_zastore_n (i := 3) (lv' := [(3, zr ev r1), (0, .ref (ev 0 + 0)), (1, .int l1), (2, .int l2)]) F dX9_rings_5 rfl (by decide) rfl ?_
  refine g_aload_n (i := 0) F dX9_rings_6 rfl rfl ?_
  refine g_iload_n (i := 2) F dX9_rings_7 rfl rfl ?_
  obtain ⟨r3, e4, h⟩ := bind_at h
  refine g_callVR F (mcR := 0) (msR := 0) (id := 0) (cells_at (kd_lit (i := 0) (by decide)) (xc_9 rfl)) (ci := 9) rfl rfl rfl (c_X9_boatOf G0 e4) wd_22_23 wd_22_20 wd_22_21 wd_22_22 wd_1_2 ⟨by decide, by decide⟩ (nn := 1) (by decide) (As := [.int l2]) rfl rfl (Nat.le_of_ble_eq_true rfl) (by decide) (by decide) ⟨by decide, by decide⟩ dX9_rings_8 ?_
  refine g_zastore (i := 4) (lv' := [(4, zr ev r3), (3, zr ev r1), (0, .ref (ev 0 + 0)), (1, .int l1), (2, .int l2)]) F dX9_rings_11 (by decide) (by cases r1 <;> exact rfl) ?_
  refine g_zaload_n (i := 3) F dX9_rings_13 rfl rfl ?_
  rcases oc_at h with ⟨e6, h⟩ | ⟨b5, e6, h⟩
  · rw [e6]
    refine g_ifnN (tgt := 27) F dX9_rings_14 (by decide) ?_
    refine g_bipush F dX9_rings_27 (v := -5) (by decide) ?_
    exact g_iret F hr9 rfl hl9 (Option.some.inj h) rfl (by decide) (by decide) dX9_rings_29
  · rw [e6]
    refine g_ifn F dX9_rings_14 ?_
    refine g_zaload (i := 4) F dX9_rings_17 rfl ?_
    rcases oc_at h with ⟨e8, h⟩ | ⟨b7, e8, h⟩
    · rw [e8]
      refine g_ifnN (tgt := 27) F dX9_rings_19 (by decide) ?_
      refine g_bipush F dX9_rings_27 (v := -5) (by decide) ?_
      exact g_iret F hr9 rfl hl9 (Option.some.inj h) rfl (by decide) (by decide) dX9_rings_29
    · rw [e8]
      refine g_ifn F dX9_rings_19 ?_
      refine g_iload_n (i := 1) F dX9_rings_22 rfl rfl ?_
      refine g_iload_n (i := 2) F dX9_rings_23 rfl rfl ?_
      refine g_icmp_ne (tgt := 30) F dX9_rings_24 (by decide) h (fun a19 h => ?_) (fun a19 h => ?_)
      · refine g_aload_n (i := 3) F dX9_rings_30 rfl rfl ?_
        obtain ⟨h9, h⟩ := if_at h
        obtain ⟨v10, e11, h⟩ := bind_at h
        refine g_callVI F (mcR := 0) (msR := 0) (id := b5) (cells_at h9.2 (xc_1 (kd_b h9))) (ci := 1) rfl rfl rfl (c_X1_isGone G0 e11) wd_24_6 wd_24_3 wd_24_4 wd_24_5 wd_21_23 ⟨by decide, by decide⟩ (nn := 0) (by decide) (As := []) rfl rfl (Nat.le_of_ble_eq_true rfl) (by decide) (by decide) ⟨by decide, by decide⟩ dX9_rings_31 ?_
        refine g_if_ne (tgt := 45) F dX9_rings_34 (by decide) h (fun a18 h => ?_) (fun a18 h => ?_)
        · refine g_bipush F dX9_rings_45 (v := -3) (by decide) ?_
          refine g_goto (tgt := 57) F dX9_rings_47 (by decide) ?_
          exact g_iret F hr9 rfl hl9 (Option.some.inj h) rfl (by decide) (by decide) dX9_rings_57
        · refine g_aload (i := 4) F dX9_rings_37 rfl ?_
          obtain ⟨h12, h⟩ := if_at h
          obtain ⟨v13, e14, h⟩ := bind_at h
          refine g_callVI F (mcR := 0) (msR := 0) (id := b7) (cells_at h12.2 (xc_1 (kd_b h12))) (ci := 1) rfl rfl rfl (c_X1_isGone G0 e14) wd_24_6 wd_24_3 wd_24_4 wd_24_5 wd_21_23 ⟨by decide, by decide⟩ (nn := 0) (by decide) (As := []) rfl rfl (Nat.le_of_ble_eq_true rfl) (by decide) (by decide) ⟨by decide, by decide⟩ dX9_rings_39 ?_
          refine g_if_eq (tgt := 50) F dX9_rings_42 (by decide) h (fun a17 h => ?_) (fun a17 h => ?_)
          · refine g_aload_n (i := 0) F dX9_rings_50 rfl rfl ?_
            refine g_aload_n (i := 3) F dX9_rings_51 rfl rfl ?_
            refine g_aload (i := 4) F dX9_rings_52 rfl ?_
            obtain ⟨v15, e16, h⟩ := bind_at h
            refine g_callVI F (mcR := 0) (msR := 0) (id := 0) (cells_at (kd_lit (i := 0) (by decide)) (xc_9 rfl)) (ci := 9) rfl rfl rfl (c_X9_waysToMeet G0 e16) wd_35_0 wd_34_21 wd_34_22 wd_34_23 wd_1_2 ⟨by decide, by decide⟩ (nn := 2) (by decide) (As := [.ref (ev 0 + b5), .ref (ev 0 + b7)]) rfl rfl (Nat.le_of_ble_eq_true rfl) (by decide) (by decide) ⟨by decide, by decide⟩ dX9_rings_54 ?_
            exact g_iret F hr9 rfl hl9 (Option.some.inj h) rfl (by decide) (by decide) dX9_rings_57
          · refine g_bipush F dX9_rings_45 (v := -3) (by decide) ?_
            refine g_goto (tgt := 57) F dX9_rings_47 (by decide) ?_
            exact g_iret F hr9 rfl hl9 (Option.some.inj h) rfl (by decide) (by decide) dX9_rings_57
      · refine g_bipush F dX9_rings_27 (v := -5) (by decide) ?_
        exact g_iret F hr9 rfl hl9 (Option.some.inj h) rfl (by decide) (by decide) dX9_rings_29
def fX9_late_l12 (X : XW) (nb : Nat) (l1f12 : Int32) (K2 : Int32 → Option Int32) (K12 : Int32 → Option Int32) (l2 : Int32) : Option Int32 :=
  if l1f12 ≤ l2 then K2 (l1f12 + (1 : Int32))
  else (rdR (X.2.2 13) 6 l1f12).bind fun r1 =>
  (r1).bind fun b3 =>
  if NS ≤ b3 ∧ b3 < TT nb then (fX1_isGone X nb b3).bind fun v6 =>
  if v6 = 0 then (rdR (X.2.2 13) 6 l2).bind fun r8 =>
  (r8).bind fun b10 =>
  if NS ≤ b10 ∧ b10 < TT nb then (fX1_isGone X nb b10).bind fun v13 =>
  if v13 = 0 then (rdR (X.2.2 13) 6 l1f12).bind fun r15 =>
  (rdR (X.2.2 13) 6 l2).bind fun r17 =>
  (r15).bind fun b19 =>
  (r17).bind fun b21 =>
  (fX9_waysToMeet X nb b19 b21).bind fun v23 =>
  if v23 = 0 then K12 (l2 + (1 : Int32))
  else some l1f12
  else K12 (l2 + (1 : Int32)) else none
  else K12 (l2 + (1 : Int32)) else none
def fX9_late_l2 (X : XW) (nb : Nat) (K2 : Int32 → Option Int32) (l1 : Int32) : Option Int32 :=
  if (X.1 0 12) ≤ l1 then some (-1 : Int32)
  else lo1 (fX9_late_l12 X nb l1 K2) FU (0 : Int32)
def fX9_late (X : XW) (nb : Nat) : Option Int32 :=
  lo1 (fX9_late_l2 X nb) FU (1 : Int32)
set_option maxRecDepth 100000 in
set_option maxHeartbeats 4000000 in
theorem c_X9_late {l : Launch} {s0 : State} {D : va_G} {ev : Nat → Nat} (G0 : Gl s0 D ev) {X : XW} {M : MW} {nb : Nat}  {r' : Int32}  (h : fX9_late X nb = some r') : CT l s0 D ev yX9_late cX9_late 3 (some .int) 5 0 0 [.ref (ev 0 + 0)] (cells ev X M nb) (QI s0 D ev r' (cells ev X M nb)) := by
  refine ct_of G0 (by decide) (Nat.le_of_ble_eq_true rfl) ?_
  intro p9 e9 s9 m9 args9 below9 meth9 c9 F hr9 hl9 hin9 hargs9 hts9
  have L2 : ∀  (N2 : Nat) (l1 : Int32), lo1 (fX9_late_l2 X nb) N2 l1 = some r' → GJ p9 l e9 (rg 5 0 0) s9 m9 args9 below9 meth9 c9 (MQ below9 (QI s0 D ev r' (cells ev X M nb)) args9 s9 0 0 (frA ev)) s0 D ev 3 0 0 2 [(0, .ref (ev 0 + 0)), (1, .int l1)] ([]) (cells ev X M nb) := by
    intro  N2
    induction N2 with
    | zero => intro l1 h; cases h
    | succ N2 ih2 =>
      have L12 : ∀ (l1f12 : Int32) (N12 : Nat) (l2 : Int32), lo1 (fX9_late_l12 X nb l1f12 (lo1 (fX9_late_l2 X nb) N2)) N12 l2 = some r' → GJ p9 l e9 (rg 5 0 0) s9 m9 args9 below9 meth9 c9 (MQ below9 (QI s0 D ev r' (cells ev X M nb)) args9 s9 0 0 (frA ev)) s0 D ev 3 0 0 12 [(0, .ref (ev 0 + 0)), (1, .int l1f12), (2, .int l2)] ([]) (cells ev X M nb) := by
        intro l1f12 N12
        induction N12 with
        | zero => intro l2 h; cases h
        | succ N12 ih12 =>
          intro l2 h
          change fX9_late_l12 X nb l1f12 (lo1 (fX9_late_l2 X nb) N2) (lo1 (fX9_late_l12 X nb l1f12 (lo1 (fX9_late_l2 X nb) N2)) N12) l2 = some r' at h
          rw [fX9_late_l12] at h
          refine g_iload_n (i := 2) F dX9_late_12 rfl rfl ?_
          refine g_iload_n (i := 1) F dX9_late_13 rfl rfl ?_
          refine g_icmp_ge (tgt := 68) F dX9_late_14 (by decide) h (fun a28 h => ?_) (fun a28 h => ?_)
          · refine g_iinc (i := 1) (v := (l1f12 + (1 : Int32))) (lv' := [(1, .int (l1f12 + (1 : Int32))), (0, .ref (ev 0 + 0)), (2, .int l2)]) F dX9_late_68 rfl rfl (by decide) rfl ?_
            refine g_goto (tgt := 2) F dX9_late_71 (by decide) ?_
            refine g_lv (lv' := [(0, .ref (ev 0 + 0)), (1, .int (l1f12 + (1 : Int32)))]) ⟨rfl, rfl, trivial⟩ ?_
            exact ih2 _ h
          · refine g_aload_n (i := 0) F dX9_late_17 rfl rfl ?_
            refine g_get_9_4 F rfl (kd_lit (by decide)) wd_2_3 dX9_late_18 ?_
            refine g_iload_n (i := 1) F dX9_late_21 rfl rfl ?_
            obtain ⟨r1, e2, h⟩ := bind_at h
            refine g_aldB F e2 dX9_late_22 ?_
            obtain ⟨b3, e4, h⟩ := bind_at h
            rw [e4]
            obtain ⟨h5, h⟩ := if_at h
            obtain ⟨v6, e7, h⟩ := bind_at h
            refine g_callVI F (mcR := 0) (msR := 0) (id := b3) (cells_at h5.2 (xc_1 (kd_b h5))) (ci := 1) rfl rfl rfl (c_X1_isGone G0 e7) wd_24_6 wd_24_3 wd_24_4 wd_24_5 wd_21_23 ⟨by decide, by decide⟩ (nn := 0) (by decide) (As := []) rfl rfl (Nat.le_of_ble_eq_true rfl) (by decide) (by decide) ⟨by decide, by decide⟩ dX9_late_23 ?_
            refine g_if_ne (tgt := 62) F dX9_late_26 (by decide) h (fun a27 h => ?_) (fun a27 h => ?_)
            · refine g_iinc (i := 2) (v := (l2 + (1 : Int32))) (lv' := [(2, .int (l2 + (1 : Int32))), (0, .ref (ev 0 + 0)), (1, .int l1f12)]) F dX9_late_62 rfl rfl (by decide) rfl ?_
              refine g_goto (tgt := 12) F dX9_late_65 (by decide) ?_
              refine g_lv (lv' := [(0, .ref (ev 0 + 0)), (1, .int l1f12), (2, .int (l2 + (1 : Int32)))]) ⟨rfl, rfl, rfl, trivial⟩ ?_
              exact ih12 _ h
            · refine g_aload_n (i := 0) F dX9_late_29 rfl rfl ?_
              refine g_get_9_4 F rfl (kd_lit (by decide)) wd_2_3 dX9_late_30 ?_
              refine g_iload_n (i := 2) F dX9_late_33 rfl rfl ?_
              obtain ⟨r8, e9, h⟩ := bind_at h
              refine g_aldB F e9 dX9_late_34 ?_
              obtain ⟨b10, e11, h⟩ := bind_at h
              rw [e11]
              obtain ⟨h12, h⟩ := if_at h
              obtain ⟨v13, e14, h⟩ := bind_at h
              refine g_callVI F (mcR := 0) (msR := 0) (id := b10) (cells_at h12.2 (xc_1 (kd_b h12))) (ci := 1) rfl rfl rfl (c_X1_isGone G0 e14) wd_24_6 wd_24_3 wd_24_4 wd_24_5 wd_21_23 ⟨by decide, by decide⟩ (nn := 0) (by decide) (As := []) rfl rfl (Nat.le_of_ble_eq_true rfl) (by decide) (by decide) ⟨by decide, by decide⟩ dX9_late_35 ?_
              refine g_if_ne (tgt := 62) F dX9_late_38 (by decide) h (fun a26 h => ?_) (fun a26 h => ?_)
              · refine g_iinc (i := 2) (v := (l2 + (1 : Int32))) (lv' := [(2, .int (l2 + (1 : Int32))), (0, .ref (ev 0 + 0)), (1, .int l1f12)]) F dX9_late_62 rfl rfl (by decide) rfl ?_
                refine g_goto (tgt := 12) F dX9_late_65 (by decide) ?_
                refine g_lv (lv' := [(0, .ref (ev 0 + 0)), (1, .int l1f12), (2, .int (l2 + (1 : Int32)))]) ⟨rfl, rfl, rfl, trivial⟩ ?_
                exact ih12 _ h
              · refine g_aload_n (i := 0) F dX9_late_41 rfl rfl ?_
                refine g_aload_n (i := 0) F dX9_late_42 rfl rfl ?_
                refine g_get_9_4 F rfl (kd_lit (by decide)) wd_2_3 dX9_late_43 ?_
                refine g_iload_n (i := 1) F dX9_late_46 rfl rfl ?_
                obtain ⟨r15, e16, h⟩ := bind_at h
                refine g_aldB F e16 dX9_late_47 ?_
                refine g_aload_n (i := 0) F dX9_late_48 rfl rfl ?_
                refine g_get_9_4 F rfl (kd_lit (by decide)) wd_2_3 dX9_late_49 ?_
                refine g_iload_n (i := 2) F dX9_late_52 rfl rfl ?_
                obtain ⟨r17, e18, h⟩ := bind_at h
                refine g_aldB F e18 dX9_late_53 ?_
                obtain ⟨b19, e20, h⟩ := bind_at h
                rw [e20]
                obtain ⟨b21, e22, h⟩ := bind_at h
                rw [e22]
                obtain ⟨v23, e24, h⟩ := bind_at h
                refine g_callVI F (mcR := 0) (msR := 0) (id := 0) (cells_at (kd_lit (i := 0) (by decide)) (xc_9 rfl)) (ci := 9) rfl rfl rfl (c_X9_waysToMeet G0 e24) wd_35_0 wd_34_21 wd_34_22 wd_34_23 wd_1_2 ⟨by decide, by decide⟩ (nn := 2) (by decide) (As := [.ref (ev 0 + b19), .ref (ev 0 + b21)]) rfl rfl (Nat.le_of_ble_eq_true rfl) (by decide) (by decide) ⟨by decide, by decide⟩ dX9_late_54 ?_
                refine g_if_eq (tgt := 62) F dX9_late_57 (by decide) h (fun a25 h => ?_) (fun a25 h => ?_)
                · refine g_iinc (i := 2) (v := (l2 + (1 : Int32))) (lv' := [(2, .int (l2 + (1 : Int32))), (0, .ref (ev 0 + 0)), (1, .int l1f12)]) F dX9_late_62 rfl rfl (by decide) rfl ?_
                  refine g_goto (tgt := 12) F dX9_late_65 (by decide) ?_
                  refine g_lv (lv' := [(0, .ref (ev 0 + 0)), (1, .int l1f12), (2, .int (l2 + (1 : Int32)))]) ⟨rfl, rfl, rfl, trivial⟩ ?_
                  exact ih12 _ h
                · refine g_iload_n (i := 1) F dX9_late_60 rfl rfl ?_
                  exact g_iret F hr9 rfl hl9 (Option.some.inj h) rfl (by decide) (by decide) dX9_late_61
      intro l1 h
      change fX9_late_l2 X nb (lo1 (fX9_late_l2 X nb) N2) l1 = some r' at h
      rw [fX9_late_l2] at h
      refine g_iload_n (i := 1) F dX9_late_2 rfl rfl ?_
      refine g_aload_n (i := 0) F dX9_late_3 rfl rfl ?_
      refine g_get_9_12 F rfl (kd_lit (by decide)) wd_2_20 dX9_late_4 ?_
      refine g_icmp_ge (tgt := 74) F dX9_late_7 (by decide) h (fun a29 h => ?_) (fun a29 h => ?_)
      · refine g_iconst F dX9_late_74 (v := -1) (by decide) ?_
        exact g_iret F hr9 rfl hl9 (Option.some.inj h) rfl (by decide) (by decide) dX9_late_75
      · refine g_iconst F dX9_late_10 (v := 0) (by decide) ?_
        refine g_istore_n (i := 2) (lv' := [(2, .int (0 : Int32)), (0, .ref (ev 0 + 0)), (1, .int l1)]) F dX9_late_11 rfl (by decide) rfl ?_
        refine g_lv (lv' := [(0, .ref (ev 0 + 0)), (1, .int l1), (2, .int (0 : Int32))]) ⟨rfl, rfl, rfl, trivial⟩ ?_
        exact L12 _ FU _ h
  rw [fX9_late] at h
  refine g_lv (lv' := [(0, .ref (ev 0 + 0))]) ⟨rfl, trivial⟩ ?_
  refine g_iconst F dX9_late_0 (v := 1) (by decide) ?_
  refine g_istore_n (i := 1) (lv' := [(1, .int (1 : Int32)), (0, .ref (ev 0 + 0))]) F dX9_late_1 rfl (by decide) rfl ?_
  refine g_lv (lv' := [(0, .ref (ev 0 + 0)), (1, .int (1 : Int32))]) ⟨rfl, rfl, trivial⟩ ?_
  exact L2 FU _ h
def fX9_alarm_b32 (nb : Nat) (X : XW) (l1 : Int32) (l2 : Int32) (l3 : Int32) (l4 : Option Nat) (t0 : Option Nat) (t1 : Int32) : Option (Int32 × XW) :=
  (fX9_refusal X nb t0 t1).bind fun v5 =>
  oc l4 (some (v5, X)) (fun b7 => if v5 = 0 then bd2 (fX9_sailed X nb l1 b7 l2) fun r10 X9 =>
  if NS ≤ b7 ∧ b7 < TT nb then (r10).bind fun b13 =>
  if kd b13 = 2 then (fX2_firstBeyond X9 b13 l3 (X9.1 b7 4) (X9.1 0 11) ((X9.1 0 11) + l2)).bind fun v16 =>
  some (v16, X9) else none else none
  else some (v5, X))
def fX9_alarm_b31 (nb : Nat) (X : XW) (l1 : Int32) (l2 : Int32) (l3 : Int32) (l4 : Option Nat) (t0 : Option Nat) : Option (Int32 × XW) :=
  fX9_alarm_b32 nb X l1 l2 l3 l4 t0 (0 : Int32)
def fX9_alarm (X : XW) (nb : Nat) (l1 : Int32) (l2 : Int32) (l3 : Int32) : Option (Int32 × XW) :=
  (fX9_boatOf X l1).bind fun r1 =>
  if (fX9_isNight X l2) = 0 then fX9_alarm_b31 nb X l1 l2 l3 r1 r1
  else if (fX9_within l3 (0 : Int32) (10 : Int32)) = 0 then fX9_alarm_b31 nb X l1 l2 l3 r1 r1
  else fX9_alarm_b32 nb X l1 l2 l3 r1 r1 (1 : Int32)
set_option maxRecDepth 100000 in
set_option maxHeartbeats 4000000 in
theorem c_X9_alarm {l : Launch} {s0 : State} {D : va_G} {ev : Nat → Nat} (G0 : Gl s0 D ev) {X : XW} {M : MW} {nb : Nat} {l1 : Int32} {l2 : Int32} {l3 : Int32} {r' : Int32} {X' : XW}  (h : fX9_alarm X nb l1 l2 l3 = some (r', X')) : CT l s0 D ev yX9_alarm cX9_alarm 6 (some .int) 7 0 0 [.ref (ev 0 + 0), .int l1, .int l2, .int l3] (cells ev X M nb) (QI s0 D ev r' (cells ev X' M nb)) := by
  refine ct_of G0 (by decide) (Nat.le_of_ble_eq_true rfl) ?_
  intro p9 e9 s9 m9 args9 below9 meth9 c9 F hr9 hl9 hin9 hargs9 hts9
  have U32 : ∀ (X : XW) (l1 : Int32) (l2 : Int32) (l3 : Int32) (l4 : Option Nat) (t0 : Option Nat) (t1 : Int32), fX9_alarm_b32 nb X l1 l2 l3 l4 t0 t1 = some (r', X') → GJ p9 l e9 (rg 7 0 0) s9 m9 args9 below9 meth9 c9 (MQ below9 (QI s0 D ev r' (cells ev X' M nb)) args9 s9 0 0 (frA ev)) s0 D ev 6 0 0 32 [(0, .ref (ev 0 + 0)), (1, .int l1), (2, .int l2), (3, .int l3), (4, zr ev l4)] (.int t1 :: zr ev t0 :: []) (cells ev X M nb) := by
    intro X l1 l2 l3 l4 t0 t1 h
    rw [fX9_alarm_b32] at h
    obtain ⟨v5, e6, h⟩ := bind_at h
    refine g_callSI F (mcR := 0) (msR := 0) (c_X9_refusal G0 e6) wd_24_2 wd_24_0 wd_24_1 wd_1_2 ⟨by decide, by decide⟩ (nn := 2) (by decide) (As := [zr ev t0, .int t1]) rfl rfl (Nat.le_of_ble_eq_true rfl) (by decide) (by decide) ⟨by decide, by decide⟩ dX9_alarm_32 ?_
    refine g_istore (i := 5) (lv' := [(5, .int v5), (0, .ref (ev 0 + 0)), (1, .int l1), (2, .int l2), (3, .int l3), (4, zr ev l4)]) F dX9_alarm_35 (by decide) (by cases l4 <;> exact rfl) ?_
    refine g_zaload (i := 4) F dX9_alarm_37 rfl ?_
    rcases oc_at h with ⟨e8, h⟩ | ⟨b7, e8, h⟩
    · rw [e8]
      refine g_ifnN (tgt := 47) F dX9_alarm_39 (by decide) ?_
      refine g_iload (i := 5) F dX9_alarm_47 rfl ?_
      have hp := Prod.mk.inj (Option.some.inj h)
      exact g_iret F hr9 rfl hl9 hp.1 (by rw [hp.2]) (by decide) (by decide) dX9_alarm_49
    · rw [e8]
      refine g_ifn F dX9_alarm_39 ?_
      refine g_iload (i := 5) F dX9_alarm_42 rfl ?_
      refine g_if_eq (tgt := 50) F dX9_alarm_44 (by decide) h (fun a18 h => ?_) (fun a18 h => ?_)
      · refine g_aload_n (i := 0) F dX9_alarm_50 rfl rfl ?_
        refine g_iload_n (i := 1) F dX9_alarm_51 rfl rfl ?_
        refine g_aload (i := 4) F dX9_alarm_52 rfl ?_
        refine g_iload_n (i := 2) F dX9_alarm_54 rfl rfl ?_
        obtain ⟨r10, X9, e11, h⟩ := bd2_at h
        refine g_callVR F (mcR := 0) (msR := 0) (id := 0) (cells_at (kd_lit (i := 0) (by decide)) (xc_9 rfl)) (ci := 9) rfl rfl rfl (c_X9_sailed G0 e11) wd_27_11 wd_27_8 wd_27_9 wd_27_10 wd_1_2 ⟨by decide, by decide⟩ (nn := 3) (by decide) (As := [.int l1, .ref (ev 0 + b7), .int l2]) rfl rfl (Nat.le_of_ble_eq_true rfl) (by decide) (by decide) ⟨by decide, by decide⟩ dX9_alarm_55 ?_
        refine g_iload_n (i := 3) F dX9_alarm_58 rfl rfl ?_
        refine g_aload (i := 4) F dX9_alarm_59 rfl ?_
        obtain ⟨h12, h⟩ := if_at h
        refine g_get_1_4 F (kd_b h12) h12.2 wd_22_18 dX9_alarm_61 ?_
        refine g_aload_n (i := 0) F dX9_alarm_64 rfl rfl ?_
        refine g_get_9_11 F rfl (kd_lit (by decide)) wd_2_19 dX9_alarm_65 ?_
        refine g_aload_n (i := 0) F dX9_alarm_68 rfl rfl ?_
        refine g_get_9_11 F rfl (kd_lit (by decide)) wd_2_19 dX9_alarm_69 ?_
        refine g_iload_n (i := 2) F dX9_alarm_72 rfl rfl ?_
        refine g_iadd F dX9_alarm_73 ?_
        obtain ⟨b13, e14, h⟩ := bind_at h
        rw [e14]
        obtain ⟨h15, h⟩ := if_at h
        obtain ⟨v16, e17, h⟩ := bind_at h
        refine g_callVI F (mcR := 0) (msR := 0) (id := b13) (cells_at (kd_hid h15 (by decide)) (xc_2 h15)) (ci := 2) rfl rfl rfl (c_X2_firstBeyond G0 e17) wd_36_0 wd_35_21 wd_35_22 wd_35_23 wd_3_0 ⟨by decide, by decide⟩ (nn := 4) (by decide) (As := [.int l3, .int (X9.1 b7 4), .int (X9.1 0 11), .int ((X9.1 0 11) + l2)]) rfl rfl (Nat.le_of_ble_eq_true rfl) (by decide) (by decide) ⟨by decide, by decide⟩ dX9_alarm_74 ?_
        have hp := Prod.mk.inj (Option.some.inj h)
        exact g_iret F hr9 rfl hl9 hp.1 (by rw [hp.2]) (by decide) (by decide) dX9_alarm_77
      · refine g_iload (i := 5) F dX9_alarm_47 rfl ?_
        have hp := Prod.mk.inj (Option.some.inj h)
        exact g_iret F hr9 rfl hl9 hp.1 (by rw [hp.2]) (by decide) (by decide) dX9_alarm_49
  have U31 : ∀ (X : XW) (l1 : Int32) (l2 : Int32) (l3 : Int32) (l4 : Option Nat) (t0 : Option Nat), fX9_alarm_b31 nb X l1 l2 l3 l4 t0 = some (r', X') → GJ p9 l e9 (rg 7 0 0) s9 m9 args9 below9 meth9 c9 (MQ below9 (QI s0 D ev r' (cells ev X' M nb)) args9 s9 0 0 (frA ev)) s0 D ev 6 0 0 31 [(0, .ref (ev 0 + 0)), (1, .int l1), (2, .int l2), (3, .int l3), (4, zr ev l4)] (zr ev t0 :: []) (cells ev X M nb) := by
    intro X l1 l2 l3 l4 t0 h
    rw [fX9_alarm_b31] at h
    refine g_iconst F dX9_alarm_31 (v := 0) (by decide) ?_
    refine g_lv (lv' := [(0, .ref (ev 0 + 0)), (1, .int l1), (2, .int l2), (3, .int l3), (4, zr ev l4)]) ⟨rfl, rfl, rfl, rfl, rfl, trivial⟩ ?_
    exact U32 _ _ _ _ _ _ _ h
  rw [fX9_alarm] at h
  refine g_lv (lv' := [(0, .ref (ev 0 + 0)), (1, .int l1), (2, .int l2), (3, .int l3)]) ⟨rfl, rfl, rfl, rfl, trivial⟩ ?_
  refine g_aload_n (i := 0) F dX9_alarm_0 rfl rfl ?_
  refine g_iload_n (i := 1) F dX9_alarm_1 rfl rfl ?_
  obtain ⟨r1, e2, h⟩ := bind_at h
  refine g_callVR F (mcR := 0) (msR := 0) (id := 0) (cells_at (kd_lit (i := 0) (by decide)) (xc_9 rfl)) (ci := 9) rfl rfl rfl (c_X9_boatOf G0 e2) wd_22_23 wd_22_20 wd_22_21 wd_22_22 wd_1_2 ⟨by decide, by decide⟩ (nn := 1) (by decide) (As := [.int l1]) rfl rfl (Nat.le_of_ble_eq_true rfl) (by decide) (by decide) ⟨by decide, by decide⟩ dX9_alarm_2 ?_
  refine g_zastore (i := 4) (lv' := [(4, zr ev r1), (0, .ref (ev 0 + 0)), (1, .int l1), (2, .int l2), (3, .int l3)]) F dX9_alarm_5 (by decide) rfl ?_
  refine g_zaload (i := 4) F dX9_alarm_7 rfl ?_
  refine g_aload_n (i := 0) F dX9_alarm_9 rfl rfl ?_
  refine g_iload_n (i := 2) F dX9_alarm_10 rfl rfl ?_
  refine g_callVI F (mcR := 0) (msR := 0) (id := 0) (cells_at (kd_lit (i := 0) (by decide)) (xc_9 rfl)) (ci := 9) rfl rfl rfl (c_X9_isNight G0 (X := X) (M := M) (nb := nb) rfl) wd_27_7 wd_27_4 wd_27_5 wd_27_6 wd_1_2 ⟨by decide, by decide⟩ (nn := 1) (by decide) (As := [.int l2]) rfl rfl (by cases r1 <;> exact (Nat.le_of_ble_eq_true rfl)) (by decide) (by decide) ⟨by decide, by decide⟩ dX9_alarm_11 ?_
  refine g_if_eq (tgt := 31) F dX9_alarm_14 (by decide) h (fun a22 h => ?_) (fun a22 h => ?_)
  · refine g_lv (lv' := [(0, .ref (ev 0 + 0)), (1, .int l1), (2, .int l2), (3, .int l3), (4, zr ev r1)]) ⟨rfl, rfl, rfl, rfl, rfl, trivial⟩ ?_
    exact U31 _ _ _ _ _ _ h
  · refine g_iload_n (i := 3) F dX9_alarm_17 rfl rfl ?_
    refine g_iconst F dX9_alarm_18 (v := 0) (by decide) ?_
    refine g_bipush F dX9_alarm_19 (v := 10) (by decide) ?_
    refine g_callSI F (mcR := 0) (msR := 0) (c_X9_within G0 (X := X) (M := M) (nb := nb) rfl) wd_9_7 wd_15_21 wd_9_6 wd_1_2 ⟨by decide, by decide⟩ (nn := 3) (by decide) (As := [.int l3, .int (0 : Int32), .int (10 : Int32)]) rfl rfl (by cases r1 <;> exact (Nat.le_of_ble_eq_true rfl)) (by decide) (by decide) ⟨by decide, by decide⟩ dX9_alarm_21 ?_
    refine g_if_eq (tgt := 31) F dX9_alarm_24 (by decide) h (fun a21 h => ?_) (fun a21 h => ?_)
    · refine g_lv (lv' := [(0, .ref (ev 0 + 0)), (1, .int l1), (2, .int l2), (3, .int l3), (4, zr ev r1)]) ⟨rfl, rfl, rfl, rfl, rfl, trivial⟩ ?_
      exact U31 _ _ _ _ _ _ h
    · refine g_iconst F dX9_alarm_27 (v := 1) (by decide) ?_
      refine g_goto (tgt := 32) F dX9_alarm_28 (by decide) ?_
      refine g_lv (lv' := [(0, .ref (ev 0 + 0)), (1, .int l1), (2, .int l2), (3, .int l3), (4, zr ev r1)]) ⟨rfl, rfl, rfl, rfl, rfl, trivial⟩ ?_
      exact U32 _ _ _ _ _ _ _ h
def fX9_size_b148 (nb : Nat) (X : XW) (l6 : Option Nat) (t0 : Int32) : Option (Int32 × XW) :=
  if t0 = (-1 : Int32) then some ((-1 : Int32), X)
  else (l6).bind fun b23 =>
  if kd b23 = 2 then some ((t0 - (X.1 b23 3)), X) else none
def fX9_size_b105 (nb : Nat) (X : XW) (l2 : Int32) (l3 : Int32) (l4 : Option Nat) (l6 : Option Nat) (l7 : Int32) (t0 : Option Nat) (t1 : Int32) (t2 : Int32) (t3 : Int32) : Option (Int32 × XW) :=
  (t0).bind fun b18 =>
  if kd b18 = 2 then (fX2_farthest X b18 t1 t2 t3).bind fun v21 =>
  if l3 = 0 then some (v21, X)
  else if l7 = 0 then fX9_size_b148 nb X l6 (-1 : Int32)
  else (l4).bind fun b27 =>
  if NS ≤ b27 ∧ b27 < TT nb then (l6).bind fun b30 =>
  if kd b30 = 2 then (fX2_firstBeyond X b30 v21 (X.1 b27 4) (X.1 0 11) ((X.1 0 11) + l2)).bind fun v33 =>
  fX9_size_b148 nb X (some b30) v33 else none else none else none
def fX9_size_b73 (nb : Nat) (X : XW) (l2 : Int32) (l3 : Int32) (l4 : Option Nat) (l6 : Option Nat) (t0 : Int32) : Option (Int32 × XW) :=
  (l4).bind fun b15 =>
  if NS ≤ b15 ∧ b15 < TT nb then if t0 = 0 then fX9_size_b105 nb X l2 l3 (some b15) l6 t0 l6 (X.1 b15 4) (X.1 0 11) ((X.1 0 11) + l2)
  else (l6).bind fun b37 =>
  if kd b37 = 2 then fX9_size_b105 nb X l2 l3 (some b15) (some b37) t0 (some b37) (X.1 b15 4) (X.1 0 11) (X.1 b37 3) else none else none
def fX9_size_b31 (nb : Nat) (X : XW) (l1 : Int32) (l2 : Int32) (l3 : Int32) (l4 : Option Nat) (t0 : Option Nat) (t1 : Int32) : Option (Int32 × XW) :=
  (fX9_refusal X nb t0 t1).bind fun v5 =>
  oc l4 (some (v5, X)) (fun b7 => if v5 = 0 then bd2 (fX9_sailed X nb l1 b7 l2) fun r10 X9 =>
  (r10).bind fun b12 =>
  if kd b12 = 2 then if (X9.1 b12 3) = (-1 : Int32) then fX9_size_b73 nb X9 l2 l3 (some b7) (some b12) (0 : Int32)
  else fX9_size_b73 nb X9 l2 l3 (some b7) (some b12) (1 : Int32) else none
  else some (v5, X))
def fX9_size_b30 (nb : Nat) (X : XW) (l1 : Int32) (l2 : Int32) (l3 : Int32) (l4 : Option Nat) (t0 : Option Nat) : Option (Int32 × XW) :=
  fX9_size_b31 nb X l1 l2 l3 l4 t0 (0 : Int32)
def fX9_size (X : XW) (nb : Nat) (l1 : Int32) (l2 : Int32) (l3 : Int32) : Option (Int32 × XW) :=
  (fX9_boatOf X l1).bind fun r1 =>
  if (fX9_isNight X l2) = 0 then fX9_size_b30 nb X l1 l2 l3 r1 r1
  else if (fX9_within l3 (0 : Int32) (1 : Int32)) = 0 then fX9_size_b30 nb X l1 l2 l3 r1 r1
  else fX9_size_b31 nb X l1 l2 l3 r1 r1 (1 : Int32)
set_option maxRecDepth 100000 in
set_option maxHeartbeats 4000000 in
theorem c_X9_size {l : Launch} {s0 : State} {D : va_G} {ev : Nat → Nat} (G0 : Gl s0 D ev) {X : XW} {M : MW} {nb : Nat} {l1 : Int32} {l2 : Int32} {l3 : Int32} {r' : Int32} {X' : XW}  (h : fX9_size X nb l1 l2 l3 = some (r', X')) : CT l s0 D ev yX9_size cX9_size 10 (some .int) 7 0 0 [.ref (ev 0 + 0), .int l1, .int l2, .int l3] (cells ev X M nb) (QI s0 D ev r' (cells ev X' M nb)) := by
  refine ct_of G0 (by decide) (Nat.le_of_ble_eq_true rfl) ?_
  intro p9 e9 s9 m9 args9 below9 meth9 c9 F hr9 hl9 hin9 hargs9 hts9
  have U148 : ∀ (X : XW) (l6 : Option Nat) (t0 : Int32), fX9_size_b148 nb X l6 t0 = some (r', X') → GJ p9 l e9 (rg 7 0 0) s9 m9 args9 below9 meth9 c9 (MQ below9 (QI s0 D ev r' (cells ev X' M nb)) args9 s9 0 0 (frA ev)) s0 D ev 10 0 0 148 [(6, zr ev l6)] (.int t0 :: []) (cells ev X M nb) := by
    intro X l6 t0 h
    rw [fX9_size_b148] at h
    refine g_istore (i := 9) (lv' := [(9, .int t0), (6, zr ev l6)]) F dX9_size_148 (by decide) rfl ?_
    refine g_iload (i := 9) F dX9_size_150 rfl ?_
    refine g_iconst F dX9_size_152 (v := -1) (by decide) ?_
    refine g_icmp_ne (tgt := 160) F dX9_size_153 (by decide) h (fun a26 h => ?_) (fun a26 h => ?_)
    · refine g_iload (i := 9) F dX9_size_160 rfl ?_
      refine g_zaload (i := 6) F dX9_size_162 rfl ?_
      obtain ⟨b23, e24, h⟩ := bind_at h
      rw [e24]
      obtain ⟨h25, h⟩ := if_at h
      refine g_get_2_3 F h25 (kd_hid h25 (by decide)) wd_27_3 dX9_size_164 ?_
      refine g_isub F dX9_size_167 ?_
      have hp := Prod.mk.inj (Option.some.inj h)
      exact g_iret F hr9 rfl hl9 hp.1 (by rw [hp.2]) (by decide) (by decide) dX9_size_168
    · refine g_iconst F dX9_size_156 (v := -1) (by decide) ?_
      refine g_goto (tgt := 168) F dX9_size_157 (by decide) ?_
      have hp := Prod.mk.inj (Option.some.inj h)
      exact g_iret F hr9 rfl hl9 hp.1 (by rw [hp.2]) (by decide) (by decide) dX9_size_168
  have U105 : ∀ (X : XW) (l2 : Int32) (l3 : Int32) (l4 : Option Nat) (l6 : Option Nat) (l7 : Int32) (t0 : Option Nat) (t1 : Int32) (t2 : Int32) (t3 : Int32), fX9_size_b105 nb X l2 l3 l4 l6 l7 t0 t1 t2 t3 = some (r', X') → GJ p9 l e9 (rg 7 0 0) s9 m9 args9 below9 meth9 c9 (MQ below9 (QI s0 D ev r' (cells ev X' M nb)) args9 s9 0 0 (frA ev)) s0 D ev 10 0 0 105 [(0, .ref (ev 0 + 0)), (2, .int l2), (3, .int l3), (4, zr ev l4), (6, zr ev l6), (7, .int l7)] (.int t3 :: .int t2 :: .int t1 :: zr ev t0 :: []) (cells ev X M nb) := by
    intro X l2 l3 l4 l6 l7 t0 t1 t2 t3 h
    rw [fX9_size_b105] at h
    obtain ⟨b18, e19, h⟩ := bind_at h
    rw [e19]
    obtain ⟨h20, h⟩ := if_at h
    obtain ⟨v21, e22, h⟩ := bind_at h
    refine g_callVI F (mcR := 0) (msR := 0) (id := b18) (cells_at (kd_hid h20 (by decide)) (xc_2 h20)) (ci := 2) rfl rfl rfl (c_X2_farthest G0 e22) wd_36_23 wd_36_20 wd_36_21 wd_36_22 wd_3_0 ⟨by decide, by decide⟩ (nn := 3) (by decide) (As := [.int t1, .int t2, .int t3]) rfl rfl (Nat.le_of_ble_eq_true rfl) (by decide) (by decide) ⟨by decide, by decide⟩ dX9_size_105 ?_
    refine g_istore (i := 8) (lv' := [(8, .int v21), (0, .ref (ev 0 + 0)), (2, .int l2), (3, .int l3), (4, zr ev l4), (6, zr ev l6), (7, .int l7)]) F dX9_size_108 (by decide) rfl ?_
    refine g_iload_n (i := 3) F dX9_size_110 rfl rfl ?_
    refine g_if_ne (tgt := 117) F dX9_size_111 (by decide) h (fun a36 h => ?_) (fun a36 h => ?_)
    · refine g_iload (i := 7) F dX9_size_117 rfl ?_
      refine g_if_eq (tgt := 147) F dX9_size_119 (by decide) h (fun a35 h => ?_) (fun a35 h => ?_)
      · refine g_iconst F dX9_size_147 (v := -1) (by decide) ?_
        refine g_lv (lv' := [(6, zr ev l6)]) ⟨rfl, trivial⟩ ?_
        exact U148 _ _ _ h
      · refine g_zaload (i := 6) F dX9_size_122 rfl ?_
        refine g_iload (i := 8) F dX9_size_124 rfl ?_
        refine g_zaload (i := 4) F dX9_size_126 rfl ?_
        obtain ⟨b27, e28, h⟩ := bind_at h
        rw [e28]
        obtain ⟨h29, h⟩ := if_at h
        refine g_get_1_4 F (kd_b h29) h29.2 wd_22_18 dX9_size_128 ?_
        refine g_aload_n (i := 0) F dX9_size_131 rfl rfl ?_
        refine g_get_9_11 F rfl (kd_lit (by decide)) wd_2_19 dX9_size_132 ?_
        refine g_aload_n (i := 0) F dX9_size_135 rfl rfl ?_
        refine g_get_9_11 F rfl (kd_lit (by decide)) wd_2_19 dX9_size_136 ?_
        refine g_iload_n (i := 2) F dX9_size_139 rfl rfl ?_
        refine g_iadd F dX9_size_140 ?_
        obtain ⟨b30, e31, h⟩ := bind_at h
        rw [e31]
        obtain ⟨h32, h⟩ := if_at h
        obtain ⟨v33, e34, h⟩ := bind_at h
        refine g_callVI F (mcR := 0) (msR := 0) (id := b30) (cells_at (kd_hid h32 (by decide)) (xc_2 h32)) (ci := 2) rfl rfl rfl (c_X2_firstBeyond G0 e34) wd_36_0 wd_35_21 wd_35_22 wd_35_23 wd_3_0 ⟨by decide, by decide⟩ (nn := 4) (by decide) (As := [.int v21, .int (X.1 b27 4), .int (X.1 0 11), .int ((X.1 0 11) + l2)]) rfl rfl (Nat.le_of_ble_eq_true rfl) (by decide) (by decide) ⟨by decide, by decide⟩ dX9_size_141 ?_
        refine g_goto (tgt := 148) F dX9_size_144 (by decide) ?_
        refine g_lv (lv' := [(6, zr ev (some b30))]) ⟨rfl, trivial⟩ ?_
        exact U148 _ _ _ h
    · refine g_iload (i := 8) F dX9_size_114 rfl ?_
      have hp := Prod.mk.inj (Option.some.inj h)
      exact g_iret F hr9 rfl hl9 hp.1 (by rw [hp.2]) (by decide) (by decide) dX9_size_116
  have U73 : ∀ (X : XW) (l2 : Int32) (l3 : Int32) (l4 : Option Nat) (l6 : Option Nat) (t0 : Int32), fX9_size_b73 nb X l2 l3 l4 l6 t0 = some (r', X') → GJ p9 l e9 (rg 7 0 0) s9 m9 args9 below9 meth9 c9 (MQ below9 (QI s0 D ev r' (cells ev X' M nb)) args9 s9 0 0 (frA ev)) s0 D ev 10 0 0 73 [(0, .ref (ev 0 + 0)), (2, .int l2), (3, .int l3), (4, zr ev l4), (6, zr ev l6)] (.int t0 :: []) (cells ev X M nb) := by
    intro X l2 l3 l4 l6 t0 h
    rw [fX9_size_b73] at h
    refine g_istore (i := 7) (lv' := [(7, .int t0), (0, .ref (ev 0 + 0)), (2, .int l2), (3, .int l3), (4, zr ev l4), (6, zr ev l6)]) F dX9_size_73 (by decide) (by cases l6 <;> exact rfl) ?_
    refine g_zaload (i := 6) F dX9_size_75 rfl ?_
    refine g_zaload (i := 4) F dX9_size_77 rfl ?_
    obtain ⟨b15, e16, h⟩ := bind_at h
    rw [e16]
    obtain ⟨h17, h⟩ := if_at h
    refine g_get_1_4 F (kd_b h17) h17.2 wd_22_18 dX9_size_79 ?_
    refine g_aload_n (i := 0) F dX9_size_82 rfl rfl ?_
    refine g_get_9_11 F rfl (kd_lit (by decide)) wd_2_19 dX9_size_83 ?_
    refine g_iload (i := 7) F dX9_size_86 rfl ?_
    refine g_if_eq (tgt := 99) F dX9_size_88 (by decide) h (fun a40 h => ?_) (fun a40 h => ?_)
    · refine g_aload_n (i := 0) F dX9_size_99 rfl rfl ?_
      refine g_get_9_11 F rfl (kd_lit (by decide)) wd_2_19 dX9_size_100 ?_
      refine g_iload_n (i := 2) F dX9_size_103 rfl rfl ?_
      refine g_iadd F dX9_size_104 ?_
      refine g_lv (lv' := [(0, .ref (ev 0 + 0)), (2, .int l2), (3, .int l3), (4, zr ev (some b15)), (6, zr ev l6), (7, .int t0)]) ⟨rfl, rfl, rfl, rfl, rfl, rfl, trivial⟩ ?_
      exact U105 _ _ _ _ _ _ _ _ _ _ h
    · refine g_zaload (i := 6) F dX9_size_91 rfl ?_
      obtain ⟨b37, e38, h⟩ := bind_at h
      rw [e38]
      obtain ⟨h39, h⟩ := if_at h
      refine g_get_2_3 F h39 (kd_hid h39 (by decide)) wd_27_3 dX9_size_93 ?_
      refine g_goto (tgt := 105) F dX9_size_96 (by decide) ?_
      refine g_lv (lv' := [(0, .ref (ev 0 + 0)), (2, .int l2), (3, .int l3), (4, zr ev (some b15)), (6, zr ev (some b37)), (7, .int t0)]) ⟨rfl, rfl, rfl, rfl, rfl, rfl, trivial⟩ ?_
      exact U105 _ _ _ _ _ _ _ _ _ _ h
  have U31 : ∀ (X : XW) (l1 : Int32) (l2 : Int32) (l3 : Int32) (l4 : Option Nat) (t0 : Option Nat) (t1 : Int32), fX9_size_b31 nb X l1 l2 l3 l4 t0 t1 = some (r', X') → GJ p9 l e9 (rg 7 0 0) s9 m9 args9 below9 meth9 c9 (MQ below9 (QI s0 D ev r' (cells ev X' M nb)) args9 s9 0 0 (frA ev)) s0 D ev 10 0 0 31 [(0, .ref (ev 0 + 0)), (1, .int l1), (2, .int l2), (3, .int l3), (4, zr ev l4)] (.int t1 :: zr ev t0 :: []) (cells ev X M nb) := by
    intro X l1 l2 l3 l4 t0 t1 h
    rw [fX9_size_b31] at h
    obtain ⟨v5, e6, h⟩ := bind_at h
    refine g_callSI F (mcR := 0) (msR := 0) (c_X9_refusal G0 e6) wd_24_2 wd_24_0 wd_24_1 wd_1_2 ⟨by decide, by decide⟩ (nn := 2) (by decide) (As := [zr ev t0, .int t1]) rfl rfl (Nat.le_of_ble_eq_true rfl) (by decide) (by decide) ⟨by decide, by decide⟩ dX9_size_31 ?_
    refine g_istore (i := 5) (lv' := [(5, .int v5), (0, .ref (ev 0 + 0)), (1, .int l1), (2, .int l2), (3, .int l3), (4, zr ev l4)]) F dX9_size_34 (by decide) (by cases l4 <;> exact rfl) ?_
    refine g_zaload (i := 4) F dX9_size_36 rfl ?_
    rcases oc_at h with ⟨e8, h⟩ | ⟨b7, e8, h⟩
    · rw [e8]
      refine g_ifnN (tgt := 46) F dX9_size_38 (by decide) ?_
      refine g_iload (i := 5) F dX9_size_46 rfl ?_
      have hp := Prod.mk.inj (Option.some.inj h)
      exact g_iret F hr9 rfl hl9 hp.1 (by rw [hp.2]) (by decide) (by decide) dX9_size_48
    · rw [e8]
      refine g_ifn F dX9_size_38 ?_
      refine g_iload (i := 5) F dX9_size_41 rfl ?_
      refine g_if_eq (tgt := 49) F dX9_size_43 (by decide) h (fun a42 h => ?_) (fun a42 h => ?_)
      · refine g_aload_n (i := 0) F dX9_size_49 rfl rfl ?_
        refine g_iload_n (i := 1) F dX9_size_50 rfl rfl ?_
        refine g_aload (i := 4) F dX9_size_51 rfl ?_
        refine g_iload_n (i := 2) F dX9_size_53 rfl rfl ?_
        obtain ⟨r10, X9, e11, h⟩ := bd2_at h
        refine g_callVR F (mcR := 0) (msR := 0) (id := 0) (cells_at (kd_lit (i := 0) (by decide)) (xc_9 rfl)) (ci := 9) rfl rfl rfl (c_X9_sailed G0 e11) wd_27_11 wd_27_8 wd_27_9 wd_27_10 wd_1_2 ⟨by decide, by decide⟩ (nn := 3) (by decide) (As := [.int l1, .ref (ev 0 + b7), .int l2]) rfl rfl (Nat.le_of_ble_eq_true rfl) (by decide) (by decide) ⟨by decide, by decide⟩ dX9_size_54 ?_
        refine g_zastore (i := 6) (lv' := [(6, zr ev r10), (5, .int v5), (0, .ref (ev 0 + 0)), (1, .int l1), (2, .int l2), (3, .int l3), (4, .ref (ev 0 + b7))]) F dX9_size_57 (by decide) rfl ?_
        refine g_zaload (i := 6) F dX9_size_59 rfl ?_
        obtain ⟨b12, e13, h⟩ := bind_at h
        rw [e13]
        obtain ⟨h14, h⟩ := if_at h
        refine g_get_2_3 F h14 (kd_hid h14 (by decide)) wd_27_3 dX9_size_61 ?_
        refine g_iconst F dX9_size_64 (v := -1) (by decide) ?_
        refine g_icmp_eq (tgt := 72) F dX9_size_65 (by decide) h (fun a41 h => ?_) (fun a41 h => ?_)
        · refine g_iconst F dX9_size_72 (v := 0) (by decide) ?_
          refine g_lv (lv' := [(0, .ref (ev 0 + 0)), (2, .int l2), (3, .int l3), (4, zr ev (some b7)), (6, zr ev (some b12))]) ⟨rfl, rfl, rfl, rfl, rfl, trivial⟩ ?_
          exact U73 _ _ _ _ _ _ h
        · refine g_iconst F dX9_size_68 (v := 1) (by decide) ?_
          refine g_goto (tgt := 73) F dX9_size_69 (by decide) ?_
          refine g_lv (lv' := [(0, .ref (ev 0 + 0)), (2, .int l2), (3, .int l3), (4, zr ev (some b7)), (6, zr ev (some b12))]) ⟨rfl, rfl, rfl, rfl, rfl, trivial⟩ ?_
          exact U73 _ _ _ _ _ _ h
      · refine g_iload (i := 5) F dX9_size_46 rfl ?_
        have hp := Prod.mk.inj (Option.some.inj h)
        exact g_iret F hr9 rfl hl9 hp.1 (by rw [hp.2]) (by decide) (by decide) dX9_size_48
  have U30 : ∀ (X : XW) (l1 : Int32) (l2 : Int32) (l3 : Int32) (l4 : Option Nat) (t0 : Option Nat), fX9_size_b30 nb X l1 l2 l3 l4 t0 = some (r', X') → GJ p9 l e9 (rg 7 0 0) s9 m9 args9 below9 meth9 c9 (MQ below9 (QI s0 D ev r' (cells ev X' M nb)) args9 s9 0 0 (frA ev)) s0 D ev 10 0 0 30 [(0, .ref (ev 0 + 0)), (1, .int l1), (2, .int l2), (3, .int l3), (4, zr ev l4)] (zr ev t0 :: []) (cells ev X M nb) := by
    intro X l1 l2 l3 l4 t0 h
    rw [fX9_size_b30] at h
    refine g_iconst F dX9_size_30 (v := 0) (by decide) ?_
    refine g_lv (lv' := [(0, .ref (ev 0 + 0)), (1, .int l1), (2, .int l2), (3, .int l3), (4, zr ev l4)]) ⟨rfl, rfl, rfl, rfl, rfl, trivial⟩ ?_
    exact U31 _ _ _ _ _ _ _ h
  rw [fX9_size] at h
  refine g_lv (lv' := [(0, .ref (ev 0 + 0)), (1, .int l1), (2, .int l2), (3, .int l3)]) ⟨rfl, rfl, rfl, rfl, trivial⟩ ?_
  refine g_aload_n (i := 0) F dX9_size_0 rfl rfl ?_
  refine g_iload_n (i := 1) F dX9_size_1 rfl rfl ?_
  obtain ⟨r1, e2, h⟩ := bind_at h
  refine g_callVR F (mcR := 0) (msR := 0) (id := 0) (cells_at (kd_lit (i := 0) (by decide)) (xc_9 rfl)) (ci := 9) rfl rfl rfl (c_X9_boatOf G0 e2) wd_22_23 wd_22_20 wd_22_21 wd_22_22 wd_1_2 ⟨by decide, by decide⟩ (nn := 1) (by decide) (As := [.int l1]) rfl rfl (Nat.le_of_ble_eq_true rfl) (by decide) (by decide) ⟨by decide, by decide⟩ dX9_size_2 ?_
  refine g_zastore (i := 4) (lv' := [(4, zr ev r1), (0, .ref (ev 0 + 0)), (1, .int l1), (2, .int l2), (3, .int l3)]) F dX9_size_5 (by decide) rfl ?_
  refine g_zaload (i := 4) F dX9_size_7 rfl ?_
  refine g_aload_n (i := 0) F dX9_size_9 rfl rfl ?_
  refine g_iload_n (i := 2) F dX9_size_10 rfl rfl ?_
  refine g_callVI F (mcR := 0) (msR := 0) (id := 0) (cells_at (kd_lit (i := 0) (by decide)) (xc_9 rfl)) (ci := 9) rfl rfl rfl (c_X9_isNight G0 (X := X) (M := M) (nb := nb) rfl) wd_27_7 wd_27_4 wd_27_5 wd_27_6 wd_1_2 ⟨by decide, by decide⟩ (nn := 1) (by decide) (As := [.int l2]) rfl rfl (by cases r1 <;> exact (Nat.le_of_ble_eq_true rfl)) (by decide) (by decide) ⟨by decide, by decide⟩ dX9_size_11 ?_
  refine g_if_eq (tgt := 30) F dX9_size_14 (by decide) h (fun a46 h => ?_) (fun a46 h => ?_)
  · refine g_lv (lv' := [(0, .ref (ev 0 + 0)), (1, .int l1), (2, .int l2), (3, .int l3), (4, zr ev r1)]) ⟨rfl, rfl, rfl, rfl, rfl, trivial⟩ ?_
    exact U30 _ _ _ _ _ _ h
  · refine g_iload_n (i := 3) F dX9_size_17 rfl rfl ?_
    refine g_iconst F dX9_size_18 (v := 0) (by decide) ?_
    refine g_iconst F dX9_size_19 (v := 1) (by decide) ?_
    refine g_callSI F (mcR := 0) (msR := 0) (c_X9_within G0 (X := X) (M := M) (nb := nb) rfl) wd_9_7 wd_15_21 wd_9_6 wd_1_2 ⟨by decide, by decide⟩ (nn := 3) (by decide) (As := [.int l3, .int (0 : Int32), .int (1 : Int32)]) rfl rfl (by cases r1 <;> exact (Nat.le_of_ble_eq_true rfl)) (by decide) (by decide) ⟨by decide, by decide⟩ dX9_size_20 ?_
    refine g_if_eq (tgt := 30) F dX9_size_23 (by decide) h (fun a45 h => ?_) (fun a45 h => ?_)
    · refine g_lv (lv' := [(0, .ref (ev 0 + 0)), (1, .int l1), (2, .int l2), (3, .int l3), (4, zr ev r1)]) ⟨rfl, rfl, rfl, rfl, rfl, trivial⟩ ?_
      exact U30 _ _ _ _ _ _ h
    · refine g_iconst F dX9_size_26 (v := 1) (by decide) ?_
      refine g_goto (tgt := 31) F dX9_size_27 (by decide) ?_
      refine g_lv (lv' := [(0, .ref (ev 0 + 0)), (1, .int l1), (2, .int l2), (3, .int l3), (4, zr ev r1)]) ⟨rfl, rfl, rfl, rfl, rfl, trivial⟩ ?_
      exact U31 _ _ _ _ _ _ _ h
def fX9_sideOf (l0 : Int32) (l1 : Int32) (l2 : Int32) : Int32 :=
  bd (jrem l0 (10 : Int32)) fun v1 =>
  bd (l0 / (10 : Int32)) fun v3 =>
  ((((jrem l1 (10 : Int32)) - v1) * ((l2 / (10 : Int32)) - v3)) - (((l1 / (10 : Int32)) - v3) * ((jrem l2 (10 : Int32)) - v1)))
set_option maxRecDepth 100000 in
set_option maxHeartbeats 4000000 in
theorem c_X9_sideOf {l : Launch} {s0 : State} {D : va_G} {ev : Nat → Nat} (G0 : Gl s0 D ev) {X : XW} {M : MW} {nb : Nat} {l0 : Int32} {l1 : Int32} {l2 : Int32} {r' : Int32}  (h : fX9_sideOf l0 l1 l2 = r') : CT l s0 D ev yX9_sideOf cX9_sideOf 5 (some .int) 0 0 0 [.int l0, .int l1, .int l2] (cells ev X M nb) (QI s0 D ev r' (cells ev X M nb)) := by
  refine ct_of G0 (by decide) (Nat.le_of_ble_eq_true rfl) ?_
  intro p9 e9 s9 m9 args9 below9 meth9 c9 F hr9 hl9 hin9 hargs9 hts9
  rw [fX9_sideOf] at h
  refine g_lv (lv' := [(0, .int l0), (1, .int l1), (2, .int l2)]) ⟨rfl, rfl, rfl, trivial⟩ ?_
  refine g_iload_n (i := 0) F dX9_sideOf_0 rfl rfl ?_
  refine g_bipush F dX9_sideOf_1 (v := 10) (by decide) ?_
  refine g_irem F dX9_sideOf_3 (by decide) ?_
  refine g_topi F h (fun v1 e2 h => ?_)
  refine g_istore_n (i := 3) (lv' := [(3, .int v1), (0, .int l0), (1, .int l1), (2, .int l2)]) F dX9_sideOf_4 rfl (by decide) rfl ?_
  refine g_iload_n (i := 0) F dX9_sideOf_5 rfl rfl ?_
  refine g_bipush F dX9_sideOf_6 (v := 10) (by decide) ?_
  refine g_idiv F dX9_sideOf_8 (by decide) ?_
  refine g_topi F h (fun v3 e4 h => ?_)
  refine g_istore (i := 4) (lv' := [(4, .int v3), (3, .int v1), (0, .int l0), (1, .int l1), (2, .int l2)]) F dX9_sideOf_9 (by decide) rfl ?_
  refine g_iload_n (i := 1) F dX9_sideOf_11 rfl rfl ?_
  refine g_bipush F dX9_sideOf_12 (v := 10) (by decide) ?_
  refine g_irem F dX9_sideOf_14 (by decide) ?_
  refine g_iload_n (i := 3) F dX9_sideOf_15 rfl rfl ?_
  refine g_isub F dX9_sideOf_16 ?_
  refine g_iload_n (i := 2) F dX9_sideOf_17 rfl rfl ?_
  refine g_bipush F dX9_sideOf_18 (v := 10) (by decide) ?_
  refine g_idiv F dX9_sideOf_20 (by decide) ?_
  refine g_iload (i := 4) F dX9_sideOf_21 rfl ?_
  refine g_isub F dX9_sideOf_23 ?_
  refine g_imul F dX9_sideOf_24 ?_
  refine g_iload_n (i := 1) F dX9_sideOf_25 rfl rfl ?_
  refine g_bipush F dX9_sideOf_26 (v := 10) (by decide) ?_
  refine g_idiv F dX9_sideOf_28 (by decide) ?_
  refine g_iload (i := 4) F dX9_sideOf_29 rfl ?_
  refine g_isub F dX9_sideOf_31 ?_
  refine g_iload_n (i := 2) F dX9_sideOf_32 rfl rfl ?_
  refine g_bipush F dX9_sideOf_33 (v := 10) (by decide) ?_
  refine g_irem F dX9_sideOf_35 (by decide) ?_
  refine g_iload_n (i := 3) F dX9_sideOf_36 rfl rfl ?_
  refine g_isub F dX9_sideOf_37 ?_
  refine g_imul F dX9_sideOf_38 ?_
  refine g_isub F dX9_sideOf_39 ?_
  exact g_iret F hr9 rfl hl9 h rfl (by decide) (by decide) dX9_sideOf_40
def fX9_line (l1 : Int32) (l2 : Int32) (l3 : Int32) : Int32 :=
  if (fX9_isCell l1) = 0 then (-1000000 : Int32)
  else if (fX9_isCell l2) = 0 then (-1000000 : Int32)
  else if (fX9_isCell l3) = 0 then (-1000000 : Int32)
  else if l1 = l2 then (-1000000 : Int32)
  else (fX9_sideOf l1 l2 l3)
set_option maxRecDepth 100000 in
set_option maxHeartbeats 4000000 in
theorem c_X9_line {l : Launch} {s0 : State} {D : va_G} {ev : Nat → Nat} (G0 : Gl s0 D ev) {X : XW} {M : MW} {nb : Nat} {l1 : Int32} {l2 : Int32} {l3 : Int32} {r' : Int32}  (h : fX9_line l1 l2 l3 = r') : CT l s0 D ev yX9_line cX9_line 4 (some .int) 2 0 0 [.ref (ev 0 + 0), .int l1, .int l2, .int l3] (cells ev X M nb) (QI s0 D ev r' (cells ev X M nb)) := by
  refine ct_of G0 (by decide) (Nat.le_of_ble_eq_true rfl) ?_
  intro p9 e9 s9 m9 args9 below9 meth9 c9 F hr9 hl9 hin9 hargs9 hts9
  rw [fX9_line] at h
  refine g_lv (lv' := [(0, .ref (ev 0 + 0)), (1, .int l1), (2, .int l2), (3, .int l3)]) ⟨rfl, rfl, rfl, rfl, trivial⟩ ?_
  refine g_iload_n (i := 1) F dX9_line_0 rfl rfl ?_
  refine g_callSI F (mcR := 0) (msR := 0) (c_X9_isCell G0 (X := X) (M := M) (nb := nb) rfl) wd_15_20 wd_15_18 wd_15_19 wd_1_2 ⟨by decide, by decide⟩ (nn := 1) (by decide) (As := [.int l1]) rfl rfl (Nat.le_of_ble_eq_true rfl) (by decide) (by decide) ⟨by decide, by decide⟩ dX9_line_1 ?_
  refine g_if_eq (tgt := 26) F dX9_line_4 (by decide) h (fun a12 h => ?_) (fun a12 h => ?_)
  · refine g_ldcw F dX9_line_26 wd_37_8 ?_
    refine g_goto (tgt := 38) F dX9_line_29 (by decide) ?_
    exact g_iret F hr9 rfl hl9 h rfl (by decide) (by decide) dX9_line_38
  · refine g_iload_n (i := 2) F dX9_line_7 rfl rfl ?_
    refine g_callSI F (mcR := 0) (msR := 0) (c_X9_isCell G0 (X := X) (M := M) (nb := nb) rfl) wd_15_20 wd_15_18 wd_15_19 wd_1_2 ⟨by decide, by decide⟩ (nn := 1) (by decide) (As := [.int l2]) rfl rfl (Nat.le_of_ble_eq_true rfl) (by decide) (by decide) ⟨by decide, by decide⟩ dX9_line_8 ?_
    refine g_if_eq (tgt := 26) F dX9_line_11 (by decide) h (fun a11 h => ?_) (fun a11 h => ?_)
    · refine g_ldcw F dX9_line_26 wd_37_8 ?_
      refine g_goto (tgt := 38) F dX9_line_29 (by decide) ?_
      exact g_iret F hr9 rfl hl9 h rfl (by decide) (by decide) dX9_line_38
    · refine g_iload_n (i := 3) F dX9_line_14 rfl rfl ?_
      refine g_callSI F (mcR := 0) (msR := 0) (c_X9_isCell G0 (X := X) (M := M) (nb := nb) rfl) wd_15_20 wd_15_18 wd_15_19 wd_1_2 ⟨by decide, by decide⟩ (nn := 1) (by decide) (As := [.int l3]) rfl rfl (Nat.le_of_ble_eq_true rfl) (by decide) (by decide) ⟨by decide, by decide⟩ dX9_line_15 ?_
      refine g_if_eq (tgt := 26) F dX9_line_18 (by decide) h (fun a10 h => ?_) (fun a10 h => ?_)
      · refine g_ldcw F dX9_line_26 wd_37_8 ?_
        refine g_goto (tgt := 38) F dX9_line_29 (by decide) ?_
        exact g_iret F hr9 rfl hl9 h rfl (by decide) (by decide) dX9_line_38
      · refine g_iload_n (i := 1) F dX9_line_21 rfl rfl ?_
        refine g_iload_n (i := 2) F dX9_line_22 rfl rfl ?_
        refine g_icmp_ne (tgt := 32) F dX9_line_23 (by decide) h (fun a9 h => ?_) (fun a9 h => ?_)
        · refine g_iload_n (i := 1) F dX9_line_32 rfl rfl ?_
          refine g_iload_n (i := 2) F dX9_line_33 rfl rfl ?_
          refine g_iload_n (i := 3) F dX9_line_34 rfl rfl ?_
          refine g_callSI F (mcR := 0) (msR := 0) (c_X9_sideOf G0 (X := X) (M := M) (nb := nb) rfl) wd_37_11 wd_37_9 wd_37_10 wd_1_2 ⟨by decide, by decide⟩ (nn := 3) (by decide) (As := [.int l1, .int l2, .int l3]) rfl rfl (Nat.le_of_ble_eq_true rfl) (by decide) (by decide) ⟨by decide, by decide⟩ dX9_line_35 ?_
          exact g_iret F hr9 rfl hl9 h rfl (by decide) (by decide) dX9_line_38
        · refine g_ldcw F dX9_line_26 wd_37_8 ?_
          refine g_goto (tgt := 38) F dX9_line_29 (by decide) ?_
          exact g_iret F hr9 rfl hl9 h rfl (by decide) (by decide) dX9_line_38
def fX9_marks_b138 (nb : Nat) (l2f78 : Int32) (l3f78 : Int32) (l4f78 : Int32) (l6f78 : Option Nat) (K78 : XW → Int32 → Int32 → Option (Int32 × XW)) (X : XW) (l8 : Int32) (l10 : Int32) (t0 : Int32) : Option (Int32 × XW) :=
  if (jabs (l10 - t0)) ≤ l4f78 then K78 X t0 (l8 + (1 : Int32))
  else some (l8, X)
def fX9_marks_l78 (nb : Nat) (l2f78 : Int32) (l3f78 : Int32) (l4f78 : Int32) (l6f78 : Option Nat) (K78 : XW → Int32 → Int32 → Option (Int32 × XW)) (X : XW) (l7 : Int32) (l8 : Int32) : Option (Int32 × XW) :=
  if ((X.1 0 11) + l2f78) ≤ l8 then some ((-1 : Int32), X)
  else (l6f78).bind fun b16 =>
  if kd b16 = 2 then (fX2_liesIn X b16 l8).bind fun v19 =>
  if v19 = (-1 : Int32) then some (l8, X)
  else bd (fX9_sideOf (l3f78 / (100 : Int32)) (jrem l3f78 (100 : Int32)) v19) fun v23 =>
  if l8 = (X.1 0 11) then fX9_marks_b138 nb l2f78 l3f78 l4f78 l6f78 K78 X l8 v23 v23
  else fX9_marks_b138 nb l2f78 l3f78 l4f78 l6f78 K78 X l8 v23 l7 else none
def fX9_marks (X : XW) (nb : Nat) (l1 : Int32) (l2 : Int32) (l3 : Int32) (l4 : Int32) : Option (Int32 × XW) :=
  (fX9_boatOf X l1).bind fun r1 =>
  oc r1 (some ((-5 : Int32), X)) (fun b3 => if (fX9_isNight X l2) = 0 then some ((-7 : Int32), X)
  else if (fX9_within l3 (0 : Int32) (9999 : Int32)) = 0 then some ((-7 : Int32), X)
  else if (l3 / (100 : Int32)) = (jrem l3 (100 : Int32)) then some ((-7 : Int32), X)
  else if (fX9_within l4 (0 : Int32) (99 : Int32)) = 0 then some ((-7 : Int32), X)
  else bd2 (fX9_sailed X nb l1 b3 l2) fun r12 X11 =>
  bd (X11.1 0 11) fun v14 =>
  lo3 (fX9_marks_l78 nb l2 l3 l4 r12) FU X11 (0 : Int32) v14)
set_option maxRecDepth 100000 in
set_option maxHeartbeats 4000000 in
theorem c_X9_marks {l : Launch} {s0 : State} {D : va_G} {ev : Nat → Nat} (G0 : Gl s0 D ev) {X : XW} {M : MW} {nb : Nat} {l1 : Int32} {l2 : Int32} {l3 : Int32} {l4 : Int32} {r' : Int32} {X' : XW}  (h : fX9_marks X nb l1 l2 l3 l4 = some (r', X')) : CT l s0 D ev yX9_marks cX9_marks 11 (some .int) 7 0 0 [.ref (ev 0 + 0), .int l1, .int l2, .int l3, .int l4] (cells ev X M nb) (QI s0 D ev r' (cells ev X' M nb)) := by
  refine ct_of G0 (by decide) (Nat.le_of_ble_eq_true rfl) ?_
  intro p9 e9 s9 m9 args9 below9 meth9 c9 F hr9 hl9 hin9 hargs9 hts9
  have L78 : ∀ (l2f78 : Int32) (l3f78 : Int32) (l4f78 : Int32) (l6f78 : Option Nat) (N78 : Nat) (X : XW) (l7 : Int32) (l8 : Int32), lo3 (fX9_marks_l78 nb l2f78 l3f78 l4f78 l6f78) N78 X l7 l8 = some (r', X') → GJ p9 l e9 (rg 7 0 0) s9 m9 args9 below9 meth9 c9 (MQ below9 (QI s0 D ev r' (cells ev X' M nb)) args9 s9 0 0 (frA ev)) s0 D ev 11 0 0 78 [(0, .ref (ev 0 + 0)), (2, .int l2f78), (3, .int l3f78), (4, .int l4f78), (6, zr ev l6f78), (7, .int l7), (8, .int l8)] ([]) (cells ev X M nb) := by
    intro l2f78 l3f78 l4f78 l6f78 N78
    induction N78 with
    | zero => intro X l7 l8 h; cases h
    | succ N78 ih78 =>
      have U138 : ∀ (X : XW) (l8 : Int32) (l10 : Int32) (t0 : Int32), fX9_marks_b138 nb l2f78 l3f78 l4f78 l6f78 (lo3 (fX9_marks_l78 nb l2f78 l3f78 l4f78 l6f78) N78) X l8 l10 t0 = some (r', X') → GJ p9 l e9 (rg 7 0 0) s9 m9 args9 below9 meth9 c9 (MQ below9 (QI s0 D ev r' (cells ev X' M nb)) args9 s9 0 0 (frA ev)) s0 D ev 11 0 0 138 [(0, .ref (ev 0 + 0)), (2, .int l2f78), (3, .int l3f78), (4, .int l4f78), (6, zr ev l6f78), (8, .int l8), (10, .int l10)] (.int t0 :: []) (cells ev X M nb) := by
        intro X l8 l10 t0 h
        rw [fX9_marks_b138] at h
        refine g_istore (i := 7) (lv' := [(7, .int t0), (0, .ref (ev 0 + 0)), (2, .int l2f78), (3, .int l3f78), (4, .int l4f78), (6, zr ev l6f78), (8, .int l8), (10, .int l10)]) F dX9_marks_138 (by decide) (by cases l6f78 <;> exact rfl) ?_
        refine g_iload (i := 10) F dX9_marks_140 rfl ?_
        refine g_iload (i := 7) F dX9_marks_142 rfl ?_
        refine g_isub F dX9_marks_144 ?_
        refine g_mabs F wd_38_0 wd_28_6 wd_16_21 wd_28_7 (Nat.le_of_ble_eq_true rfl) (Nat.le_of_ble_eq_true rfl) (Nat.zero_le _) (Nat.zero_le _) dX9_marks_145 ?_
        refine g_iload (i := 4) F dX9_marks_148 rfl ?_
        refine g_icmp_le (tgt := 156) F dX9_marks_150 (by decide) h (fun a25 h => ?_) (fun a25 h => ?_)
        · refine g_iinc (i := 8) (v := (l8 + (1 : Int32))) (lv' := [(8, .int (l8 + (1 : Int32))), (7, .int t0), (0, .ref (ev 0 + 0)), (2, .int l2f78), (3, .int l3f78), (4, .int l4f78), (6, zr ev l6f78), (10, .int l10)]) F dX9_marks_156 rfl rfl (by decide) rfl ?_
          refine g_goto (tgt := 78) F dX9_marks_159 (by decide) ?_
          refine g_lv (lv' := [(0, .ref (ev 0 + 0)), (2, .int l2f78), (3, .int l3f78), (4, .int l4f78), (6, zr ev l6f78), (7, .int t0), (8, .int (l8 + (1 : Int32)))]) ⟨rfl, rfl, rfl, rfl, rfl, rfl, rfl, trivial⟩ ?_
          exact ih78 _ _ _ h
        · refine g_iload (i := 8) F dX9_marks_153 rfl ?_
          have hp := Prod.mk.inj (Option.some.inj h)
          exact g_iret F hr9 rfl hl9 hp.1 (by rw [hp.2]) (by decide) (by decide) dX9_marks_155
      intro X l7 l8 h
      change fX9_marks_l78 nb l2f78 l3f78 l4f78 l6f78 (lo3 (fX9_marks_l78 nb l2f78 l3f78 l4f78 l6f78) N78) X l7 l8 = some (r', X') at h
      rw [fX9_marks_l78] at h
      refine g_iload (i := 8) F dX9_marks_78 rfl ?_
      refine g_aload_n (i := 0) F dX9_marks_80 rfl rfl ?_
      refine g_get_9_11 F rfl (kd_lit (by decide)) wd_2_19 dX9_marks_81 ?_
      refine g_iload_n (i := 2) F dX9_marks_84 rfl rfl ?_
      refine g_iadd F dX9_marks_85 ?_
      refine g_icmp_ge (tgt := 162) F dX9_marks_86 (by decide) h (fun a28 h => ?_) (fun a28 h => ?_)
      · refine g_iconst F dX9_marks_162 (v := -1) (by decide) ?_
        have hp := Prod.mk.inj (Option.some.inj h)
        exact g_iret F hr9 rfl hl9 hp.1 (by rw [hp.2]) (by decide) (by decide) dX9_marks_163
      · refine g_zaload (i := 6) F dX9_marks_89 rfl ?_
        refine g_iload (i := 8) F dX9_marks_91 rfl ?_
        obtain ⟨b16, e17, h⟩ := bind_at h
        rw [e17]
        obtain ⟨h18, h⟩ := if_at h
        obtain ⟨v19, e20, h⟩ := bind_at h
        refine g_callVI F (mcR := 0) (msR := 0) (id := b16) (cells_at (kd_hid h18 (by decide)) (xc_2 h18)) (ci := 2) rfl rfl rfl (c_X2_liesIn G0 e20) wd_29_9 wd_29_6 wd_29_7 wd_29_8 wd_3_0 ⟨by decide, by decide⟩ (nn := 1) (by decide) (As := [.int l8]) rfl rfl (Nat.le_of_ble_eq_true rfl) (by decide) (by decide) ⟨by decide, by decide⟩ dX9_marks_93 ?_
        refine g_istore (i := 9) (lv' := [(9, .int v19), (0, .ref (ev 0 + 0)), (2, .int l2f78), (3, .int l3f78), (4, .int l4f78), (6, .ref (ev 0 + b16)), (7, .int l7), (8, .int l8)]) F dX9_marks_96 (by decide) rfl ?_
        refine g_iload (i := 9) F dX9_marks_98 rfl ?_
        refine g_iconst F dX9_marks_100 (v := -1) (by decide) ?_
        refine g_icmp_ne (tgt := 107) F dX9_marks_101 (by decide) h (fun a27 h => ?_) (fun a27 h => ?_)
        · refine g_iload_n (i := 3) F dX9_marks_107 rfl rfl ?_
          refine g_bipush F dX9_marks_108 (v := 100) (by decide) ?_
          refine g_idiv F dX9_marks_110 (by decide) ?_
          refine g_iload_n (i := 3) F dX9_marks_111 rfl rfl ?_
          refine g_bipush F dX9_marks_112 (v := 100) (by decide) ?_
          refine g_irem F dX9_marks_114 (by decide) ?_
          refine g_iload (i := 9) F dX9_marks_115 rfl ?_
          refine g_callSI F (mcR := 0) (msR := 0) (c_X9_sideOf G0 (X := X) (M := M) (nb := nb) rfl) wd_37_11 wd_37_9 wd_37_10 wd_1_2 ⟨by decide, by decide⟩ (nn := 3) (by decide) (As := [.int (l3f78 / (100 : Int32)), .int (jrem l3f78 (100 : Int32)), .int v19]) rfl rfl (Nat.le_of_ble_eq_true rfl) (by decide) (by decide) ⟨by decide, by decide⟩ dX9_marks_117 ?_
          refine g_topi F h (fun v23 e24 h => ?_)
          refine g_istore (i := 10) (lv' := [(10, .int v23), (9, .int v19), (0, .ref (ev 0 + 0)), (2, .int l2f78), (3, .int l3f78), (4, .int l4f78), (6, .ref (ev 0 + b16)), (7, .int l7), (8, .int l8)]) F dX9_marks_120 (by decide) rfl ?_
          refine g_iload (i := 8) F dX9_marks_122 rfl ?_
          refine g_aload_n (i := 0) F dX9_marks_124 rfl rfl ?_
          refine g_get_9_11 F rfl (kd_lit (by decide)) wd_2_19 dX9_marks_125 ?_
          refine g_icmp_ne (tgt := 136) F dX9_marks_128 (by decide) h (fun a26 h => ?_) (fun a26 h => ?_)
          · refine g_iload (i := 7) F dX9_marks_136 rfl ?_
            refine g_lv (lv' := [(0, .ref (ev 0 + 0)), (2, .int l2f78), (3, .int l3f78), (4, .int l4f78), (6, zr ev l6f78), (8, .int l8), (10, .int v23)]) ⟨rfl, rfl, rfl, rfl, (by rw [e17]; rfl), rfl, rfl, trivial⟩ ?_
            exact U138 _ _ _ _ h
          · refine g_iload (i := 10) F dX9_marks_131 rfl ?_
            refine g_goto (tgt := 138) F dX9_marks_133 (by decide) ?_
            refine g_lv (lv' := [(0, .ref (ev 0 + 0)), (2, .int l2f78), (3, .int l3f78), (4, .int l4f78), (6, zr ev l6f78), (8, .int l8), (10, .int v23)]) ⟨rfl, rfl, rfl, rfl, (by rw [e17]; rfl), rfl, rfl, trivial⟩ ?_
            exact U138 _ _ _ _ h
        · refine g_iload (i := 8) F dX9_marks_104 rfl ?_
          have hp := Prod.mk.inj (Option.some.inj h)
          exact g_iret F hr9 rfl hl9 hp.1 (by rw [hp.2]) (by decide) (by decide) dX9_marks_106
  rw [fX9_marks] at h
  refine g_lv (lv' := [(0, .ref (ev 0 + 0)), (1, .int l1), (2, .int l2), (3, .int l3), (4, .int l4)]) ⟨rfl, rfl, rfl, rfl, rfl, trivial⟩ ?_
  refine g_aload_n (i := 0) F dX9_marks_0 rfl rfl ?_
  refine g_iload_n (i := 1) F dX9_marks_1 rfl rfl ?_
  obtain ⟨r1, e2, h⟩ := bind_at h
  refine g_callVR F (mcR := 0) (msR := 0) (id := 0) (cells_at (kd_lit (i := 0) (by decide)) (xc_9 rfl)) (ci := 9) rfl rfl rfl (c_X9_boatOf G0 e2) wd_22_23 wd_22_20 wd_22_21 wd_22_22 wd_1_2 ⟨by decide, by decide⟩ (nn := 1) (by decide) (As := [.int l1]) rfl rfl (Nat.le_of_ble_eq_true rfl) (by decide) (by decide) ⟨by decide, by decide⟩ dX9_marks_2 ?_
  refine g_zastore (i := 5) (lv' := [(5, zr ev r1), (0, .ref (ev 0 + 0)), (1, .int l1), (2, .int l2), (3, .int l3), (4, .int l4)]) F dX9_marks_5 (by decide) rfl ?_
  refine g_zaload (i := 5) F dX9_marks_7 rfl ?_
  rcases oc_at h with ⟨e4, h⟩ | ⟨b3, e4, h⟩
  · rw [e4]
    refine g_ifnnN F dX9_marks_9 ?_
    refine g_bipush F dX9_marks_12 (v := -5) (by decide) ?_
    have hp := Prod.mk.inj (Option.some.inj h)
    exact g_iret F hr9 rfl hl9 hp.1 (by rw [hp.2]) (by decide) (by decide) dX9_marks_14
  · rw [e4]
    refine g_ifnn (tgt := 15) F dX9_marks_9 (by decide) ?_
    refine g_aload_n (i := 0) F dX9_marks_15 rfl rfl ?_
    refine g_iload_n (i := 2) F dX9_marks_16 rfl rfl ?_
    refine g_callVI F (mcR := 0) (msR := 0) (id := 0) (cells_at (kd_lit (i := 0) (by decide)) (xc_9 rfl)) (ci := 9) rfl rfl rfl (c_X9_isNight G0 (X := X) (M := M) (nb := nb) rfl) wd_27_7 wd_27_4 wd_27_5 wd_27_6 wd_1_2 ⟨by decide, by decide⟩ (nn := 1) (by decide) (As := [.int l2]) rfl rfl (Nat.le_of_ble_eq_true rfl) (by decide) (by decide) ⟨by decide, by decide⟩ dX9_marks_17 ?_
    refine g_if_eq (tgt := 56) F dX9_marks_20 (by decide) h (fun a32 h => ?_) (fun a32 h => ?_)
    · refine g_bipush F dX9_marks_56 (v := -7) (by decide) ?_
      have hp := Prod.mk.inj (Option.some.inj h)
      exact g_iret F hr9 rfl hl9 hp.1 (by rw [hp.2]) (by decide) (by decide) dX9_marks_58
    · refine g_iload_n (i := 3) F dX9_marks_23 rfl rfl ?_
      refine g_iconst F dX9_marks_24 (v := 0) (by decide) ?_
      refine g_sipush F dX9_marks_25 (v := 9999) (by decide) ?_
      refine g_callSI F (mcR := 0) (msR := 0) (c_X9_within G0 (X := X) (M := M) (nb := nb) rfl) wd_9_7 wd_15_21 wd_9_6 wd_1_2 ⟨by decide, by decide⟩ (nn := 3) (by decide) (As := [.int l3, .int (0 : Int32), .int (9999 : Int32)]) rfl rfl (Nat.le_of_ble_eq_true rfl) (by decide) (by decide) ⟨by decide, by decide⟩ dX9_marks_28 ?_
      refine g_if_eq (tgt := 56) F dX9_marks_31 (by decide) h (fun a31 h => ?_) (fun a31 h => ?_)
      · refine g_bipush F dX9_marks_56 (v := -7) (by decide) ?_
        have hp := Prod.mk.inj (Option.some.inj h)
        exact g_iret F hr9 rfl hl9 hp.1 (by rw [hp.2]) (by decide) (by decide) dX9_marks_58
      · refine g_iload_n (i := 3) F dX9_marks_34 rfl rfl ?_
        refine g_bipush F dX9_marks_35 (v := 100) (by decide) ?_
        refine g_idiv F dX9_marks_37 (by decide) ?_
        refine g_iload_n (i := 3) F dX9_marks_38 rfl rfl ?_
        refine g_bipush F dX9_marks_39 (v := 100) (by decide) ?_
        refine g_irem F dX9_marks_41 (by decide) ?_
        refine g_icmp_eq (tgt := 56) F dX9_marks_42 (by decide) h (fun a30 h => ?_) (fun a30 h => ?_)
        · refine g_bipush F dX9_marks_56 (v := -7) (by decide) ?_
          have hp := Prod.mk.inj (Option.some.inj h)
          exact g_iret F hr9 rfl hl9 hp.1 (by rw [hp.2]) (by decide) (by decide) dX9_marks_58
        · refine g_iload (i := 4) F dX9_marks_45 rfl ?_
          refine g_iconst F dX9_marks_47 (v := 0) (by decide) ?_
          refine g_bipush F dX9_marks_48 (v := 99) (by decide) ?_
          refine g_callSI F (mcR := 0) (msR := 0) (c_X9_within G0 (X := X) (M := M) (nb := nb) rfl) wd_9_7 wd_15_21 wd_9_6 wd_1_2 ⟨by decide, by decide⟩ (nn := 3) (by decide) (As := [.int l4, .int (0 : Int32), .int (99 : Int32)]) rfl rfl (Nat.le_of_ble_eq_true rfl) (by decide) (by decide) ⟨by decide, by decide⟩ dX9_marks_50 ?_
          refine g_if_ne (tgt := 59) F dX9_marks_53 (by decide) h (fun a29 h => ?_) (fun a29 h => ?_)
          · refine g_aload_n (i := 0) F dX9_marks_59 rfl rfl ?_
            refine g_iload_n (i := 1) F dX9_marks_60 rfl rfl ?_
            refine g_aload (i := 5) F dX9_marks_61 rfl ?_
            refine g_iload_n (i := 2) F dX9_marks_63 rfl rfl ?_
            obtain ⟨r12, X11, e13, h⟩ := bd2_at h
            refine g_callVR F (mcR := 0) (msR := 0) (id := 0) (cells_at (kd_lit (i := 0) (by decide)) (xc_9 rfl)) (ci := 9) rfl rfl rfl (c_X9_sailed G0 e13) wd_27_11 wd_27_8 wd_27_9 wd_27_10 wd_1_2 ⟨by decide, by decide⟩ (nn := 3) (by decide) (As := [.int l1, .ref (ev 0 + b3), .int l2]) rfl rfl (Nat.le_of_ble_eq_true rfl) (by decide) (by decide) ⟨by decide, by decide⟩ dX9_marks_64 ?_
            refine g_zastore (i := 6) (lv' := [(6, zr ev r12), (5, .ref (ev 0 + b3)), (0, .ref (ev 0 + 0)), (1, .int l1), (2, .int l2), (3, .int l3), (4, .int l4)]) F dX9_marks_67 (by decide) rfl ?_
            refine g_iconst F dX9_marks_69 (v := 0) (by decide) ?_
            refine g_istore (i := 7) (lv' := [(7, .int (0 : Int32)), (6, zr ev r12), (5, .ref (ev 0 + b3)), (0, .ref (ev 0 + 0)), (1, .int l1), (2, .int l2), (3, .int l3), (4, .int l4)]) F dX9_marks_70 (by decide) (by cases r12 <;> exact rfl) ?_
            refine g_aload_n (i := 0) F dX9_marks_72 rfl rfl ?_
            refine g_get_9_11 F rfl (kd_lit (by decide)) wd_2_19 dX9_marks_73 ?_
            refine g_topi F h (fun v14 e15 h => ?_)
            refine g_istore (i := 8) (lv' := [(8, .int v14), (7, .int (0 : Int32)), (6, zr ev r12), (5, .ref (ev 0 + b3)), (0, .ref (ev 0 + 0)), (1, .int l1), (2, .int l2), (3, .int l3), (4, .int l4)]) F dX9_marks_76 (by decide) rfl ?_
            refine g_lv (lv' := [(0, .ref (ev 0 + 0)), (2, .int l2), (3, .int l3), (4, .int l4), (6, zr ev r12), (7, .int (0 : Int32)), (8, .int v14)]) ⟨rfl, rfl, rfl, rfl, rfl, rfl, rfl, trivial⟩ ?_
            exact L78 _ _ _ _ FU _ _ _ h
          · refine g_bipush F dX9_marks_56 (v := -7) (by decide) ?_
            have hp := Prod.mk.inj (Option.some.inj h)
            exact g_iret F hr9 rfl hl9 hp.1 (by rw [hp.2]) (by decide) (by decide) dX9_marks_58
def fX9_borneByEach (X : XW) (nb : Nat) (l1 : Nat) (l2 : Int32) (l3 : Int32) : Option (Int32 × XW) :=
  if NS ≤ l1 ∧ l1 < TT nb then bd2 (fX7_pullOn X nb l1 (X.1 l1 4) (X.1 l1 5) l2) fun v3 X2 =>
  (rd (stF 4) 4 l3).bind fun v5 =>
  some (((v3 * v5) / (100 : Int32)), X2) else none
set_option maxRecDepth 100000 in
set_option maxHeartbeats 4000000 in
theorem c_X9_borneByEach {l : Launch} {s0 : State} {D : va_G} {ev : Nat → Nat} (G0 : Gl s0 D ev) {X : XW} {M : MW} {nb : Nat} {l1 : Nat} {l2 : Int32} {l3 : Int32} {r' : Int32} {X' : XW}  (h : fX9_borneByEach X nb l1 l2 l3 = some (r', X')) : CT l s0 D ev yX9_borneByEach cX9_borneByEach 4 (some .int) 4 0 0 [.ref (ev 0 + 0), .ref (ev 0 + l1), .int l2, .int l3] (cells ev X M nb) (QI s0 D ev r' (cells ev X' M nb)) := by
  refine ct_of G0 (by decide) (Nat.le_of_ble_eq_true rfl) ?_
  intro p9 e9 s9 m9 args9 below9 meth9 c9 F hr9 hl9 hin9 hargs9 hts9
  rw [fX9_borneByEach] at h
  refine g_lv (lv' := [(0, .ref (ev 0 + 0)), (1, .ref (ev 0 + l1)), (2, .int l2), (3, .int l3)]) ⟨rfl, rfl, rfl, rfl, trivial⟩ ?_
  refine g_aload_n (i := 0) F dX9_borneByEach_0 rfl rfl ?_
  refine g_get_9_3 F rfl (kd_lit (by decide)) wd_2_1 dX9_borneByEach_1 ?_
  refine g_aload_n (i := 1) F dX9_borneByEach_4 rfl rfl ?_
  refine g_aload_n (i := 1) F dX9_borneByEach_5 rfl rfl ?_
  obtain ⟨h1, h⟩ := if_at h
  refine g_get_1_4 F (kd_b h1) h1.2 wd_22_18 dX9_borneByEach_6 ?_
  refine g_aload_n (i := 1) F dX9_borneByEach_9 rfl rfl ?_
  refine g_get_1_5 F (kd_b h1) h1.2 wd_22_19 dX9_borneByEach_10 ?_
  refine g_iload_n (i := 2) F dX9_borneByEach_13 rfl rfl ?_
  obtain ⟨v3, X2, e4, h⟩ := bd2_at h
  refine g_callVI F (mcR := 0) (msR := 0) (id := 10) (cells_at (kd_lit (i := 10) (by decide)) (xc_7 rfl)) (ci := 7) rfl rfl rfl (c_X7_pullOn G0 e4) wd_24_15 wd_24_12 wd_24_13 wd_24_14 wd_2_0 ⟨by decide, by decide⟩ (nn := 4) (by decide) (As := [.ref (ev 0 + l1), .int (X.1 l1 4), .int (X.1 l1 5), .int l2]) rfl rfl (Nat.le_of_ble_eq_true rfl) (by decide) (by decide) ⟨by decide, by decide⟩ dX9_borneByEach_14 ?_
  refine g_gets (i := 4) F (by decide) rfl wd_39_15 dX9_borneByEach_17 ?_
  refine g_iload_n (i := 3) F dX9_borneByEach_20 rfl rfl ?_
  obtain ⟨v5, e6, h⟩ := bind_at h
  refine g_strd F (by decide) (by decide) e6 dX9_borneByEach_21 ?_
  refine g_imul F dX9_borneByEach_22 ?_
  refine g_bipush F dX9_borneByEach_23 (v := 100) (by decide) ?_
  refine g_idiv F dX9_borneByEach_25 (by decide) ?_
  have hp := Prod.mk.inj (Option.some.inj h)
  exact g_iret F hr9 rfl hl9 hp.1 (by rw [hp.2]) (by decide) (by decide) dX9_borneByEach_26
def fX9_twoHold (X : XW) (nb : Nat) (l1 : Nat) (l2 : Int32) (l3 : Int32) : Option (Int32 × XW) :=
  bd2 (fX9_borneByEach X nb l1 l2 l3) fun v2 X1 =>
  if NS ≤ l1 ∧ l1 < TT nb then bd2 (fX7_powerOf X1 nb l1 (X1.1 l1 4) (X1.1 l1 5) l2) fun v6 X5 =>
  if v6 < v2 then some ((0 : Int32), X5)
  else some ((1 : Int32), X5) else none
set_option maxRecDepth 100000 in
set_option maxHeartbeats 4000000 in
theorem c_X9_twoHold {l : Launch} {s0 : State} {D : va_G} {ev : Nat → Nat} (G0 : Gl s0 D ev) {X : XW} {M : MW} {nb : Nat} {l1 : Nat} {l2 : Int32} {l3 : Int32} {r' : Int32} {X' : XW}  (h : fX9_twoHold X nb l1 l2 l3 = some (r', X')) : CT l s0 D ev yX9_twoHold cX9_twoHold 4 (some .boolean) 5 0 0 [.ref (ev 0 + 0), .ref (ev 0 + l1), .int l2, .int l3] (cells ev X M nb) (QI s0 D ev r' (cells ev X' M nb)) := by
  refine ct_of G0 (by decide) (Nat.le_of_ble_eq_true rfl) ?_
  intro p9 e9 s9 m9 args9 below9 meth9 c9 F hr9 hl9 hin9 hargs9 hts9
  rw [fX9_twoHold] at h
  refine g_lv (lv' := [(0, .ref (ev 0 + 0)), (1, .ref (ev 0 + l1)), (2, .int l2), (3, .int l3)]) ⟨rfl, rfl, rfl, rfl, trivial⟩ ?_
  refine g_aload_n (i := 0) F dX9_twoHold_0 rfl rfl ?_
  refine g_aload_n (i := 1) F dX9_twoHold_1 rfl rfl ?_
  refine g_iload_n (i := 2) F dX9_twoHold_2 rfl rfl ?_
  refine g_iload_n (i := 3) F dX9_twoHold_3 rfl rfl ?_
  obtain ⟨v2, X1, e3, h⟩ := bd2_at h
  refine g_callVI F (mcR := 0) (msR := 0) (id := 0) (cells_at (kd_lit (i := 0) (by decide)) (xc_9 rfl)) (ci := 9) rfl rfl rfl (c_X9_borneByEach G0 e3) wd_39_14 wd_39_11 wd_39_12 wd_39_13 wd_1_2 ⟨by decide, by decide⟩ (nn := 3) (by decide) (As := [.ref (ev 0 + l1), .int l2, .int l3]) rfl rfl (Nat.le_of_ble_eq_true rfl) (by decide) (by decide) ⟨by decide, by decide⟩ dX9_twoHold_4 ?_
  refine g_aload_n (i := 0) F dX9_twoHold_7 rfl rfl ?_
  refine g_get_9_3 F rfl (kd_lit (by decide)) wd_2_1 dX9_twoHold_8 ?_
  refine g_aload_n (i := 1) F dX9_twoHold_11 rfl rfl ?_
  refine g_aload_n (i := 1) F dX9_twoHold_12 rfl rfl ?_
  obtain ⟨h4, h⟩ := if_at h
  refine g_get_1_4 F (kd_b h4) h4.2 wd_22_18 dX9_twoHold_13 ?_
  refine g_aload_n (i := 1) F dX9_twoHold_16 rfl rfl ?_
  refine g_get_1_5 F (kd_b h4) h4.2 wd_22_19 dX9_twoHold_17 ?_
  refine g_iload_n (i := 2) F dX9_twoHold_20 rfl rfl ?_
  obtain ⟨v6, X5, e7, h⟩ := bd2_at h
  refine g_callVI F (mcR := 0) (msR := 0) (id := 10) (cells_at (kd_lit (i := 10) (by decide)) (xc_7 rfl)) (ci := 7) rfl rfl rfl (c_X7_powerOf G0 e7) wd_25_4 wd_25_1 wd_25_2 wd_25_3 wd_2_0 ⟨by decide, by decide⟩ (nn := 4) (by decide) (As := [.ref (ev 0 + l1), .int (X1.1 l1 4), .int (X1.1 l1 5), .int l2]) rfl rfl (Nat.le_of_ble_eq_true rfl) (by decide) (by decide) ⟨by decide, by decide⟩ dX9_twoHold_21 ?_
  refine g_icmp_gt (tgt := 31) F dX9_twoHold_24 (by decide) h (fun a8 h => ?_) (fun a8 h => ?_)
  · refine g_iconst F dX9_twoHold_31 (v := 0) (by decide) ?_
    have hp := Prod.mk.inj (Option.some.inj h)
    exact g_iret F hr9 (by decide) hl9 hp.1 (by rw [hp.2]) (by decide) (by decide) dX9_twoHold_32
  · refine g_iconst F dX9_twoHold_27 (v := 1) (by decide) ?_
    refine g_goto (tgt := 32) F dX9_twoHold_28 (by decide) ?_
    have hp := Prod.mk.inj (Option.some.inj h)
    exact g_iret F hr9 (by decide) hl9 hp.1 (by rw [hp.2]) (by decide) (by decide) dX9_twoHold_32
def fX9_two_b40 (nb : Nat) (X : XW) (l2 : Int32) (l3 : Int32) (l4 : Int32) (l5 : Option Nat) (t0 : Option Nat) (t1 : Int32) : Option (Int32 × XW) :=
  (fX9_refusal X nb t0 t1).bind fun v5 =>
  oc l5 (some (v5, X)) (fun b7 => if v5 = 0 then if l4 = 0 then bd2 (fX9_borneByEach X nb b7 l2 l3) fun v14 X13 =>
  some (v14, X13)
  else bd2 (fX9_twoHold X nb b7 l2 l3) fun v10 X9 =>
  if v10 = 0 then some ((0 : Int32), X9)
  else some ((1 : Int32), X9)
  else some (v5, X))
def fX9_two_b39 (nb : Nat) (X : XW) (l2 : Int32) (l3 : Int32) (l4 : Int32) (l5 : Option Nat) (t0 : Option Nat) : Option (Int32 × XW) :=
  fX9_two_b40 nb X l2 l3 l4 l5 t0 (0 : Int32)
def fX9_two (X : XW) (nb : Nat) (l1 : Int32) (l2 : Int32) (l3 : Int32) (l4 : Int32) : Option (Int32 × XW) :=
  (fX9_boatOf X l1).bind fun r1 =>
  if (fX9_isHour l2) = 0 then fX9_two_b39 nb X l2 l3 l4 r1 r1
  else if (fX9_within l3 (0 : Int32) (3 : Int32)) = 0 then fX9_two_b39 nb X l2 l3 l4 r1 r1
  else if (fX9_within l4 (0 : Int32) (1 : Int32)) = 0 then fX9_two_b39 nb X l2 l3 l4 r1 r1
  else fX9_two_b40 nb X l2 l3 l4 r1 r1 (1 : Int32)
set_option maxRecDepth 100000 in
set_option maxHeartbeats 4000000 in
theorem c_X9_two {l : Launch} {s0 : State} {D : va_G} {ev : Nat → Nat} (G0 : Gl s0 D ev) {X : XW} {M : MW} {nb : Nat} {l1 : Int32} {l2 : Int32} {l3 : Int32} {l4 : Int32} {r' : Int32} {X' : XW}  (h : fX9_two X nb l1 l2 l3 l4 = some (r', X')) : CT l s0 D ev yX9_two cX9_two 7 (some .int) 6 0 0 [.ref (ev 0 + 0), .int l1, .int l2, .int l3, .int l4] (cells ev X M nb) (QI s0 D ev r' (cells ev X' M nb)) := by
  refine ct_of G0 (by decide) (Nat.le_of_ble_eq_true rfl) ?_
  intro p9 e9 s9 m9 args9 below9 meth9 c9 F hr9 hl9 hin9 hargs9 hts9
  have U40 : ∀ (X : XW) (l2 : Int32) (l3 : Int32) (l4 : Int32) (l5 : Option Nat) (t0 : Option Nat) (t1 : Int32), fX9_two_b40 nb X l2 l3 l4 l5 t0 t1 = some (r', X') → GJ p9 l e9 (rg 6 0 0) s9 m9 args9 below9 meth9 c9 (MQ below9 (QI s0 D ev r' (cells ev X' M nb)) args9 s9 0 0 (frA ev)) s0 D ev 7 0 0 40 [(0, .ref (ev 0 + 0)), (2, .int l2), (3, .int l3), (4, .int l4), (5, zr ev l5)] (.int t1 :: zr ev t0 :: []) (cells ev X M nb) := by
    intro X l2 l3 l4 l5 t0 t1 h
    rw [fX9_two_b40] at h
    obtain ⟨v5, e6, h⟩ := bind_at h
    refine g_callSI F (mcR := 0) (msR := 0) (c_X9_refusal G0 e6) wd_24_2 wd_24_0 wd_24_1 wd_1_2 ⟨by decide, by decide⟩ (nn := 2) (by decide) (As := [zr ev t0, .int t1]) rfl rfl (Nat.le_of_ble_eq_true rfl) (by decide) (by decide) ⟨by decide, by decide⟩ dX9_two_40 ?_
    refine g_istore (i := 6) (lv' := [(6, .int v5), (0, .ref (ev 0 + 0)), (2, .int l2), (3, .int l3), (4, .int l4), (5, zr ev l5)]) F dX9_two_43 (by decide) (by cases l5 <;> exact rfl) ?_
    refine g_zaload (i := 5) F dX9_two_45 rfl ?_
    rcases oc_at h with ⟨e8, h⟩ | ⟨b7, e8, h⟩
    · rw [e8]
      refine g_ifnN (tgt := 55) F dX9_two_47 (by decide) ?_
      refine g_iload (i := 6) F dX9_two_55 rfl ?_
      have hp := Prod.mk.inj (Option.some.inj h)
      exact g_iret F hr9 rfl hl9 hp.1 (by rw [hp.2]) (by decide) (by decide) dX9_two_57
    · rw [e8]
      refine g_ifn F dX9_two_47 ?_
      refine g_iload (i := 6) F dX9_two_50 rfl ?_
      refine g_if_eq (tgt := 58) F dX9_two_52 (by decide) h (fun a17 h => ?_) (fun a17 h => ?_)
      · refine g_iload (i := 4) F dX9_two_58 rfl ?_
        refine g_if_ne (tgt := 72) F dX9_two_60 (by decide) h (fun a16 h => ?_) (fun a16 h => ?_)
        · refine g_aload_n (i := 0) F dX9_two_72 rfl rfl ?_
          refine g_aload (i := 5) F dX9_two_73 rfl ?_
          refine g_iload_n (i := 2) F dX9_two_75 rfl rfl ?_
          refine g_iload_n (i := 3) F dX9_two_76 rfl rfl ?_
          obtain ⟨v10, X9, e11, h⟩ := bd2_at h
          refine g_callVI F (mcR := 0) (msR := 0) (id := 0) (cells_at (kd_lit (i := 0) (by decide)) (xc_9 rfl)) (ci := 9) rfl rfl rfl (c_X9_twoHold G0 e11) wd_39_19 wd_39_16 wd_39_17 wd_39_18 wd_1_2 ⟨by decide, by decide⟩ (nn := 3) (by decide) (As := [.ref (ev 0 + b7), .int l2, .int l3]) rfl rfl (Nat.le_of_ble_eq_true rfl) (by decide) (by decide) ⟨by decide, by decide⟩ dX9_two_77 ?_
          refine g_if_eq (tgt := 87) F dX9_two_80 (by decide) h (fun a12 h => ?_) (fun a12 h => ?_)
          · refine g_iconst F dX9_two_87 (v := 0) (by decide) ?_
            have hp := Prod.mk.inj (Option.some.inj h)
            exact g_iret F hr9 rfl hl9 hp.1 (by rw [hp.2]) (by decide) (by decide) dX9_two_88
          · refine g_iconst F dX9_two_83 (v := 1) (by decide) ?_
            refine g_goto (tgt := 88) F dX9_two_84 (by decide) ?_
            have hp := Prod.mk.inj (Option.some.inj h)
            exact g_iret F hr9 rfl hl9 hp.1 (by rw [hp.2]) (by decide) (by decide) dX9_two_88
        · refine g_aload_n (i := 0) F dX9_two_63 rfl rfl ?_
          refine g_aload (i := 5) F dX9_two_64 rfl ?_
          refine g_iload_n (i := 2) F dX9_two_66 rfl rfl ?_
          refine g_iload_n (i := 3) F dX9_two_67 rfl rfl ?_
          obtain ⟨v14, X13, e15, h⟩ := bd2_at h
          refine g_callVI F (mcR := 0) (msR := 0) (id := 0) (cells_at (kd_lit (i := 0) (by decide)) (xc_9 rfl)) (ci := 9) rfl rfl rfl (c_X9_borneByEach G0 e15) wd_39_14 wd_39_11 wd_39_12 wd_39_13 wd_1_2 ⟨by decide, by decide⟩ (nn := 3) (by decide) (As := [.ref (ev 0 + b7), .int l2, .int l3]) rfl rfl (Nat.le_of_ble_eq_true rfl) (by decide) (by decide) ⟨by decide, by decide⟩ dX9_two_68 ?_
          have hp := Prod.mk.inj (Option.some.inj h)
          exact g_iret F hr9 rfl hl9 hp.1 (by rw [hp.2]) (by decide) (by decide) dX9_two_71
      · refine g_iload (i := 6) F dX9_two_55 rfl ?_
        have hp := Prod.mk.inj (Option.some.inj h)
        exact g_iret F hr9 rfl hl9 hp.1 (by rw [hp.2]) (by decide) (by decide) dX9_two_57
  have U39 : ∀ (X : XW) (l2 : Int32) (l3 : Int32) (l4 : Int32) (l5 : Option Nat) (t0 : Option Nat), fX9_two_b39 nb X l2 l3 l4 l5 t0 = some (r', X') → GJ p9 l e9 (rg 6 0 0) s9 m9 args9 below9 meth9 c9 (MQ below9 (QI s0 D ev r' (cells ev X' M nb)) args9 s9 0 0 (frA ev)) s0 D ev 7 0 0 39 [(0, .ref (ev 0 + 0)), (2, .int l2), (3, .int l3), (4, .int l4), (5, zr ev l5)] (zr ev t0 :: []) (cells ev X M nb) := by
    intro X l2 l3 l4 l5 t0 h
    rw [fX9_two_b39] at h
    refine g_iconst F dX9_two_39 (v := 0) (by decide) ?_
    refine g_lv (lv' := [(0, .ref (ev 0 + 0)), (2, .int l2), (3, .int l3), (4, .int l4), (5, zr ev l5)]) ⟨rfl, rfl, rfl, rfl, rfl, trivial⟩ ?_
    exact U40 _ _ _ _ _ _ _ h
  rw [fX9_two] at h
  refine g_lv (lv' := [(0, .ref (ev 0 + 0)), (1, .int l1), (2, .int l2), (3, .int l3), (4, .int l4)]) ⟨rfl, rfl, rfl, rfl, rfl, trivial⟩ ?_
  refine g_aload_n (i := 0) F dX9_two_0 rfl rfl ?_
  refine g_iload_n (i := 1) F dX9_two_1 rfl rfl ?_
  obtain ⟨r1, e2, h⟩ := bind_at h
  refine g_callVR F (mcR := 0) (msR := 0) (id := 0) (cells_at (kd_lit (i := 0) (by decide)) (xc_9 rfl)) (ci := 9) rfl rfl rfl (c_X9_boatOf G0 e2) wd_22_23 wd_22_20 wd_22_21 wd_22_22 wd_1_2 ⟨by decide, by decide⟩ (nn := 1) (by decide) (As := [.int l1]) rfl rfl (Nat.le_of_ble_eq_true rfl) (by decide) (by decide) ⟨by decide, by decide⟩ dX9_two_2 ?_
  refine g_zastore (i := 5) (lv' := [(5, zr ev r1), (0, .ref (ev 0 + 0)), (1, .int l1), (2, .int l2), (3, .int l3), (4, .int l4)]) F dX9_two_5 (by decide) rfl ?_
  refine g_zaload (i := 5) F dX9_two_7 rfl ?_
  refine g_iload_n (i := 2) F dX9_two_9 rfl rfl ?_
  refine g_callSI F (mcR := 0) (msR := 0) (c_X9_isHour G0 (X := X) (M := M) (nb := nb) rfl) wd_17_9 wd_17_7 wd_17_8 wd_1_2 ⟨by decide, by decide⟩ (nn := 1) (by decide) (As := [.int l2]) rfl rfl (by cases r1 <;> exact (Nat.le_of_ble_eq_true rfl)) (by decide) (by decide) ⟨by decide, by decide⟩ dX9_two_10 ?_
  refine g_if_eq (tgt := 39) F dX9_two_13 (by decide) h (fun a24 h => ?_) (fun a24 h => ?_)
  · refine g_lv (lv' := [(0, .ref (ev 0 + 0)), (2, .int l2), (3, .int l3), (4, .int l4), (5, zr ev r1)]) ⟨rfl, rfl, rfl, rfl, rfl, trivial⟩ ?_
    exact U39 _ _ _ _ _ _ h
  · refine g_iload_n (i := 3) F dX9_two_16 rfl rfl ?_
    refine g_iconst F dX9_two_17 (v := 0) (by decide) ?_
    refine g_iconst F dX9_two_18 (v := 3) (by decide) ?_
    refine g_callSI F (mcR := 0) (msR := 0) (c_X9_within G0 (X := X) (M := M) (nb := nb) rfl) wd_9_7 wd_15_21 wd_9_6 wd_1_2 ⟨by decide, by decide⟩ (nn := 3) (by decide) (As := [.int l3, .int (0 : Int32), .int (3 : Int32)]) rfl rfl (by cases r1 <;> exact (Nat.le_of_ble_eq_true rfl)) (by decide) (by decide) ⟨by decide, by decide⟩ dX9_two_19 ?_
    refine g_if_eq (tgt := 39) F dX9_two_22 (by decide) h (fun a23 h => ?_) (fun a23 h => ?_)
    · refine g_lv (lv' := [(0, .ref (ev 0 + 0)), (2, .int l2), (3, .int l3), (4, .int l4), (5, zr ev r1)]) ⟨rfl, rfl, rfl, rfl, rfl, trivial⟩ ?_
      exact U39 _ _ _ _ _ _ h
    · refine g_iload (i := 4) F dX9_two_25 rfl ?_
      refine g_iconst F dX9_two_27 (v := 0) (by decide) ?_
      refine g_iconst F dX9_two_28 (v := 1) (by decide) ?_
      refine g_callSI F (mcR := 0) (msR := 0) (c_X9_within G0 (X := X) (M := M) (nb := nb) rfl) wd_9_7 wd_15_21 wd_9_6 wd_1_2 ⟨by decide, by decide⟩ (nn := 3) (by decide) (As := [.int l4, .int (0 : Int32), .int (1 : Int32)]) rfl rfl (by cases r1 <;> exact (Nat.le_of_ble_eq_true rfl)) (by decide) (by decide) ⟨by decide, by decide⟩ dX9_two_29 ?_
      refine g_if_eq (tgt := 39) F dX9_two_32 (by decide) h (fun a22 h => ?_) (fun a22 h => ?_)
      · refine g_lv (lv' := [(0, .ref (ev 0 + 0)), (2, .int l2), (3, .int l3), (4, .int l4), (5, zr ev r1)]) ⟨rfl, rfl, rfl, rfl, rfl, trivial⟩ ?_
        exact U39 _ _ _ _ _ _ h
      · refine g_iconst F dX9_two_35 (v := 1) (by decide) ?_
        refine g_goto (tgt := 40) F dX9_two_36 (by decide) ?_
        refine g_lv (lv' := [(0, .ref (ev 0 + 0)), (2, .int l2), (3, .int l3), (4, .int l4), (5, zr ev r1)]) ⟨rfl, rfl, rfl, rfl, rfl, trivial⟩ ?_
        exact U40 _ _ _ _ _ _ _ h
def fX9_twoHoldAll_l6 (nb : Nat) (l1f6 : Nat) (l2f6 : Int32) (l3f6 : Int32) (K6 : XW → Int32 → Option (Int32 × XW)) (X : XW) (l4 : Int32) : Option (Int32 × XW) :=
  if ((X.1 0 11) + l2f6) ≤ l4 then some ((1 : Int32), X)
  else bd2 (fX9_twoHold X nb l1f6 l4 l3f6) fun v4 X3 =>
  if v4 = 0 then some ((0 : Int32), X3)
  else K6 X3 (l4 + (1 : Int32))
def fX9_twoHoldAll (X : XW) (nb : Nat) (l1 : Nat) (l2 : Int32) (l3 : Int32) : Option (Int32 × XW) :=
  bd (X.1 0 11) fun v1 =>
  lo2 (fX9_twoHoldAll_l6 nb l1 l2 l3) FU X v1
set_option maxRecDepth 100000 in
set_option maxHeartbeats 4000000 in
theorem c_X9_twoHoldAll {l : Launch} {s0 : State} {D : va_G} {ev : Nat → Nat} (G0 : Gl s0 D ev) {X : XW} {M : MW} {nb : Nat} {l1 : Nat} {l2 : Int32} {l3 : Int32} {r' : Int32} {X' : XW}  (h : fX9_twoHoldAll X nb l1 l2 l3 = some (r', X')) : CT l s0 D ev yX9_twoHoldAll cX9_twoHoldAll 5 (some .boolean) 6 0 0 [.ref (ev 0 + 0), .ref (ev 0 + l1), .int l2, .int l3] (cells ev X M nb) (QI s0 D ev r' (cells ev X' M nb)) := by
  refine ct_of G0 (by decide) (Nat.le_of_ble_eq_true rfl) ?_
  intro p9 e9 s9 m9 args9 below9 meth9 c9 F hr9 hl9 hin9 hargs9 hts9
  have L6 : ∀ (l1f6 : Nat) (l2f6 : Int32) (l3f6 : Int32) (N6 : Nat) (X : XW) (l4 : Int32), lo2 (fX9_twoHoldAll_l6 nb l1f6 l2f6 l3f6) N6 X l4 = some (r', X') → GJ p9 l e9 (rg 6 0 0) s9 m9 args9 below9 meth9 c9 (MQ below9 (QI s0 D ev r' (cells ev X' M nb)) args9 s9 0 0 (frA ev)) s0 D ev 5 0 0 6 [(0, .ref (ev 0 + 0)), (1, .ref (ev 0 + l1f6)), (2, .int l2f6), (3, .int l3f6), (4, .int l4)] ([]) (cells ev X M nb) := by
    intro l1f6 l2f6 l3f6 N6
    induction N6 with
    | zero => intro X l4 h; cases h
    | succ N6 ih6 =>
      intro X l4 h
      change fX9_twoHoldAll_l6 nb l1f6 l2f6 l3f6 (lo2 (fX9_twoHoldAll_l6 nb l1f6 l2f6 l3f6) N6) X l4 = some (r', X') at h
      rw [fX9_twoHoldAll_l6] at h
      refine g_iload (i := 4) F dX9_twoHoldAll_6 rfl ?_
      refine g_aload_n (i := 0) F dX9_twoHoldAll_8 rfl rfl ?_
      refine g_get_9_11 F rfl (kd_lit (by decide)) wd_2_19 dX9_twoHoldAll_9 ?_
      refine g_iload_n (i := 2) F dX9_twoHoldAll_12 rfl rfl ?_
      refine g_iadd F dX9_twoHoldAll_13 ?_
      refine g_icmp_ge (tgt := 36) F dX9_twoHoldAll_14 (by decide) h (fun a7 h => ?_) (fun a7 h => ?_)
      · refine g_iconst F dX9_twoHoldAll_36 (v := 1) (by decide) ?_
        have hp := Prod.mk.inj (Option.some.inj h)
        exact g_iret F hr9 (by decide) hl9 hp.1 (by rw [hp.2]) (by decide) (by decide) dX9_twoHoldAll_37
      · refine g_aload_n (i := 0) F dX9_twoHoldAll_17 rfl rfl ?_
        refine g_aload_n (i := 1) F dX9_twoHoldAll_18 rfl rfl ?_
        refine g_iload (i := 4) F dX9_twoHoldAll_19 rfl ?_
        refine g_iload_n (i := 3) F dX9_twoHoldAll_21 rfl rfl ?_
        obtain ⟨v4, X3, e5, h⟩ := bd2_at h
        refine g_callVI F (mcR := 0) (msR := 0) (id := 0) (cells_at (kd_lit (i := 0) (by decide)) (xc_9 rfl)) (ci := 9) rfl rfl rfl (c_X9_twoHold G0 e5) wd_39_19 wd_39_16 wd_39_17 wd_39_18 wd_1_2 ⟨by decide, by decide⟩ (nn := 3) (by decide) (As := [.ref (ev 0 + l1f6), .int l4, .int l3f6]) rfl rfl (Nat.le_of_ble_eq_true rfl) (by decide) (by decide) ⟨by decide, by decide⟩ dX9_twoHoldAll_22 ?_
        refine g_if_ne (tgt := 30) F dX9_twoHoldAll_25 (by decide) h (fun a6 h => ?_) (fun a6 h => ?_)
        · refine g_iinc (i := 4) (v := (l4 + (1 : Int32))) (lv' := [(4, .int (l4 + (1 : Int32))), (0, .ref (ev 0 + 0)), (1, .ref (ev 0 + l1f6)), (2, .int l2f6), (3, .int l3f6)]) F dX9_twoHoldAll_30 rfl rfl (by decide) rfl ?_
          refine g_goto (tgt := 6) F dX9_twoHoldAll_33 (by decide) ?_
          refine g_lv (lv' := [(0, .ref (ev 0 + 0)), (1, .ref (ev 0 + l1f6)), (2, .int l2f6), (3, .int l3f6), (4, .int (l4 + (1 : Int32)))]) ⟨rfl, rfl, rfl, rfl, rfl, trivial⟩ ?_
          exact ih6 _ _ h
        · refine g_iconst F dX9_twoHoldAll_28 (v := 0) (by decide) ?_
          have hp := Prod.mk.inj (Option.some.inj h)
          exact g_iret F hr9 (by decide) hl9 hp.1 (by rw [hp.2]) (by decide) (by decide) dX9_twoHoldAll_29
  rw [fX9_twoHoldAll] at h
  refine g_lv (lv' := [(0, .ref (ev 0 + 0)), (1, .ref (ev 0 + l1)), (2, .int l2), (3, .int l3)]) ⟨rfl, rfl, rfl, rfl, trivial⟩ ?_
  refine g_aload_n (i := 0) F dX9_twoHoldAll_0 rfl rfl ?_
  refine g_get_9_11 F rfl (kd_lit (by decide)) wd_2_19 dX9_twoHoldAll_1 ?_
  refine g_topi F h (fun v1 e2 h => ?_)
  refine g_istore (i := 4) (lv' := [(4, .int v1), (0, .ref (ev 0 + 0)), (1, .ref (ev 0 + l1)), (2, .int l2), (3, .int l3)]) F dX9_twoHoldAll_4 (by decide) rfl ?_
  refine g_lv (lv' := [(0, .ref (ev 0 + 0)), (1, .ref (ev 0 + l1)), (2, .int l2), (3, .int l3), (4, .int v1)]) ⟨rfl, rfl, rfl, rfl, rfl, trivial⟩ ?_
  exact L6 _ _ _ FU _ _ h
def fX9_angle_l32 (nb : Nat) (l2f32 : Int32) (l3f32 : Option Nat) (K32 : XW → Int32 → Option (Int32 × XW)) (X : XW) (l5 : Int32) : Option (Int32 × XW) :=
  if l5 < 0 then some ((-1 : Int32), X)
  else (l3f32).bind fun b9 =>
  bd2 (fX9_twoHoldAll X nb b9 l2f32 l5) fun v12 X11 =>
  if v12 = 0 then K32 X11 (l5 + (-1 : Int32))
  else some (l5, X11)
def fX9_angle (X : XW) (nb : Nat) (l1 : Int32) (l2 : Int32) : Option (Int32 × XW) :=
  (fX9_boatOf X l1).bind fun r1 =>
  (fX9_refusal X nb r1 (fX9_isNight X l2)).bind fun v5 =>
  oc r1 (some (v5, X)) (fun b7 => if v5 = 0 then lo2 (fX9_angle_l32 nb l2 (some b7)) FU X (3 : Int32)
  else some (v5, X))
set_option maxRecDepth 100000 in
set_option maxHeartbeats 4000000 in
theorem c_X9_angle {l : Launch} {s0 : State} {D : va_G} {ev : Nat → Nat} (G0 : Gl s0 D ev) {X : XW} {M : MW} {nb : Nat} {l1 : Int32} {l2 : Int32} {r' : Int32} {X' : XW}  (h : fX9_angle X nb l1 l2 = some (r', X')) : CT l s0 D ev yX9_angle cX9_angle 6 (some .int) 7 0 0 [.ref (ev 0 + 0), .int l1, .int l2] (cells ev X M nb) (QI s0 D ev r' (cells ev X' M nb)) := by
  refine ct_of G0 (by decide) (Nat.le_of_ble_eq_true rfl) ?_
  intro p9 e9 s9 m9 args9 below9 meth9 c9 F hr9 hl9 hin9 hargs9 hts9
  have L32 : ∀ (l2f32 : Int32) (l3f32 : Option Nat) (N32 : Nat) (X : XW) (l5 : Int32), lo2 (fX9_angle_l32 nb l2f32 l3f32) N32 X l5 = some (r', X') → GJ p9 l e9 (rg 7 0 0) s9 m9 args9 below9 meth9 c9 (MQ below9 (QI s0 D ev r' (cells ev X' M nb)) args9 s9 0 0 (frA ev)) s0 D ev 6 0 0 32 [(0, .ref (ev 0 + 0)), (2, .int l2f32), (3, zr ev l3f32), (5, .int l5)] ([]) (cells ev X M nb) := by
    intro l2f32 l3f32 N32
    induction N32 with
    | zero => intro X l5 h; cases h
    | succ N32 ih32 =>
      intro X l5 h
      change fX9_angle_l32 nb l2f32 l3f32 (lo2 (fX9_angle_l32 nb l2f32 l3f32) N32) X l5 = some (r', X') at h
      rw [fX9_angle_l32] at h
      refine g_iload (i := 5) F dX9_angle_32 rfl ?_
      refine g_if_lt (tgt := 57) F dX9_angle_34 (by decide) h (fun a15 h => ?_) (fun a15 h => ?_)
      · refine g_iconst F dX9_angle_57 (v := -1) (by decide) ?_
        have hp := Prod.mk.inj (Option.some.inj h)
        exact g_iret F hr9 rfl hl9 hp.1 (by rw [hp.2]) (by decide) (by decide) dX9_angle_58
      · refine g_aload_n (i := 0) F dX9_angle_37 rfl rfl ?_
        refine g_zaload_n (i := 3) F dX9_angle_38 rfl rfl ?_
        refine g_iload_n (i := 2) F dX9_angle_39 rfl rfl ?_
        refine g_iload (i := 5) F dX9_angle_40 rfl ?_
        obtain ⟨b9, e10, h⟩ := bind_at h
        rw [e10]
        obtain ⟨v12, X11, e13, h⟩ := bd2_at h
        refine g_callVI F (mcR := 0) (msR := 0) (id := 0) (cells_at (kd_lit (i := 0) (by decide)) (xc_9 rfl)) (ci := 9) rfl rfl rfl (c_X9_twoHoldAll G0 e13) wd_40_15 wd_40_12 wd_40_13 wd_40_14 wd_1_2 ⟨by decide, by decide⟩ (nn := 3) (by decide) (As := [.ref (ev 0 + b9), .int l2f32, .int l5]) rfl rfl (Nat.le_of_ble_eq_true rfl) (by decide) (by decide) ⟨by decide, by decide⟩ dX9_angle_42 ?_
        refine g_if_eq (tgt := 51) F dX9_angle_45 (by decide) h (fun a14 h => ?_) (fun a14 h => ?_)
        · refine g_iinc (i := 5) (v := (l5 + (-1 : Int32))) (lv' := [(5, .int (l5 + (-1 : Int32))), (0, .ref (ev 0 + 0)), (2, .int l2f32), (3, .ref (ev 0 + b9))]) F dX9_angle_51 rfl rfl (by decide) rfl ?_
          refine g_goto (tgt := 32) F dX9_angle_54 (by decide) ?_
          refine g_lv (lv' := [(0, .ref (ev 0 + 0)), (2, .int l2f32), (3, zr ev l3f32), (5, .int (l5 + (-1 : Int32)))]) ⟨rfl, rfl, (by rw [e10]; rfl), rfl, trivial⟩ ?_
          exact ih32 _ _ h
        · refine g_iload (i := 5) F dX9_angle_48 rfl ?_
          have hp := Prod.mk.inj (Option.some.inj h)
          exact g_iret F hr9 rfl hl9 hp.1 (by rw [hp.2]) (by decide) (by decide) dX9_angle_50
  rw [fX9_angle] at h
  refine g_lv (lv' := [(0, .ref (ev 0 + 0)), (1, .int l1), (2, .int l2)]) ⟨rfl, rfl, rfl, trivial⟩ ?_
  refine g_aload_n (i := 0) F dX9_angle_0 rfl rfl ?_
  refine g_iload_n (i := 1) F dX9_angle_1 rfl rfl ?_
  obtain ⟨r1, e2, h⟩ := bind_at h
  refine g_callVR F (mcR := 0) (msR := 0) (id := 0) (cells_at (kd_lit (i := 0) (by decide)) (xc_9 rfl)) (ci := 9) rfl rfl rfl (c_X9_boatOf G0 e2) wd_22_23 wd_22_20 wd_22_21 wd_22_22 wd_1_2 ⟨by decide, by decide⟩ (nn := 1) (by decide) (As := [.int l1]) rfl rfl (Nat.le_of_ble_eq_true rfl) (by decide) (by decide) ⟨by decide, by decide⟩ dX9_angle_2 ?_
  refine g_zastore_n (i := 3) (lv' := [(3, zr ev r1), (0, .ref (ev 0 + 0)), (1, .int l1), (2, .int l2)]) F dX9_angle_5 rfl (by decide) rfl ?_
  refine g_zaload_n (i := 3) F dX9_angle_6 rfl rfl ?_
  refine g_aload_n (i := 0) F dX9_angle_7 rfl rfl ?_
  refine g_iload_n (i := 2) F dX9_angle_8 rfl rfl ?_
  refine g_callVI F (mcR := 0) (msR := 0) (id := 0) (cells_at (kd_lit (i := 0) (by decide)) (xc_9 rfl)) (ci := 9) rfl rfl rfl (c_X9_isNight G0 (X := X) (M := M) (nb := nb) rfl) wd_27_7 wd_27_4 wd_27_5 wd_27_6 wd_1_2 ⟨by decide, by decide⟩ (nn := 1) (by decide) (As := [.int l2]) rfl rfl (by cases r1 <;> exact (Nat.le_of_ble_eq_true rfl)) (by decide) (by decide) ⟨by decide, by decide⟩ dX9_angle_9 ?_
  obtain ⟨v5, e6, h⟩ := bind_at h
  refine g_callSI F (mcR := 0) (msR := 0) (c_X9_refusal G0 e6) wd_24_2 wd_24_0 wd_24_1 wd_1_2 ⟨by decide, by decide⟩ (nn := 2) (by decide) (As := [zr ev r1, .int (fX9_isNight X l2)]) rfl rfl (Nat.le_of_ble_eq_true rfl) (by decide) (by decide) ⟨by decide, by decide⟩ dX9_angle_12 ?_
  refine g_istore (i := 4) (lv' := [(4, .int v5), (3, zr ev r1), (0, .ref (ev 0 + 0)), (1, .int l1), (2, .int l2)]) F dX9_angle_15 (by decide) (by cases r1 <;> exact rfl) ?_
  refine g_zaload_n (i := 3) F dX9_angle_17 rfl rfl ?_
  rcases oc_at h with ⟨e8, h⟩ | ⟨b7, e8, h⟩
  · rw [e8]
    refine g_ifnN (tgt := 26) F dX9_angle_18 (by decide) ?_
    refine g_iload (i := 4) F dX9_angle_26 rfl ?_
    have hp := Prod.mk.inj (Option.some.inj h)
    exact g_iret F hr9 rfl hl9 hp.1 (by rw [hp.2]) (by decide) (by decide) dX9_angle_28
  · rw [e8]
    refine g_ifn F dX9_angle_18 ?_
    refine g_iload (i := 4) F dX9_angle_21 rfl ?_
    refine g_if_eq (tgt := 29) F dX9_angle_23 (by decide) h (fun a16 h => ?_) (fun a16 h => ?_)
    · refine g_iconst F dX9_angle_29 (v := 3) (by decide) ?_
      refine g_istore (i := 5) (lv' := [(5, .int (3 : Int32)), (4, .int v5), (3, .ref (ev 0 + b7)), (0, .ref (ev 0 + 0)), (1, .int l1), (2, .int l2)]) F dX9_angle_30 (by decide) rfl ?_
      refine g_lv (lv' := [(0, .ref (ev 0 + 0)), (2, .int l2), (3, zr ev (some b7)), (5, .int (3 : Int32))]) ⟨rfl, rfl, rfl, rfl, trivial⟩ ?_
      exact L32 _ _ FU _ _ h
    · refine g_iload (i := 4) F dX9_angle_26 rfl ?_
      have hp := Prod.mk.inj (Option.some.inj h)
      exact g_iret F hr9 rfl hl9 hp.1 (by rw [hp.2]) (by decide) (by decide) dX9_angle_28
def fX9_turns_l44 (nb : Nat) (l2f44 : Int32) (l3f44 : Option Nat) (K44 : XW → Int64 → Int32 → Option (Int64 × XW)) (X : XW) (l4 : Int64) (l6 : Int32) : Option (Int64 × XW) :=
  if ((X.1 0 11) + l2f44) ≤ l6 then some (l4, X)
  else (fX0_turnIn X l6).bind fun v12 =>
  if v12 < (3 : Int32) then K44 X l4 (l6 + (1 : Int32))
  else (l3f44).bind fun b14 =>
  if NS ≤ b14 ∧ b14 < TT nb then bd2 (fX7_jerkOn X nb b14 (X.1 b14 4) (X.1 b14 5) l6) fun v18 X17 =>
  bd ((l4 * ((100 : Int32) - v18).toInt64) / (100 : Int64)) fun v20 =>
  K44 X17 v20 (l6 + (1 : Int32)) else none
def fX9_turns (X : XW) (nb : Nat) (l1 : Int32) (l2 : Int32) : Option (Int64 × XW) :=
  (fX9_boatOf X l1).bind fun r1 =>
  oc r1 (some ((-4611686018427387904 : Int64), X)) (fun b3 => if (fX9_isNight X l2) = 0 then some ((-4611686018427387904 : Int64), X)
  else if NS ≤ b3 ∧ b3 < TT nb then (fX1_isGone X nb b3).bind fun v8 =>
  if v8 = 0 then bd (X.1 0 11) fun v10 =>
  lo3 (fX9_turns_l44 nb l2 (some b3)) FU X (1000000 : Int64) v10
  else some ((-3 : Int64), X) else none)
set_option maxRecDepth 100000 in
set_option maxHeartbeats 4000000 in
theorem c_X9_turns {l : Launch} {s0 : State} {D : va_G} {ev : Nat → Nat} (G0 : Gl s0 D ev) {X : XW} {M : MW} {nb : Nat} {l1 : Int32} {l2 : Int32} {r' : Int64} {X' : XW}  (h : fX9_turns X nb l1 l2 = some (r', X')) : CT l s0 D ev yX9_turns cX9_turns 7 (some .long) 4 0 0 [.ref (ev 0 + 0), .int l1, .int l2] (cells ev X M nb) (QL s0 D ev r' (cells ev X' M nb)) := by
  refine ct_of G0 (by decide) (Nat.le_of_ble_eq_true rfl) ?_
  intro p9 e9 s9 m9 args9 below9 meth9 c9 F hr9 hl9 hin9 hargs9 hts9
  have L44 : ∀ (l2f44 : Int32) (l3f44 : Option Nat) (N44 : Nat) (X : XW) (l4 : Int64) (l6 : Int32), lo3 (fX9_turns_l44 nb l2f44 l3f44) N44 X l4 l6 = some (r', X') → GJ p9 l e9 (rg 4 0 0) s9 m9 args9 below9 meth9 c9 (MQ below9 (QL s0 D ev r' (cells ev X' M nb)) args9 s9 0 0 (frA ev)) s0 D ev 7 0 0 44 [(0, .ref (ev 0 + 0)), (2, .int l2f44), (3, zr ev l3f44), (4, .long l4), (6, .int l6)] ([]) (cells ev X M nb) := by
    intro l2f44 l3f44 N44
    induction N44 with
    | zero => intro X l4 l6 h; cases h
    | succ N44 ih44 =>
      intro X l4 l6 h
      change fX9_turns_l44 nb l2f44 l3f44 (lo3 (fX9_turns_l44 nb l2f44 l3f44) N44) X l4 l6 = some (r', X') at h
      rw [fX9_turns_l44] at h
      refine g_iload (i := 6) F dX9_turns_44 rfl ?_
      refine g_aload_n (i := 0) F dX9_turns_46 rfl rfl ?_
      refine g_get_9_11 F rfl (kd_lit (by decide)) wd_2_19 dX9_turns_47 ?_
      refine g_iload_n (i := 2) F dX9_turns_50 rfl rfl ?_
      refine g_iadd F dX9_turns_51 ?_
      refine g_icmp_ge (tgt := 105) F dX9_turns_52 (by decide) h (fun a23 h => ?_) (fun a23 h => ?_)
      · refine g_lload (i := 4) F dX9_turns_105 rfl ?_
        have hp := Prod.mk.inj (Option.some.inj h)
        exact g_lret F hr9 hl9 hp.1 (by rw [hp.2]) (by decide) (by decide) dX9_turns_107
      · refine g_aload_n (i := 0) F dX9_turns_55 rfl rfl ?_
        refine g_get_9_0 F rfl (kd_lit (by decide)) wd_1_15 dX9_turns_56 ?_
        refine g_iload (i := 6) F dX9_turns_59 rfl ?_
        obtain ⟨v12, e13, h⟩ := bind_at h
        refine g_callVI F (mcR := 0) (msR := 0) (id := 1) (cells_at (kd_lit (i := 1) (by decide)) (xc_0 rfl)) (ci := 0) rfl rfl rfl (c_X0_turnIn G0 e13) wd_28_4 wd_41_4 wd_28_2 wd_28_3 wd_1_14 ⟨by decide, by decide⟩ (nn := 1) (by decide) (As := [.int l6]) rfl rfl (Nat.le_of_ble_eq_true rfl) (by decide) (by decide) ⟨by decide, by decide⟩ dX9_turns_61 ?_
        refine g_iconst F dX9_turns_64 (v := 3) (by decide) ?_
        refine g_icmp_lt (tgt := 99) F dX9_turns_65 (by decide) h (fun a22 h => ?_) (fun a22 h => ?_)
        · refine g_iinc (i := 6) (v := (l6 + (1 : Int32))) (lv' := [(6, .int (l6 + (1 : Int32))), (0, .ref (ev 0 + 0)), (2, .int l2f44), (3, zr ev l3f44), (4, .long l4)]) F dX9_turns_99 rfl rfl (by decide) rfl ?_
          refine g_goto (tgt := 44) F dX9_turns_102 (by decide) ?_
          refine g_lv (lv' := [(0, .ref (ev 0 + 0)), (2, .int l2f44), (3, zr ev l3f44), (4, .long l4), (6, .int (l6 + (1 : Int32)))]) ⟨rfl, rfl, rfl, rfl, rfl, trivial⟩ ?_
          exact ih44 _ _ _ h
        · refine g_lload (i := 4) F dX9_turns_68 rfl ?_
          refine g_bipush F dX9_turns_70 (v := 100) (by decide) ?_
          refine g_aload_n (i := 0) F dX9_turns_72 rfl rfl ?_
          refine g_get_9_3 F rfl (kd_lit (by decide)) wd_2_1 dX9_turns_73 ?_
          refine g_zaload_n (i := 3) F dX9_turns_76 rfl rfl ?_
          refine g_zaload_n (i := 3) F dX9_turns_77 rfl rfl ?_
          obtain ⟨b14, e15, h⟩ := bind_at h
          rw [e15]
          obtain ⟨h16, h⟩ := if_at h
          refine g_get_1_4 F (kd_b h16) h16.2 wd_22_18 dX9_turns_78 ?_
          refine g_aload_n (i := 3) F dX9_turns_81 rfl rfl ?_
          refine g_get_1_5 F (kd_b h16) h16.2 wd_22_19 dX9_turns_82 ?_
          refine g_iload (i := 6) F dX9_turns_85 rfl ?_
          obtain ⟨v18, X17, e19, h⟩ := bd2_at h
          refine g_callVI F (mcR := 0) (msR := 0) (id := 10) (cells_at (kd_lit (i := 10) (by decide)) (xc_7 rfl)) (ci := 7) rfl rfl rfl (c_X7_jerkOn G0 e19) wd_41_8 wd_41_5 wd_41_6 wd_41_7 wd_2_0 ⟨by decide, by decide⟩ (nn := 4) (by decide) (As := [.ref (ev 0 + b14), .int (X.1 b14 4), .int (X.1 b14 5), .int l6]) rfl rfl (Nat.le_of_ble_eq_true rfl) (by decide) (by decide) ⟨by decide, by decide⟩ dX9_turns_87 ?_
          refine g_isub F dX9_turns_90 ?_
          refine g_i2l F dX9_turns_91 ?_
          refine g_lmul F dX9_turns_92 ?_
          refine g_ldc2 F dX9_turns_93 wd_41_3 ?_
          refine g_ldiv F dX9_turns_96 (by decide) ?_
          refine g_topl F h (fun v20 e21 h => ?_)
          refine g_lstore (i := 4) (lv' := [(4, .long v20), (0, .ref (ev 0 + 0)), (2, .int l2f44), (3, .ref (ev 0 + b14)), (6, .int l6)]) F dX9_turns_97 (by decide) rfl ?_
          refine g_iinc (i := 6) (v := (l6 + (1 : Int32))) (lv' := [(6, .int (l6 + (1 : Int32))), (4, .long v20), (0, .ref (ev 0 + 0)), (2, .int l2f44), (3, .ref (ev 0 + b14))]) F dX9_turns_99 rfl rfl (by decide) rfl ?_
          refine g_goto (tgt := 44) F dX9_turns_102 (by decide) ?_
          refine g_lv (lv' := [(0, .ref (ev 0 + 0)), (2, .int l2f44), (3, zr ev l3f44), (4, .long v20), (6, .int (l6 + (1 : Int32)))]) ⟨rfl, rfl, (by rw [e15]; rfl), rfl, rfl, trivial⟩ ?_
          exact ih44 _ _ _ h
  rw [fX9_turns] at h
  refine g_lv (lv' := [(0, .ref (ev 0 + 0)), (1, .int l1), (2, .int l2)]) ⟨rfl, rfl, rfl, trivial⟩ ?_
  refine g_aload_n (i := 0) F dX9_turns_0 rfl rfl ?_
  refine g_iload_n (i := 1) F dX9_turns_1 rfl rfl ?_
  obtain ⟨r1, e2, h⟩ := bind_at h
  refine g_callVR F (mcR := 0) (msR := 0) (id := 0) (cells_at (kd_lit (i := 0) (by decide)) (xc_9 rfl)) (ci := 9) rfl rfl rfl (c_X9_boatOf G0 e2) wd_22_23 wd_22_20 wd_22_21 wd_22_22 wd_1_2 ⟨by decide, by decide⟩ (nn := 1) (by decide) (As := [.int l1]) rfl rfl (Nat.le_of_ble_eq_true rfl) (by decide) (by decide) ⟨by decide, by decide⟩ dX9_turns_2 ?_
  refine g_zastore_n (i := 3) (lv' := [(3, zr ev r1), (0, .ref (ev 0 + 0)), (1, .int l1), (2, .int l2)]) F dX9_turns_5 rfl (by decide) rfl ?_
  refine g_zaload_n (i := 3) F dX9_turns_6 rfl rfl ?_
  rcases oc_at h with ⟨e4, h⟩ | ⟨b3, e4, h⟩
  · rw [e4]
    refine g_ifnN (tgt := 18) F dX9_turns_7 (by decide) ?_
    refine g_ldc2 F dX9_turns_18 wd_41_0 ?_
    have hp := Prod.mk.inj (Option.some.inj h)
    exact g_lret F hr9 hl9 hp.1 (by rw [hp.2]) (by decide) (by decide) dX9_turns_21
  · rw [e4]
    refine g_ifn F dX9_turns_7 ?_
    refine g_aload_n (i := 0) F dX9_turns_10 rfl rfl ?_
    refine g_iload_n (i := 2) F dX9_turns_11 rfl rfl ?_
    refine g_callVI F (mcR := 0) (msR := 0) (id := 0) (cells_at (kd_lit (i := 0) (by decide)) (xc_9 rfl)) (ci := 9) rfl rfl rfl (c_X9_isNight G0 (X := X) (M := M) (nb := nb) rfl) wd_27_7 wd_27_4 wd_27_5 wd_27_6 wd_1_2 ⟨by decide, by decide⟩ (nn := 1) (by decide) (As := [.int l2]) rfl rfl (Nat.le_of_ble_eq_true rfl) (by decide) (by decide) ⟨by decide, by decide⟩ dX9_turns_12 ?_
    refine g_if_ne (tgt := 22) F dX9_turns_15 (by decide) h (fun a25 h => ?_) (fun a25 h => ?_)
    · refine g_aload_n (i := 3) F dX9_turns_22 rfl rfl ?_
      obtain ⟨h7, h⟩ := if_at h
      obtain ⟨v8, e9, h⟩ := bind_at h
      refine g_callVI F (mcR := 0) (msR := 0) (id := b3) (cells_at h7.2 (xc_1 (kd_b h7))) (ci := 1) rfl rfl rfl (c_X1_isGone G0 e9) wd_24_6 wd_24_3 wd_24_4 wd_24_5 wd_21_23 ⟨by decide, by decide⟩ (nn := 0) (by decide) (As := []) rfl rfl (Nat.le_of_ble_eq_true rfl) (by decide) (by decide) ⟨by decide, by decide⟩ dX9_turns_23 ?_
      refine g_if_eq (tgt := 33) F dX9_turns_26 (by decide) h (fun a24 h => ?_) (fun a24 h => ?_)
      · refine g_ldc2 F dX9_turns_33 wd_41_2 ?_
        refine g_lstore (i := 4) (lv' := [(4, .long (1000000 : Int64)), (3, .ref (ev 0 + b3)), (0, .ref (ev 0 + 0)), (1, .int l1), (2, .int l2)]) F dX9_turns_36 (by decide) rfl ?_
        refine g_aload_n (i := 0) F dX9_turns_38 rfl rfl ?_
        refine g_get_9_11 F rfl (kd_lit (by decide)) wd_2_19 dX9_turns_39 ?_
        refine g_topi F h (fun v10 e11 h => ?_)
        refine g_istore (i := 6) (lv' := [(6, .int v10), (4, .long (1000000 : Int64)), (3, .ref (ev 0 + b3)), (0, .ref (ev 0 + 0)), (1, .int l1), (2, .int l2)]) F dX9_turns_42 (by decide) rfl ?_
        refine g_lv (lv' := [(0, .ref (ev 0 + 0)), (2, .int l2), (3, zr ev (some b3)), (4, .long (1000000 : Int64)), (6, .int v10)]) ⟨rfl, rfl, rfl, rfl, rfl, trivial⟩ ?_
        exact L44 _ _ FU _ _ _ h
      · refine g_ldc2 F dX9_turns_29 wd_41_1 ?_
        have hp := Prod.mk.inj (Option.some.inj h)
        exact g_lret F hr9 hl9 hp.1 (by rw [hp.2]) (by decide) (by decide) dX9_turns_32
    · refine g_ldc2 F dX9_turns_18 wd_41_0 ?_
      have hp := Prod.mk.inj (Option.some.inj h)
      exact g_lret F hr9 hl9 hp.1 (by rw [hp.2]) (by decide) (by decide) dX9_turns_21
def fX9_trial (X : XW) (l1 : Int32) (l2 : Int32) (l3 : Int32) (l4 : Int32) : Option (Int32 × XW) :=
  if (fX9_isFormIn l1 l2) = 0 then some ((-1 : Int32), X)
  else if (fX9_within l4 (1 : Int32) (99 : Int32)) = 0 then some ((-2 : Int32), X)
  else if (fX9_within l3 (0 : Int32) l4) = 0 then some ((-2 : Int32), X)
  else bd (((4 : Int32) * l1) + l2) fun v7 =>
  (rd (X.2.1 19) 20 v7).bind fun v9 =>
  if (v9 + l4) ≤ (9999 : Int32) then (rd (X.2.1 19) 20 v7).bind fun v11 =>
  if inb v7 20 then bd (xA X 19 v7 (v11 + l4)) fun X14 =>
  (rd (X14.2.1 18) 20 v7).bind fun v16 =>
  if inb v7 20 then bd (xA X14 18 v7 (v16 + l3)) fun X19 =>
  (rd (X19.2.1 19) 20 v7).bind fun v21 =>
  some (v21, X19)
  else none
  else none
  else some ((-4 : Int32), X)
set_option maxRecDepth 100000 in
set_option maxHeartbeats 4000000 in
theorem c_X9_trial {l : Launch} {s0 : State} {D : va_G} {ev : Nat → Nat} (G0 : Gl s0 D ev) {X : XW} {M : MW} {nb : Nat} {l1 : Int32} {l2 : Int32} {l3 : Int32} {l4 : Int32} {r' : Int32} {X' : XW}  (h : fX9_trial X l1 l2 l3 l4 = some (r', X')) : CT l s0 D ev yX9_trial cX9_trial 6 (some .int) 2 0 0 [.ref (ev 0 + 0), .int l1, .int l2, .int l3, .int l4] (cells ev X M nb) (QI s0 D ev r' (cells ev X' M nb)) := by
  refine ct_of G0 (by decide) (Nat.le_of_ble_eq_true rfl) ?_
  intro p9 e9 s9 m9 args9 below9 meth9 c9 F hr9 hl9 hin9 hargs9 hts9
  rw [fX9_trial] at h
  refine g_lv (lv' := [(0, .ref (ev 0 + 0)), (1, .int l1), (2, .int l2), (3, .int l3), (4, .int l4)]) ⟨rfl, rfl, rfl, rfl, rfl, trivial⟩ ?_
  refine g_iload_n (i := 1) F dX9_trial_0 rfl rfl ?_
  refine g_iload_n (i := 2) F dX9_trial_1 rfl rfl ?_
  refine g_callSI F (mcR := 0) (msR := 0) (c_X9_isFormIn G0 (X := X) (M := M) (nb := nb) rfl) wd_42_1 wd_41_23 wd_42_0 wd_1_2 ⟨by decide, by decide⟩ (nn := 2) (by decide) (As := [.int l1, .int l2]) rfl rfl (Nat.le_of_ble_eq_true rfl) (by decide) (by decide) ⟨by decide, by decide⟩ dX9_trial_2 ?_
  refine g_if_ne (tgt := 10) F dX9_trial_5 (by decide) h (fun a26 h => ?_) (fun a26 h => ?_)
  · refine g_iload (i := 4) F dX9_trial_10 rfl ?_
    refine g_iconst F dX9_trial_12 (v := 1) (by decide) ?_
    refine g_bipush F dX9_trial_13 (v := 99) (by decide) ?_
    refine g_callSI F (mcR := 0) (msR := 0) (c_X9_within G0 (X := X) (M := M) (nb := nb) rfl) wd_9_7 wd_15_21 wd_9_6 wd_1_2 ⟨by decide, by decide⟩ (nn := 3) (by decide) (As := [.int l4, .int (1 : Int32), .int (99 : Int32)]) rfl rfl (Nat.le_of_ble_eq_true rfl) (by decide) (by decide) ⟨by decide, by decide⟩ dX9_trial_15 ?_
    refine g_if_eq (tgt := 31) F dX9_trial_18 (by decide) h (fun a25 h => ?_) (fun a25 h => ?_)
    · refine g_bipush F dX9_trial_31 (v := -2) (by decide) ?_
      have hp := Prod.mk.inj (Option.some.inj h)
      exact g_iret F hr9 rfl hl9 hp.1 (by rw [hp.2]) (by decide) (by decide) dX9_trial_33
    · refine g_iload_n (i := 3) F dX9_trial_21 rfl rfl ?_
      refine g_iconst F dX9_trial_22 (v := 0) (by decide) ?_
      refine g_iload (i := 4) F dX9_trial_23 rfl ?_
      refine g_callSI F (mcR := 0) (msR := 0) (c_X9_within G0 (X := X) (M := M) (nb := nb) rfl) wd_9_7 wd_15_21 wd_9_6 wd_1_2 ⟨by decide, by decide⟩ (nn := 3) (by decide) (As := [.int l3, .int (0 : Int32), .int l4]) rfl rfl (Nat.le_of_ble_eq_true rfl) (by decide) (by decide) ⟨by decide, by decide⟩ dX9_trial_25 ?_
      refine g_if_ne (tgt := 34) F dX9_trial_28 (by decide) h (fun a24 h => ?_) (fun a24 h => ?_)
      · refine g_iconst F dX9_trial_34 (v := 4) (by decide) ?_
        refine g_iload_n (i := 1) F dX9_trial_35 rfl rfl ?_
        refine g_imul F dX9_trial_36 ?_
        refine g_iload_n (i := 2) F dX9_trial_37 rfl rfl ?_
        refine g_iadd F dX9_trial_38 ?_
        refine g_topi F h (fun v7 e8 h => ?_)
        refine g_istore (i := 5) (lv' := [(5, .int v7), (0, .ref (ev 0 + 0)), (1, .int l1), (2, .int l2), (3, .int l3), (4, .int l4)]) F dX9_trial_39 (by decide) rfl ?_
        refine g_aload_n (i := 0) F dX9_trial_41 rfl rfl ?_
        refine g_get_9_8 F rfl (kd_lit (by decide)) wd_2_12 dX9_trial_42 ?_
        refine g_get_3_1 F rfl (kd_lit (by decide)) wd_41_21 dX9_trial_45 ?_
        refine g_iload (i := 5) F dX9_trial_48 rfl ?_
        obtain ⟨v9, e10, h⟩ := bind_at h
        refine g_ildX F rfl rfl e10 dX9_trial_50 ?_
        refine g_iload (i := 4) F dX9_trial_51 rfl ?_
        refine g_iadd F dX9_trial_53 ?_
        refine g_sipush F dX9_trial_54 (v := 9999) (by decide) ?_
        refine g_icmp_le (tgt := 63) F dX9_trial_57 (by decide) h (fun a23 h => ?_) (fun a23 h => ?_)
        · refine g_aload_n (i := 0) F dX9_trial_63 rfl rfl ?_
          refine g_get_9_8 F rfl (kd_lit (by decide)) wd_2_12 dX9_trial_64 ?_
          refine g_get_3_1 F rfl (kd_lit (by decide)) wd_41_21 dX9_trial_67 ?_
          refine g_iload (i := 5) F dX9_trial_70 rfl ?_
          refine g_dup2 F dX9_trial_72 rfl rfl ?_
          obtain ⟨v11, e12, h⟩ := bind_at h
          refine g_ildX F rfl rfl e12 dX9_trial_73 ?_
          refine g_iload (i := 4) F dX9_trial_74 rfl ?_
          refine g_iadd F dX9_trial_76 ?_
          obtain ⟨h13, h⟩ := if_at h
          obtain ⟨X14, e15, h⟩ := bd_at h
          refine g_istX F rfl rfl h13 dX9_trial_77 ?_
          rw [← e15]
          refine g_aload_n (i := 0) F dX9_trial_78 rfl rfl ?_
          refine g_get_9_8 F rfl (kd_lit (by decide)) wd_2_12 dX9_trial_79 ?_
          refine g_get_3_0 F rfl (kd_lit (by decide)) wd_41_22 dX9_trial_82 ?_
          refine g_iload (i := 5) F dX9_trial_85 rfl ?_
          refine g_dup2 F dX9_trial_87 rfl rfl ?_
          obtain ⟨v16, e17, h⟩ := bind_at h
          refine g_ildX F rfl rfl e17 dX9_trial_88 ?_
          refine g_iload_n (i := 3) F dX9_trial_89 rfl rfl ?_
          refine g_iadd F dX9_trial_90 ?_
          obtain ⟨h18, h⟩ := if_at h
          obtain ⟨X19, e20, h⟩ := bd_at h
          refine g_istX F rfl rfl h18 dX9_trial_91 ?_
          rw [← e20]
          refine g_aload_n (i := 0) F dX9_trial_92 rfl rfl ?_
          refine g_get_9_8 F rfl (kd_lit (by decide)) wd_2_12 dX9_trial_93 ?_
          refine g_get_3_1 F rfl (kd_lit (by decide)) wd_41_21 dX9_trial_96 ?_
          refine g_iload (i := 5) F dX9_trial_99 rfl ?_
          obtain ⟨v21, e22, h⟩ := bind_at h
          refine g_ildX F rfl rfl e22 dX9_trial_101 ?_
          have hp := Prod.mk.inj (Option.some.inj h)
          exact g_iret F hr9 rfl hl9 hp.1 (by rw [hp.2]) (by decide) (by decide) dX9_trial_102
        · refine g_bipush F dX9_trial_60 (v := -4) (by decide) ?_
          have hp := Prod.mk.inj (Option.some.inj h)
          exact g_iret F hr9 rfl hl9 hp.1 (by rw [hp.2]) (by decide) (by decide) dX9_trial_62
      · refine g_bipush F dX9_trial_31 (v := -2) (by decide) ?_
        have hp := Prod.mk.inj (Option.some.inj h)
        exact g_iret F hr9 rfl hl9 hp.1 (by rw [hp.2]) (by decide) (by decide) dX9_trial_33
  · refine g_iconst F dX9_trial_8 (v := -1) (by decide) ?_
    have hp := Prod.mk.inj (Option.some.inj h)
    exact g_iret F hr9 rfl hl9 hp.1 (by rw [hp.2]) (by decide) (by decide) dX9_trial_9
def fX9_partOf_b48 (l3 : Int32) (t0 : Int32) : Option Int64 :=
  if l3 ≤ 0 then some (t0.toInt64)
  else if l3 = 0 then none else some ((t0 / l3).toInt64)
def fX9_partOf_b39 (l0 : Int32) (l1 : Int32) (l2 : Int32) (l3 : Int32) : Option Int64 :=
  if l2 = 0 then fX9_partOf_b48 l3 l0
  else fX9_partOf_b48 l3 l1
def fX9_partOf_l8 (l0f8 : Int32) (l1f8 : Int32) (l2f8 : Int32) (K8 : Int32 → Int32 → Int32 → Option Int64) (l3 : Int32) (l4 : Int32) (l5 : Int32) : Option Int64 :=
  if (64 : Int32) ≤ l5 then fX9_partOf_b39 l0f8 l1f8 l2f8 l3
  else if l4 = 0 then fX9_partOf_b39 l0f8 l1f8 l2f8 l3
  else if l4 = 0 then none else bd (jrem l3 l4) fun v5 =>
  K8 l4 v5 (l5 + (1 : Int32))
def fX9_partOf (l0 : Int32) (l1 : Int32) (l2 : Int32) : Option Int64 :=
  lo3 (fX9_partOf_l8 l0 l1 l2) FU l0 l1 (0 : Int32)
set_option maxRecDepth 100000 in
set_option maxHeartbeats 4000000 in
theorem c_X9_partOf {l : Launch} {s0 : State} {D : va_G} {ev : Nat → Nat} (G0 : Gl s0 D ev) {X : XW} {M : MW} {nb : Nat} {l0 : Int32} {l1 : Int32} {l2 : Int32} {r' : Int64}  (h : fX9_partOf l0 l1 l2 = some r') : CT l s0 D ev yX9_partOf cX9_partOf 7 (some .long) 0 0 0 [.int l0, .int l1, .int l2] (cells ev X M nb) (QL s0 D ev r' (cells ev X M nb)) := by
  refine ct_of G0 (by decide) (Nat.le_of_ble_eq_true rfl) ?_
  intro p9 e9 s9 m9 args9 below9 meth9 c9 F hr9 hl9 hin9 hargs9 hts9
  have U48 : ∀ (l3 : Int32) (t0 : Int32), fX9_partOf_b48 l3 t0 = some r' → GJ p9 l e9 (rg 0 0 0) s9 m9 args9 below9 meth9 c9 (MQ below9 (QL s0 D ev r' (cells ev X M nb)) args9 s9 0 0 (frA ev)) s0 D ev 7 0 0 48 [(3, .int l3)] (.int t0 :: []) (cells ev X M nb) := by
    intro l3 t0 h
    rw [fX9_partOf_b48] at h
    refine g_istore (i := 5) (lv' := [(5, .int t0), (3, .int l3)]) F dX9_partOf_48 (by decide) rfl ?_
    refine g_iload_n (i := 3) F dX9_partOf_50 rfl rfl ?_
    refine g_if_le (tgt := 62) F dX9_partOf_51 (by decide) h (fun a2 h => ?_) (fun a2 h => ?_)
    · refine g_iload (i := 5) F dX9_partOf_62 rfl ?_
      refine g_i2l F dX9_partOf_64 ?_
      exact g_lret F hr9 hl9 (Option.some.inj h) rfl (by decide) (by decide) dX9_partOf_65
    · refine g_iload (i := 5) F dX9_partOf_54 rfl ?_
      refine g_iload_n (i := 3) F dX9_partOf_56 rfl rfl ?_
      refine ite_at h (fun _ h => by cases h) (fun h1 h => ?_)
      refine g_idiv F dX9_partOf_57 h1 ?_
      refine g_i2l F dX9_partOf_58 ?_
      refine g_goto (tgt := 65) F dX9_partOf_59 (by decide) ?_
      exact g_lret F hr9 hl9 (Option.some.inj h) rfl (by decide) (by decide) dX9_partOf_65
  have U39 : ∀ (l0 : Int32) (l1 : Int32) (l2 : Int32) (l3 : Int32), fX9_partOf_b39 l0 l1 l2 l3 = some r' → GJ p9 l e9 (rg 0 0 0) s9 m9 args9 below9 meth9 c9 (MQ below9 (QL s0 D ev r' (cells ev X M nb)) args9 s9 0 0 (frA ev)) s0 D ev 7 0 0 39 [(0, .int l0), (1, .int l1), (2, .int l2), (3, .int l3)] ([]) (cells ev X M nb) := by
    intro l0 l1 l2 l3 h
    rw [fX9_partOf_b39] at h
    refine g_iload_n (i := 2) F dX9_partOf_39 rfl rfl ?_
    refine g_if_ne (tgt := 47) F dX9_partOf_40 (by decide) h (fun a3 h => ?_) (fun a3 h => ?_)
    · refine g_iload_n (i := 1) F dX9_partOf_47 rfl rfl ?_
      refine g_lv (lv' := [(3, .int l3)]) ⟨rfl, trivial⟩ ?_
      exact U48 _ _ h
    · refine g_iload_n (i := 0) F dX9_partOf_43 rfl rfl ?_
      refine g_goto (tgt := 48) F dX9_partOf_44 (by decide) ?_
      refine g_lv (lv' := [(3, .int l3)]) ⟨rfl, trivial⟩ ?_
      exact U48 _ _ h
  have L8 : ∀ (l0f8 : Int32) (l1f8 : Int32) (l2f8 : Int32) (N8 : Nat) (l3 : Int32) (l4 : Int32) (l5 : Int32), lo3 (fX9_partOf_l8 l0f8 l1f8 l2f8) N8 l3 l4 l5 = some r' → GJ p9 l e9 (rg 0 0 0) s9 m9 args9 below9 meth9 c9 (MQ below9 (QL s0 D ev r' (cells ev X M nb)) args9 s9 0 0 (frA ev)) s0 D ev 7 0 0 8 [(0, .int l0f8), (1, .int l1f8), (2, .int l2f8), (3, .int l3), (4, .int l4), (5, .int l5)] ([]) (cells ev X M nb) := by
    intro l0f8 l1f8 l2f8 N8
    induction N8 with
    | zero => intro l3 l4 l5 h; cases h
    | succ N8 ih8 =>
      intro l3 l4 l5 h
      change fX9_partOf_l8 l0f8 l1f8 l2f8 (lo3 (fX9_partOf_l8 l0f8 l1f8 l2f8) N8) l3 l4 l5 = some r' at h
      rw [fX9_partOf_l8] at h
      refine g_iload (i := 5) F dX9_partOf_8 rfl ?_
      refine g_bipush F dX9_partOf_10 (v := 64) (by decide) ?_
      refine g_icmp_ge (tgt := 39) F dX9_partOf_12 (by decide) h (fun a8 h => ?_) (fun a8 h => ?_)
      · refine g_lv (lv' := [(0, .int l0f8), (1, .int l1f8), (2, .int l2f8), (3, .int l3)]) ⟨rfl, rfl, rfl, rfl, trivial⟩ ?_
        exact U39 _ _ _ _ h
      · refine g_iload (i := 4) F dX9_partOf_15 rfl ?_
        refine g_if_eq (tgt := 39) F dX9_partOf_17 (by decide) h (fun a7 h => ?_) (fun a7 h => ?_)
        · refine g_lv (lv' := [(0, .int l0f8), (1, .int l1f8), (2, .int l2f8), (3, .int l3)]) ⟨rfl, rfl, rfl, rfl, trivial⟩ ?_
          exact U39 _ _ _ _ h
        · refine g_iload_n (i := 3) F dX9_partOf_20 rfl rfl ?_
          refine g_iload (i := 4) F dX9_partOf_21 rfl ?_
          refine ite_at h (fun _ h => by cases h) (fun h4 h => ?_)
          refine g_irem F dX9_partOf_23 h4 ?_
          refine g_topi F h (fun v5 e6 h => ?_)
          refine g_istore (i := 6) (lv' := [(6, .int v5), (0, .int l0f8), (1, .int l1f8), (2, .int l2f8), (3, .int l3), (4, .int l4), (5, .int l5)]) F dX9_partOf_24 (by decide) rfl ?_
          refine g_iload (i := 4) F dX9_partOf_26 rfl ?_
          refine g_istore_n (i := 3) (lv' := [(3, .int l4), (6, .int v5), (0, .int l0f8), (1, .int l1f8), (2, .int l2f8), (4, .int l4), (5, .int l5)]) F dX9_partOf_28 rfl (by decide) rfl ?_
          refine g_iload (i := 6) F dX9_partOf_29 rfl ?_
          refine g_istore (i := 4) (lv' := [(4, .int v5), (3, .int l4), (6, .int v5), (0, .int l0f8), (1, .int l1f8), (2, .int l2f8), (5, .int l5)]) F dX9_partOf_31 (by decide) rfl ?_
          refine g_iinc (i := 5) (v := (l5 + (1 : Int32))) (lv' := [(5, .int (l5 + (1 : Int32))), (4, .int v5), (3, .int l4), (6, .int v5), (0, .int l0f8), (1, .int l1f8), (2, .int l2f8)]) F dX9_partOf_33 rfl rfl (by decide) rfl ?_
          refine g_goto (tgt := 8) F dX9_partOf_36 (by decide) ?_
          refine g_lv (lv' := [(0, .int l0f8), (1, .int l1f8), (2, .int l2f8), (3, .int l4), (4, .int v5), (5, .int (l5 + (1 : Int32)))]) ⟨rfl, rfl, rfl, rfl, rfl, rfl, trivial⟩ ?_
          exact ih8 _ _ _ h
  rw [fX9_partOf] at h
  refine g_lv (lv' := [(0, .int l0), (1, .int l1), (2, .int l2)]) ⟨rfl, rfl, rfl, trivial⟩ ?_
  refine g_iload_n (i := 0) F dX9_partOf_0 rfl rfl ?_
  refine g_istore_n (i := 3) (lv' := [(3, .int l0), (0, .int l0), (1, .int l1), (2, .int l2)]) F dX9_partOf_1 rfl (by decide) rfl ?_
  refine g_iload_n (i := 1) F dX9_partOf_2 rfl rfl ?_
  refine g_istore (i := 4) (lv' := [(4, .int l1), (3, .int l0), (0, .int l0), (1, .int l1), (2, .int l2)]) F dX9_partOf_3 (by decide) rfl ?_
  refine g_iconst F dX9_partOf_5 (v := 0) (by decide) ?_
  refine g_istore (i := 5) (lv' := [(5, .int (0 : Int32)), (4, .int l1), (3, .int l0), (0, .int l0), (1, .int l1), (2, .int l2)]) F dX9_partOf_6 (by decide) rfl ?_
  refine g_lv (lv' := [(0, .int l0), (1, .int l1), (2, .int l2), (3, .int l0), (4, .int l1), (5, .int (0 : Int32))]) ⟨rfl, rfl, rfl, rfl, rfl, rfl, trivial⟩ ?_
  exact L8 _ _ _ FU _ _ _ h
def fX9_rate (X : XW) (l1 : Int32) (l2 : Int32) (l3 : Int32) : Option Int64 :=
  if (fX9_isFormIn l1 l2) = 0 then some (-4611686018427387904 : Int64)
  else if (fX9_within l3 (0 : Int32) (1 : Int32)) = 0 then some (-4611686018427387904 : Int64)
  else (fX3_above X 17 l1 l2).bind fun v5 =>
  (fX3_below X 17 l1 l2).bind fun v7 =>
  (fX9_partOf v5 v7 l3).bind fun v9 =>
  some v9
set_option maxRecDepth 100000 in
set_option maxHeartbeats 4000000 in
theorem c_X9_rate {l : Launch} {s0 : State} {D : va_G} {ev : Nat → Nat} (G0 : Gl s0 D ev) {X : XW} {M : MW} {nb : Nat} {l1 : Int32} {l2 : Int32} {l3 : Int32} {r' : Int64}  (h : fX9_rate X l1 l2 l3 = some r') : CT l s0 D ev yX9_rate cX9_rate 4 (some .long) 3 0 0 [.ref (ev 0 + 0), .int l1, .int l2, .int l3] (cells ev X M nb) (QL s0 D ev r' (cells ev X M nb)) := by
  refine ct_of G0 (by decide) (Nat.le_of_ble_eq_true rfl) ?_
  intro p9 e9 s9 m9 args9 below9 meth9 c9 F hr9 hl9 hin9 hargs9 hts9
  rw [fX9_rate] at h
  refine g_lv (lv' := [(0, .ref (ev 0 + 0)), (1, .int l1), (2, .int l2), (3, .int l3)]) ⟨rfl, rfl, rfl, rfl, trivial⟩ ?_
  refine g_iload_n (i := 1) F dX9_rate_0 rfl rfl ?_
  refine g_iload_n (i := 2) F dX9_rate_1 rfl rfl ?_
  refine g_callSI F (mcR := 0) (msR := 0) (c_X9_isFormIn G0 (X := X) (M := M) (nb := nb) rfl) wd_42_1 wd_41_23 wd_42_0 wd_1_2 ⟨by decide, by decide⟩ (nn := 2) (by decide) (As := [.int l1, .int l2]) rfl rfl (Nat.le_of_ble_eq_true rfl) (by decide) (by decide) ⟨by decide, by decide⟩ dX9_rate_2 ?_
  refine g_if_eq (tgt := 17) F dX9_rate_5 (by decide) h (fun a12 h => ?_) (fun a12 h => ?_)
  · refine g_ldc2 F dX9_rate_17 wd_41_0 ?_
    exact g_lret F hr9 hl9 (Option.some.inj h) rfl (by decide) (by decide) dX9_rate_20
  · refine g_iload_n (i := 3) F dX9_rate_8 rfl rfl ?_
    refine g_iconst F dX9_rate_9 (v := 0) (by decide) ?_
    refine g_iconst F dX9_rate_10 (v := 1) (by decide) ?_
    refine g_callSI F (mcR := 0) (msR := 0) (c_X9_within G0 (X := X) (M := M) (nb := nb) rfl) wd_9_7 wd_15_21 wd_9_6 wd_1_2 ⟨by decide, by decide⟩ (nn := 3) (by decide) (As := [.int l3, .int (0 : Int32), .int (1 : Int32)]) rfl rfl (Nat.le_of_ble_eq_true rfl) (by decide) (by decide) ⟨by decide, by decide⟩ dX9_rate_11 ?_
    refine g_if_ne (tgt := 21) F dX9_rate_14 (by decide) h (fun a11 h => ?_) (fun a11 h => ?_)
    · refine g_aload_n (i := 0) F dX9_rate_21 rfl rfl ?_
      refine g_get_9_8 F rfl (kd_lit (by decide)) wd_2_12 dX9_rate_22 ?_
      refine g_iload_n (i := 1) F dX9_rate_25 rfl rfl ?_
      refine g_iload_n (i := 2) F dX9_rate_26 rfl rfl ?_
      obtain ⟨v5, e6, h⟩ := bind_at h
      refine g_callVI F (mcR := 0) (msR := 0) (id := 17) (cells_at (kd_lit (i := 17) (by decide)) (xc_3 rfl)) (ci := 3) rfl rfl rfl (c_X3_above G0 e6) wd_42_16 wd_42_13 wd_42_14 wd_42_15 wd_2_11 ⟨by decide, by decide⟩ (nn := 2) (by decide) (As := [.int l1, .int l2]) rfl rfl (Nat.le_of_ble_eq_true rfl) (by decide) (by decide) ⟨by decide, by decide⟩ dX9_rate_27 ?_
      refine g_aload_n (i := 0) F dX9_rate_30 rfl rfl ?_
      refine g_get_9_8 F rfl (kd_lit (by decide)) wd_2_12 dX9_rate_31 ?_
      refine g_iload_n (i := 1) F dX9_rate_34 rfl rfl ?_
      refine g_iload_n (i := 2) F dX9_rate_35 rfl rfl ?_
      obtain ⟨v7, e8, h⟩ := bind_at h
      refine g_callVI F (mcR := 0) (msR := 0) (id := 17) (cells_at (kd_lit (i := 17) (by decide)) (xc_3 rfl)) (ci := 3) rfl rfl rfl (c_X3_below G0 e8) wd_42_20 wd_42_17 wd_42_18 wd_42_19 wd_2_11 ⟨by decide, by decide⟩ (nn := 2) (by decide) (As := [.int l1, .int l2]) rfl rfl (Nat.le_of_ble_eq_true rfl) (by decide) (by decide) ⟨by decide, by decide⟩ dX9_rate_36 ?_
      refine g_iload_n (i := 3) F dX9_rate_39 rfl rfl ?_
      obtain ⟨v9, e10, h⟩ := bind_at h
      refine g_callSL F (mcR := 0) (msR := 0) (c_X9_partOf G0 e10) wd_42_23 wd_42_21 wd_42_22 wd_1_2 ⟨by decide, by decide⟩ (nn := 3) (by decide) (As := [.int v5, .int v7, .int l3]) rfl rfl (Nat.le_of_ble_eq_true rfl) (by decide) (by decide) ⟨by decide, by decide⟩ dX9_rate_40 ?_
      exact g_lret F hr9 hl9 (Option.some.inj h) rfl (by decide) (by decide) dX9_rate_43
    · refine g_ldc2 F dX9_rate_17 wd_41_0 ?_
      exact g_lret F hr9 hl9 (Option.some.inj h) rfl (by decide) (by decide) dX9_rate_20
def fX9_form_l16 (X : XW) (l1f16 : Int32) (K16 : Int32 → Int32 → Option Int32) (l2 : Int32) (l3 : Int32) : Option Int32 :=
  if (5 : Int32) ≤ l3 then some l2
  else (fX3_isLikelier X 17 l3 l1f16 l2 l1f16).bind fun v3 =>
  if v3 = 0 then K16 l2 (l3 + (1 : Int32))
  else K16 l3 (l3 + (1 : Int32))
def fX9_form (X : XW) (l1 : Int32) : Option Int32 :=
  if (fX9_within l1 (0 : Int32) (3 : Int32)) = 0 then some (-5 : Int32)
  else lo2 (fX9_form_l16 X l1) FU (0 : Int32) (1 : Int32)
set_option maxRecDepth 100000 in
set_option maxHeartbeats 4000000 in
theorem c_X9_form {l : Launch} {s0 : State} {D : va_G} {ev : Nat → Nat} (G0 : Gl s0 D ev) {X : XW} {M : MW} {nb : Nat} {l1 : Int32} {r' : Int32}  (h : fX9_form X l1 = some r') : CT l s0 D ev yX9_form cX9_form 4 (some .int) 4 0 0 [.ref (ev 0 + 0), .int l1] (cells ev X M nb) (QI s0 D ev r' (cells ev X M nb)) := by
  refine ct_of G0 (by decide) (Nat.le_of_ble_eq_true rfl) ?_
  intro p9 e9 s9 m9 args9 below9 meth9 c9 F hr9 hl9 hin9 hargs9 hts9
  have L16 : ∀ (l1f16 : Int32) (N16 : Nat) (l2 : Int32) (l3 : Int32), lo2 (fX9_form_l16 X l1f16) N16 l2 l3 = some r' → GJ p9 l e9 (rg 4 0 0) s9 m9 args9 below9 meth9 c9 (MQ below9 (QI s0 D ev r' (cells ev X M nb)) args9 s9 0 0 (frA ev)) s0 D ev 4 0 0 16 [(0, .ref (ev 0 + 0)), (1, .int l1f16), (2, .int l2), (3, .int l3)] ([]) (cells ev X M nb) := by
    intro l1f16 N16
    induction N16 with
    | zero => intro l2 l3 h; cases h
    | succ N16 ih16 =>
      intro l2 l3 h
      change fX9_form_l16 X l1f16 (lo2 (fX9_form_l16 X l1f16) N16) l2 l3 = some r' at h
      rw [fX9_form_l16] at h
      refine g_iload_n (i := 3) F dX9_form_16 rfl rfl ?_
      refine g_iconst F dX9_form_17 (v := 5) (by decide) ?_
      refine g_icmp_ge (tgt := 43) F dX9_form_18 (by decide) h (fun a6 h => ?_) (fun a6 h => ?_)
      · refine g_iload_n (i := 2) F dX9_form_43 rfl rfl ?_
        exact g_iret F hr9 rfl hl9 (Option.some.inj h) rfl (by decide) (by decide) dX9_form_44
      · refine g_aload_n (i := 0) F dX9_form_21 rfl rfl ?_
        refine g_get_9_8 F rfl (kd_lit (by decide)) wd_2_12 dX9_form_22 ?_
        refine g_iload_n (i := 3) F dX9_form_25 rfl rfl ?_
        refine g_iload_n (i := 1) F dX9_form_26 rfl rfl ?_
        refine g_iload_n (i := 2) F dX9_form_27 rfl rfl ?_
        refine g_iload_n (i := 1) F dX9_form_28 rfl rfl ?_
        obtain ⟨v3, e4, h⟩ := bind_at h
        refine g_callVI F (mcR := 0) (msR := 0) (id := 17) (cells_at (kd_lit (i := 17) (by decide)) (xc_3 rfl)) (ci := 3) rfl rfl rfl (c_X3_isLikelier G0 e4) wd_43_15 wd_43_12 wd_43_13 wd_43_14 wd_2_11 ⟨by decide, by decide⟩ (nn := 4) (by decide) (As := [.int l3, .int l1f16, .int l2, .int l1f16]) rfl rfl (Nat.le_of_ble_eq_true rfl) (by decide) (by decide) ⟨by decide, by decide⟩ dX9_form_29 ?_
        refine g_if_eq (tgt := 37) F dX9_form_32 (by decide) h (fun a5 h => ?_) (fun a5 h => ?_)
        · refine g_iinc (i := 3) (v := (l3 + (1 : Int32))) (lv' := [(3, .int (l3 + (1 : Int32))), (0, .ref (ev 0 + 0)), (1, .int l1f16), (2, .int l2)]) F dX9_form_37 rfl rfl (by decide) rfl ?_
          refine g_goto (tgt := 16) F dX9_form_40 (by decide) ?_
          refine g_lv (lv' := [(0, .ref (ev 0 + 0)), (1, .int l1f16), (2, .int l2), (3, .int (l3 + (1 : Int32)))]) ⟨rfl, rfl, rfl, rfl, trivial⟩ ?_
          exact ih16 _ _ h
        · refine g_iload_n (i := 3) F dX9_form_35 rfl rfl ?_
          refine g_istore_n (i := 2) (lv' := [(2, .int l3), (0, .ref (ev 0 + 0)), (1, .int l1f16), (3, .int l3)]) F dX9_form_36 rfl (by decide) rfl ?_
          refine g_iinc (i := 3) (v := (l3 + (1 : Int32))) (lv' := [(3, .int (l3 + (1 : Int32))), (2, .int l3), (0, .ref (ev 0 + 0)), (1, .int l1f16)]) F dX9_form_37 rfl rfl (by decide) rfl ?_
          refine g_goto (tgt := 16) F dX9_form_40 (by decide) ?_
          refine g_lv (lv' := [(0, .ref (ev 0 + 0)), (1, .int l1f16), (2, .int l3), (3, .int (l3 + (1 : Int32)))]) ⟨rfl, rfl, rfl, rfl, trivial⟩ ?_
          exact ih16 _ _ h
  rw [fX9_form] at h
  refine g_lv (lv' := [(0, .ref (ev 0 + 0)), (1, .int l1)]) ⟨rfl, rfl, trivial⟩ ?_
  refine g_iload_n (i := 1) F dX9_form_0 rfl rfl ?_
  refine g_iconst F dX9_form_1 (v := 0) (by decide) ?_
  refine g_iconst F dX9_form_2 (v := 3) (by decide) ?_
  refine g_callSI F (mcR := 0) (msR := 0) (c_X9_within G0 (X := X) (M := M) (nb := nb) rfl) wd_9_7 wd_15_21 wd_9_6 wd_1_2 ⟨by decide, by decide⟩ (nn := 3) (by decide) (As := [.int l1, .int (0 : Int32), .int (3 : Int32)]) rfl rfl (Nat.le_of_ble_eq_true rfl) (by decide) (by decide) ⟨by decide, by decide⟩ dX9_form_3 ?_
  refine g_if_ne (tgt := 12) F dX9_form_6 (by decide) h (fun a7 h => ?_) (fun a7 h => ?_)
  · refine g_iconst F dX9_form_12 (v := 0) (by decide) ?_
    refine g_istore_n (i := 2) (lv' := [(2, .int (0 : Int32)), (0, .ref (ev 0 + 0)), (1, .int l1)]) F dX9_form_13 rfl (by decide) rfl ?_
    refine g_iconst F dX9_form_14 (v := 1) (by decide) ?_
    refine g_istore_n (i := 3) (lv' := [(3, .int (1 : Int32)), (2, .int (0 : Int32)), (0, .ref (ev 0 + 0)), (1, .int l1)]) F dX9_form_15 rfl (by decide) rfl ?_
    refine g_lv (lv' := [(0, .ref (ev 0 + 0)), (1, .int l1), (2, .int (0 : Int32)), (3, .int (1 : Int32))]) ⟨rfl, rfl, rfl, rfl, trivial⟩ ?_
    exact L16 _ FU _ _ h
  · refine g_bipush F dX9_form_9 (v := -5) (by decide) ?_
    exact g_iret F hr9 rfl hl9 (Option.some.inj h) rfl (by decide) (by decide) dX9_form_11
def fX9_joined_l4 (X : XW) (K4 : Int32 → Int32 → Option Int32) (l1 : Int32) (l2 : Int32) : Option Int32 :=
  if (5 : Int32) ≤ l2 then some l1
  else (fX3_worstBed X 17 l2).bind fun v1 =>
  (fX3_worstBed X 17 l1).bind fun v3 =>
  (fX3_isLikelier X 17 l2 v1 l1 v3).bind fun v5 =>
  if v5 = 0 then K4 l1 (l2 + (1 : Int32))
  else K4 l2 (l2 + (1 : Int32))
def fX9_joined (X : XW) : Option Int32 :=
  lo2 (fX9_joined_l4 X) FU (0 : Int32) (1 : Int32)
set_option maxRecDepth 100000 in
set_option maxHeartbeats 4000000 in
theorem c_X9_joined {l : Launch} {s0 : State} {D : va_G} {ev : Nat → Nat} (G0 : Gl s0 D ev) {X : XW} {M : MW} {nb : Nat}  {r' : Int32}  (h : fX9_joined X = some r') : CT l s0 D ev yX9_joined cX9_joined 3 (some .int) 5 0 0 [.ref (ev 0 + 0)] (cells ev X M nb) (QI s0 D ev r' (cells ev X M nb)) := by
  refine ct_of G0 (by decide) (Nat.le_of_ble_eq_true rfl) ?_
  intro p9 e9 s9 m9 args9 below9 meth9 c9 F hr9 hl9 hin9 hargs9 hts9
  have L4 : ∀  (N4 : Nat) (l1 : Int32) (l2 : Int32), lo2 (fX9_joined_l4 X) N4 l1 l2 = some r' → GJ p9 l e9 (rg 5 0 0) s9 m9 args9 below9 meth9 c9 (MQ below9 (QI s0 D ev r' (cells ev X M nb)) args9 s9 0 0 (frA ev)) s0 D ev 3 0 0 4 [(0, .ref (ev 0 + 0)), (1, .int l1), (2, .int l2)] ([]) (cells ev X M nb) := by
    intro  N4
    induction N4 with
    | zero => intro l1 l2 h; cases h
    | succ N4 ih4 =>
      intro l1 l2 h
      change fX9_joined_l4 X (lo2 (fX9_joined_l4 X) N4) l1 l2 = some r' at h
      rw [fX9_joined_l4] at h
      refine g_iload_n (i := 2) F dX9_joined_4 rfl rfl ?_
      refine g_iconst F dX9_joined_5 (v := 5) (by decide) ?_
      refine g_icmp_ge (tgt := 45) F dX9_joined_6 (by decide) h (fun a8 h => ?_) (fun a8 h => ?_)
      · refine g_iload_n (i := 1) F dX9_joined_45 rfl rfl ?_
        exact g_iret F hr9 rfl hl9 (Option.some.inj h) rfl (by decide) (by decide) dX9_joined_46
      · refine g_aload_n (i := 0) F dX9_joined_9 rfl rfl ?_
        refine g_get_9_8 F rfl (kd_lit (by decide)) wd_2_12 dX9_joined_10 ?_
        refine g_iload_n (i := 2) F dX9_joined_13 rfl rfl ?_
        refine g_aload_n (i := 0) F dX9_joined_14 rfl rfl ?_
        refine g_get_9_8 F rfl (kd_lit (by decide)) wd_2_12 dX9_joined_15 ?_
        refine g_iload_n (i := 2) F dX9_joined_18 rfl rfl ?_
        obtain ⟨v1, e2, h⟩ := bind_at h
        refine g_callVI F (mcR := 0) (msR := 0) (id := 17) (cells_at (kd_lit (i := 17) (by decide)) (xc_3 rfl)) (ci := 3) rfl rfl rfl (c_X3_worstBed G0 e2) wd_44_9 wd_44_6 wd_44_7 wd_44_8 wd_2_11 ⟨by decide, by decide⟩ (nn := 1) (by decide) (As := [.int l2]) rfl rfl (Nat.le_of_ble_eq_true rfl) (by decide) (by decide) ⟨by decide, by decide⟩ dX9_joined_19 ?_
        refine g_iload_n (i := 1) F dX9_joined_22 rfl rfl ?_
        refine g_aload_n (i := 0) F dX9_joined_23 rfl rfl ?_
        refine g_get_9_8 F rfl (kd_lit (by decide)) wd_2_12 dX9_joined_24 ?_
        refine g_iload_n (i := 1) F dX9_joined_27 rfl rfl ?_
        obtain ⟨v3, e4, h⟩ := bind_at h
        refine g_callVI F (mcR := 0) (msR := 0) (id := 17) (cells_at (kd_lit (i := 17) (by decide)) (xc_3 rfl)) (ci := 3) rfl rfl rfl (c_X3_worstBed G0 e4) wd_44_9 wd_44_6 wd_44_7 wd_44_8 wd_2_11 ⟨by decide, by decide⟩ (nn := 1) (by decide) (As := [.int l1]) rfl rfl (Nat.le_of_ble_eq_true rfl) (by decide) (by decide) ⟨by decide, by decide⟩ dX9_joined_28 ?_
        obtain ⟨v5, e6, h⟩ := bind_at h
        refine g_callVI F (mcR := 0) (msR := 0) (id := 17) (cells_at (kd_lit (i := 17) (by decide)) (xc_3 rfl)) (ci := 3) rfl rfl rfl (c_X3_isLikelier G0 e6) wd_43_15 wd_43_12 wd_43_13 wd_43_14 wd_2_11 ⟨by decide, by decide⟩ (nn := 4) (by decide) (As := [.int l2, .int v1, .int l1, .int v3]) rfl rfl (Nat.le_of_ble_eq_true rfl) (by decide) (by decide) ⟨by decide, by decide⟩ dX9_joined_31 ?_
        refine g_if_eq (tgt := 39) F dX9_joined_34 (by decide) h (fun a7 h => ?_) (fun a7 h => ?_)
        · refine g_iinc (i := 2) (v := (l2 + (1 : Int32))) (lv' := [(2, .int (l2 + (1 : Int32))), (0, .ref (ev 0 + 0)), (1, .int l1)]) F dX9_joined_39 rfl rfl (by decide) rfl ?_
          refine g_goto (tgt := 4) F dX9_joined_42 (by decide) ?_
          refine g_lv (lv' := [(0, .ref (ev 0 + 0)), (1, .int l1), (2, .int (l2 + (1 : Int32)))]) ⟨rfl, rfl, rfl, trivial⟩ ?_
          exact ih4 _ _ h
        · refine g_iload_n (i := 2) F dX9_joined_37 rfl rfl ?_
          refine g_istore_n (i := 1) (lv' := [(1, .int l2), (0, .ref (ev 0 + 0)), (2, .int l2)]) F dX9_joined_38 rfl (by decide) rfl ?_
          refine g_iinc (i := 2) (v := (l2 + (1 : Int32))) (lv' := [(2, .int (l2 + (1 : Int32))), (1, .int l2), (0, .ref (ev 0 + 0))]) F dX9_joined_39 rfl rfl (by decide) rfl ?_
          refine g_goto (tgt := 4) F dX9_joined_42 (by decide) ?_
          refine g_lv (lv' := [(0, .ref (ev 0 + 0)), (1, .int l2), (2, .int (l2 + (1 : Int32)))]) ⟨rfl, rfl, rfl, trivial⟩ ?_
          exact ih4 _ _ h
  rw [fX9_joined] at h
  refine g_lv (lv' := [(0, .ref (ev 0 + 0))]) ⟨rfl, trivial⟩ ?_
  refine g_iconst F dX9_joined_0 (v := 0) (by decide) ?_
  refine g_istore_n (i := 1) (lv' := [(1, .int (0 : Int32)), (0, .ref (ev 0 + 0))]) F dX9_joined_1 rfl (by decide) rfl ?_
  refine g_iconst F dX9_joined_2 (v := 1) (by decide) ?_
  refine g_istore_n (i := 2) (lv' := [(2, .int (1 : Int32)), (1, .int (0 : Int32)), (0, .ref (ev 0 + 0))]) F dX9_joined_3 rfl (by decide) rfl ?_
  refine g_lv (lv' := [(0, .ref (ev 0 + 0)), (1, .int (0 : Int32)), (2, .int (1 : Int32))]) ⟨rfl, rfl, rfl, trivial⟩ ?_
  exact L4 FU _ _ h
def fX9_sheetOf (X : XW) (l1 : Int32) : Option (Option Nat) :=
  if (fX9_within l1 (0 : Int32) (3 : Int32)) = 0 then some none
  else if inb l1 4 then bd (39 + 2 * (l1).toNatClampNeg) fun o4 =>
  some (some o4)
  else none
set_option maxRecDepth 100000 in
set_option maxHeartbeats 4000000 in
theorem c_X9_sheetOf {l : Launch} {s0 : State} {D : va_G} {ev : Nat → Nat} (G0 : Gl s0 D ev) {X : XW} {M : MW} {nb : Nat} {l1 : Int32} {r' : Option Nat}  (h : fX9_sheetOf X l1 = some r') : CT l s0 D ev yX9_sheetOf cX9_sheetOf 2 (some (.object "AnchorThatDrags$Sheet")) 1 0 0 [.ref (ev 0 + 0), .int l1] (cells ev X M nb) (QR s0 D ev (Option.map (fun k => ev 0 + k) r') (cells ev X M nb)) := by
  refine ct_of G0 (by decide) (Nat.le_of_ble_eq_true rfl) ?_
  intro p9 e9 s9 m9 args9 below9 meth9 c9 F hr9 hl9 hin9 hargs9 hts9
  rw [fX9_sheetOf] at h
  refine g_lv (lv' := [(0, .ref (ev 0 + 0)), (1, .int l1)]) ⟨rfl, rfl, trivial⟩ ?_
  refine g_iload_n (i := 1) F dX9_sheetOf_0 rfl rfl ?_
  refine g_iconst F dX9_sheetOf_1 (v := 0) (by decide) ?_
  refine g_iconst F dX9_sheetOf_2 (v := 3) (by decide) ?_
  refine g_callSI F (mcR := 0) (msR := 0) (c_X9_within G0 (X := X) (M := M) (nb := nb) rfl) wd_9_7 wd_15_21 wd_9_6 wd_1_2 ⟨by decide, by decide⟩ (nn := 3) (by decide) (As := [.int l1, .int (0 : Int32), .int (3 : Int32)]) rfl rfl (Nat.le_of_ble_eq_true rfl) (by decide) (by decide) ⟨by decide, by decide⟩ dX9_sheetOf_3 ?_
  refine g_if_eq (tgt := 18) F dX9_sheetOf_6 (by decide) h (fun a7 h => ?_) (fun a7 h => ?_)
  · refine g_null F dX9_sheetOf_18 ?_
    exact g_aret F hr9 (Or.inl ⟨_, rfl⟩) hl9 (by rw [← (Option.some.inj h)]; rfl) rfl (by decide) (by decide) dX9_sheetOf_19
  · refine g_aload_n (i := 0) F dX9_sheetOf_9 rfl rfl ?_
    refine g_get_9_9 F rfl (kd_lit (by decide)) wd_2_14 dX9_sheetOf_10 ?_
    refine g_iload_n (i := 1) F dX9_sheetOf_13 rfl rfl ?_
    obtain ⟨h3, h⟩ := if_at h
    obtain ⟨o4, e5, h⟩ := bd_at h
    refine g_ald_15 F h3 dX9_sheetOf_14 ?_
    rw [← e5]
    have h6 : kd o4 = 8 := by rw [e5]; exact kd_s (clamp_lt h3)
    refine g_goto (tgt := 19) F dX9_sheetOf_15 (by decide) ?_
    exact g_aret F hr9 (Or.inl ⟨_, rfl⟩) hl9 (by rw [← (Option.some.inj h)]; rfl) rfl (by decide) (by decide) dX9_sheetOf_19
def fX9_filmRefusal (X : XW) (l1 : Option Nat) : Option Int32 :=
  oc l1 (some (-2 : Int32)) (fun b1 => if kd b1 = 8 then (fX8_isMissing X b1).bind fun v4 =>
  if v4 = 0 then if (fX9_within (X.1 b1 2) (1 : Int32) ((12 : Int32) - (X.1 0 11))) = 0 then some (-2 : Int32)
  else some (0 : Int32)
  else some (-11 : Int32) else none)
set_option maxRecDepth 100000 in
set_option maxHeartbeats 4000000 in
theorem c_X9_filmRefusal {l : Launch} {s0 : State} {D : va_G} {ev : Nat → Nat} (G0 : Gl s0 D ev) {X : XW} {M : MW} {nb : Nat} {l1 : Option Nat} {r' : Int32}  (h : fX9_filmRefusal X l1 = some r') : CT l s0 D ev yX9_filmRefusal cX9_filmRefusal 2 (some .int) 1 0 0 [.ref (ev 0 + 0), zr ev l1] (cells ev X M nb) (QI s0 D ev r' (cells ev X M nb)) := by
  refine ct_of G0 (by decide) (by cases l1 <;> exact (Nat.le_of_ble_eq_true rfl)) ?_
  intro p9 e9 s9 m9 args9 below9 meth9 c9 F hr9 hl9 hin9 hargs9 hts9
  rw [fX9_filmRefusal] at h
  refine g_lv (lv' := [(0, .ref (ev 0 + 0)), (1, zr ev l1)]) (by cases l1 <;> exact ⟨rfl, rfl, trivial⟩) ?_
  refine g_zaload_n (i := 1) F dX9_filmRefusal_0 rfl rfl ?_
  rcases oc_at h with ⟨e2, h⟩ | ⟨b1, e2, h⟩
  · rw [e2]
    refine g_ifnnN F dX9_filmRefusal_1 ?_
    refine g_bipush F dX9_filmRefusal_4 (v := -2) (by decide) ?_
    exact g_iret F hr9 rfl hl9 (Option.some.inj h) rfl (by decide) (by decide) dX9_filmRefusal_6
  · rw [e2]
    refine g_ifnn (tgt := 7) F dX9_filmRefusal_1 (by decide) ?_
    refine g_aload_n (i := 1) F dX9_filmRefusal_7 rfl rfl ?_
    obtain ⟨h3, h⟩ := if_at h
    obtain ⟨v4, e5, h⟩ := bind_at h
    refine g_callVI F (mcR := 0) (msR := 0) (id := b1) (cells_at (kd_hid h3 (by decide)) (xc_8 h3)) (ci := 8) rfl rfl rfl (c_X8_isMissing G0 e5) wd_45_11 wd_45_8 wd_45_9 wd_45_10 wd_3_2 ⟨by decide, by decide⟩ (nn := 0) (by decide) (As := []) rfl rfl (Nat.le_of_ble_eq_true rfl) (by decide) (by decide) ⟨by decide, by decide⟩ dX9_filmRefusal_8 ?_
    refine g_if_eq (tgt := 17) F dX9_filmRefusal_11 (by decide) h (fun a9 h => ?_) (fun a9 h => ?_)
    · refine g_aload_n (i := 1) F dX9_filmRefusal_17 rfl rfl ?_
      refine g_get_8_2 F h3 (kd_hid h3 (by decide)) wd_45_7 dX9_filmRefusal_18 ?_
      refine g_iconst F dX9_filmRefusal_21 (v := 1) (by decide) ?_
      refine g_bipush F dX9_filmRefusal_22 (v := 12) (by decide) ?_
      refine g_aload_n (i := 0) F dX9_filmRefusal_24 rfl rfl ?_
      refine g_get_9_11 F rfl (kd_lit (by decide)) wd_2_19 dX9_filmRefusal_25 ?_
      refine g_isub F dX9_filmRefusal_28 ?_
      refine g_callSI F (mcR := 0) (msR := 0) (c_X9_within G0 (X := X) (M := M) (nb := nb) rfl) wd_9_7 wd_15_21 wd_9_6 wd_1_2 ⟨by decide, by decide⟩ (nn := 3) (by decide) (As := [.int (X.1 b1 2), .int (1 : Int32), .int ((12 : Int32) - (X.1 0 11))]) rfl rfl (Nat.le_of_ble_eq_true rfl) (by decide) (by decide) ⟨by decide, by decide⟩ dX9_filmRefusal_29 ?_
      refine g_if_eq (tgt := 39) F dX9_filmRefusal_32 (by decide) h (fun a8 h => ?_) (fun a8 h => ?_)
      · refine g_bipush F dX9_filmRefusal_39 (v := -2) (by decide) ?_
        exact g_iret F hr9 rfl hl9 (Option.some.inj h) rfl (by decide) (by decide) dX9_filmRefusal_41
      · refine g_iconst F dX9_filmRefusal_35 (v := 0) (by decide) ?_
        refine g_goto (tgt := 41) F dX9_filmRefusal_36 (by decide) ?_
        exact g_iret F hr9 rfl hl9 (Option.some.inj h) rfl (by decide) (by decide) dX9_filmRefusal_41
    · refine g_bipush F dX9_filmRefusal_14 (v := -11) (by decide) ?_
      exact g_iret F hr9 rfl hl9 (Option.some.inj h) rfl (by decide) (by decide) dX9_filmRefusal_16
def fX9_firstElsewhere_l34 (nb : Nat) (l3f34 : Nat) (l4f34 : Nat) (K34 : XW → Int32 → Option (Int32 × XW)) (X : XW) (l5 : Int32) : Option (Int32 × XW) :=
  if kd l3f34 = 8 then if (X.1 l3f34 2) ≤ l5 then some ((-1 : Int32), X)
  else (rd (X.2.1 (l3f34 + 1)) 40 l5).bind fun v9 =>
  if kd l4f34 = 2 then (fX2_liesIn X l4f34 ((X.1 0 11) + l5)).bind fun v12 =>
  if v9 = v12 then K34 X (l5 + (1 : Int32))
  else some (l5, X) else none else none
def fX9_firstElsewhere (X : XW) (nb : Nat) (l1 : Int32) (l2 : Nat) (l3 : Nat) : Option (Int32 × XW) :=
  if inb l1 6 then bd (27 + 2 * (l1).toNatClampNeg) fun o2 =>
  if kd l3 = 8 then (fX2_sail X nb o2 l2 (X.1 0 11) ((X.1 0 11) + (X.1 l3 2))).bind fun X6 =>
  lo2 (fX9_firstElsewhere_l34 nb l3 o2) FU X6 (0 : Int32) else none
  else none
set_option maxRecDepth 100000 in
set_option maxHeartbeats 4000000 in
theorem c_X9_firstElsewhere {l : Launch} {s0 : State} {D : va_G} {ev : Nat → Nat} (G0 : Gl s0 D ev) {X : XW} {M : MW} {nb : Nat} {l1 : Int32} {l2 : Nat} {l3 : Nat} {r' : Int32} {X' : XW}  (h : fX9_firstElsewhere X nb l1 l2 l3 = some (r', X')) : CT l s0 D ev yX9_firstElsewhere cX9_firstElsewhere 6 (some .int) 6 0 0 [.ref (ev 0 + 0), .int l1, .ref (ev 0 + l2), .ref (ev 0 + l3)] (cells ev X M nb) (QI s0 D ev r' (cells ev X' M nb)) := by
  refine ct_of G0 (by decide) (Nat.le_of_ble_eq_true rfl) ?_
  intro p9 e9 s9 m9 args9 below9 meth9 c9 F hr9 hl9 hin9 hargs9 hts9
  have L34 : ∀ (l3f34 : Nat) (l4f34 : Nat) (N34 : Nat) (X : XW) (l5 : Int32), lo2 (fX9_firstElsewhere_l34 nb l3f34 l4f34) N34 X l5 = some (r', X') → GJ p9 l e9 (rg 6 0 0) s9 m9 args9 below9 meth9 c9 (MQ below9 (QI s0 D ev r' (cells ev X' M nb)) args9 s9 0 0 (frA ev)) s0 D ev 6 0 0 34 [(0, .ref (ev 0 + 0)), (3, .ref (ev 0 + l3f34)), (4, .ref (ev 0 + l4f34)), (5, .int l5)] ([]) (cells ev X M nb) := by
    intro l3f34 l4f34 N34
    induction N34 with
    | zero => intro X l5 h; cases h
    | succ N34 ih34 =>
      intro X l5 h
      change fX9_firstElsewhere_l34 nb l3f34 l4f34 (lo2 (fX9_firstElsewhere_l34 nb l3f34 l4f34) N34) X l5 = some (r', X') at h
      rw [fX9_firstElsewhere_l34] at h
      refine g_iload (i := 5) F dX9_firstElsewhere_34 rfl ?_
      refine g_aload_n (i := 3) F dX9_firstElsewhere_36 rfl rfl ?_
      obtain ⟨h8, h⟩ := if_at h
      refine g_get_8_2 F h8 (kd_hid h8 (by decide)) wd_45_7 dX9_firstElsewhere_37 ?_
      refine g_icmp_ge (tgt := 74) F dX9_firstElsewhere_40 (by decide) h (fun a15 h => ?_) (fun a15 h => ?_)
      · refine g_iconst F dX9_firstElsewhere_74 (v := -1) (by decide) ?_
        have hp := Prod.mk.inj (Option.some.inj h)
        exact g_iret F hr9 rfl hl9 hp.1 (by rw [hp.2]) (by decide) (by decide) dX9_firstElsewhere_75
      · refine g_aload_n (i := 3) F dX9_firstElsewhere_43 rfl rfl ?_
        refine g_get_8_0 F h8 (kd_hid h8 (by decide)) wd_45_16 dX9_firstElsewhere_44 ?_
        refine g_iload (i := 5) F dX9_firstElsewhere_47 rfl ?_
        obtain ⟨v9, e10, h⟩ := bind_at h
        refine g_ildX F (kd_8_1 h8).1 (kd_8_1 h8).2 e10 dX9_firstElsewhere_49 ?_
        refine g_aload (i := 4) F dX9_firstElsewhere_50 rfl ?_
        refine g_aload_n (i := 0) F dX9_firstElsewhere_52 rfl rfl ?_
        refine g_get_9_11 F rfl (kd_lit (by decide)) wd_2_19 dX9_firstElsewhere_53 ?_
        refine g_iload (i := 5) F dX9_firstElsewhere_56 rfl ?_
        refine g_iadd F dX9_firstElsewhere_58 ?_
        obtain ⟨h11, h⟩ := if_at h
        obtain ⟨v12, e13, h⟩ := bind_at h
        refine g_callVI F (mcR := 0) (msR := 0) (id := l4f34) (cells_at (kd_hid h11 (by decide)) (xc_2 h11)) (ci := 2) rfl rfl rfl (c_X2_liesIn G0 e13) wd_29_9 wd_29_6 wd_29_7 wd_29_8 wd_3_0 ⟨by decide, by decide⟩ (nn := 1) (by decide) (As := [.int ((X.1 0 11) + l5)]) rfl rfl (Nat.le_of_ble_eq_true rfl) (by decide) (by decide) ⟨by decide, by decide⟩ dX9_firstElsewhere_59 ?_
        refine g_icmp_eq (tgt := 68) F dX9_firstElsewhere_62 (by decide) h (fun a14 h => ?_) (fun a14 h => ?_)
        · refine g_iinc (i := 5) (v := (l5 + (1 : Int32))) (lv' := [(5, .int (l5 + (1 : Int32))), (0, .ref (ev 0 + 0)), (3, .ref (ev 0 + l3f34)), (4, .ref (ev 0 + l4f34))]) F dX9_firstElsewhere_68 rfl rfl (by decide) rfl ?_
          refine g_goto (tgt := 34) F dX9_firstElsewhere_71 (by decide) ?_
          refine g_lv (lv' := [(0, .ref (ev 0 + 0)), (3, .ref (ev 0 + l3f34)), (4, .ref (ev 0 + l4f34)), (5, .int (l5 + (1 : Int32)))]) ⟨rfl, rfl, rfl, rfl, trivial⟩ ?_
          exact ih34 _ _ h
        · refine g_iload (i := 5) F dX9_firstElsewhere_65 rfl ?_
          have hp := Prod.mk.inj (Option.some.inj h)
          exact g_iret F hr9 rfl hl9 hp.1 (by rw [hp.2]) (by decide) (by decide) dX9_firstElsewhere_67
  rw [fX9_firstElsewhere] at h
  refine g_lv (lv' := [(0, .ref (ev 0 + 0)), (1, .int l1), (2, .ref (ev 0 + l2)), (3, .ref (ev 0 + l3))]) ⟨rfl, rfl, rfl, rfl, trivial⟩ ?_
  refine g_aload_n (i := 0) F dX9_firstElsewhere_0 rfl rfl ?_
  refine g_get_9_5 F rfl (kd_lit (by decide)) wd_2_5 dX9_firstElsewhere_1 ?_
  refine g_iload_n (i := 1) F dX9_firstElsewhere_4 rfl rfl ?_
  obtain ⟨h1, h⟩ := if_at h
  obtain ⟨o2, e3, h⟩ := bd_at h
  refine g_ald_13 F h1 dX9_firstElsewhere_5 ?_
  rw [← e3]
  have h4 : kd o2 = 2 := by rw [e3]; exact kd_c (clamp_lt h1)
  refine g_astore (i := 4) (lv' := [(4, .ref (ev 0 + o2)), (0, .ref (ev 0 + 0)), (1, .int l1), (2, .ref (ev 0 + l2)), (3, .ref (ev 0 + l3))]) F dX9_firstElsewhere_6 (by decide) rfl ?_
  refine g_aload (i := 4) F dX9_firstElsewhere_8 rfl ?_
  refine g_aload_n (i := 0) F dX9_firstElsewhere_10 rfl rfl ?_
  refine g_get_9_3 F rfl (kd_lit (by decide)) wd_2_1 dX9_firstElsewhere_11 ?_
  refine g_aload_n (i := 2) F dX9_firstElsewhere_14 rfl rfl ?_
  refine g_aload_n (i := 0) F dX9_firstElsewhere_15 rfl rfl ?_
  refine g_get_9_11 F rfl (kd_lit (by decide)) wd_2_19 dX9_firstElsewhere_16 ?_
  refine g_aload_n (i := 0) F dX9_firstElsewhere_19 rfl rfl ?_
  refine g_get_9_11 F rfl (kd_lit (by decide)) wd_2_19 dX9_firstElsewhere_20 ?_
  refine g_aload_n (i := 3) F dX9_firstElsewhere_23 rfl rfl ?_
  obtain ⟨h5, h⟩ := if_at h
  refine g_get_8_2 F h5 (kd_hid h5 (by decide)) wd_45_7 dX9_firstElsewhere_24 ?_
  refine g_iadd F dX9_firstElsewhere_27 ?_
  obtain ⟨X6, e7, h⟩ := bind_at h
  refine g_callVV F (mcR := 0) (msR := 0) (id := o2) (cells_at (kd_hid h4 (by decide)) (xc_2 h4)) (ci := 2) rfl rfl rfl (c_X2_sail G0 e7) wd_27_15 wd_27_12 wd_27_13 wd_27_14 wd_3_0 ⟨by decide, by decide⟩ (nn := 4) (by decide) (As := [.ref (ev 0 + 10), .ref (ev 0 + l2), .int (X.1 0 11), .int ((X.1 0 11) + (X.1 l3 2))]) rfl rfl (Nat.le_of_ble_eq_true rfl) (by decide) (by decide) ⟨by decide, by decide⟩ dX9_firstElsewhere_28 ?_
  refine g_iconst F dX9_firstElsewhere_31 (v := 0) (by decide) ?_
  refine g_istore (i := 5) (lv' := [(5, .int (0 : Int32)), (4, .ref (ev 0 + o2)), (0, .ref (ev 0 + 0)), (1, .int l1), (2, .ref (ev 0 + l2)), (3, .ref (ev 0 + l3))]) F dX9_firstElsewhere_32 (by decide) rfl ?_
  refine g_lv (lv' := [(0, .ref (ev 0 + 0)), (3, .ref (ev 0 + l3)), (4, .ref (ev 0 + o2)), (5, .int (0 : Int32))]) ⟨rfl, rfl, rfl, rfl, trivial⟩ ?_
  exact L34 _ _ FU _ _ h
def fX9_judge (X : XW) (nb : Nat) (l1 : Int32) (l2 : Int32) : Option (Int32 × XW) :=
  (fX9_boatOf X l1).bind fun r1 =>
  oc r1 (some ((-5 : Int32), X)) (fun b3 => (fX9_sheetOf X l2).bind fun r5 =>
  (fX9_filmRefusal X r5).bind fun v7 =>
  oc r5 (some (v7, X)) (fun b9 => if v7 = 0 then bd2 (fX9_firstElsewhere X nb l1 b3 b9) fun v12 X11 =>
  some (v12, X11)
  else some (v7, X)))
set_option maxRecDepth 100000 in
set_option maxHeartbeats 4000000 in
theorem c_X9_judge {l : Launch} {s0 : State} {D : va_G} {ev : Nat → Nat} (G0 : Gl s0 D ev) {X : XW} {M : MW} {nb : Nat} {l1 : Int32} {l2 : Int32} {r' : Int32} {X' : XW}  (h : fX9_judge X nb l1 l2 = some (r', X')) : CT l s0 D ev yX9_judge cX9_judge 6 (some .int) 7 0 0 [.ref (ev 0 + 0), .int l1, .int l2] (cells ev X M nb) (QI s0 D ev r' (cells ev X' M nb)) := by
  refine ct_of G0 (by decide) (Nat.le_of_ble_eq_true rfl) ?_
  intro p9 e9 s9 m9 args9 below9 meth9 c9 F hr9 hl9 hin9 hargs9 hts9
  rw [fX9_judge] at h
  refine g_lv (lv' := [(0, .ref (ev 0 + 0)), (1, .int l1), (2, .int l2)]) ⟨rfl, rfl, rfl, trivial⟩ ?_
  refine g_aload_n (i := 0) F dX9_judge_0 rfl rfl ?_
  refine g_iload_n (i := 1) F dX9_judge_1 rfl rfl ?_
  obtain ⟨r1, e2, h⟩ := bind_at h
  refine g_callVR F (mcR := 0) (msR := 0) (id := 0) (cells_at (kd_lit (i := 0) (by decide)) (xc_9 rfl)) (ci := 9) rfl rfl rfl (c_X9_boatOf G0 e2) wd_22_23 wd_22_20 wd_22_21 wd_22_22 wd_1_2 ⟨by decide, by decide⟩ (nn := 1) (by decide) (As := [.int l1]) rfl rfl (Nat.le_of_ble_eq_true rfl) (by decide) (by decide) ⟨by decide, by decide⟩ dX9_judge_2 ?_
  refine g_zastore_n (i := 3) (lv' := [(3, zr ev r1), (0, .ref (ev 0 + 0)), (1, .int l1), (2, .int l2)]) F dX9_judge_5 rfl (by decide) rfl ?_
  refine g_zaload_n (i := 3) F dX9_judge_6 rfl rfl ?_
  rcases oc_at h with ⟨e4, h⟩ | ⟨b3, e4, h⟩
  · rw [e4]
    refine g_ifnnN F dX9_judge_7 ?_
    refine g_bipush F dX9_judge_10 (v := -5) (by decide) ?_
    have hp := Prod.mk.inj (Option.some.inj h)
    exact g_iret F hr9 rfl hl9 hp.1 (by rw [hp.2]) (by decide) (by decide) dX9_judge_12
  · rw [e4]
    refine g_ifnn (tgt := 13) F dX9_judge_7 (by decide) ?_
    refine g_aload_n (i := 0) F dX9_judge_13 rfl rfl ?_
    refine g_iload_n (i := 2) F dX9_judge_14 rfl rfl ?_
    obtain ⟨r5, e6, h⟩ := bind_at h
    refine g_callVR F (mcR := 0) (msR := 0) (id := 0) (cells_at (kd_lit (i := 0) (by decide)) (xc_9 rfl)) (ci := 9) rfl rfl rfl (c_X9_sheetOf G0 e6) wd_45_2 wd_44_23 wd_45_0 wd_45_1 wd_1_2 ⟨by decide, by decide⟩ (nn := 1) (by decide) (As := [.int l2]) rfl rfl (Nat.le_of_ble_eq_true rfl) (by decide) (by decide) ⟨by decide, by decide⟩ dX9_judge_15 ?_
    refine g_zastore (i := 4) (lv' := [(4, zr ev r5), (3, .ref (ev 0 + b3)), (0, .ref (ev 0 + 0)), (1, .int l1), (2, .int l2)]) F dX9_judge_18 (by decide) rfl ?_
    refine g_aload_n (i := 0) F dX9_judge_20 rfl rfl ?_
    refine g_zaload (i := 4) F dX9_judge_21 rfl ?_
    obtain ⟨v7, e8, h⟩ := bind_at h
    refine g_callVI F (mcR := 0) (msR := 0) (id := 0) (cells_at (kd_lit (i := 0) (by decide)) (xc_9 rfl)) (ci := 9) rfl rfl rfl (c_X9_filmRefusal G0 e8) wd_45_6 wd_45_3 wd_45_4 wd_45_5 wd_1_2 ⟨by decide, by decide⟩ (nn := 1) (by decide) (As := [zr ev r5]) rfl rfl (Nat.le_of_ble_eq_true rfl) (by decide) (by decide) ⟨by decide, by decide⟩ dX9_judge_23 ?_
    refine g_istore (i := 5) (lv' := [(5, .int v7), (4, zr ev r5), (3, .ref (ev 0 + b3)), (0, .ref (ev 0 + 0)), (1, .int l1), (2, .int l2)]) F dX9_judge_26 (by decide) (by cases r5 <;> exact rfl) ?_
    refine g_zaload (i := 4) F dX9_judge_28 rfl ?_
    rcases oc_at h with ⟨e10, h⟩ | ⟨b9, e10, h⟩
    · rw [e10]
      refine g_ifnN (tgt := 38) F dX9_judge_30 (by decide) ?_
      refine g_iload (i := 5) F dX9_judge_38 rfl ?_
      refine g_goto (tgt := 51) F dX9_judge_40 (by decide) ?_
      have hp := Prod.mk.inj (Option.some.inj h)
      exact g_iret F hr9 rfl hl9 hp.1 (by rw [hp.2]) (by decide) (by decide) dX9_judge_51
    · rw [e10]
      refine g_ifn F dX9_judge_30 ?_
      refine g_iload (i := 5) F dX9_judge_33 rfl ?_
      refine g_if_eq (tgt := 43) F dX9_judge_35 (by decide) h (fun a14 h => ?_) (fun a14 h => ?_)
      · refine g_aload_n (i := 0) F dX9_judge_43 rfl rfl ?_
        refine g_iload_n (i := 1) F dX9_judge_44 rfl rfl ?_
        refine g_aload_n (i := 3) F dX9_judge_45 rfl rfl ?_
        refine g_aload (i := 4) F dX9_judge_46 rfl ?_
        obtain ⟨v12, X11, e13, h⟩ := bd2_at h
        refine g_callVI F (mcR := 0) (msR := 0) (id := 0) (cells_at (kd_lit (i := 0) (by decide)) (xc_9 rfl)) (ci := 9) rfl rfl rfl (c_X9_firstElsewhere G0 e13) wd_45_15 wd_45_12 wd_45_13 wd_45_14 wd_1_2 ⟨by decide, by decide⟩ (nn := 3) (by decide) (As := [.int l1, .ref (ev 0 + b3), .ref (ev 0 + b9)]) rfl rfl (Nat.le_of_ble_eq_true rfl) (by decide) (by decide) ⟨by decide, by decide⟩ dX9_judge_48 ?_
        have hp := Prod.mk.inj (Option.some.inj h)
        exact g_iret F hr9 rfl hl9 hp.1 (by rw [hp.2]) (by decide) (by decide) dX9_judge_51
      · refine g_iload (i := 5) F dX9_judge_38 rfl ?_
        refine g_goto (tgt := 51) F dX9_judge_40 (by decide) ?_
        have hp := Prod.mk.inj (Option.some.inj h)
        exact g_iret F hr9 rfl hl9 hp.1 (by rw [hp.2]) (by decide) (by decide) dX9_judge_51
def fX9_which_l28 (nb : Nat) (l2f28 : Option Nat) (K28 : XW → Int32 → Int32 → Option (Int32 × XW)) (X : XW) (l4 : Int32) (l5 : Int32) : Option (Int32 × XW) :=
  if (X.1 0 12) ≤ l5 then some (l4, X)
  else (rdR (X.2.2 13) 6 l5).bind fun r7 =>
  (r7).bind fun b9 =>
  (l2f28).bind fun b11 =>
  bd2 (fX9_firstElsewhere X nb l5 b9 b11) fun v14 X13 =>
  if v14 = (-1 : Int32) then bd (l4 ||| ((1 : Int32) <<< (l5 &&& (31 : Int32)))) fun v16 =>
  K28 X13 v16 (l5 + (1 : Int32))
  else K28 X13 l4 (l5 + (1 : Int32))
def fX9_which (X : XW) (nb : Nat) (l1 : Int32) : Option (Int32 × XW) :=
  (fX9_sheetOf X l1).bind fun r1 =>
  (fX9_filmRefusal X r1).bind fun v3 =>
  oc r1 (some (v3, X)) (fun b5 => if v3 = 0 then lo3 (fX9_which_l28 nb (some b5)) FU X (0 : Int32) (0 : Int32)
  else some (v3, X))
set_option maxRecDepth 100000 in
set_option maxHeartbeats 4000000 in
theorem c_X9_which {l : Launch} {s0 : State} {D : va_G} {ev : Nat → Nat} (G0 : Gl s0 D ev) {X : XW} {M : MW} {nb : Nat} {l1 : Int32} {r' : Int32} {X' : XW}  (h : fX9_which X nb l1 = some (r', X')) : CT l s0 D ev yX9_which cX9_which 6 (some .int) 7 0 0 [.ref (ev 0 + 0), .int l1] (cells ev X M nb) (QI s0 D ev r' (cells ev X' M nb)) := by
  refine ct_of G0 (by decide) (Nat.le_of_ble_eq_true rfl) ?_
  intro p9 e9 s9 m9 args9 below9 meth9 c9 F hr9 hl9 hin9 hargs9 hts9
  have L28 : ∀ (l2f28 : Option Nat) (N28 : Nat) (X : XW) (l4 : Int32) (l5 : Int32), lo3 (fX9_which_l28 nb l2f28) N28 X l4 l5 = some (r', X') → GJ p9 l e9 (rg 7 0 0) s9 m9 args9 below9 meth9 c9 (MQ below9 (QI s0 D ev r' (cells ev X' M nb)) args9 s9 0 0 (frA ev)) s0 D ev 6 0 0 28 [(0, .ref (ev 0 + 0)), (2, zr ev l2f28), (4, .int l4), (5, .int l5)] ([]) (cells ev X M nb) := by
    intro l2f28 N28
    induction N28 with
    | zero => intro X l4 l5 h; cases h
    | succ N28 ih28 =>
      intro X l4 l5 h
      change fX9_which_l28 nb l2f28 (lo3 (fX9_which_l28 nb l2f28) N28) X l4 l5 = some (r', X') at h
      rw [fX9_which_l28] at h
      refine g_iload (i := 5) F dX9_which_28 rfl ?_
      refine g_aload_n (i := 0) F dX9_which_30 rfl rfl ?_
      refine g_get_9_12 F rfl (kd_lit (by decide)) wd_2_20 dX9_which_31 ?_
      refine g_icmp_ge (tgt := 70) F dX9_which_34 (by decide) h (fun a19 h => ?_) (fun a19 h => ?_)
      · refine g_iload (i := 4) F dX9_which_70 rfl ?_
        have hp := Prod.mk.inj (Option.some.inj h)
        exact g_iret F hr9 rfl hl9 hp.1 (by rw [hp.2]) (by decide) (by decide) dX9_which_72
      · refine g_aload_n (i := 0) F dX9_which_37 rfl rfl ?_
        refine g_iload (i := 5) F dX9_which_38 rfl ?_
        refine g_aload_n (i := 0) F dX9_which_40 rfl rfl ?_
        refine g_get_9_4 F rfl (kd_lit (by decide)) wd_2_3 dX9_which_41 ?_
        refine g_iload (i := 5) F dX9_which_44 rfl ?_
        obtain ⟨r7, e8, h⟩ := bind_at h
        refine g_aldB F e8 dX9_which_46 ?_
        refine g_zaload_n (i := 2) F dX9_which_47 rfl rfl ?_
        obtain ⟨b9, e10, h⟩ := bind_at h
        rw [e10]
        obtain ⟨b11, e12, h⟩ := bind_at h
        rw [e12]
        obtain ⟨v14, X13, e15, h⟩ := bd2_at h
        refine g_callVI F (mcR := 0) (msR := 0) (id := 0) (cells_at (kd_lit (i := 0) (by decide)) (xc_9 rfl)) (ci := 9) rfl rfl rfl (c_X9_firstElsewhere G0 e15) wd_45_15 wd_45_12 wd_45_13 wd_45_14 wd_1_2 ⟨by decide, by decide⟩ (nn := 3) (by decide) (As := [.int l5, .ref (ev 0 + b9), .ref (ev 0 + b11)]) rfl rfl (Nat.le_of_ble_eq_true rfl) (by decide) (by decide) ⟨by decide, by decide⟩ dX9_which_48 ?_
        refine g_iconst F dX9_which_51 (v := -1) (by decide) ?_
        refine g_icmp_ne (tgt := 64) F dX9_which_52 (by decide) h (fun a18 h => ?_) (fun a18 h => ?_)
        · refine g_iinc (i := 5) (v := (l5 + (1 : Int32))) (lv' := [(5, .int (l5 + (1 : Int32))), (0, .ref (ev 0 + 0)), (2, .ref (ev 0 + b11)), (4, .int l4)]) F dX9_which_64 rfl rfl (by decide) rfl ?_
          refine g_goto (tgt := 28) F dX9_which_67 (by decide) ?_
          refine g_lv (lv' := [(0, .ref (ev 0 + 0)), (2, zr ev l2f28), (4, .int l4), (5, .int (l5 + (1 : Int32)))]) ⟨rfl, (by rw [e12]; rfl), rfl, rfl, trivial⟩ ?_
          exact ih28 _ _ _ h
        · refine g_iload (i := 4) F dX9_which_55 rfl ?_
          refine g_iconst F dX9_which_57 (v := 1) (by decide) ?_
          refine g_iload (i := 5) F dX9_which_58 rfl ?_
          refine g_ishl F dX9_which_60 ?_
          refine g_ior F dX9_which_61 ?_
          refine g_topi F h (fun v16 e17 h => ?_)
          refine g_istore (i := 4) (lv' := [(4, .int v16), (0, .ref (ev 0 + 0)), (2, .ref (ev 0 + b11)), (5, .int l5)]) F dX9_which_62 (by decide) rfl ?_
          refine g_iinc (i := 5) (v := (l5 + (1 : Int32))) (lv' := [(5, .int (l5 + (1 : Int32))), (4, .int v16), (0, .ref (ev 0 + 0)), (2, .ref (ev 0 + b11))]) F dX9_which_64 rfl rfl (by decide) rfl ?_
          refine g_goto (tgt := 28) F dX9_which_67 (by decide) ?_
          refine g_lv (lv' := [(0, .ref (ev 0 + 0)), (2, zr ev l2f28), (4, .int v16), (5, .int (l5 + (1 : Int32)))]) ⟨rfl, (by rw [e12]; rfl), rfl, rfl, trivial⟩ ?_
          exact ih28 _ _ _ h
  rw [fX9_which] at h
  refine g_lv (lv' := [(0, .ref (ev 0 + 0)), (1, .int l1)]) ⟨rfl, rfl, trivial⟩ ?_
  refine g_aload_n (i := 0) F dX9_which_0 rfl rfl ?_
  refine g_iload_n (i := 1) F dX9_which_1 rfl rfl ?_
  obtain ⟨r1, e2, h⟩ := bind_at h
  refine g_callVR F (mcR := 0) (msR := 0) (id := 0) (cells_at (kd_lit (i := 0) (by decide)) (xc_9 rfl)) (ci := 9) rfl rfl rfl (c_X9_sheetOf G0 e2) wd_45_2 wd_44_23 wd_45_0 wd_45_1 wd_1_2 ⟨by decide, by decide⟩ (nn := 1) (by decide) (As := [.int l1]) rfl rfl (Nat.le_of_ble_eq_true rfl) (by decide) (by decide) ⟨by decide, by decide⟩ dX9_which_2 ?_
  refine g_zastore_n (i := 2) (lv' := [(2, zr ev r1), (0, .ref (ev 0 + 0)), (1, .int l1)]) F dX9_which_5 rfl (by decide) rfl ?_
  refine g_aload_n (i := 0) F dX9_which_6 rfl rfl ?_
  refine g_zaload_n (i := 2) F dX9_which_7 rfl rfl ?_
  obtain ⟨v3, e4, h⟩ := bind_at h
  refine g_callVI F (mcR := 0) (msR := 0) (id := 0) (cells_at (kd_lit (i := 0) (by decide)) (xc_9 rfl)) (ci := 9) rfl rfl rfl (c_X9_filmRefusal G0 e4) wd_45_6 wd_45_3 wd_45_4 wd_45_5 wd_1_2 ⟨by decide, by decide⟩ (nn := 1) (by decide) (As := [zr ev r1]) rfl rfl (Nat.le_of_ble_eq_true rfl) (by decide) (by decide) ⟨by decide, by decide⟩ dX9_which_8 ?_
  refine g_istore_n (i := 3) (lv' := [(3, .int v3), (2, zr ev r1), (0, .ref (ev 0 + 0)), (1, .int l1)]) F dX9_which_11 rfl (by decide) (by cases r1 <;> exact rfl) ?_
  refine g_zaload_n (i := 2) F dX9_which_12 rfl rfl ?_
  rcases oc_at h with ⟨e6, h⟩ | ⟨b5, e6, h⟩
  · rw [e6]
    refine g_ifnN (tgt := 20) F dX9_which_13 (by decide) ?_
    refine g_iload_n (i := 3) F dX9_which_20 rfl rfl ?_
    have hp := Prod.mk.inj (Option.some.inj h)
    exact g_iret F hr9 rfl hl9 hp.1 (by rw [hp.2]) (by decide) (by decide) dX9_which_21
  · rw [e6]
    refine g_ifn F dX9_which_13 ?_
    refine g_iload_n (i := 3) F dX9_which_16 rfl rfl ?_
    refine g_if_eq (tgt := 22) F dX9_which_17 (by decide) h (fun a20 h => ?_) (fun a20 h => ?_)
    · refine g_iconst F dX9_which_22 (v := 0) (by decide) ?_
      refine g_istore (i := 4) (lv' := [(4, .int (0 : Int32)), (3, .int v3), (2, .ref (ev 0 + b5)), (0, .ref (ev 0 + 0)), (1, .int l1)]) F dX9_which_23 (by decide) rfl ?_
      refine g_iconst F dX9_which_25 (v := 0) (by decide) ?_
      refine g_istore (i := 5) (lv' := [(5, .int (0 : Int32)), (4, .int (0 : Int32)), (3, .int v3), (2, .ref (ev 0 + b5)), (0, .ref (ev 0 + 0)), (1, .int l1)]) F dX9_which_26 (by decide) rfl ?_
      refine g_lv (lv' := [(0, .ref (ev 0 + 0)), (2, zr ev (some b5)), (4, .int (0 : Int32)), (5, .int (0 : Int32))]) ⟨rfl, rfl, rfl, rfl, trivial⟩ ?_
      exact L28 _ FU _ _ _ h
    · refine g_iload_n (i := 3) F dX9_which_20 rfl rfl ?_
      have hp := Prod.mk.inj (Option.some.inj h)
      exact g_iret F hr9 rfl hl9 hp.1 (by rw [hp.2]) (by decide) (by decide) dX9_which_21
def fX9_laws_b97 (nb : Nat) (X : XW) (l6 : Int32) : Option (Int32 × XW) :=
  if inb (X.1 0 14) 6 then bd (47 + 3 * ((X.1 0 14)).toNatClampNeg) fun o12 =>
  bd (xR X 10 3 (some o12)) fun X15 =>
  some (l6, X15)
  else none
def fX9_laws_l47 (nb : Nat) (l1f47 : Int32) (l3f47 : Option Nat) (l4f47 : Option Nat) (K47 : XW → Int32 → Int32 → Option (Int32 × XW)) (X : XW) (l6 : Int32) (l7 : Int32) : Option (Int32 × XW) :=
  if (X.1 0 13) ≤ l7 then fX9_laws_b97 nb X l6
  else if inb l7 6 then bd (47 + 3 * (l7).toNatClampNeg) fun o18 =>
  bd (xR X 10 3 (some o18)) fun X21 =>
  (l3f47).bind fun b23 =>
  (l4f47).bind fun b25 =>
  bd2 (fX9_firstElsewhere X21 nb l1f47 b23 b25) fun v28 X27 =>
  if v28 = (-1 : Int32) then bd (l6 ||| ((1 : Int32) <<< (l7 &&& (31 : Int32)))) fun v30 =>
  K47 X27 v30 (l7 + (1 : Int32))
  else K47 X27 l6 (l7 + (1 : Int32))
  else none
def fX9_laws (X : XW) (nb : Nat) (l1 : Int32) (l2 : Int32) : Option (Int32 × XW) :=
  (fX9_boatOf X l1).bind fun r1 =>
  oc r1 (some ((-5 : Int32), X)) (fun b3 => (fX9_sheetOf X l2).bind fun r5 =>
  (fX9_filmRefusal X r5).bind fun v7 =>
  oc r5 (some (v7, X)) (fun b9 => if v7 = 0 then lo3 (fX9_laws_l47 nb l1 (some b3) (some b9)) FU X (0 : Int32) (0 : Int32)
  else some (v7, X)))
set_option maxRecDepth 100000 in
set_option maxHeartbeats 4000000 in
theorem c_X9_laws {l : Launch} {s0 : State} {D : va_G} {ev : Nat → Nat} (G0 : Gl s0 D ev) {X : XW} {M : MW} {nb : Nat} {l1 : Int32} {l2 : Int32} {r' : Int32} {X' : XW}  (h : fX9_laws X nb l1 l2 = some (r', X')) : CT l s0 D ev yX9_laws cX9_laws 8 (some .int) 7 0 0 [.ref (ev 0 + 0), .int l1, .int l2] (cells ev X M nb) (QI s0 D ev r' (cells ev X' M nb)) := by
  refine ct_of G0 (by decide) (Nat.le_of_ble_eq_true rfl) ?_
  intro p9 e9 s9 m9 args9 below9 meth9 c9 F hr9 hl9 hin9 hargs9 hts9
  have U97 : ∀ (X : XW) (l6 : Int32), fX9_laws_b97 nb X l6 = some (r', X') → GJ p9 l e9 (rg 7 0 0) s9 m9 args9 below9 meth9 c9 (MQ below9 (QI s0 D ev r' (cells ev X' M nb)) args9 s9 0 0 (frA ev)) s0 D ev 8 0 0 97 [(0, .ref (ev 0 + 0)), (6, .int l6)] ([]) (cells ev X M nb) := by
    intro X l6 h
    rw [fX9_laws_b97] at h
    refine g_aload_n (i := 0) F dX9_laws_97 rfl rfl ?_
    refine g_get_9_3 F rfl (kd_lit (by decide)) wd_2_1 dX9_laws_98 ?_
    refine g_aload_n (i := 0) F dX9_laws_101 rfl rfl ?_
    refine g_get_9_2 F rfl (kd_lit (by decide)) wd_1_21 dX9_laws_102 ?_
    refine g_aload_n (i := 0) F dX9_laws_105 rfl rfl ?_
    refine g_get_9_14 F rfl (kd_lit (by decide)) wd_2_22 dX9_laws_106 ?_
    obtain ⟨h11, h⟩ := if_at h
    obtain ⟨o12, e13, h⟩ := bd_at h
    refine g_ald_14 F h11 dX9_laws_109 ?_
    rw [← e13]
    have h14 : kd o12 = 5 := by rw [e13]; exact kd_p (clamp_lt h11)
    obtain ⟨X15, e16, h⟩ := bd_at h
    refine g_put_7_3 F (v := (some o12)) rfl rfl (kd_lit (by decide)) wd_3_5 dX9_laws_110 ?_
    rw [← e16]
    refine g_iload (i := 6) F dX9_laws_113 rfl ?_
    have hp := Prod.mk.inj (Option.some.inj h)
    exact g_iret F hr9 rfl hl9 hp.1 (by rw [hp.2]) (by decide) (by decide) dX9_laws_115
  have L47 : ∀ (l1f47 : Int32) (l3f47 : Option Nat) (l4f47 : Option Nat) (N47 : Nat) (X : XW) (l6 : Int32) (l7 : Int32), lo3 (fX9_laws_l47 nb l1f47 l3f47 l4f47) N47 X l6 l7 = some (r', X') → GJ p9 l e9 (rg 7 0 0) s9 m9 args9 below9 meth9 c9 (MQ below9 (QI s0 D ev r' (cells ev X' M nb)) args9 s9 0 0 (frA ev)) s0 D ev 8 0 0 47 [(0, .ref (ev 0 + 0)), (1, .int l1f47), (3, zr ev l3f47), (4, zr ev l4f47), (6, .int l6), (7, .int l7)] ([]) (cells ev X M nb) := by
    intro l1f47 l3f47 l4f47 N47
    induction N47 with
    | zero => intro X l6 l7 h; cases h
    | succ N47 ih47 =>
      intro X l6 l7 h
      change fX9_laws_l47 nb l1f47 l3f47 l4f47 (lo3 (fX9_laws_l47 nb l1f47 l3f47 l4f47) N47) X l6 l7 = some (r', X') at h
      rw [fX9_laws_l47] at h
      refine g_iload (i := 7) F dX9_laws_47 rfl ?_
      refine g_aload_n (i := 0) F dX9_laws_49 rfl rfl ?_
      refine g_get_9_13 F rfl (kd_lit (by decide)) wd_2_21 dX9_laws_50 ?_
      refine g_icmp_ge (tgt := 97) F dX9_laws_53 (by decide) h (fun a33 h => ?_) (fun a33 h => ?_)
      · refine g_lv (lv' := [(0, .ref (ev 0 + 0)), (6, .int l6)]) ⟨rfl, rfl, trivial⟩ ?_
        exact U97 _ _ h
      · refine g_aload_n (i := 0) F dX9_laws_56 rfl rfl ?_
        refine g_get_9_3 F rfl (kd_lit (by decide)) wd_2_1 dX9_laws_57 ?_
        refine g_aload_n (i := 0) F dX9_laws_60 rfl rfl ?_
        refine g_get_9_2 F rfl (kd_lit (by decide)) wd_1_21 dX9_laws_61 ?_
        refine g_iload (i := 7) F dX9_laws_64 rfl ?_
        obtain ⟨h17, h⟩ := if_at h
        obtain ⟨o18, e19, h⟩ := bd_at h
        refine g_ald_14 F h17 dX9_laws_66 ?_
        rw [← e19]
        have h20 : kd o18 = 5 := by rw [e19]; exact kd_p (clamp_lt h17)
        obtain ⟨X21, e22, h⟩ := bd_at h
        refine g_put_7_3 F (v := (some o18)) rfl rfl (kd_lit (by decide)) wd_3_5 dX9_laws_67 ?_
        rw [← e22]
        refine g_aload_n (i := 0) F dX9_laws_70 rfl rfl ?_
        refine g_iload_n (i := 1) F dX9_laws_71 rfl rfl ?_
        refine g_zaload_n (i := 3) F dX9_laws_72 rfl rfl ?_
        refine g_zaload (i := 4) F dX9_laws_73 rfl ?_
        obtain ⟨b23, e24, h⟩ := bind_at h
        rw [e24]
        obtain ⟨b25, e26, h⟩ := bind_at h
        rw [e26]
        obtain ⟨v28, X27, e29, h⟩ := bd2_at h
        refine g_callVI F (mcR := 0) (msR := 0) (id := 0) (cells_at (kd_lit (i := 0) (by decide)) (xc_9 rfl)) (ci := 9) rfl rfl rfl (c_X9_firstElsewhere G0 e29) wd_45_15 wd_45_12 wd_45_13 wd_45_14 wd_1_2 ⟨by decide, by decide⟩ (nn := 3) (by decide) (As := [.int l1f47, .ref (ev 0 + b23), .ref (ev 0 + b25)]) rfl rfl (Nat.le_of_ble_eq_true rfl) (by decide) (by decide) ⟨by decide, by decide⟩ dX9_laws_75 ?_
        refine g_iconst F dX9_laws_78 (v := -1) (by decide) ?_
        refine g_icmp_ne (tgt := 91) F dX9_laws_79 (by decide) h (fun a32 h => ?_) (fun a32 h => ?_)
        · refine g_iinc (i := 7) (v := (l7 + (1 : Int32))) (lv' := [(7, .int (l7 + (1 : Int32))), (0, .ref (ev 0 + 0)), (1, .int l1f47), (3, .ref (ev 0 + b23)), (4, .ref (ev 0 + b25)), (6, .int l6)]) F dX9_laws_91 rfl rfl (by decide) rfl ?_
          refine g_goto (tgt := 47) F dX9_laws_94 (by decide) ?_
          refine g_lv (lv' := [(0, .ref (ev 0 + 0)), (1, .int l1f47), (3, zr ev l3f47), (4, zr ev l4f47), (6, .int l6), (7, .int (l7 + (1 : Int32)))]) ⟨rfl, rfl, (by rw [e24]; rfl), (by rw [e26]; rfl), rfl, rfl, trivial⟩ ?_
          exact ih47 _ _ _ h
        · refine g_iload (i := 6) F dX9_laws_82 rfl ?_
          refine g_iconst F dX9_laws_84 (v := 1) (by decide) ?_
          refine g_iload (i := 7) F dX9_laws_85 rfl ?_
          refine g_ishl F dX9_laws_87 ?_
          refine g_ior F dX9_laws_88 ?_
          refine g_topi F h (fun v30 e31 h => ?_)
          refine g_istore (i := 6) (lv' := [(6, .int v30), (0, .ref (ev 0 + 0)), (1, .int l1f47), (3, .ref (ev 0 + b23)), (4, .ref (ev 0 + b25)), (7, .int l7)]) F dX9_laws_89 (by decide) rfl ?_
          refine g_iinc (i := 7) (v := (l7 + (1 : Int32))) (lv' := [(7, .int (l7 + (1 : Int32))), (6, .int v30), (0, .ref (ev 0 + 0)), (1, .int l1f47), (3, .ref (ev 0 + b23)), (4, .ref (ev 0 + b25))]) F dX9_laws_91 rfl rfl (by decide) rfl ?_
          refine g_goto (tgt := 47) F dX9_laws_94 (by decide) ?_
          refine g_lv (lv' := [(0, .ref (ev 0 + 0)), (1, .int l1f47), (3, zr ev l3f47), (4, zr ev l4f47), (6, .int v30), (7, .int (l7 + (1 : Int32)))]) ⟨rfl, rfl, (by rw [e24]; rfl), (by rw [e26]; rfl), rfl, rfl, trivial⟩ ?_
          exact ih47 _ _ _ h
  rw [fX9_laws] at h
  refine g_lv (lv' := [(0, .ref (ev 0 + 0)), (1, .int l1), (2, .int l2)]) ⟨rfl, rfl, rfl, trivial⟩ ?_
  refine g_aload_n (i := 0) F dX9_laws_0 rfl rfl ?_
  refine g_iload_n (i := 1) F dX9_laws_1 rfl rfl ?_
  obtain ⟨r1, e2, h⟩ := bind_at h
  refine g_callVR F (mcR := 0) (msR := 0) (id := 0) (cells_at (kd_lit (i := 0) (by decide)) (xc_9 rfl)) (ci := 9) rfl rfl rfl (c_X9_boatOf G0 e2) wd_22_23 wd_22_20 wd_22_21 wd_22_22 wd_1_2 ⟨by decide, by decide⟩ (nn := 1) (by decide) (As := [.int l1]) rfl rfl (Nat.le_of_ble_eq_true rfl) (by decide) (by decide) ⟨by decide, by decide⟩ dX9_laws_2 ?_
  refine g_zastore_n (i := 3) (lv' := [(3, zr ev r1), (0, .ref (ev 0 + 0)), (1, .int l1), (2, .int l2)]) F dX9_laws_5 rfl (by decide) rfl ?_
  refine g_zaload_n (i := 3) F dX9_laws_6 rfl rfl ?_
  rcases oc_at h with ⟨e4, h⟩ | ⟨b3, e4, h⟩
  · rw [e4]
    refine g_ifnnN F dX9_laws_7 ?_
    refine g_bipush F dX9_laws_10 (v := -5) (by decide) ?_
    have hp := Prod.mk.inj (Option.some.inj h)
    exact g_iret F hr9 rfl hl9 hp.1 (by rw [hp.2]) (by decide) (by decide) dX9_laws_12
  · rw [e4]
    refine g_ifnn (tgt := 13) F dX9_laws_7 (by decide) ?_
    refine g_aload_n (i := 0) F dX9_laws_13 rfl rfl ?_
    refine g_iload_n (i := 2) F dX9_laws_14 rfl rfl ?_
    obtain ⟨r5, e6, h⟩ := bind_at h
    refine g_callVR F (mcR := 0) (msR := 0) (id := 0) (cells_at (kd_lit (i := 0) (by decide)) (xc_9 rfl)) (ci := 9) rfl rfl rfl (c_X9_sheetOf G0 e6) wd_45_2 wd_44_23 wd_45_0 wd_45_1 wd_1_2 ⟨by decide, by decide⟩ (nn := 1) (by decide) (As := [.int l2]) rfl rfl (Nat.le_of_ble_eq_true rfl) (by decide) (by decide) ⟨by decide, by decide⟩ dX9_laws_15 ?_
    refine g_zastore (i := 4) (lv' := [(4, zr ev r5), (3, .ref (ev 0 + b3)), (0, .ref (ev 0 + 0)), (1, .int l1), (2, .int l2)]) F dX9_laws_18 (by decide) rfl ?_
    refine g_aload_n (i := 0) F dX9_laws_20 rfl rfl ?_
    refine g_zaload (i := 4) F dX9_laws_21 rfl ?_
    obtain ⟨v7, e8, h⟩ := bind_at h
    refine g_callVI F (mcR := 0) (msR := 0) (id := 0) (cells_at (kd_lit (i := 0) (by decide)) (xc_9 rfl)) (ci := 9) rfl rfl rfl (c_X9_filmRefusal G0 e8) wd_45_6 wd_45_3 wd_45_4 wd_45_5 wd_1_2 ⟨by decide, by decide⟩ (nn := 1) (by decide) (As := [zr ev r5]) rfl rfl (Nat.le_of_ble_eq_true rfl) (by decide) (by decide) ⟨by decide, by decide⟩ dX9_laws_23 ?_
    refine g_istore (i := 5) (lv' := [(5, .int v7), (4, zr ev r5), (3, .ref (ev 0 + b3)), (0, .ref (ev 0 + 0)), (1, .int l1), (2, .int l2)]) F dX9_laws_26 (by decide) (by cases r5 <;> exact rfl) ?_
    refine g_zaload (i := 4) F dX9_laws_28 rfl ?_
    rcases oc_at h with ⟨e10, h⟩ | ⟨b9, e10, h⟩
    · rw [e10]
      refine g_ifnN (tgt := 38) F dX9_laws_30 (by decide) ?_
      refine g_iload (i := 5) F dX9_laws_38 rfl ?_
      have hp := Prod.mk.inj (Option.some.inj h)
      exact g_iret F hr9 rfl hl9 hp.1 (by rw [hp.2]) (by decide) (by decide) dX9_laws_40
    · rw [e10]
      refine g_ifn F dX9_laws_30 ?_
      refine g_iload (i := 5) F dX9_laws_33 rfl ?_
      refine g_if_eq (tgt := 41) F dX9_laws_35 (by decide) h (fun a34 h => ?_) (fun a34 h => ?_)
      · refine g_iconst F dX9_laws_41 (v := 0) (by decide) ?_
        refine g_istore (i := 6) (lv' := [(6, .int (0 : Int32)), (5, .int v7), (4, .ref (ev 0 + b9)), (3, .ref (ev 0 + b3)), (0, .ref (ev 0 + 0)), (1, .int l1), (2, .int l2)]) F dX9_laws_42 (by decide) rfl ?_
        refine g_iconst F dX9_laws_44 (v := 0) (by decide) ?_
        refine g_istore (i := 7) (lv' := [(7, .int (0 : Int32)), (6, .int (0 : Int32)), (5, .int v7), (4, .ref (ev 0 + b9)), (3, .ref (ev 0 + b3)), (0, .ref (ev 0 + 0)), (1, .int l1), (2, .int l2)]) F dX9_laws_45 (by decide) rfl ?_
        refine g_lv (lv' := [(0, .ref (ev 0 + 0)), (1, .int l1), (3, zr ev (some b3)), (4, zr ev (some b9)), (6, .int (0 : Int32)), (7, .int (0 : Int32))]) ⟨rfl, rfl, rfl, rfl, rfl, rfl, trivial⟩ ?_
        exact L47 _ _ _ FU _ _ _ h
      · refine g_iload (i := 5) F dX9_laws_38 rfl ?_
        have hp := Prod.mk.inj (Option.some.inj h)
        exact g_iret F hr9 rfl hl9 hp.1 (by rw [hp.2]) (by decide) (by decide) dX9_laws_40
def fX9_draw_l11 (K11 : XW → Int64 → Int32 → Option (XW)) (X : XW) (l2 : Int64) (l4 : Int32) : Option (XW) :=
  if (12 : Int32) ≤ l4 then some X
  else bd (lrem (l2 * (48271 : Int64)) (2147483647 : Int64)) fun v5 =>
  (rd (X.2.1 5) 12 l4).bind fun v7 =>
  bd ((v7 + (lrem v5 (41 : Int64)).toInt32) - (20 : Int32)) fun v9 =>
  if inb l4 12 then bd (xA X 16 l4 (jmax (0 : Int32) (jmin (99 : Int32) v9))) fun X12 =>
  K11 X12 v5 (l4 + (1 : Int32))
  else none
def fX9_draw (X : XW) (l1 : Int32) : Option (XW) :=
  bd (l1.toInt64 + (1 : Int64)) fun v1 =>
  bd (X.1 0 11) fun v3 =>
  lo3 (fX9_draw_l11) FU X v1 v3
set_option maxRecDepth 100000 in
set_option maxHeartbeats 4000000 in
theorem c_X9_draw {l : Launch} {s0 : State} {D : va_G} {ev : Nat → Nat} (G0 : Gl s0 D ev) {X : XW} {M : MW} {nb : Nat} {l1 : Int32} {X' : XW}  (h : fX9_draw X l1 = some (X')) : CT l s0 D ev yX9_draw cX9_draw 6 none 1 0 0 [.ref (ev 0 + 0), .int l1] (cells ev X M nb) (QV s0 D ev (cells ev X' M nb)) := by
  refine ct_of G0 (by decide) (Nat.le_of_ble_eq_true rfl) ?_
  intro p9 e9 s9 m9 args9 below9 meth9 c9 F hr9 hl9 hin9 hargs9 hts9
  have L11 : ∀  (N11 : Nat) (X : XW) (l2 : Int64) (l4 : Int32), lo3 (fX9_draw_l11) N11 X l2 l4 = some (X') → GJ p9 l e9 (rg 1 0 0) s9 m9 args9 below9 meth9 c9 (MQ below9 (QV s0 D ev (cells ev X' M nb)) args9 s9 0 0 (frA ev)) s0 D ev 6 0 0 11 [(0, .ref (ev 0 + 0)), (2, .long l2), (4, .int l4)] ([]) (cells ev X M nb) := by
    intro  N11
    induction N11 with
    | zero => intro X l2 l4 h; cases h
    | succ N11 ih11 =>
      intro X l2 l4 h
      change fX9_draw_l11 (lo3 (fX9_draw_l11) N11) X l2 l4 = some (X') at h
      rw [fX9_draw_l11] at h
      refine g_iload (i := 4) F dX9_draw_11 rfl ?_
      refine g_bipush F dX9_draw_13 (v := 12) (by decide) ?_
      refine g_icmp_ge (tgt := 74) F dX9_draw_15 (by decide) h (fun a14 h => ?_) (fun a14 h => ?_)
      · exact g_vret F hr9 hl9 (by rw [Option.some.inj h]) (by decide) (by decide) dX9_draw_74
      · refine g_lload_n (i := 2) F dX9_draw_18 rfl rfl ?_
        refine g_ldc2 F dX9_draw_19 wd_48_3 ?_
        refine g_lmul F dX9_draw_22 ?_
        refine g_ldc2 F dX9_draw_23 wd_48_4 ?_
        refine g_lrem F dX9_draw_26 (by decide) ?_
        refine g_topl F h (fun v5 e6 h => ?_)
        refine g_lstore_n (i := 2) (lv' := [(2, .long v5), (0, .ref (ev 0 + 0)), (4, .int l4)]) F dX9_draw_27 rfl (by decide) rfl ?_
        refine g_aload_n (i := 0) F dX9_draw_28 rfl rfl ?_
        refine g_get_9_0 F rfl (kd_lit (by decide)) wd_1_15 dX9_draw_29 ?_
        refine g_get_0_3 F rfl (kd_lit (by decide)) wd_47_22 dX9_draw_32 ?_
        refine g_iload (i := 4) F dX9_draw_35 rfl ?_
        obtain ⟨v7, e8, h⟩ := bind_at h
        refine g_ildX F rfl rfl e8 dX9_draw_37 ?_
        refine g_lload_n (i := 2) F dX9_draw_38 rfl rfl ?_
        refine g_ldc2 F dX9_draw_39 wd_48_5 ?_
        refine g_lrem F dX9_draw_42 (by decide) ?_
        refine g_l2i F dX9_draw_43 ?_
        refine g_iadd F dX9_draw_44 ?_
        refine g_bipush F dX9_draw_45 (v := 20) (by decide) ?_
        refine g_isub F dX9_draw_47 ?_
        refine g_topi F h (fun v9 e10 h => ?_)
        refine g_istore (i := 5) (lv' := [(5, .int v9), (2, .long v5), (0, .ref (ev 0 + 0)), (4, .int l4)]) F dX9_draw_48 (by decide) rfl ?_
        refine g_aload_n (i := 0) F dX9_draw_50 rfl rfl ?_
        refine g_get_9_7 F rfl (kd_lit (by decide)) wd_2_8 dX9_draw_51 ?_
        refine g_iload (i := 4) F dX9_draw_54 rfl ?_
        refine g_iconst F dX9_draw_56 (v := 0) (by decide) ?_
        refine g_bipush F dX9_draw_57 (v := 99) (by decide) ?_
        refine g_iload (i := 5) F dX9_draw_59 rfl ?_
        refine g_mmin F wd_16_19 wd_16_20 wd_16_21 wd_16_22 (Nat.le_of_ble_eq_true rfl) (Nat.le_of_ble_eq_true rfl) (Nat.zero_le _) (Nat.zero_le _) dX9_draw_61 ?_
        refine g_mmax F wd_48_6 wd_20_14 wd_16_21 wd_20_15 (Nat.le_of_ble_eq_true rfl) (Nat.le_of_ble_eq_true rfl) (Nat.zero_le _) (Nat.zero_le _) dX9_draw_64 ?_
        obtain ⟨h11, h⟩ := if_at h
        obtain ⟨X12, e13, h⟩ := bd_at h
        refine g_istX F rfl rfl h11 dX9_draw_67 ?_
        rw [← e13]
        refine g_iinc (i := 4) (v := (l4 + (1 : Int32))) (lv' := [(4, .int (l4 + (1 : Int32))), (5, .int v9), (2, .long v5), (0, .ref (ev 0 + 0))]) F dX9_draw_68 rfl rfl (by decide) rfl ?_
        refine g_goto (tgt := 11) F dX9_draw_71 (by decide) ?_
        refine g_lv (lv' := [(0, .ref (ev 0 + 0)), (2, .long v5), (4, .int (l4 + (1 : Int32)))]) ⟨rfl, rfl, rfl, trivial⟩ ?_
        exact ih11 _ _ _ h
  rw [fX9_draw] at h
  refine g_lv (lv' := [(0, .ref (ev 0 + 0)), (1, .int l1)]) ⟨rfl, rfl, trivial⟩ ?_
  refine g_iload_n (i := 1) F dX9_draw_0 rfl rfl ?_
  refine g_i2l F dX9_draw_1 ?_
  refine g_lconst F dX9_draw_2 (v := 1) (by decide) ?_
  refine g_ladd F dX9_draw_3 ?_
  refine g_topl F h (fun v1 e2 h => ?_)
  refine g_lstore_n (i := 2) (lv' := [(2, .long v1), (0, .ref (ev 0 + 0)), (1, .int l1)]) F dX9_draw_4 rfl (by decide) rfl ?_
  refine g_aload_n (i := 0) F dX9_draw_5 rfl rfl ?_
  refine g_get_9_11 F rfl (kd_lit (by decide)) wd_2_19 dX9_draw_6 ?_
  refine g_topi F h (fun v3 e4 h => ?_)
  refine g_istore (i := 4) (lv' := [(4, .int v3), (2, .long v1), (0, .ref (ev 0 + 0)), (1, .int l1)]) F dX9_draw_9 (by decide) rfl ?_
  refine g_lv (lv' := [(0, .ref (ev 0 + 0)), (2, .long v1), (4, .int v3)]) ⟨rfl, rfl, rfl, trivial⟩ ?_
  exact L11 FU _ _ _ h

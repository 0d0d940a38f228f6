def fX10_puts (M : MW) (l1 : Int32) : Option (MW) :=
  if inb (((200 : Int32) * (M.1 21)) + (M.1 43)) 1200 then bd (mA M 82 (((200 : Int32) * (M.1 21)) + (M.1 43)) l1) fun M2 =>
  bd (mI M2 43 ((M2.1 43) + (1 : Int32))) fun M4 =>
  some M4
  else none
set_option maxRecDepth 100000 in
set_option maxHeartbeats 4000000 in
theorem c_X10_puts {l : Launch} {s0 : State} {D : va_G} {ev : Nat → Nat} (G0 : Gl s0 D ev) {X : XW} {M : MW} {nb : Nat} {l1 : Int32} {M' : MW}  (h : fX10_puts M l1 = some (M')) : CT l s0 D ev yX10_puts cX10_puts 2 none 0 0 0 [.ref (ev 0 + 65), .int l1] (cells ev X M (nb + 1)) (QV s0 D ev (cells ev X M' (nb + 1))) := by
  refine ct_of G0 (by decide) (Nat.le_of_ble_eq_true rfl) ?_
  intro p9 e9 s9 m9 args9 below9 meth9 c9 F hr9 hl9 hin9 hargs9 hts9
  rw [fX10_puts] at h
  refine g_lv (lv' := [(0, .ref (ev 0 + 65)), (1, .int l1)]) ⟨rfl, rfl, trivial⟩ ?_
  refine g_aload_n (i := 0) F dX10_puts_0 rfl rfl ?_
  refine g_get_10_19 F wd_12_6 dX10_puts_1 ?_
  refine g_sipush F dX10_puts_4 (v := 200) (by decide) ?_
  refine g_aload_n (i := 0) F dX10_puts_7 rfl rfl ?_
  refine g_get_10_21 F wd_13_9 dX10_puts_8 ?_
  refine g_imul F dX10_puts_11 ?_
  refine g_aload_n (i := 0) F dX10_puts_12 rfl rfl ?_
  refine g_get_10_43 F wd_13_11 dX10_puts_13 ?_
  refine g_iadd F dX10_puts_16 ?_
  refine g_iload_n (i := 1) F dX10_puts_17 rfl rfl ?_
  obtain ⟨h1, h⟩ := if_at h
  obtain ⟨M2, e3, h⟩ := bd_at h
  refine g_istM F rfl rfl h1 dX10_puts_18 ?_
  rw [← e3]
  refine g_aload_n (i := 0) F dX10_puts_19 rfl rfl ?_
  refine g_dup F dX10_puts_20 rfl ?_
  refine g_get_10_43 F wd_13_11 dX10_puts_21 ?_
  refine g_iconst F dX10_puts_24 (v := 1) (by decide) ?_
  refine g_iadd F dX10_puts_25 ?_
  obtain ⟨M4, e5, h⟩ := bd_at h
  refine g_put_10_43 F wd_13_11 dX10_puts_26 ?_
  rw [← e5]
  exact g_vret F hr9 hl9 (by rw [Option.some.inj h]) (by decide) (by decide) dX10_puts_29
def fX10_unwinds_b67 (l1f0 : Int32) (K0 : MW → Option (MW)) (M : MW) (l2 : Int32) (t1 : Int32) (t2 : Int32) : Option (MW) :=
  bd (mI M 42 (t1 - t2)) fun M9 =>
  (fX10_puts M9 l2).bind fun M11 =>
  K0 M11
def fX10_unwinds_b62 (l1f0 : Int32) (K0 : MW → Option (MW)) (M : MW) (l2 : Int32) (t1 : Int32) : Option (MW) :=
  fX10_unwinds_b67 l1f0 K0 M l2 t1 (1 : Int32)
def fX10_unwinds_l0 (l1f0 : Int32) (K0 : MW → Option (MW)) (M : MW) : Option (MW) :=
  if (M.1 41) ≤ 0 then some M
  else (rd (M.2 93) 200 ((M.1 41) - (1 : Int32))).bind fun v1 =>
  if (fX10_rank v1) < l1f0 then some M
  else bd (mI M 41 ((M.1 41) - (1 : Int32))) fun M5 =>
  (rd (M5.2 93) 200 (M5.1 41)).bind fun v7 =>
  if v7 = (13 : Int32) then fX10_unwinds_b62 l1f0 K0 M5 v7 (M5.1 42)
  else if v7 = (19 : Int32) then fX10_unwinds_b62 l1f0 K0 M5 v7 (M5.1 42)
  else fX10_unwinds_b67 l1f0 K0 M5 v7 (M5.1 42) (0 : Int32)
def fX10_unwinds (M : MW) (l1 : Int32) : Option (MW) :=
  lo1 (fX10_unwinds_l0 l1) FU M
set_option maxRecDepth 100000 in
set_option maxHeartbeats 4000000 in
theorem c_X10_unwinds {l : Launch} {s0 : State} {D : va_G} {ev : Nat → Nat} (G0 : Gl s0 D ev) {X : XW} {M : MW} {nb : Nat} {l1 : Int32} {M' : MW}  (h : fX10_unwinds M l1 = some (M')) : CT l s0 D ev yX10_unwinds cX10_unwinds 3 none 1 0 0 [.ref (ev 0 + 65), .int l1] (cells ev X M (nb + 1)) (QV s0 D ev (cells ev X M' (nb + 1))) := by
  refine ct_of G0 (by decide) (Nat.le_of_ble_eq_true rfl) ?_
  intro p9 e9 s9 m9 args9 below9 meth9 c9 F hr9 hl9 hin9 hargs9 hts9
  have L0 : ∀ (l1f0 : Int32) (N0 : Nat) (M : MW), lo1 (fX10_unwinds_l0 l1f0) N0 M = some (M') → GJ p9 l e9 (rg 1 0 0) s9 m9 args9 below9 meth9 c9 (MQ below9 (QV s0 D ev (cells ev X M' (nb + 1))) args9 s9 0 0 (frA ev)) s0 D ev 3 0 0 0 [(0, .ref (ev 0 + 65)), (1, .int l1f0)] ([]) (cells ev X M (nb + 1)) := by
    intro l1f0 N0
    induction N0 with
    | zero => intro M h; cases h
    | succ N0 ih0 =>
      have U67 : ∀ (M : MW) (l2 : Int32) (t1 : Int32) (t2 : Int32), fX10_unwinds_b67 l1f0 (lo1 (fX10_unwinds_l0 l1f0) N0) M l2 t1 t2 = some (M') → GJ p9 l e9 (rg 1 0 0) s9 m9 args9 below9 meth9 c9 (MQ below9 (QV s0 D ev (cells ev X M' (nb + 1))) args9 s9 0 0 (frA ev)) s0 D ev 3 0 0 67 [(0, .ref (ev 0 + 65)), (1, .int l1f0), (2, .int l2)] (.int t2 :: .int t1 :: .ref (ev 0 + 65) :: []) (cells ev X M (nb + 1)) := by
        intro M l2 t1 t2 h
        rw [fX10_unwinds_b67] at h
        refine g_isub F dX10_unwinds_67 ?_
        obtain ⟨M9, e10, h⟩ := bd_at h
        refine g_put_10_42 F wd_14_7 dX10_unwinds_68 ?_
        rw [← e10]
        refine g_aload_n (i := 0) F dX10_unwinds_71 rfl rfl ?_
        refine g_iload_n (i := 2) F dX10_unwinds_72 rfl rfl ?_
        obtain ⟨M11, e12, h⟩ := bind_at h
        refine g_callVV F (mcR := 0) (msR := 0) (id := 65) (cells_at (kd_hidM (show kd 65 = 10 from rfl) (by decide)) (xc_10 rfl)) (ci := 10) rfl rfl rfl (c_X10_puts G0 e12) wd_14_12 wd_14_9 wd_14_10 wd_14_11 wd_1_5 ⟨by decide, by decide⟩ (nn := 1) (by decide) (As := [.int l2]) rfl rfl (Nat.le_of_ble_eq_true rfl) (by decide) (by decide) ⟨by decide, by decide⟩ dX10_unwinds_73 ?_
        refine g_goto (tgt := 0) F dX10_unwinds_76 (by decide) ?_
        refine g_lv (lv' := [(0, .ref (ev 0 + 65)), (1, .int l1f0)]) ⟨rfl, rfl, trivial⟩ ?_
        exact ih0 _ h
      have U62 : ∀ (M : MW) (l2 : Int32) (t1 : Int32), fX10_unwinds_b62 l1f0 (lo1 (fX10_unwinds_l0 l1f0) N0) M l2 t1 = some (M') → GJ p9 l e9 (rg 1 0 0) s9 m9 args9 below9 meth9 c9 (MQ below9 (QV s0 D ev (cells ev X M' (nb + 1))) args9 s9 0 0 (frA ev)) s0 D ev 3 0 0 62 [(0, .ref (ev 0 + 65)), (1, .int l1f0), (2, .int l2)] (.int t1 :: .ref (ev 0 + 65) :: []) (cells ev X M (nb + 1)) := by
        intro M l2 t1 h
        rw [fX10_unwinds_b62] at h
        refine g_iconst F dX10_unwinds_62 (v := 1) (by decide) ?_
        refine g_goto (tgt := 67) F dX10_unwinds_63 (by decide) ?_
        refine g_lv (lv' := [(0, .ref (ev 0 + 65)), (1, .int l1f0), (2, .int l2)]) ⟨rfl, rfl, rfl, trivial⟩ ?_
        exact U67 _ _ _ _ h
      intro M h
      change fX10_unwinds_l0 l1f0 (lo1 (fX10_unwinds_l0 l1f0) N0) M = some (M') at h
      rw [fX10_unwinds_l0] at h
      refine g_aload_n (i := 0) F dX10_unwinds_0 rfl rfl ?_
      refine g_get_10_41 F wd_14_6 dX10_unwinds_1 ?_
      refine g_if_le (tgt := 79) F dX10_unwinds_4 (by decide) h (fun a16 h => ?_) (fun a16 h => ?_)
      · exact g_vret F hr9 hl9 (by rw [Option.some.inj h]) (by decide) (by decide) dX10_unwinds_79
      · refine g_aload_n (i := 0) F dX10_unwinds_7 rfl rfl ?_
        refine g_get_10_40 F wd_12_17 dX10_unwinds_8 ?_
        refine g_aload_n (i := 0) F dX10_unwinds_11 rfl rfl ?_
        refine g_get_10_41 F wd_14_6 dX10_unwinds_12 ?_
        refine g_iconst F dX10_unwinds_15 (v := 1) (by decide) ?_
        refine g_isub F dX10_unwinds_16 ?_
        obtain ⟨v1, e2, h⟩ := bind_at h
        refine g_ildM F rfl rfl e2 dX10_unwinds_17 ?_
        refine g_callSI F (mcR := 0) (msR := 0) (c_X10_rank G0 (X := X) (M := M) (nb := nb) rfl) wd_14_19 wd_14_17 wd_14_18 wd_1_5 ⟨by decide, by decide⟩ (nn := 1) (by decide) (As := [.int v1]) rfl rfl (Nat.le_of_ble_eq_true rfl) (by decide) (by decide) ⟨by decide, by decide⟩ dX10_unwinds_18 ?_
        refine g_iload_n (i := 1) F dX10_unwinds_21 rfl rfl ?_
        refine g_icmp_lt (tgt := 79) F dX10_unwinds_22 (by decide) h (fun a15 h => ?_) (fun a15 h => ?_)
        · exact g_vret F hr9 hl9 (by rw [Option.some.inj h]) (by decide) (by decide) dX10_unwinds_79
        · refine g_aload_n (i := 0) F dX10_unwinds_25 rfl rfl ?_
          refine g_dup F dX10_unwinds_26 rfl ?_
          refine g_get_10_41 F wd_14_6 dX10_unwinds_27 ?_
          refine g_iconst F dX10_unwinds_30 (v := 1) (by decide) ?_
          refine g_isub F dX10_unwinds_31 ?_
          obtain ⟨M5, e6, h⟩ := bd_at h
          refine g_put_10_41 F wd_14_6 dX10_unwinds_32 ?_
          rw [← e6]
          refine g_aload_n (i := 0) F dX10_unwinds_35 rfl rfl ?_
          refine g_get_10_40 F wd_12_17 dX10_unwinds_36 ?_
          refine g_aload_n (i := 0) F dX10_unwinds_39 rfl rfl ?_
          refine g_get_10_41 F wd_14_6 dX10_unwinds_40 ?_
          obtain ⟨v7, e8, h⟩ := bind_at h
          refine g_ildM F rfl rfl e8 dX10_unwinds_43 ?_
          refine g_istore_n (i := 2) (lv' := [(2, .int v7), (0, .ref (ev 0 + 65)), (1, .int l1f0)]) F dX10_unwinds_44 rfl (by decide) rfl ?_
          refine g_aload_n (i := 0) F dX10_unwinds_45 rfl rfl ?_
          refine g_dup F dX10_unwinds_46 rfl ?_
          refine g_get_10_42 F wd_14_7 dX10_unwinds_47 ?_
          refine g_iload_n (i := 2) F dX10_unwinds_50 rfl rfl ?_
          refine g_bipush F dX10_unwinds_51 (v := 13) (by decide) ?_
          refine g_icmp_eq (tgt := 62) F dX10_unwinds_53 (by decide) h (fun a14 h => ?_) (fun a14 h => ?_)
          · refine g_lv (lv' := [(0, .ref (ev 0 + 65)), (1, .int l1f0), (2, .int v7)]) ⟨rfl, rfl, rfl, trivial⟩ ?_
            exact U62 _ _ _ h
          · refine g_iload_n (i := 2) F dX10_unwinds_56 rfl rfl ?_
            refine g_bipush F dX10_unwinds_57 (v := 19) (by decide) ?_
            refine g_icmp_ne (tgt := 66) F dX10_unwinds_59 (by decide) h (fun a13 h => ?_) (fun a13 h => ?_)
            · refine g_iconst F dX10_unwinds_66 (v := 0) (by decide) ?_
              refine g_lv (lv' := [(0, .ref (ev 0 + 65)), (1, .int l1f0), (2, .int v7)]) ⟨rfl, rfl, rfl, trivial⟩ ?_
              exact U67 _ _ _ _ h
            · refine g_lv (lv' := [(0, .ref (ev 0 + 65)), (1, .int l1f0), (2, .int v7)]) ⟨rfl, rfl, rfl, trivial⟩ ?_
              exact U62 _ _ _ h
  rw [fX10_unwinds] at h
  refine g_lv (lv' := [(0, .ref (ev 0 + 65)), (1, .int l1)]) ⟨rfl, rfl, trivial⟩ ?_
  refine g_lv (lv' := [(0, .ref (ev 0 + 65)), (1, .int l1)]) ⟨rfl, rfl, trivial⟩ ?_
  exact L0 _ FU _ h
def fX10_keeps (M : MW) (l1 : Int32) : Option (MW) :=
  if inb (M.1 41) 200 then bd (mA M 93 (M.1 41) l1) fun M2 =>
  bd (mI M2 41 ((M2.1 41) + (1 : Int32))) fun M4 =>
  some M4
  else none
set_option maxRecDepth 100000 in
set_option maxHeartbeats 4000000 in
theorem c_X10_keeps {l : Launch} {s0 : State} {D : va_G} {ev : Nat → Nat} (G0 : Gl s0 D ev) {X : XW} {M : MW} {nb : Nat} {l1 : Int32} {M' : MW}  (h : fX10_keeps M l1 = some (M')) : CT l s0 D ev yX10_keeps cX10_keeps 2 none 0 0 0 [.ref (ev 0 + 65), .int l1] (cells ev X M (nb + 1)) (QV s0 D ev (cells ev X M' (nb + 1))) := by
  refine ct_of G0 (by decide) (Nat.le_of_ble_eq_true rfl) ?_
  intro p9 e9 s9 m9 args9 below9 meth9 c9 F hr9 hl9 hin9 hargs9 hts9
  rw [fX10_keeps] at h
  refine g_lv (lv' := [(0, .ref (ev 0 + 65)), (1, .int l1)]) ⟨rfl, rfl, trivial⟩ ?_
  refine g_aload_n (i := 0) F dX10_keeps_0 rfl rfl ?_
  refine g_get_10_40 F wd_12_17 dX10_keeps_1 ?_
  refine g_aload_n (i := 0) F dX10_keeps_4 rfl rfl ?_
  refine g_get_10_41 F wd_14_6 dX10_keeps_5 ?_
  refine g_iload_n (i := 1) F dX10_keeps_8 rfl rfl ?_
  obtain ⟨h1, h⟩ := if_at h
  obtain ⟨M2, e3, h⟩ := bd_at h
  refine g_istM F rfl rfl h1 dX10_keeps_9 ?_
  rw [← e3]
  refine g_aload_n (i := 0) F dX10_keeps_10 rfl rfl ?_
  refine g_dup F dX10_keeps_11 rfl ?_
  refine g_get_10_41 F wd_14_6 dX10_keeps_12 ?_
  refine g_iconst F dX10_keeps_15 (v := 1) (by decide) ?_
  refine g_iadd F dX10_keeps_16 ?_
  obtain ⟨M4, e5, h⟩ := bd_at h
  refine g_put_10_41 F wd_14_6 dX10_keeps_17 ?_
  rw [← e5]
  exact g_vret F hr9 hl9 (by rw [Option.some.inj h]) (by decide) (by decide) dX10_keeps_20
def fX10_opensOne (M : MW) (l1 : Int32) : Option (Int32 × MW) :=
  if (M.1 42) = (5 : Int32) then some ((0 : Int32), M)
  else bd (mI M 42 ((M.1 42) + (1 : Int32))) fun M1 =>
  (fX10_keeps M1 l1).bind fun M3 =>
  some ((1 : Int32), M3)
set_option maxRecDepth 100000 in
set_option maxHeartbeats 4000000 in
theorem c_X10_opensOne {l : Launch} {s0 : State} {D : va_G} {ev : Nat → Nat} (G0 : Gl s0 D ev) {X : XW} {M : MW} {nb : Nat} {l1 : Int32} {r' : Int32} {M' : MW}  (h : fX10_opensOne M l1 = some (r', M')) : CT l s0 D ev yX10_opensOne cX10_opensOne 2 (some .boolean) 1 0 0 [.ref (ev 0 + 65), .int l1] (cells ev X M (nb + 1)) (QI s0 D ev r' (cells ev X M' (nb + 1))) := by
  refine ct_of G0 (by decide) (Nat.le_of_ble_eq_true rfl) ?_
  intro p9 e9 s9 m9 args9 below9 meth9 c9 F hr9 hl9 hin9 hargs9 hts9
  rw [fX10_opensOne] at h
  refine g_lv (lv' := [(0, .ref (ev 0 + 65)), (1, .int l1)]) ⟨rfl, rfl, trivial⟩ ?_
  refine g_aload_n (i := 0) F dX10_opensOne_0 rfl rfl ?_
  refine g_get_10_42 F wd_14_7 dX10_opensOne_1 ?_
  refine g_iconst F dX10_opensOne_4 (v := 5) (by decide) ?_
  refine g_icmp_ne (tgt := 10) F dX10_opensOne_5 (by decide) h (fun a5 h => ?_) (fun a5 h => ?_)
  · refine g_aload_n (i := 0) F dX10_opensOne_10 rfl rfl ?_
    refine g_dup F dX10_opensOne_11 rfl ?_
    refine g_get_10_42 F wd_14_7 dX10_opensOne_12 ?_
    refine g_iconst F dX10_opensOne_15 (v := 1) (by decide) ?_
    refine g_iadd F dX10_opensOne_16 ?_
    obtain ⟨M1, e2, h⟩ := bd_at h
    refine g_put_10_42 F wd_14_7 dX10_opensOne_17 ?_
    rw [← e2]
    refine g_aload_n (i := 0) F dX10_opensOne_20 rfl rfl ?_
    refine g_iload_n (i := 1) F dX10_opensOne_21 rfl rfl ?_
    obtain ⟨M3, e4, h⟩ := bind_at h
    refine g_callVV F (mcR := 0) (msR := 0) (id := 65) (cells_at (kd_hidM (show kd 65 = 10 from rfl) (by decide)) (xc_10 rfl)) (ci := 10) rfl rfl rfl (c_X10_keeps G0 e4) wd_15_3 wd_15_0 wd_15_1 wd_15_2 wd_1_5 ⟨by decide, by decide⟩ (nn := 1) (by decide) (As := [.int l1]) rfl rfl (Nat.le_of_ble_eq_true rfl) (by decide) (by decide) ⟨by decide, by decide⟩ dX10_opensOne_22 ?_
    refine g_iconst F dX10_opensOne_25 (v := 1) (by decide) ?_
    have hp := Prod.mk.inj (Option.some.inj h)
    exact g_iret F hr9 (by decide) hl9 hp.1 (by rw [hp.2]) (by decide) (by decide) dX10_opensOne_26
  · refine g_iconst F dX10_opensOne_8 (v := 0) (by decide) ?_
    have hp := Prod.mk.inj (Option.some.inj h)
    exact g_iret F hr9 (by decide) hl9 hp.1 (by rw [hp.2]) (by decide) (by decide) dX10_opensOne_9
def fX10_between_b55 (M : MW) (l1 : Int32) : Option (Int32 × MW) :=
  (fX10_keeps M l1).bind fun M9 =>
  some ((1 : Int32), M9)
def fX10_between_b17 (M : MW) (l1 : Int32) (t1 : Int32) : Option (Int32 × MW) :=
  (fX10_unwinds M t1).bind fun M5 =>
  if (fX10_rank l1) = (4 : Int32) then if (M5.1 41) ≤ 0 then fX10_between_b55 M5 l1
  else (rd (M5.2 93) 200 ((M5.1 41) - (1 : Int32))).bind fun v11 =>
  if (fX10_rank v11) = (4 : Int32) then some ((0 : Int32), M5)
  else fX10_between_b55 M5 l1
  else fX10_between_b55 M5 l1
def fX10_between (M : MW) (l1 : Int32) : Option (Int32 × MW) :=
  if (fX10_rank l1) = (4 : Int32) then fX10_between_b17 M l1 (5 : Int32)
  else fX10_between_b17 M l1 (fX10_rank l1)
set_option maxRecDepth 100000 in
set_option maxHeartbeats 4000000 in
theorem c_X10_between {l : Launch} {s0 : State} {D : va_G} {ev : Nat → Nat} (G0 : Gl s0 D ev) {X : XW} {M : MW} {nb : Nat} {l1 : Int32} {r' : Int32} {M' : MW}  (h : fX10_between M l1 = some (r', M')) : CT l s0 D ev yX10_between cX10_between 2 (some .boolean) 2 0 0 [.ref (ev 0 + 65), .int l1] (cells ev X M (nb + 1)) (QI s0 D ev r' (cells ev X M' (nb + 1))) := by
  refine ct_of G0 (by decide) (Nat.le_of_ble_eq_true rfl) ?_
  intro p9 e9 s9 m9 args9 below9 meth9 c9 F hr9 hl9 hin9 hargs9 hts9
  have U55 : ∀ (M : MW) (l1 : Int32), fX10_between_b55 M l1 = some (r', M') → GJ p9 l e9 (rg 2 0 0) s9 m9 args9 below9 meth9 c9 (MQ below9 (QI s0 D ev r' (cells ev X M' (nb + 1))) args9 s9 0 0 (frA ev)) s0 D ev 2 0 0 55 [(0, .ref (ev 0 + 65)), (1, .int l1)] ([]) (cells ev X M (nb + 1)) := by
    intro M l1 h
    rw [fX10_between_b55] at h
    refine g_aload_n (i := 0) F dX10_between_55 rfl rfl ?_
    refine g_iload_n (i := 1) F dX10_between_56 rfl rfl ?_
    obtain ⟨M9, e10, h⟩ := bind_at h
    refine g_callVV F (mcR := 0) (msR := 0) (id := 65) (cells_at (kd_hidM (show kd 65 = 10 from rfl) (by decide)) (xc_10 rfl)) (ci := 10) rfl rfl rfl (c_X10_keeps G0 e10) wd_15_3 wd_15_0 wd_15_1 wd_15_2 wd_1_5 ⟨by decide, by decide⟩ (nn := 1) (by decide) (As := [.int l1]) rfl rfl (Nat.le_of_ble_eq_true rfl) (by decide) (by decide) ⟨by decide, by decide⟩ dX10_between_57 ?_
    refine g_iconst F dX10_between_60 (v := 1) (by decide) ?_
    have hp := Prod.mk.inj (Option.some.inj h)
    exact g_iret F hr9 (by decide) hl9 hp.1 (by rw [hp.2]) (by decide) (by decide) dX10_between_61
  have U17 : ∀ (M : MW) (l1 : Int32) (t1 : Int32), fX10_between_b17 M l1 t1 = some (r', M') → GJ p9 l e9 (rg 2 0 0) s9 m9 args9 below9 meth9 c9 (MQ below9 (QI s0 D ev r' (cells ev X M' (nb + 1))) args9 s9 0 0 (frA ev)) s0 D ev 2 0 0 17 [(0, .ref (ev 0 + 65)), (1, .int l1)] (.int t1 :: .ref (ev 0 + 65) :: []) (cells ev X M (nb + 1)) := by
    intro M l1 t1 h
    rw [fX10_between_b17] at h
    obtain ⟨M5, e6, h⟩ := bind_at h
    refine g_callVV F (mcR := 0) (msR := 0) (id := 65) (cells_at (kd_hidM (show kd 65 = 10 from rfl) (by decide)) (xc_10 rfl)) (ci := 10) rfl rfl rfl (c_X10_unwinds G0 e6) wd_14_16 wd_14_13 wd_14_14 wd_14_15 wd_1_5 ⟨by decide, by decide⟩ (nn := 1) (by decide) (As := [.int t1]) rfl rfl (Nat.le_of_ble_eq_true rfl) (by decide) (by decide) ⟨by decide, by decide⟩ dX10_between_17 ?_
    refine g_iload_n (i := 1) F dX10_between_20 rfl rfl ?_
    refine g_callSI F (mcR := 0) (msR := 0) (c_X10_rank G0 (X := X) (M := M5) (nb := nb) rfl) wd_14_19 wd_14_17 wd_14_18 wd_1_5 ⟨by decide, by decide⟩ (nn := 1) (by decide) (As := [.int l1]) rfl rfl (Nat.le_of_ble_eq_true rfl) (by decide) (by decide) ⟨by decide, by decide⟩ dX10_between_21 ?_
    refine g_iconst F dX10_between_24 (v := 4) (by decide) ?_
    refine g_icmp_ne (tgt := 55) F dX10_between_25 (by decide) h (fun a17 h => ?_) (fun a17 h => ?_)
    · refine g_lv (lv' := [(0, .ref (ev 0 + 65)), (1, .int l1)]) ⟨rfl, rfl, trivial⟩ ?_
      exact U55 _ _ h
    · refine g_aload_n (i := 0) F dX10_between_28 rfl rfl ?_
      refine g_get_10_41 F wd_14_6 dX10_between_29 ?_
      refine g_if_le (tgt := 55) F dX10_between_32 (by decide) h (fun a16 h => ?_) (fun a16 h => ?_)
      · refine g_lv (lv' := [(0, .ref (ev 0 + 65)), (1, .int l1)]) ⟨rfl, rfl, trivial⟩ ?_
        exact U55 _ _ h
      · refine g_aload_n (i := 0) F dX10_between_35 rfl rfl ?_
        refine g_get_10_40 F wd_12_17 dX10_between_36 ?_
        refine g_aload_n (i := 0) F dX10_between_39 rfl rfl ?_
        refine g_get_10_41 F wd_14_6 dX10_between_40 ?_
        refine g_iconst F dX10_between_43 (v := 1) (by decide) ?_
        refine g_isub F dX10_between_44 ?_
        obtain ⟨v11, e12, h⟩ := bind_at h
        refine g_ildM F rfl rfl e12 dX10_between_45 ?_
        refine g_callSI F (mcR := 0) (msR := 0) (c_X10_rank G0 (X := X) (M := M5) (nb := nb) rfl) wd_14_19 wd_14_17 wd_14_18 wd_1_5 ⟨by decide, by decide⟩ (nn := 1) (by decide) (As := [.int v11]) rfl rfl (Nat.le_of_ble_eq_true rfl) (by decide) (by decide) ⟨by decide, by decide⟩ dX10_between_46 ?_
        refine g_iconst F dX10_between_49 (v := 4) (by decide) ?_
        refine g_icmp_ne (tgt := 55) F dX10_between_50 (by decide) h (fun a15 h => ?_) (fun a15 h => ?_)
        · refine g_lv (lv' := [(0, .ref (ev 0 + 65)), (1, .int l1)]) ⟨rfl, rfl, trivial⟩ ?_
          exact U55 _ _ h
        · refine g_iconst F dX10_between_53 (v := 0) (by decide) ?_
          have hp := Prod.mk.inj (Option.some.inj h)
          exact g_iret F hr9 (by decide) hl9 hp.1 (by rw [hp.2]) (by decide) (by decide) dX10_between_54
  rw [fX10_between] at h
  refine g_lv (lv' := [(0, .ref (ev 0 + 65)), (1, .int l1)]) ⟨rfl, rfl, trivial⟩ ?_
  refine g_aload_n (i := 0) F dX10_between_0 rfl rfl ?_
  refine g_iload_n (i := 1) F dX10_between_1 rfl rfl ?_
  refine g_callSI F (mcR := 0) (msR := 0) (c_X10_rank G0 (X := X) (M := M) (nb := nb) rfl) wd_14_19 wd_14_17 wd_14_18 wd_1_5 ⟨by decide, by decide⟩ (nn := 1) (by decide) (As := [.int l1]) rfl rfl (Nat.le_of_ble_eq_true rfl) (by decide) (by decide) ⟨by decide, by decide⟩ dX10_between_2 ?_
  refine g_iconst F dX10_between_5 (v := 4) (by decide) ?_
  refine g_icmp_ne (tgt := 13) F dX10_between_6 (by decide) h (fun a18 h => ?_) (fun a18 h => ?_)
  · refine g_iload_n (i := 1) F dX10_between_13 rfl rfl ?_
    refine g_callSI F (mcR := 0) (msR := 0) (c_X10_rank G0 (X := X) (M := M) (nb := nb) rfl) wd_14_19 wd_14_17 wd_14_18 wd_1_5 ⟨by decide, by decide⟩ (nn := 1) (by decide) (As := [.int l1]) rfl rfl (Nat.le_of_ble_eq_true rfl) (by decide) (by decide) ⟨by decide, by decide⟩ dX10_between_14 ?_
    refine g_lv (lv' := [(0, .ref (ev 0 + 65)), (1, .int l1)]) ⟨rfl, rfl, trivial⟩ ?_
    exact U17 _ _ _ h
  · refine g_iconst F dX10_between_9 (v := 5) (by decide) ?_
    refine g_goto (tgt := 17) F dX10_between_10 (by decide) ?_
    refine g_lv (lv' := [(0, .ref (ev 0 + 65)), (1, .int l1)]) ⟨rfl, rfl, trivial⟩ ?_
    exact U17 _ _ _ h
def fX10_signOf (M : MW) : Int32 :=
  if (M.1 37) = (4 : Int32) then (11 : Int32)
  else if (M.1 37) = (5 : Int32) then (12 : Int32)
  else if (M.1 37) = (60 : Int32) then (14 : Int32)
  else if (M.1 37) = (61 : Int32) then (15 : Int32)
  else if (M.1 37) = (43 : Int32) then (16 : Int32)
  else if (M.1 37) = (45 : Int32) then (17 : Int32)
  else if (M.1 37) = (42 : Int32) then (18 : Int32)
  else (-1 : Int32)
set_option maxRecDepth 100000 in
set_option maxHeartbeats 4000000 in
theorem c_X10_signOf {l : Launch} {s0 : State} {D : va_G} {ev : Nat → Nat} (G0 : Gl s0 D ev) {X : XW} {M : MW} {nb : Nat}  {r' : Int32}  (h : fX10_signOf M = r') : CT l s0 D ev yX10_signOf cX10_signOf 1 (some .int) 0 0 0 [.ref (ev 0 + 65)] (cells ev X M (nb + 1)) (QI s0 D ev r' (cells ev X M (nb + 1))) := by
  refine ct_of G0 (by decide) (Nat.le_of_ble_eq_true rfl) ?_
  intro p9 e9 s9 m9 args9 below9 meth9 c9 F hr9 hl9 hin9 hargs9 hts9
  rw [fX10_signOf] at h
  refine g_lv (lv' := [(0, .ref (ev 0 + 65))]) ⟨rfl, trivial⟩ ?_
  refine g_aload_n (i := 0) F dX10_signOf_0 rfl rfl ?_
  refine g_get_10_37 F wd_13_12 dX10_signOf_1 ?_
  refine g_iconst F dX10_signOf_4 (v := 4) (by decide) ?_
  refine g_icmp_ne (tgt := 13) F dX10_signOf_5 (by decide) h (fun a7 h => ?_) (fun a7 h => ?_)
  · refine g_aload_n (i := 0) F dX10_signOf_13 rfl rfl ?_
    refine g_get_10_37 F wd_13_12 dX10_signOf_14 ?_
    refine g_iconst F dX10_signOf_17 (v := 5) (by decide) ?_
    refine g_icmp_ne (tgt := 26) F dX10_signOf_18 (by decide) h (fun a6 h => ?_) (fun a6 h => ?_)
    · refine g_aload_n (i := 0) F dX10_signOf_26 rfl rfl ?_
      refine g_get_10_37 F wd_13_12 dX10_signOf_27 ?_
      refine g_bipush F dX10_signOf_30 (v := 60) (by decide) ?_
      refine g_icmp_ne (tgt := 40) F dX10_signOf_32 (by decide) h (fun a5 h => ?_) (fun a5 h => ?_)
      · refine g_aload_n (i := 0) F dX10_signOf_40 rfl rfl ?_
        refine g_get_10_37 F wd_13_12 dX10_signOf_41 ?_
        refine g_bipush F dX10_signOf_44 (v := 61) (by decide) ?_
        refine g_icmp_ne (tgt := 54) F dX10_signOf_46 (by decide) h (fun a4 h => ?_) (fun a4 h => ?_)
        · refine g_aload_n (i := 0) F dX10_signOf_54 rfl rfl ?_
          refine g_get_10_37 F wd_13_12 dX10_signOf_55 ?_
          refine g_bipush F dX10_signOf_58 (v := 43) (by decide) ?_
          refine g_icmp_ne (tgt := 68) F dX10_signOf_60 (by decide) h (fun a3 h => ?_) (fun a3 h => ?_)
          · refine g_aload_n (i := 0) F dX10_signOf_68 rfl rfl ?_
            refine g_get_10_37 F wd_13_12 dX10_signOf_69 ?_
            refine g_bipush F dX10_signOf_72 (v := 45) (by decide) ?_
            refine g_icmp_ne (tgt := 82) F dX10_signOf_74 (by decide) h (fun a2 h => ?_) (fun a2 h => ?_)
            · refine g_aload_n (i := 0) F dX10_signOf_82 rfl rfl ?_
              refine g_get_10_37 F wd_13_12 dX10_signOf_83 ?_
              refine g_bipush F dX10_signOf_86 (v := 42) (by decide) ?_
              refine g_icmp_ne (tgt := 96) F dX10_signOf_88 (by decide) h (fun a1 h => ?_) (fun a1 h => ?_)
              · refine g_iconst F dX10_signOf_96 (v := -1) (by decide) ?_
                exact g_iret F hr9 rfl hl9 h rfl (by decide) (by decide) dX10_signOf_97
              · refine g_bipush F dX10_signOf_91 (v := 18) (by decide) ?_
                refine g_goto (tgt := 97) F dX10_signOf_93 (by decide) ?_
                exact g_iret F hr9 rfl hl9 h rfl (by decide) (by decide) dX10_signOf_97
            · refine g_bipush F dX10_signOf_77 (v := 17) (by decide) ?_
              refine g_goto (tgt := 97) F dX10_signOf_79 (by decide) ?_
              exact g_iret F hr9 rfl hl9 h rfl (by decide) (by decide) dX10_signOf_97
          · refine g_bipush F dX10_signOf_63 (v := 16) (by decide) ?_
            refine g_goto (tgt := 97) F dX10_signOf_65 (by decide) ?_
            exact g_iret F hr9 rfl hl9 h rfl (by decide) (by decide) dX10_signOf_97
        · refine g_bipush F dX10_signOf_49 (v := 15) (by decide) ?_
          refine g_goto (tgt := 97) F dX10_signOf_51 (by decide) ?_
          exact g_iret F hr9 rfl hl9 h rfl (by decide) (by decide) dX10_signOf_97
      · refine g_bipush F dX10_signOf_35 (v := 14) (by decide) ?_
        refine g_goto (tgt := 97) F dX10_signOf_37 (by decide) ?_
        exact g_iret F hr9 rfl hl9 h rfl (by decide) (by decide) dX10_signOf_97
    · refine g_bipush F dX10_signOf_21 (v := 12) (by decide) ?_
      refine g_goto (tgt := 97) F dX10_signOf_23 (by decide) ?_
      exact g_iret F hr9 rfl hl9 h rfl (by decide) (by decide) dX10_signOf_97
  · refine g_bipush F dX10_signOf_8 (v := 11) (by decide) ?_
    refine g_goto (tgt := 97) F dX10_signOf_10 (by decide) ?_
    exact g_iret F hr9 rfl hl9 h rfl (by decide) (by decide) dX10_signOf_97
def fX10_eRead_b159 (M : MW) : Option (Int32 × MW) :=
  (fX10_unwinds M (1 : Int32)).bind fun M27 =>
  if (M27.1 41) = 0 then some ((1 : Int32), M27)
  else some ((0 : Int32), M27)
def fX10_eRead_b61 (K14 : MW → Int32 → Int32 → Option (Int32 × MW)) (M : MW) (l2 : Int32) (t1 : Int32) : Option (Int32 × MW) :=
  (fX10_puts M t1).bind fun M31 =>
  (fX10_unwinds M31 (7 : Int32)).bind fun M33 =>
  K14 M33 (0 : Int32) l2
def fX10_eRead_b38 (K14 : MW → Int32 → Int32 → Option (Int32 × MW)) (M : MW) (l2 : Int32) : Option (Int32 × MW) :=
  if (M.1 37) = (1 : Int32) then fX10_eRead_b61 K14 M l2 ((100000 : Int32) + (M.1 38))
  else fX10_eRead_b61 K14 M l2 (M.1 38)
def fX10_eRead_b99 (K14 : MW → Int32 → Int32 → Option (Int32 × MW)) (M : MW) (l1 : Int32) : Option (Int32 × MW) :=
  if (M.1 37) = (45 : Int32) then bd2 (fX10_opensOne M (19 : Int32)) fun v42 M41 =>
  if v42 = 0 then some ((0 : Int32), M41)
  else K14 M41 l1 (0 : Int32)
  else if (M.1 37) = (40 : Int32) then bd2 (fX10_opensOne M (0 : Int32)) fun v37 M36 =>
  if v37 = 0 then some ((0 : Int32), M36)
  else K14 M36 l1 (1 : Int32)
  else some ((0 : Int32), M)
def fX10_eRead_l14 (K14 : MW → Int32 → Int32 → Option (Int32 × MW)) (M : MW) (l1 : Int32) (l2 : Int32) : Option (Int32 × MW) :=
  (fX10_next M).bind fun M5 =>
  if l1 = 0 then if (M5.1 37) = (59 : Int32) then fX10_eRead_b159 M5
  else if (M5.1 37) = (41 : Int32) then (fX10_unwinds M5 (1 : Int32)).bind fun M17 =>
  if (M17.1 41) = 0 then some ((0 : Int32), M17)
  else bd (mI M17 41 ((M17.1 41) - (1 : Int32))) fun M19 =>
  bd (mI M19 42 ((M19.1 42) - (1 : Int32))) fun M21 =>
  (fX10_unwinds M21 (7 : Int32)).bind fun M23 =>
  K14 M23 l1 l2
  else bd (fX10_signOf M5) fun v9 =>
  if v9 = (-1 : Int32) then some ((0 : Int32), M5)
  else bd2 (fX10_between M5 v9) fun v12 M11 =>
  if v12 = 0 then some ((0 : Int32), M11)
  else if (12 : Int32) < v9 then K14 M11 (1 : Int32) (0 : Int32)
  else K14 M11 (1 : Int32) (1 : Int32)
  else if (M5.1 37) = (1 : Int32) then fX10_eRead_b38 K14 M5 l2
  else if (M5.1 37) = (2 : Int32) then fX10_eRead_b38 K14 M5 l2
  else if (M5.1 37) = (6 : Int32) then if l2 = 0 then fX10_eRead_b99 K14 M5 l1
  else bd2 (fX10_opensOne M5 (13 : Int32)) fun v47 M46 =>
  if v47 = 0 then some ((0 : Int32), M46)
  else K14 M46 l1 l2
  else fX10_eRead_b99 K14 M5 l1
def fX10_eRead (M : MW) : Option (Int32 × MW) :=
  bd (mI M 41 (0 : Int32)) fun M1 =>
  bd (mI M1 42 (0 : Int32)) fun M3 =>
  lo3 (fX10_eRead_l14) FU M3 (1 : Int32) (1 : Int32)
set_option maxRecDepth 100000 in
set_option maxHeartbeats 4000000 in
theorem c_X10_eRead {l : Launch} {s0 : State} {D : va_G} {ev : Nat → Nat} (G0 : Gl s0 D ev) {X : XW} {M : MW} {nb : Nat}  {r' : Int32} {M' : MW}  (h : fX10_eRead M = some (r', M')) : CT l s0 D ev yX10_eRead cX10_eRead 4 (some .boolean) 3 0 0 [.ref (ev 0 + 65)] (cells ev X M (nb + 1)) (QI s0 D ev r' (cells ev X M' (nb + 1))) := by
  refine ct_of G0 (by decide) (Nat.le_of_ble_eq_true rfl) ?_
  intro p9 e9 s9 m9 args9 below9 meth9 c9 F hr9 hl9 hin9 hargs9 hts9
  have U159 : ∀ (M : MW), fX10_eRead_b159 M = some (r', M') → GJ p9 l e9 (rg 3 0 0) s9 m9 args9 below9 meth9 c9 (MQ below9 (QI s0 D ev r' (cells ev X M' (nb + 1))) args9 s9 0 0 (frA ev)) s0 D ev 4 0 0 159 [(0, .ref (ev 0 + 65))] ([]) (cells ev X M (nb + 1)) := by
    intro M h
    rw [fX10_eRead_b159] at h
    refine g_aload_n (i := 0) F dX10_eRead_159 rfl rfl ?_
    refine g_iconst F dX10_eRead_160 (v := 1) (by decide) ?_
    obtain ⟨M27, e28, h⟩ := bind_at h
    refine g_callVV F (mcR := 0) (msR := 0) (id := 65) (cells_at (kd_hidM (show kd 65 = 10 from rfl) (by decide)) (xc_10 rfl)) (ci := 10) rfl rfl rfl (c_X10_unwinds G0 e28) wd_14_16 wd_14_13 wd_14_14 wd_14_15 wd_1_5 ⟨by decide, by decide⟩ (nn := 1) (by decide) (As := [.int (1 : Int32)]) rfl rfl (Nat.le_of_ble_eq_true rfl) (by decide) (by decide) ⟨by decide, by decide⟩ dX10_eRead_161 ?_
    refine g_aload_n (i := 0) F dX10_eRead_164 rfl rfl ?_
    refine g_get_10_41 F wd_14_6 dX10_eRead_165 ?_
    refine g_if_ne (tgt := 175) F dX10_eRead_168 (by decide) h (fun a29 h => ?_) (fun a29 h => ?_)
    · refine g_iconst F dX10_eRead_175 (v := 0) (by decide) ?_
      have hp := Prod.mk.inj (Option.some.inj h)
      exact g_iret F hr9 (by decide) hl9 hp.1 (by rw [hp.2]) (by decide) (by decide) dX10_eRead_176
    · refine g_iconst F dX10_eRead_171 (v := 1) (by decide) ?_
      refine g_goto (tgt := 176) F dX10_eRead_172 (by decide) ?_
      have hp := Prod.mk.inj (Option.some.inj h)
      exact g_iret F hr9 (by decide) hl9 hp.1 (by rw [hp.2]) (by decide) (by decide) dX10_eRead_176
  have L14 : ∀  (N14 : Nat) (M : MW) (l1 : Int32) (l2 : Int32), lo3 (fX10_eRead_l14) N14 M l1 l2 = some (r', M') → GJ p9 l e9 (rg 3 0 0) s9 m9 args9 below9 meth9 c9 (MQ below9 (QI s0 D ev r' (cells ev X M' (nb + 1))) args9 s9 0 0 (frA ev)) s0 D ev 4 0 0 14 [(0, .ref (ev 0 + 65)), (1, .int l1), (2, .int l2)] ([]) (cells ev X M (nb + 1)) := by
    intro  N14
    induction N14 with
    | zero => intro M l1 l2 h; cases h
    | succ N14 ih14 =>
      have U61 : ∀ (M : MW) (l2 : Int32) (t1 : Int32), fX10_eRead_b61 (lo3 (fX10_eRead_l14) N14) M l2 t1 = some (r', M') → GJ p9 l e9 (rg 3 0 0) s9 m9 args9 below9 meth9 c9 (MQ below9 (QI s0 D ev r' (cells ev X M' (nb + 1))) args9 s9 0 0 (frA ev)) s0 D ev 4 0 0 61 [(0, .ref (ev 0 + 65)), (2, .int l2)] (.int t1 :: .ref (ev 0 + 65) :: []) (cells ev X M (nb + 1)) := by
        intro M l2 t1 h
        rw [fX10_eRead_b61] at h
        obtain ⟨M31, e32, h⟩ := bind_at h
        refine g_callVV F (mcR := 0) (msR := 0) (id := 65) (cells_at (kd_hidM (show kd 65 = 10 from rfl) (by decide)) (xc_10 rfl)) (ci := 10) rfl rfl rfl (c_X10_puts G0 e32) wd_14_12 wd_14_9 wd_14_10 wd_14_11 wd_1_5 ⟨by decide, by decide⟩ (nn := 1) (by decide) (As := [.int t1]) rfl rfl (Nat.le_of_ble_eq_true rfl) (by decide) (by decide) ⟨by decide, by decide⟩ dX10_eRead_61 ?_
        refine g_aload_n (i := 0) F dX10_eRead_64 rfl rfl ?_
        refine g_bipush F dX10_eRead_65 (v := 7) (by decide) ?_
        obtain ⟨M33, e34, h⟩ := bind_at h
        refine g_callVV F (mcR := 0) (msR := 0) (id := 65) (cells_at (kd_hidM (show kd 65 = 10 from rfl) (by decide)) (xc_10 rfl)) (ci := 10) rfl rfl rfl (c_X10_unwinds G0 e34) wd_14_16 wd_14_13 wd_14_14 wd_14_15 wd_1_5 ⟨by decide, by decide⟩ (nn := 1) (by decide) (As := [.int (7 : Int32)]) rfl rfl (Nat.le_of_ble_eq_true rfl) (by decide) (by decide) ⟨by decide, by decide⟩ dX10_eRead_67 ?_
        refine g_iconst F dX10_eRead_70 (v := 0) (by decide) ?_
        refine g_istore_n (i := 1) (lv' := [(1, .int (0 : Int32)), (0, .ref (ev 0 + 65)), (2, .int l2)]) F dX10_eRead_71 rfl (by decide) rfl ?_
        refine g_goto (tgt := 14) F dX10_eRead_72 (by decide) ?_
        refine g_lv (lv' := [(0, .ref (ev 0 + 65)), (1, .int (0 : Int32)), (2, .int l2)]) ⟨rfl, rfl, rfl, trivial⟩ ?_
        exact ih14 _ _ _ h
      have U38 : ∀ (M : MW) (l2 : Int32), fX10_eRead_b38 (lo3 (fX10_eRead_l14) N14) M l2 = some (r', M') → GJ p9 l e9 (rg 3 0 0) s9 m9 args9 below9 meth9 c9 (MQ below9 (QI s0 D ev r' (cells ev X M' (nb + 1))) args9 s9 0 0 (frA ev)) s0 D ev 4 0 0 38 [(0, .ref (ev 0 + 65)), (2, .int l2)] ([]) (cells ev X M (nb + 1)) := by
        intro M l2 h
        rw [fX10_eRead_b38] at h
        refine g_aload_n (i := 0) F dX10_eRead_38 rfl rfl ?_
        refine g_aload_n (i := 0) F dX10_eRead_39 rfl rfl ?_
        refine g_get_10_37 F wd_13_12 dX10_eRead_40 ?_
        refine g_iconst F dX10_eRead_43 (v := 1) (by decide) ?_
        refine g_icmp_ne (tgt := 57) F dX10_eRead_44 (by decide) h (fun a35 h => ?_) (fun a35 h => ?_)
        · refine g_aload_n (i := 0) F dX10_eRead_57 rfl rfl ?_
          refine g_get_10_38 F wd_13_13 dX10_eRead_58 ?_
          refine g_lv (lv' := [(0, .ref (ev 0 + 65)), (2, .int l2)]) ⟨rfl, rfl, trivial⟩ ?_
          exact U61 _ _ _ h
        · refine g_ldc F dX10_eRead_47 wd_14_8 ?_
          refine g_aload_n (i := 0) F dX10_eRead_49 rfl rfl ?_
          refine g_get_10_38 F wd_13_13 dX10_eRead_50 ?_
          refine g_iadd F dX10_eRead_53 ?_
          refine g_goto (tgt := 61) F dX10_eRead_54 (by decide) ?_
          refine g_lv (lv' := [(0, .ref (ev 0 + 65)), (2, .int l2)]) ⟨rfl, rfl, trivial⟩ ?_
          exact U61 _ _ _ h
      have U99 : ∀ (M : MW) (l1 : Int32), fX10_eRead_b99 (lo3 (fX10_eRead_l14) N14) M l1 = some (r', M') → GJ p9 l e9 (rg 3 0 0) s9 m9 args9 below9 meth9 c9 (MQ below9 (QI s0 D ev r' (cells ev X M' (nb + 1))) args9 s9 0 0 (frA ev)) s0 D ev 4 0 0 99 [(0, .ref (ev 0 + 65)), (1, .int l1)] ([]) (cells ev X M (nb + 1)) := by
        intro M l1 h
        rw [fX10_eRead_b99] at h
        refine g_aload_n (i := 0) F dX10_eRead_99 rfl rfl ?_
        refine g_get_10_37 F wd_13_12 dX10_eRead_100 ?_
        refine g_bipush F dX10_eRead_103 (v := 45) (by decide) ?_
        refine g_icmp_ne (tgt := 124) F dX10_eRead_105 (by decide) h (fun a45 h => ?_) (fun a45 h => ?_)
        · refine g_aload_n (i := 0) F dX10_eRead_124 rfl rfl ?_
          refine g_get_10_37 F wd_13_12 dX10_eRead_125 ?_
          refine g_bipush F dX10_eRead_128 (v := 40) (by decide) ?_
          refine g_icmp_ne (tgt := 148) F dX10_eRead_130 (by decide) h (fun a40 h => ?_) (fun a40 h => ?_)
          · refine g_iconst F dX10_eRead_148 (v := 0) (by decide) ?_
            have hp := Prod.mk.inj (Option.some.inj h)
            exact g_iret F hr9 (by decide) hl9 hp.1 (by rw [hp.2]) (by decide) (by decide) dX10_eRead_149
          · refine g_aload_n (i := 0) F dX10_eRead_133 rfl rfl ?_
            refine g_iconst F dX10_eRead_134 (v := 0) (by decide) ?_
            obtain ⟨v37, M36, e38, h⟩ := bd2_at h
            refine g_callVI F (mcR := 0) (msR := 0) (id := 65) (cells_at (kd_hidM (show kd 65 = 10 from rfl) (by decide)) (xc_10 rfl)) (ci := 10) rfl rfl rfl (c_X10_opensOne G0 e38) wd_14_23 wd_14_20 wd_14_21 wd_14_22 wd_1_5 ⟨by decide, by decide⟩ (nn := 1) (by decide) (As := [.int (0 : Int32)]) rfl rfl (Nat.le_of_ble_eq_true rfl) (by decide) (by decide) ⟨by decide, by decide⟩ dX10_eRead_135 ?_
            refine g_if_ne (tgt := 143) F dX10_eRead_138 (by decide) h (fun a39 h => ?_) (fun a39 h => ?_)
            · refine g_iconst F dX10_eRead_143 (v := 1) (by decide) ?_
              refine g_istore_n (i := 2) (lv' := [(2, .int (1 : Int32)), (0, .ref (ev 0 + 65)), (1, .int l1)]) F dX10_eRead_144 rfl (by decide) rfl ?_
              refine g_goto (tgt := 14) F dX10_eRead_145 (by decide) ?_
              refine g_lv (lv' := [(0, .ref (ev 0 + 65)), (1, .int l1), (2, .int (1 : Int32))]) ⟨rfl, rfl, rfl, trivial⟩ ?_
              exact ih14 _ _ _ h
            · refine g_iconst F dX10_eRead_141 (v := 0) (by decide) ?_
              have hp := Prod.mk.inj (Option.some.inj h)
              exact g_iret F hr9 (by decide) hl9 hp.1 (by rw [hp.2]) (by decide) (by decide) dX10_eRead_142
        · refine g_aload_n (i := 0) F dX10_eRead_108 rfl rfl ?_
          refine g_bipush F dX10_eRead_109 (v := 19) (by decide) ?_
          obtain ⟨v42, M41, e43, h⟩ := bd2_at h
          refine g_callVI F (mcR := 0) (msR := 0) (id := 65) (cells_at (kd_hidM (show kd 65 = 10 from rfl) (by decide)) (xc_10 rfl)) (ci := 10) rfl rfl rfl (c_X10_opensOne G0 e43) wd_14_23 wd_14_20 wd_14_21 wd_14_22 wd_1_5 ⟨by decide, by decide⟩ (nn := 1) (by decide) (As := [.int (19 : Int32)]) rfl rfl (Nat.le_of_ble_eq_true rfl) (by decide) (by decide) ⟨by decide, by decide⟩ dX10_eRead_111 ?_
          refine g_if_ne (tgt := 119) F dX10_eRead_114 (by decide) h (fun a44 h => ?_) (fun a44 h => ?_)
          · refine g_iconst F dX10_eRead_119 (v := 0) (by decide) ?_
            refine g_istore_n (i := 2) (lv' := [(2, .int (0 : Int32)), (0, .ref (ev 0 + 65)), (1, .int l1)]) F dX10_eRead_120 rfl (by decide) rfl ?_
            refine g_goto (tgt := 14) F dX10_eRead_121 (by decide) ?_
            refine g_lv (lv' := [(0, .ref (ev 0 + 65)), (1, .int l1), (2, .int (0 : Int32))]) ⟨rfl, rfl, rfl, trivial⟩ ?_
            exact ih14 _ _ _ h
          · refine g_iconst F dX10_eRead_117 (v := 0) (by decide) ?_
            have hp := Prod.mk.inj (Option.some.inj h)
            exact g_iret F hr9 (by decide) hl9 hp.1 (by rw [hp.2]) (by decide) (by decide) dX10_eRead_118
      intro M l1 l2 h
      change fX10_eRead_l14 (lo3 (fX10_eRead_l14) N14) M l1 l2 = some (r', M') at h
      rw [fX10_eRead_l14] at h
      refine g_aload_n (i := 0) F dX10_eRead_14 rfl rfl ?_
      obtain ⟨M5, e6, h⟩ := bind_at h
      refine g_callVV F (mcR := 0) (msR := 0) (id := 65) (cells_at (kd_hidM (show kd 65 = 10 from rfl) (by decide)) (xc_10 rfl)) (ci := 10) rfl rfl rfl (c_X10_next G0 e6) wd_13_18 wd_13_15 wd_13_16 wd_13_17 wd_1_5 ⟨by decide, by decide⟩ (nn := 0) (by decide) (As := []) rfl rfl (Nat.le_of_ble_eq_true rfl) (by decide) (by decide) ⟨by decide, by decide⟩ dX10_eRead_15 ?_
      refine g_iload_n (i := 1) F dX10_eRead_18 rfl rfl ?_
      refine g_if_eq (tgt := 150) F dX10_eRead_19 (by decide) h (fun a54 h => ?_) (fun a54 h => ?_)
      · refine g_aload_n (i := 0) F dX10_eRead_150 rfl rfl ?_
        refine g_get_10_37 F wd_13_12 dX10_eRead_151 ?_
        refine g_bipush F dX10_eRead_154 (v := 59) (by decide) ?_
        refine g_icmp_ne (tgt := 177) F dX10_eRead_156 (by decide) h (fun a30 h => ?_) (fun a30 h => ?_)
        · refine g_aload_n (i := 0) F dX10_eRead_177 rfl rfl ?_
          refine g_get_10_37 F wd_13_12 dX10_eRead_178 ?_
          refine g_bipush F dX10_eRead_181 (v := 41) (by decide) ?_
          refine g_icmp_ne (tgt := 229) F dX10_eRead_183 (by decide) h (fun a26 h => ?_) (fun a26 h => ?_)
          · refine g_aload_n (i := 0) F dX10_eRead_229 rfl rfl ?_
            refine g_callVI F (mcR := 0) (msR := 0) (id := 65) (cells_at (kd_hidM (show kd 65 = 10 from rfl) (by decide)) (xc_10 rfl)) (ci := 10) rfl rfl rfl (c_X10_signOf G0 (X := X) (M := M5) (nb := nb) rfl) wd_15_7 wd_15_4 wd_15_5 wd_15_6 wd_1_5 ⟨by decide, by decide⟩ (nn := 0) (by decide) (As := []) rfl rfl (Nat.le_of_ble_eq_true rfl) (by decide) (by decide) ⟨by decide, by decide⟩ dX10_eRead_230 ?_
            refine g_topi F h (fun v9 e10 h => ?_)
            refine g_istore_n (i := 3) (lv' := [(3, .int v9), (0, .ref (ev 0 + 65)), (1, .int l1), (2, .int l2)]) F dX10_eRead_233 rfl (by decide) rfl ?_
            refine g_iload_n (i := 3) F dX10_eRead_234 rfl rfl ?_
            refine g_iconst F dX10_eRead_235 (v := -1) (by decide) ?_
            refine g_icmp_eq (tgt := 247) F dX10_eRead_236 (by decide) h (fun a16 h => ?_) (fun a16 h => ?_)
            · refine g_iconst F dX10_eRead_247 (v := 0) (by decide) ?_
              have hp := Prod.mk.inj (Option.some.inj h)
              exact g_iret F hr9 (by decide) hl9 hp.1 (by rw [hp.2]) (by decide) (by decide) dX10_eRead_248
            · refine g_aload_n (i := 0) F dX10_eRead_239 rfl rfl ?_
              refine g_iload_n (i := 3) F dX10_eRead_240 rfl rfl ?_
              obtain ⟨v12, M11, e13, h⟩ := bd2_at h
              refine g_callVI F (mcR := 0) (msR := 0) (id := 65) (cells_at (kd_hidM (show kd 65 = 10 from rfl) (by decide)) (xc_10 rfl)) (ci := 10) rfl rfl rfl (c_X10_between G0 e13) wd_15_11 wd_15_8 wd_15_9 wd_15_10 wd_1_5 ⟨by decide, by decide⟩ (nn := 1) (by decide) (As := [.int v9]) rfl rfl (Nat.le_of_ble_eq_true rfl) (by decide) (by decide) ⟨by decide, by decide⟩ dX10_eRead_241 ?_
              refine g_if_ne (tgt := 249) F dX10_eRead_244 (by decide) h (fun a15 h => ?_) (fun a15 h => ?_)
              · refine g_iconst F dX10_eRead_249 (v := 1) (by decide) ?_
                refine g_istore_n (i := 1) (lv' := [(1, .int (1 : Int32)), (3, .int v9), (0, .ref (ev 0 + 65)), (2, .int l2)]) F dX10_eRead_250 rfl (by decide) rfl ?_
                refine g_iload_n (i := 3) F dX10_eRead_251 rfl rfl ?_
                refine g_bipush F dX10_eRead_252 (v := 12) (by decide) ?_
                refine g_icmp_gt (tgt := 261) F dX10_eRead_254 (by decide) h (fun a14 h => ?_) (fun a14 h => ?_)
                · refine g_iconst F dX10_eRead_261 (v := 0) (by decide) ?_
                  refine g_istore_n (i := 2) (lv' := [(2, .int (0 : Int32)), (1, .int (1 : Int32)), (3, .int v9), (0, .ref (ev 0 + 65))]) F dX10_eRead_262 rfl (by decide) rfl ?_
                  refine g_goto (tgt := 14) F dX10_eRead_263 (by decide) ?_
                  refine g_lv (lv' := [(0, .ref (ev 0 + 65)), (1, .int (1 : Int32)), (2, .int (0 : Int32))]) ⟨rfl, rfl, rfl, trivial⟩ ?_
                  exact ih14 _ _ _ h
                · refine g_iconst F dX10_eRead_257 (v := 1) (by decide) ?_
                  refine g_goto (tgt := 262) F dX10_eRead_258 (by decide) ?_
                  refine g_istore_n (i := 2) (lv' := [(2, .int (1 : Int32)), (1, .int (1 : Int32)), (3, .int v9), (0, .ref (ev 0 + 65))]) F dX10_eRead_262 rfl (by decide) rfl ?_
                  refine g_goto (tgt := 14) F dX10_eRead_263 (by decide) ?_
                  refine g_lv (lv' := [(0, .ref (ev 0 + 65)), (1, .int (1 : Int32)), (2, .int (1 : Int32))]) ⟨rfl, rfl, rfl, trivial⟩ ?_
                  exact ih14 _ _ _ h
              · refine g_iconst F dX10_eRead_247 (v := 0) (by decide) ?_
                have hp := Prod.mk.inj (Option.some.inj h)
                exact g_iret F hr9 (by decide) hl9 hp.1 (by rw [hp.2]) (by decide) (by decide) dX10_eRead_248
          · refine g_aload_n (i := 0) F dX10_eRead_186 rfl rfl ?_
            refine g_iconst F dX10_eRead_187 (v := 1) (by decide) ?_
            obtain ⟨M17, e18, h⟩ := bind_at h
            refine g_callVV F (mcR := 0) (msR := 0) (id := 65) (cells_at (kd_hidM (show kd 65 = 10 from rfl) (by decide)) (xc_10 rfl)) (ci := 10) rfl rfl rfl (c_X10_unwinds G0 e18) wd_14_16 wd_14_13 wd_14_14 wd_14_15 wd_1_5 ⟨by decide, by decide⟩ (nn := 1) (by decide) (As := [.int (1 : Int32)]) rfl rfl (Nat.le_of_ble_eq_true rfl) (by decide) (by decide) ⟨by decide, by decide⟩ dX10_eRead_188 ?_
            refine g_aload_n (i := 0) F dX10_eRead_191 rfl rfl ?_
            refine g_get_10_41 F wd_14_6 dX10_eRead_192 ?_
            refine g_if_ne (tgt := 200) F dX10_eRead_195 (by decide) h (fun a25 h => ?_) (fun a25 h => ?_)
            · refine g_aload_n (i := 0) F dX10_eRead_200 rfl rfl ?_
              refine g_dup F dX10_eRead_201 rfl ?_
              refine g_get_10_41 F wd_14_6 dX10_eRead_202 ?_
              refine g_iconst F dX10_eRead_205 (v := 1) (by decide) ?_
              refine g_isub F dX10_eRead_206 ?_
              obtain ⟨M19, e20, h⟩ := bd_at h
              refine g_put_10_41 F wd_14_6 dX10_eRead_207 ?_
              rw [← e20]
              refine g_aload_n (i := 0) F dX10_eRead_210 rfl rfl ?_
              refine g_dup F dX10_eRead_211 rfl ?_
              refine g_get_10_42 F wd_14_7 dX10_eRead_212 ?_
              refine g_iconst F dX10_eRead_215 (v := 1) (by decide) ?_
              refine g_isub F dX10_eRead_216 ?_
              obtain ⟨M21, e22, h⟩ := bd_at h
              refine g_put_10_42 F wd_14_7 dX10_eRead_217 ?_
              rw [← e22]
              refine g_aload_n (i := 0) F dX10_eRead_220 rfl rfl ?_
              refine g_bipush F dX10_eRead_221 (v := 7) (by decide) ?_
              obtain ⟨M23, e24, h⟩ := bind_at h
              refine g_callVV F (mcR := 0) (msR := 0) (id := 65) (cells_at (kd_hidM (show kd 65 = 10 from rfl) (by decide)) (xc_10 rfl)) (ci := 10) rfl rfl rfl (c_X10_unwinds G0 e24) wd_14_16 wd_14_13 wd_14_14 wd_14_15 wd_1_5 ⟨by decide, by decide⟩ (nn := 1) (by decide) (As := [.int (7 : Int32)]) rfl rfl (Nat.le_of_ble_eq_true rfl) (by decide) (by decide) ⟨by decide, by decide⟩ dX10_eRead_223 ?_
              refine g_goto (tgt := 14) F dX10_eRead_226 (by decide) ?_
              refine g_lv (lv' := [(0, .ref (ev 0 + 65)), (1, .int l1), (2, .int l2)]) ⟨rfl, rfl, rfl, trivial⟩ ?_
              exact ih14 _ _ _ h
            · refine g_iconst F dX10_eRead_198 (v := 0) (by decide) ?_
              have hp := Prod.mk.inj (Option.some.inj h)
              exact g_iret F hr9 (by decide) hl9 hp.1 (by rw [hp.2]) (by decide) (by decide) dX10_eRead_199
        · refine g_lv (lv' := [(0, .ref (ev 0 + 65))]) ⟨rfl, trivial⟩ ?_
          exact U159 _ h
      · refine g_aload_n (i := 0) F dX10_eRead_22 rfl rfl ?_
        refine g_get_10_37 F wd_13_12 dX10_eRead_23 ?_
        refine g_iconst F dX10_eRead_26 (v := 1) (by decide) ?_
        refine g_icmp_eq (tgt := 38) F dX10_eRead_27 (by decide) h (fun a53 h => ?_) (fun a53 h => ?_)
        · refine g_lv (lv' := [(0, .ref (ev 0 + 65)), (2, .int l2)]) ⟨rfl, rfl, trivial⟩ ?_
          exact U38 _ _ h
        · refine g_aload_n (i := 0) F dX10_eRead_30 rfl rfl ?_
          refine g_get_10_37 F wd_13_12 dX10_eRead_31 ?_
          refine g_iconst F dX10_eRead_34 (v := 2) (by decide) ?_
          refine g_icmp_ne (tgt := 75) F dX10_eRead_35 (by decide) h (fun a52 h => ?_) (fun a52 h => ?_)
          · refine g_aload_n (i := 0) F dX10_eRead_75 rfl rfl ?_
            refine g_get_10_37 F wd_13_12 dX10_eRead_76 ?_
            refine g_bipush F dX10_eRead_79 (v := 6) (by decide) ?_
            refine g_icmp_ne (tgt := 99) F dX10_eRead_81 (by decide) h (fun a51 h => ?_) (fun a51 h => ?_)
            · refine g_lv (lv' := [(0, .ref (ev 0 + 65)), (1, .int l1)]) ⟨rfl, rfl, trivial⟩ ?_
              exact U99 _ _ h
            · refine g_iload_n (i := 2) F dX10_eRead_84 rfl rfl ?_
              refine g_if_eq (tgt := 99) F dX10_eRead_85 (by decide) h (fun a50 h => ?_) (fun a50 h => ?_)
              · refine g_lv (lv' := [(0, .ref (ev 0 + 65)), (1, .int l1)]) ⟨rfl, rfl, trivial⟩ ?_
                exact U99 _ _ h
              · refine g_aload_n (i := 0) F dX10_eRead_88 rfl rfl ?_
                refine g_bipush F dX10_eRead_89 (v := 13) (by decide) ?_
                obtain ⟨v47, M46, e48, h⟩ := bd2_at h
                refine g_callVI F (mcR := 0) (msR := 0) (id := 65) (cells_at (kd_hidM (show kd 65 = 10 from rfl) (by decide)) (xc_10 rfl)) (ci := 10) rfl rfl rfl (c_X10_opensOne G0 e48) wd_14_23 wd_14_20 wd_14_21 wd_14_22 wd_1_5 ⟨by decide, by decide⟩ (nn := 1) (by decide) (As := [.int (13 : Int32)]) rfl rfl (Nat.le_of_ble_eq_true rfl) (by decide) (by decide) ⟨by decide, by decide⟩ dX10_eRead_91 ?_
                refine g_if_ne (tgt := 14) F dX10_eRead_94 (by decide) h (fun a49 h => ?_) (fun a49 h => ?_)
                · refine g_lv (lv' := [(0, .ref (ev 0 + 65)), (1, .int l1), (2, .int l2)]) ⟨rfl, rfl, rfl, trivial⟩ ?_
                  exact ih14 _ _ _ h
                · refine g_iconst F dX10_eRead_97 (v := 0) (by decide) ?_
                  have hp := Prod.mk.inj (Option.some.inj h)
                  exact g_iret F hr9 (by decide) hl9 hp.1 (by rw [hp.2]) (by decide) (by decide) dX10_eRead_98
          · refine g_lv (lv' := [(0, .ref (ev 0 + 65)), (2, .int l2)]) ⟨rfl, rfl, trivial⟩ ?_
            exact U38 _ _ h
  rw [fX10_eRead] at h
  refine g_lv (lv' := [(0, .ref (ev 0 + 65))]) ⟨rfl, trivial⟩ ?_
  refine g_aload_n (i := 0) F dX10_eRead_0 rfl rfl ?_
  refine g_iconst F dX10_eRead_1 (v := 0) (by decide) ?_
  obtain ⟨M1, e2, h⟩ := bd_at h
  refine g_put_10_41 F wd_14_6 dX10_eRead_2 ?_
  rw [← e2]
  refine g_aload_n (i := 0) F dX10_eRead_5 rfl rfl ?_
  refine g_iconst F dX10_eRead_6 (v := 0) (by decide) ?_
  obtain ⟨M3, e4, h⟩ := bd_at h
  refine g_put_10_42 F wd_14_7 dX10_eRead_7 ?_
  rw [← e4]
  refine g_iconst F dX10_eRead_10 (v := 1) (by decide) ?_
  refine g_istore_n (i := 1) (lv' := [(1, .int (1 : Int32)), (0, .ref (ev 0 + 65))]) F dX10_eRead_11 rfl (by decide) rfl ?_
  refine g_iconst F dX10_eRead_12 (v := 1) (by decide) ?_
  refine g_istore_n (i := 2) (lv' := [(2, .int (1 : Int32)), (1, .int (1 : Int32)), (0, .ref (ev 0 + 65))]) F dX10_eRead_13 rfl (by decide) rfl ?_
  refine g_lv (lv' := [(0, .ref (ev 0 + 65)), (1, .int (1 : Int32)), (2, .int (1 : Int32))]) ⟨rfl, rfl, rfl, trivial⟩ ?_
  exact L14 FU _ _ _ h
def fX10_text_b122 (M : MW) (l1 : Int32) : Option (Int32 × MW) :=
  if inb (((4 : Int32) * (M.1 21)) + (3 : Int32)) 24 then bd (mA M 83 (((4 : Int32) * (M.1 21)) + (3 : Int32)) (M.1 43)) fun M6 =>
  bd (mI M6 18 (0 : Int32)) fun M8 =>
  if l1 = 0 then some (((-100 : Int32) - (M8.1 36)), M8)
  else bd (mI M8 21 ((M8.1 21) + (1 : Int32))) fun M10 =>
  some (((M10.1 21) - (1 : Int32)), M10)
  else none
def fX10_text_b121 (M : MW) (t0 : Int32) : Option (Int32 × MW) :=
  fX10_text_b122 M t0
def fX10_text_b101 (M : MW) (l1 : Int32) : Option (Int32 × MW) :=
  if l1 = 0 then fX10_text_b122 M l1
  else (fX10_next M).bind fun M13 =>
  if (M13.1 37) = 0 then fX10_text_b121 M13 (1 : Int32)
  else fX10_text_b121 M13 (0 : Int32)
def fX10_text_b60 (K26 : MW → Int32 → Int32 → Option (Int32 × MW)) (M : MW) (l2 : Int32) (t0 : Int32) : Option (Int32 × MW) :=
  if inb (((4 : Int32) * (M.1 21)) + l2) 24 then bd (mA M 83 (((4 : Int32) * (M.1 21)) + l2) (M.1 43)) fun M20 =>
  if t0 = 0 then K26 M20 (0 : Int32) (l2 + (1 : Int32))
  else bd2 (fX10_eRead M20) fun v23 M22 =>
  if v23 = 0 then K26 M22 (0 : Int32) (l2 + (1 : Int32))
  else K26 M22 (1 : Int32) (l2 + (1 : Int32))
  else none
def fX10_text_b59 (K26 : MW → Int32 → Int32 → Option (Int32 × MW)) (M : MW) (l2 : Int32) : Option (Int32 × MW) :=
  fX10_text_b60 K26 M l2 (0 : Int32)
def fX10_text_l26 (K26 : MW → Int32 → Int32 → Option (Int32 × MW)) (M : MW) (l1 : Int32) (l2 : Int32) : Option (Int32 × MW) :=
  if (3 : Int32) ≤ l2 then fX10_text_b101 M l1
  else if l1 = 0 then fX10_text_b101 M l1
  else (fX10_next M).bind fun M17 =>
  if (M17.1 37) = (3 : Int32) then if (M17.1 38) = l2 then fX10_text_b60 K26 M17 l2 (1 : Int32)
  else fX10_text_b59 K26 M17 l2
  else fX10_text_b59 K26 M17 l2
def fX10_text (M : MW) : Option (Int32 × MW) :=
  if (M.1 21) = (6 : Int32) then some ((-4 : Int32), M)
  else bd (mI M 35 (0 : Int32)) fun M1 =>
  bd (mI M1 43 (0 : Int32)) fun M3 =>
  lo3 (fX10_text_l26) FU M3 (1 : Int32) (0 : Int32)
set_option maxRecDepth 100000 in
set_option maxHeartbeats 4000000 in
theorem c_X10_text {l : Launch} {s0 : State} {D : va_G} {ev : Nat → Nat} (G0 : Gl s0 D ev) {X : XW} {M : MW} {nb : Nat}  {r' : Int32} {M' : MW}  (h : fX10_text M = some (r', M')) : CT l s0 D ev yX10_text cX10_text 3 (some .int) 4 0 0 [.ref (ev 0 + 65)] (cells ev X M (nb + 1)) (QI s0 D ev r' (cells ev X M' (nb + 1))) := by
  refine ct_of G0 (by decide) (Nat.le_of_ble_eq_true rfl) ?_
  intro p9 e9 s9 m9 args9 below9 meth9 c9 F hr9 hl9 hin9 hargs9 hts9
  have U122 : ∀ (M : MW) (l1 : Int32), fX10_text_b122 M l1 = some (r', M') → GJ p9 l e9 (rg 4 0 0) s9 m9 args9 below9 meth9 c9 (MQ below9 (QI s0 D ev r' (cells ev X M' (nb + 1))) args9 s9 0 0 (frA ev)) s0 D ev 3 0 0 122 [(0, .ref (ev 0 + 65)), (1, .int l1)] ([]) (cells ev X M (nb + 1)) := by
    intro M l1 h
    rw [fX10_text_b122] at h
    refine g_aload_n (i := 0) F dX10_text_122 rfl rfl ?_
    refine g_get_10_20 F wd_12_7 dX10_text_123 ?_
    refine g_iconst F dX10_text_126 (v := 4) (by decide) ?_
    refine g_aload_n (i := 0) F dX10_text_127 rfl rfl ?_
    refine g_get_10_21 F wd_13_9 dX10_text_128 ?_
    refine g_imul F dX10_text_131 ?_
    refine g_iconst F dX10_text_132 (v := 3) (by decide) ?_
    refine g_iadd F dX10_text_133 ?_
    refine g_aload_n (i := 0) F dX10_text_134 rfl rfl ?_
    refine g_get_10_43 F wd_13_11 dX10_text_135 ?_
    obtain ⟨h5, h⟩ := if_at h
    obtain ⟨M6, e7, h⟩ := bd_at h
    refine g_istM F rfl rfl h5 dX10_text_138 ?_
    rw [← e7]
    refine g_aload_n (i := 0) F dX10_text_139 rfl rfl ?_
    refine g_iconst F dX10_text_140 (v := 0) (by decide) ?_
    obtain ⟨M8, e9, h⟩ := bd_at h
    refine g_put_10_18 F wd_13_4 dX10_text_141 ?_
    rw [← e9]
    refine g_iload_n (i := 1) F dX10_text_144 rfl rfl ?_
    refine g_if_ne (tgt := 156) F dX10_text_145 (by decide) h (fun a12 h => ?_) (fun a12 h => ?_)
    · refine g_aload_n (i := 0) F dX10_text_156 rfl rfl ?_
      refine g_dup F dX10_text_157 rfl ?_
      refine g_get_10_21 F wd_13_9 dX10_text_158 ?_
      refine g_iconst F dX10_text_161 (v := 1) (by decide) ?_
      refine g_iadd F dX10_text_162 ?_
      obtain ⟨M10, e11, h⟩ := bd_at h
      refine g_put_10_21 F wd_13_9 dX10_text_163 ?_
      rw [← e11]
      refine g_aload_n (i := 0) F dX10_text_166 rfl rfl ?_
      refine g_get_10_21 F wd_13_9 dX10_text_167 ?_
      refine g_iconst F dX10_text_170 (v := 1) (by decide) ?_
      refine g_isub F dX10_text_171 ?_
      have hp := Prod.mk.inj (Option.some.inj h)
      exact g_iret F hr9 rfl hl9 hp.1 (by rw [hp.2]) (by decide) (by decide) dX10_text_172
    · refine g_bipush F dX10_text_148 (v := -100) (by decide) ?_
      refine g_aload_n (i := 0) F dX10_text_150 rfl rfl ?_
      refine g_get_10_36 F wd_13_14 dX10_text_151 ?_
      refine g_isub F dX10_text_154 ?_
      have hp := Prod.mk.inj (Option.some.inj h)
      exact g_iret F hr9 rfl hl9 hp.1 (by rw [hp.2]) (by decide) (by decide) dX10_text_155
  have U121 : ∀ (M : MW) (t0 : Int32), fX10_text_b121 M t0 = some (r', M') → GJ p9 l e9 (rg 4 0 0) s9 m9 args9 below9 meth9 c9 (MQ below9 (QI s0 D ev r' (cells ev X M' (nb + 1))) args9 s9 0 0 (frA ev)) s0 D ev 3 0 0 121 [(0, .ref (ev 0 + 65))] (.int t0 :: []) (cells ev X M (nb + 1)) := by
    intro M t0 h
    rw [fX10_text_b121] at h
    refine g_istore_n (i := 1) (lv' := [(1, .int t0), (0, .ref (ev 0 + 65))]) F dX10_text_121 rfl (by decide) rfl ?_
    refine g_lv (lv' := [(0, .ref (ev 0 + 65)), (1, .int t0)]) ⟨rfl, rfl, trivial⟩ ?_
    exact U122 _ _ h
  have U101 : ∀ (M : MW) (l1 : Int32), fX10_text_b101 M l1 = some (r', M') → GJ p9 l e9 (rg 4 0 0) s9 m9 args9 below9 meth9 c9 (MQ below9 (QI s0 D ev r' (cells ev X M' (nb + 1))) args9 s9 0 0 (frA ev)) s0 D ev 3 0 0 101 [(0, .ref (ev 0 + 65)), (1, .int l1)] ([]) (cells ev X M (nb + 1)) := by
    intro M l1 h
    rw [fX10_text_b101] at h
    refine g_iload_n (i := 1) F dX10_text_101 rfl rfl ?_
    refine g_if_eq (tgt := 122) F dX10_text_102 (by decide) h (fun a16 h => ?_) (fun a16 h => ?_)
    · refine g_lv (lv' := [(0, .ref (ev 0 + 65)), (1, .int l1)]) ⟨rfl, rfl, trivial⟩ ?_
      exact U122 _ _ h
    · refine g_aload_n (i := 0) F dX10_text_105 rfl rfl ?_
      obtain ⟨M13, e14, h⟩ := bind_at h
      refine g_callVV F (mcR := 0) (msR := 0) (id := 65) (cells_at (kd_hidM (show kd 65 = 10 from rfl) (by decide)) (xc_10 rfl)) (ci := 10) rfl rfl rfl (c_X10_next G0 e14) wd_13_18 wd_13_15 wd_13_16 wd_13_17 wd_1_5 ⟨by decide, by decide⟩ (nn := 0) (by decide) (As := []) rfl rfl (Nat.le_of_ble_eq_true rfl) (by decide) (by decide) ⟨by decide, by decide⟩ dX10_text_106 ?_
      refine g_aload_n (i := 0) F dX10_text_109 rfl rfl ?_
      refine g_get_10_37 F wd_13_12 dX10_text_110 ?_
      refine g_if_ne (tgt := 120) F dX10_text_113 (by decide) h (fun a15 h => ?_) (fun a15 h => ?_)
      · refine g_iconst F dX10_text_120 (v := 0) (by decide) ?_
        refine g_lv (lv' := [(0, .ref (ev 0 + 65))]) ⟨rfl, trivial⟩ ?_
        exact U121 _ _ h
      · refine g_iconst F dX10_text_116 (v := 1) (by decide) ?_
        refine g_goto (tgt := 121) F dX10_text_117 (by decide) ?_
        refine g_lv (lv' := [(0, .ref (ev 0 + 65))]) ⟨rfl, trivial⟩ ?_
        exact U121 _ _ h
  have L26 : ∀  (N26 : Nat) (M : MW) (l1 : Int32) (l2 : Int32), lo3 (fX10_text_l26) N26 M l1 l2 = some (r', M') → GJ p9 l e9 (rg 4 0 0) s9 m9 args9 below9 meth9 c9 (MQ below9 (QI s0 D ev r' (cells ev X M' (nb + 1))) args9 s9 0 0 (frA ev)) s0 D ev 3 0 0 26 [(0, .ref (ev 0 + 65)), (1, .int l1), (2, .int l2)] ([]) (cells ev X M (nb + 1)) := by
    intro  N26
    induction N26 with
    | zero => intro M l1 l2 h; cases h
    | succ N26 ih26 =>
      have U60 : ∀ (M : MW) (l2 : Int32) (t0 : Int32), fX10_text_b60 (lo3 (fX10_text_l26) N26) M l2 t0 = some (r', M') → GJ p9 l e9 (rg 4 0 0) s9 m9 args9 below9 meth9 c9 (MQ below9 (QI s0 D ev r' (cells ev X M' (nb + 1))) args9 s9 0 0 (frA ev)) s0 D ev 3 0 0 60 [(0, .ref (ev 0 + 65)), (2, .int l2)] (.int t0 :: []) (cells ev X M (nb + 1)) := by
        intro M l2 t0 h
        rw [fX10_text_b60] at h
        refine g_istore_n (i := 1) (lv' := [(1, .int t0), (0, .ref (ev 0 + 65)), (2, .int l2)]) F dX10_text_60 rfl (by decide) rfl ?_
        refine g_aload_n (i := 0) F dX10_text_61 rfl rfl ?_
        refine g_get_10_20 F wd_12_7 dX10_text_62 ?_
        refine g_iconst F dX10_text_65 (v := 4) (by decide) ?_
        refine g_aload_n (i := 0) F dX10_text_66 rfl rfl ?_
        refine g_get_10_21 F wd_13_9 dX10_text_67 ?_
        refine g_imul F dX10_text_70 ?_
        refine g_iload_n (i := 2) F dX10_text_71 rfl rfl ?_
        refine g_iadd F dX10_text_72 ?_
        refine g_aload_n (i := 0) F dX10_text_73 rfl rfl ?_
        refine g_get_10_43 F wd_13_11 dX10_text_74 ?_
        obtain ⟨h19, h⟩ := if_at h
        obtain ⟨M20, e21, h⟩ := bd_at h
        refine g_istM F rfl rfl h19 dX10_text_77 ?_
        rw [← e21]
        refine g_iload_n (i := 1) F dX10_text_78 rfl rfl ?_
        refine g_if_eq (tgt := 93) F dX10_text_79 (by decide) h (fun a26 h => ?_) (fun a26 h => ?_)
        · refine g_iconst F dX10_text_93 (v := 0) (by decide) ?_
          refine g_istore_n (i := 1) (lv' := [(1, .int (0 : Int32)), (0, .ref (ev 0 + 65)), (2, .int l2)]) F dX10_text_94 rfl (by decide) rfl ?_
          refine g_iinc (i := 2) (v := (l2 + (1 : Int32))) (lv' := [(2, .int (l2 + (1 : Int32))), (1, .int (0 : Int32)), (0, .ref (ev 0 + 65))]) F dX10_text_95 rfl rfl (by decide) rfl ?_
          refine g_goto (tgt := 26) F dX10_text_98 (by decide) ?_
          refine g_lv (lv' := [(0, .ref (ev 0 + 65)), (1, .int (0 : Int32)), (2, .int (l2 + (1 : Int32)))]) ⟨rfl, rfl, rfl, trivial⟩ ?_
          exact ih26 _ _ _ h
        · refine g_aload_n (i := 0) F dX10_text_82 rfl rfl ?_
          obtain ⟨v23, M22, e24, h⟩ := bd2_at h
          refine g_callVI F (mcR := 0) (msR := 0) (id := 65) (cells_at (kd_hidM (show kd 65 = 10 from rfl) (by decide)) (xc_10 rfl)) (ci := 10) rfl rfl rfl (c_X10_eRead G0 e24) wd_14_5 wd_14_2 wd_14_3 wd_14_4 wd_1_5 ⟨by decide, by decide⟩ (nn := 0) (by decide) (As := []) rfl rfl (Nat.le_of_ble_eq_true rfl) (by decide) (by decide) ⟨by decide, by decide⟩ dX10_text_83 ?_
          refine g_if_eq (tgt := 93) F dX10_text_86 (by decide) h (fun a25 h => ?_) (fun a25 h => ?_)
          · refine g_iconst F dX10_text_93 (v := 0) (by decide) ?_
            refine g_istore_n (i := 1) (lv' := [(1, .int (0 : Int32)), (0, .ref (ev 0 + 65)), (2, .int l2)]) F dX10_text_94 rfl (by decide) rfl ?_
            refine g_iinc (i := 2) (v := (l2 + (1 : Int32))) (lv' := [(2, .int (l2 + (1 : Int32))), (1, .int (0 : Int32)), (0, .ref (ev 0 + 65))]) F dX10_text_95 rfl rfl (by decide) rfl ?_
            refine g_goto (tgt := 26) F dX10_text_98 (by decide) ?_
            refine g_lv (lv' := [(0, .ref (ev 0 + 65)), (1, .int (0 : Int32)), (2, .int (l2 + (1 : Int32)))]) ⟨rfl, rfl, rfl, trivial⟩ ?_
            exact ih26 _ _ _ h
          · refine g_iconst F dX10_text_89 (v := 1) (by decide) ?_
            refine g_goto (tgt := 94) F dX10_text_90 (by decide) ?_
            refine g_istore_n (i := 1) (lv' := [(1, .int (1 : Int32)), (0, .ref (ev 0 + 65)), (2, .int l2)]) F dX10_text_94 rfl (by decide) rfl ?_
            refine g_iinc (i := 2) (v := (l2 + (1 : Int32))) (lv' := [(2, .int (l2 + (1 : Int32))), (1, .int (1 : Int32)), (0, .ref (ev 0 + 65))]) F dX10_text_95 rfl rfl (by decide) rfl ?_
            refine g_goto (tgt := 26) F dX10_text_98 (by decide) ?_
            refine g_lv (lv' := [(0, .ref (ev 0 + 65)), (1, .int (1 : Int32)), (2, .int (l2 + (1 : Int32)))]) ⟨rfl, rfl, rfl, trivial⟩ ?_
            exact ih26 _ _ _ h
      have U59 : ∀ (M : MW) (l2 : Int32), fX10_text_b59 (lo3 (fX10_text_l26) N26) M l2 = some (r', M') → GJ p9 l e9 (rg 4 0 0) s9 m9 args9 below9 meth9 c9 (MQ below9 (QI s0 D ev r' (cells ev X M' (nb + 1))) args9 s9 0 0 (frA ev)) s0 D ev 3 0 0 59 [(0, .ref (ev 0 + 65)), (2, .int l2)] ([]) (cells ev X M (nb + 1)) := by
        intro M l2 h
        rw [fX10_text_b59] at h
        refine g_iconst F dX10_text_59 (v := 0) (by decide) ?_
        refine g_lv (lv' := [(0, .ref (ev 0 + 65)), (2, .int l2)]) ⟨rfl, rfl, trivial⟩ ?_
        exact U60 _ _ _ h
      intro M l1 l2 h
      change fX10_text_l26 (lo3 (fX10_text_l26) N26) M l1 l2 = some (r', M') at h
      rw [fX10_text_l26] at h
      refine g_iload_n (i := 2) F dX10_text_26 rfl rfl ?_
      refine g_iconst F dX10_text_27 (v := 3) (by decide) ?_
      refine g_icmp_ge (tgt := 101) F dX10_text_28 (by decide) h (fun a30 h => ?_) (fun a30 h => ?_)
      · refine g_lv (lv' := [(0, .ref (ev 0 + 65)), (1, .int l1)]) ⟨rfl, rfl, trivial⟩ ?_
        exact U101 _ _ h
      · refine g_iload_n (i := 1) F dX10_text_31 rfl rfl ?_
        refine g_if_eq (tgt := 101) F dX10_text_32 (by decide) h (fun a29 h => ?_) (fun a29 h => ?_)
        · refine g_lv (lv' := [(0, .ref (ev 0 + 65)), (1, .int l1)]) ⟨rfl, rfl, trivial⟩ ?_
          exact U101 _ _ h
        · refine g_aload_n (i := 0) F dX10_text_35 rfl rfl ?_
          obtain ⟨M17, e18, h⟩ := bind_at h
          refine g_callVV F (mcR := 0) (msR := 0) (id := 65) (cells_at (kd_hidM (show kd 65 = 10 from rfl) (by decide)) (xc_10 rfl)) (ci := 10) rfl rfl rfl (c_X10_next G0 e18) wd_13_18 wd_13_15 wd_13_16 wd_13_17 wd_1_5 ⟨by decide, by decide⟩ (nn := 0) (by decide) (As := []) rfl rfl (Nat.le_of_ble_eq_true rfl) (by decide) (by decide) ⟨by decide, by decide⟩ dX10_text_36 ?_
          refine g_aload_n (i := 0) F dX10_text_39 rfl rfl ?_
          refine g_get_10_37 F wd_13_12 dX10_text_40 ?_
          refine g_iconst F dX10_text_43 (v := 3) (by decide) ?_
          refine g_icmp_ne (tgt := 59) F dX10_text_44 (by decide) h (fun a28 h => ?_) (fun a28 h => ?_)
          · refine g_lv (lv' := [(0, .ref (ev 0 + 65)), (2, .int l2)]) ⟨rfl, rfl, trivial⟩ ?_
            exact U59 _ _ h
          · refine g_aload_n (i := 0) F dX10_text_47 rfl rfl ?_
            refine g_get_10_38 F wd_13_13 dX10_text_48 ?_
            refine g_iload_n (i := 2) F dX10_text_51 rfl rfl ?_
            refine g_icmp_ne (tgt := 59) F dX10_text_52 (by decide) h (fun a27 h => ?_) (fun a27 h => ?_)
            · refine g_lv (lv' := [(0, .ref (ev 0 + 65)), (2, .int l2)]) ⟨rfl, rfl, trivial⟩ ?_
              exact U59 _ _ h
            · refine g_iconst F dX10_text_55 (v := 1) (by decide) ?_
              refine g_goto (tgt := 60) F dX10_text_56 (by decide) ?_
              refine g_lv (lv' := [(0, .ref (ev 0 + 65)), (2, .int l2)]) ⟨rfl, rfl, trivial⟩ ?_
              exact U60 _ _ _ h
  rw [fX10_text] at h
  refine g_lv (lv' := [(0, .ref (ev 0 + 65))]) ⟨rfl, trivial⟩ ?_
  refine g_aload_n (i := 0) F dX10_text_0 rfl rfl ?_
  refine g_get_10_21 F wd_13_9 dX10_text_1 ?_
  refine g_bipush F dX10_text_4 (v := 6) (by decide) ?_
  refine g_icmp_ne (tgt := 12) F dX10_text_6 (by decide) h (fun a31 h => ?_) (fun a31 h => ?_)
  · refine g_aload_n (i := 0) F dX10_text_12 rfl rfl ?_
    refine g_iconst F dX10_text_13 (v := 0) (by decide) ?_
    obtain ⟨M1, e2, h⟩ := bd_at h
    refine g_put_10_35 F wd_13_10 dX10_text_14 ?_
    rw [← e2]
    refine g_aload_n (i := 0) F dX10_text_17 rfl rfl ?_
    refine g_iconst F dX10_text_18 (v := 0) (by decide) ?_
    obtain ⟨M3, e4, h⟩ := bd_at h
    refine g_put_10_43 F wd_13_11 dX10_text_19 ?_
    rw [← e4]
    refine g_iconst F dX10_text_22 (v := 1) (by decide) ?_
    refine g_istore_n (i := 1) (lv' := [(1, .int (1 : Int32)), (0, .ref (ev 0 + 65))]) F dX10_text_23 rfl (by decide) rfl ?_
    refine g_iconst F dX10_text_24 (v := 0) (by decide) ?_
    refine g_istore_n (i := 2) (lv' := [(2, .int (0 : Int32)), (1, .int (1 : Int32)), (0, .ref (ev 0 + 65))]) F dX10_text_25 rfl (by decide) rfl ?_
    refine g_lv (lv' := [(0, .ref (ev 0 + 65)), (1, .int (1 : Int32)), (2, .int (0 : Int32))]) ⟨rfl, rfl, rfl, trivial⟩ ?_
    exact L26 FU _ _ _ h
  · refine g_bipush F dX10_text_9 (v := -4) (by decide) ?_
    have hp := Prod.mk.inj (Option.some.inj h)
    exact g_iret F hr9 rfl hl9 hp.1 (by rw [hp.2]) (by decide) (by decide) dX10_text_11
def fX10_two (l0 : Int32) (l1 : Int32) (l2 : Int32) : Int32 :=
  if l0 = (11 : Int32) then if l1 = 0 then if l2 = 0 then (0 : Int32)
  else (1 : Int32)
  else (1 : Int32)
  else if l0 = (12 : Int32) then if l1 = 0 then (0 : Int32)
  else if l2 = 0 then (0 : Int32)
  else (1 : Int32)
  else if l0 = (13 : Int32) then (l1 * l2)
  else if l0 = (14 : Int32) then if l2 ≤ l1 then (0 : Int32)
  else (1 : Int32)
  else if l0 = (15 : Int32) then if l1 = l2 then (1 : Int32)
  else (0 : Int32)
  else if l0 = (16 : Int32) then (l1 + l2)
  else if l0 = (17 : Int32) then (l1 - l2)
  else (l1 * l2)
set_option maxRecDepth 100000 in
set_option maxHeartbeats 4000000 in
theorem c_X10_two {l : Launch} {s0 : State} {D : va_G} {ev : Nat → Nat} (G0 : Gl s0 D ev) {X : XW} {M : MW} {nb : Nat} {l0 : Int32} {l1 : Int32} {l2 : Int32} {r' : Int32}  (h : fX10_two l0 l1 l2 = r') : CT l s0 D ev yX10_two cX10_two 3 (some .int) 0 0 0 [.int l0, .int l1, .int l2] (cells ev X M (nb + 1)) (QI s0 D ev r' (cells ev X M (nb + 1))) := by
  refine ct_of G0 (by decide) (Nat.le_of_ble_eq_true rfl) ?_
  intro p9 e9 s9 m9 args9 below9 meth9 c9 F hr9 hl9 hin9 hargs9 hts9
  rw [fX10_two] at h
  refine g_lv (lv' := [(0, .int l0), (1, .int l1), (2, .int l2)]) ⟨rfl, rfl, rfl, trivial⟩ ?_
  refine g_iload_n (i := 0) F dX10_two_0 rfl rfl ?_
  refine ite_at h (fun a1 h => ?_) (fun a1 h => ?_)
  · refine g_tsw (k := 11) (off := 43) (tgt := 44) F a1 dX10_two_1 (by decide) (by decide) (by decide) (by decide) ?_
    refine g_iload_n (i := 1) F dX10_two_44 rfl rfl ?_
    refine g_if_ne (tgt := 52) F dX10_two_45 (by decide) h (fun a9 h => ?_) (fun a9 h => ?_)
    · refine g_iconst F dX10_two_52 (v := 1) (by decide) ?_
      refine g_goto (tgt := 57) F dX10_two_53 (by decide) ?_
      exact g_iret F hr9 rfl hl9 h rfl (by decide) (by decide) dX10_two_57
    · refine g_iload_n (i := 2) F dX10_two_48 rfl rfl ?_
      refine g_if_eq (tgt := 56) F dX10_two_49 (by decide) h (fun a8 h => ?_) (fun a8 h => ?_)
      · refine g_iconst F dX10_two_56 (v := 0) (by decide) ?_
        exact g_iret F hr9 rfl hl9 h rfl (by decide) (by decide) dX10_two_57
      · refine g_iconst F dX10_two_52 (v := 1) (by decide) ?_
        refine g_goto (tgt := 57) F dX10_two_53 (by decide) ?_
        exact g_iret F hr9 rfl hl9 h rfl (by decide) (by decide) dX10_two_57
  · refine ite_at h (fun a2 h => ?_) (fun a2 h => ?_)
    · refine g_tsw (k := 12) (off := 57) (tgt := 58) F a2 dX10_two_1 (by decide) (by decide) (by decide) (by decide) ?_
      refine g_iload_n (i := 1) F dX10_two_58 rfl rfl ?_
      refine g_if_eq (tgt := 70) F dX10_two_59 (by decide) h (fun a11 h => ?_) (fun a11 h => ?_)
      · refine g_iconst F dX10_two_70 (v := 0) (by decide) ?_
        exact g_iret F hr9 rfl hl9 h rfl (by decide) (by decide) dX10_two_71
      · refine g_iload_n (i := 2) F dX10_two_62 rfl rfl ?_
        refine g_if_eq (tgt := 70) F dX10_two_63 (by decide) h (fun a10 h => ?_) (fun a10 h => ?_)
        · refine g_iconst F dX10_two_70 (v := 0) (by decide) ?_
          exact g_iret F hr9 rfl hl9 h rfl (by decide) (by decide) dX10_two_71
        · refine g_iconst F dX10_two_66 (v := 1) (by decide) ?_
          refine g_goto (tgt := 71) F dX10_two_67 (by decide) ?_
          exact g_iret F hr9 rfl hl9 h rfl (by decide) (by decide) dX10_two_71
    · refine ite_at h (fun a3 h => ?_) (fun a3 h => ?_)
      · refine g_tsw (k := 13) (off := 101) (tgt := 102) F a3 dX10_two_1 (by decide) (by decide) (by decide) (by decide) ?_
        refine g_iload_n (i := 1) F dX10_two_102 rfl rfl ?_
        refine g_iload_n (i := 2) F dX10_two_103 rfl rfl ?_
        refine g_imul F dX10_two_104 ?_
        exact g_iret F hr9 rfl hl9 h rfl (by decide) (by decide) dX10_two_105
      · refine ite_at h (fun a4 h => ?_) (fun a4 h => ?_)
        · refine g_tsw (k := 14) (off := 71) (tgt := 72) F a4 dX10_two_1 (by decide) (by decide) (by decide) (by decide) ?_
          refine g_iload_n (i := 1) F dX10_two_72 rfl rfl ?_
          refine g_iload_n (i := 2) F dX10_two_73 rfl rfl ?_
          refine g_icmp_ge (tgt := 81) F dX10_two_74 (by decide) h (fun a12 h => ?_) (fun a12 h => ?_)
          · refine g_iconst F dX10_two_81 (v := 0) (by decide) ?_
            exact g_iret F hr9 rfl hl9 h rfl (by decide) (by decide) dX10_two_82
          · refine g_iconst F dX10_two_77 (v := 1) (by decide) ?_
            refine g_goto (tgt := 82) F dX10_two_78 (by decide) ?_
            exact g_iret F hr9 rfl hl9 h rfl (by decide) (by decide) dX10_two_82
        · refine ite_at h (fun a5 h => ?_) (fun a5 h => ?_)
          · refine g_tsw (k := 15) (off := 82) (tgt := 83) F a5 dX10_two_1 (by decide) (by decide) (by decide) (by decide) ?_
            refine g_iload_n (i := 1) F dX10_two_83 rfl rfl ?_
            refine g_iload_n (i := 2) F dX10_two_84 rfl rfl ?_
            refine g_icmp_ne (tgt := 92) F dX10_two_85 (by decide) h (fun a13 h => ?_) (fun a13 h => ?_)
            · refine g_iconst F dX10_two_92 (v := 0) (by decide) ?_
              exact g_iret F hr9 rfl hl9 h rfl (by decide) (by decide) dX10_two_93
            · refine g_iconst F dX10_two_88 (v := 1) (by decide) ?_
              refine g_goto (tgt := 93) F dX10_two_89 (by decide) ?_
              exact g_iret F hr9 rfl hl9 h rfl (by decide) (by decide) dX10_two_93
          · refine ite_at h (fun a6 h => ?_) (fun a6 h => ?_)
            · refine g_tsw (k := 16) (off := 93) (tgt := 94) F a6 dX10_two_1 (by decide) (by decide) (by decide) (by decide) ?_
              refine g_iload_n (i := 1) F dX10_two_94 rfl rfl ?_
              refine g_iload_n (i := 2) F dX10_two_95 rfl rfl ?_
              refine g_iadd F dX10_two_96 ?_
              exact g_iret F hr9 rfl hl9 h rfl (by decide) (by decide) dX10_two_97
            · refine ite_at h (fun a7 h => ?_) (fun a7 h => ?_)
              · refine g_tsw (k := 17) (off := 97) (tgt := 98) F a7 dX10_two_1 (by decide) (by decide) (by decide) (by decide) ?_
                refine g_iload_n (i := 1) F dX10_two_98 rfl rfl ?_
                refine g_iload_n (i := 2) F dX10_two_99 rfl rfl ?_
                refine g_isub F dX10_two_100 ?_
                exact g_iret F hr9 rfl hl9 h rfl (by decide) (by decide) dX10_two_101
              · have q0 : l0.toInt ≠ 11 := fun q => a1 (Int32.toInt_inj.mp (q.trans (by decide)))
                have q1 : l0.toInt ≠ 12 := fun q => a2 (Int32.toInt_inj.mp (q.trans (by decide)))
                have q2 : l0.toInt ≠ 13 := fun q => a3 (Int32.toInt_inj.mp (q.trans (by decide)))
                have q3 : l0.toInt ≠ 14 := fun q => a4 (Int32.toInt_inj.mp (q.trans (by decide)))
                have q4 : l0.toInt ≠ 15 := fun q => a5 (Int32.toInt_inj.mp (q.trans (by decide)))
                have q5 : l0.toInt ≠ 16 := fun q => a6 (Int32.toInt_inj.mp (q.trans (by decide)))
                have q6 : l0.toInt ≠ 17 := fun q => a7 (Int32.toInt_inj.mp (q.trans (by decide)))
                refine g_tswd (tgt := 102) F (by omega) dX10_two_1 (by decide) ?_
                refine g_iload_n (i := 1) F dX10_two_102 rfl rfl ?_
                refine g_iload_n (i := 2) F dX10_two_103 rfl rfl ?_
                refine g_imul F dX10_two_104 ?_
                exact g_iret F hr9 rfl hl9 h rfl (by decide) (by decide) dX10_two_105
def fX10_worth_b217 (M : MW) (t0 : Int32) (t1 : Int32) (t2 : Int32) : Option (Int32 × MW) :=
  some ((fX10_within t0 t1 t2), M)
def fX10_worth_b197 (M : MW) (l1 : Int32) : Option (Int32 × MW) :=
  (rd (M.2 94) 200 (0 : Int32)).bind fun v5 =>
  if l1 = (2 : Int32) then fX10_worth_b217 M v5 (0 : Int32) (100 : Int32)
  else fX10_worth_b217 M v5 (0 : Int32) (999 : Int32)
def fX10_worth_b93 (l1f16 : Int32) (K16 : MW → Int32 → Int32 → Option (Int32 × MW)) (M : MW) (l2 : Int32) (l3 : Int32) (t1 : Int32) (t2 : Int32) : Option (Int32 × MW) :=
  if inb t1 200 then bd (mA M 94 t1 t2) fun M13 =>
  K16 M13 (l2 + (1 : Int32)) (l3 + (1 : Int32))
  else none
def fX10_worth_b66 (l1f16 : Int32) (K16 : MW → Int32 → Int32 → Option (Int32 × MW)) (M : MW) (l2 : Int32) (l3 : Int32) (l4 : Int32) : Option (Int32 × MW) :=
  if (11 : Int32) ≤ l4 then fX10_worth_b93 l1f16 K16 M l2 l3 l2 (l4 - (100000 : Int32))
  else (rd (M.2 95) 6 l4).bind fun v15 =>
  fX10_worth_b93 l1f16 K16 M l2 l3 l2 v15
def fX10_worth_b130 (l1f16 : Int32) (K16 : MW → Int32 → Int32 → Option (Int32 × MW)) (M : MW) (l2 : Int32) (l3 : Int32) (t1 : Int32) (t2 : Int32) : Option (Int32 × MW) :=
  if inb t1 200 then bd (mA M 94 t1 t2) fun M36 =>
  K16 M36 l2 (l3 + (1 : Int32))
  else none
def fX10_worth_l16 (l1f16 : Int32) (K16 : MW → Int32 → Int32 → Option (Int32 × MW)) (M : MW) (l2 : Int32) (l3 : Int32) : Option (Int32 × MW) :=
  (rd (M.2 83) 24 ((((4 : Int32) * (M.1 22)) + l1f16) + (1 : Int32))).bind fun v3 =>
  if v3 ≤ l3 then fX10_worth_b197 M l1f16
  else (rd (M.2 82) 1200 (((200 : Int32) * (M.1 22)) + l3)).bind fun v10 =>
  if (100000 : Int32) ≤ v10 then fX10_worth_b66 l1f16 K16 M l2 l3 v10
  else if (11 : Int32) ≤ v10 then if v10 = (13 : Int32) then (rd (M.2 94) 200 (l2 - (1 : Int32))).bind fun v33 =>
  if v33 = 0 then fX10_worth_b130 l1f16 K16 M l2 l3 (l2 - (1 : Int32)) (1 : Int32)
  else fX10_worth_b130 l1f16 K16 M l2 l3 (l2 - (1 : Int32)) (0 : Int32)
  else if v10 = (19 : Int32) then (rd (M.2 94) 200 (l2 - (1 : Int32))).bind fun v27 =>
  if inb (l2 - (1 : Int32)) 200 then bd (mA M 94 (l2 - (1 : Int32)) (-v27)) fun M30 =>
  K16 M30 l2 (l3 + (1 : Int32))
  else none
  else (rd (M.2 94) 200 ((l2 + (-1 : Int32)) - (1 : Int32))).bind fun v18 =>
  (rd (M.2 94) 200 (l2 + (-1 : Int32))).bind fun v20 =>
  if inb ((l2 + (-1 : Int32)) - (1 : Int32)) 200 then bd (mA M 94 ((l2 + (-1 : Int32)) - (1 : Int32)) (fX10_two v10 v18 v20)) fun M25 =>
  K16 M25 (l2 + (-1 : Int32)) (l3 + (1 : Int32))
  else none
  else fX10_worth_b66 l1f16 K16 M l2 l3 v10
def fX10_worth (M : MW) (l1 : Int32) : Option (Int32 × MW) :=
  (rd (M.2 83) 24 (((4 : Int32) * (M.1 22)) + l1)).bind fun v1 =>
  lo3 (fX10_worth_l16 l1) FU M (0 : Int32) v1
set_option maxRecDepth 100000 in
set_option maxHeartbeats 4000000 in
theorem c_X10_worth {l : Launch} {s0 : State} {D : va_G} {ev : Nat → Nat} (G0 : Gl s0 D ev) {X : XW} {M : MW} {nb : Nat} {l1 : Int32} {r' : Int32} {M' : MW}  (h : fX10_worth M l1 = some (r', M')) : CT l s0 D ev yX10_worth cX10_worth 5 (some .int) 1 0 0 [.ref (ev 0 + 65), .int l1] (cells ev X M (nb + 1)) (QI s0 D ev r' (cells ev X M' (nb + 1))) := by
  refine ct_of G0 (by decide) (Nat.le_of_ble_eq_true rfl) ?_
  intro p9 e9 s9 m9 args9 below9 meth9 c9 F hr9 hl9 hin9 hargs9 hts9
  have U217 : ∀ (M : MW) (t0 : Int32) (t1 : Int32) (t2 : Int32), fX10_worth_b217 M t0 t1 t2 = some (r', M') → GJ p9 l e9 (rg 1 0 0) s9 m9 args9 below9 meth9 c9 (MQ below9 (QI s0 D ev r' (cells ev X M' (nb + 1))) args9 s9 0 0 (frA ev)) s0 D ev 5 0 0 217 [] (.int t2 :: .int t1 :: .int t0 :: []) (cells ev X M (nb + 1)) := by
    intro M t0 t1 t2 h
    rw [fX10_worth_b217] at h
    refine g_callSI F (mcR := 0) (msR := 0) (c_X10_within G0 (X := X) (M := M) (nb := nb) rfl) wd_21_17 wd_21_15 wd_21_16 wd_1_5 ⟨by decide, by decide⟩ (nn := 3) (by decide) (As := [.int t0, .int t1, .int t2]) rfl rfl (Nat.le_of_ble_eq_true rfl) (by decide) (by decide) ⟨by decide, by decide⟩ dX10_worth_217 ?_
    have hp := Prod.mk.inj (Option.some.inj h)
    exact g_iret F hr9 rfl hl9 hp.1 (by rw [hp.2]) (by decide) (by decide) dX10_worth_220
  have U197 : ∀ (M : MW) (l1 : Int32), fX10_worth_b197 M l1 = some (r', M') → GJ p9 l e9 (rg 1 0 0) s9 m9 args9 below9 meth9 c9 (MQ below9 (QI s0 D ev r' (cells ev X M' (nb + 1))) args9 s9 0 0 (frA ev)) s0 D ev 5 0 0 197 [(0, .ref (ev 0 + 65)), (1, .int l1)] ([]) (cells ev X M (nb + 1)) := by
    intro M l1 h
    rw [fX10_worth_b197] at h
    refine g_aload_n (i := 0) F dX10_worth_197 rfl rfl ?_
    refine g_get_10_44 F wd_12_18 dX10_worth_198 ?_
    refine g_iconst F dX10_worth_201 (v := 0) (by decide) ?_
    obtain ⟨v5, e6, h⟩ := bind_at h
    refine g_ildM F rfl rfl e6 dX10_worth_202 ?_
    refine g_iconst F dX10_worth_203 (v := 0) (by decide) ?_
    refine g_iload_n (i := 1) F dX10_worth_204 rfl rfl ?_
    refine g_iconst F dX10_worth_205 (v := 2) (by decide) ?_
    refine g_icmp_ne (tgt := 214) F dX10_worth_206 (by decide) h (fun a9 h => ?_) (fun a9 h => ?_)
    · refine g_sipush F dX10_worth_214 (v := 999) (by decide) ?_
      refine g_lv (lv' := []) trivial ?_
      exact U217 _ _ _ _ h
    · refine g_bipush F dX10_worth_209 (v := 100) (by decide) ?_
      refine g_goto (tgt := 217) F dX10_worth_211 (by decide) ?_
      refine g_lv (lv' := []) trivial ?_
      exact U217 _ _ _ _ h
  have L16 : ∀ (l1f16 : Int32) (N16 : Nat) (M : MW) (l2 : Int32) (l3 : Int32), lo3 (fX10_worth_l16 l1f16) N16 M l2 l3 = some (r', M') → GJ p9 l e9 (rg 1 0 0) s9 m9 args9 below9 meth9 c9 (MQ below9 (QI s0 D ev r' (cells ev X M' (nb + 1))) args9 s9 0 0 (frA ev)) s0 D ev 5 0 0 16 [(0, .ref (ev 0 + 65)), (1, .int l1f16), (2, .int l2), (3, .int l3)] ([]) (cells ev X M (nb + 1)) := by
    intro l1f16 N16
    induction N16 with
    | zero => intro M l2 l3 h; cases h
    | succ N16 ih16 =>
      have U93 : ∀ (M : MW) (l2 : Int32) (l3 : Int32) (t1 : Int32) (t2 : Int32), fX10_worth_b93 l1f16 (lo3 (fX10_worth_l16 l1f16) N16) M l2 l3 t1 t2 = some (r', M') → GJ p9 l e9 (rg 1 0 0) s9 m9 args9 below9 meth9 c9 (MQ below9 (QI s0 D ev r' (cells ev X M' (nb + 1))) args9 s9 0 0 (frA ev)) s0 D ev 5 0 0 93 [(0, .ref (ev 0 + 65)), (1, .int l1f16), (2, .int l2), (3, .int l3)] (.int t2 :: .int t1 :: .ref (ev 0 + 94) :: []) (cells ev X M (nb + 1)) := by
        intro M l2 l3 t1 t2 h
        rw [fX10_worth_b93] at h
        obtain ⟨h12, h⟩ := if_at h
        obtain ⟨M13, e14, h⟩ := bd_at h
        refine g_istM F rfl rfl h12 dX10_worth_93 ?_
        rw [← e14]
        refine g_iinc (i := 2) (v := (l2 + (1 : Int32))) (lv' := [(2, .int (l2 + (1 : Int32))), (0, .ref (ev 0 + 65)), (1, .int l1f16), (3, .int l3)]) F dX10_worth_94 rfl rfl (by decide) rfl ?_
        refine g_goto (tgt := 191) F dX10_worth_97 (by decide) ?_
        refine g_iinc (i := 3) (v := (l3 + (1 : Int32))) (lv' := [(3, .int (l3 + (1 : Int32))), (2, .int (l2 + (1 : Int32))), (0, .ref (ev 0 + 65)), (1, .int l1f16)]) F dX10_worth_191 rfl rfl (by decide) rfl ?_
        refine g_goto (tgt := 16) F dX10_worth_194 (by decide) ?_
        refine g_lv (lv' := [(0, .ref (ev 0 + 65)), (1, .int l1f16), (2, .int (l2 + (1 : Int32))), (3, .int (l3 + (1 : Int32)))]) ⟨rfl, rfl, rfl, rfl, trivial⟩ ?_
        exact ih16 _ _ _ h
      have U66 : ∀ (M : MW) (l2 : Int32) (l3 : Int32) (l4 : Int32), fX10_worth_b66 l1f16 (lo3 (fX10_worth_l16 l1f16) N16) M l2 l3 l4 = some (r', M') → GJ p9 l e9 (rg 1 0 0) s9 m9 args9 below9 meth9 c9 (MQ below9 (QI s0 D ev r' (cells ev X M' (nb + 1))) args9 s9 0 0 (frA ev)) s0 D ev 5 0 0 66 [(0, .ref (ev 0 + 65)), (1, .int l1f16), (2, .int l2), (3, .int l3), (4, .int l4)] ([]) (cells ev X M (nb + 1)) := by
        intro M l2 l3 l4 h
        rw [fX10_worth_b66] at h
        refine g_aload_n (i := 0) F dX10_worth_66 rfl rfl ?_
        refine g_get_10_44 F wd_12_18 dX10_worth_67 ?_
        refine g_iload_n (i := 2) F dX10_worth_70 rfl rfl ?_
        refine g_iload (i := 4) F dX10_worth_71 rfl ?_
        refine g_bipush F dX10_worth_73 (v := 11) (by decide) ?_
        refine g_icmp_ge (tgt := 88) F dX10_worth_75 (by decide) h (fun a17 h => ?_) (fun a17 h => ?_)
        · refine g_iload (i := 4) F dX10_worth_88 rfl ?_
          refine g_ldc F dX10_worth_90 wd_14_8 ?_
          refine g_isub F dX10_worth_92 ?_
          refine g_lv (lv' := [(0, .ref (ev 0 + 65)), (1, .int l1f16), (2, .int l2), (3, .int l3)]) ⟨rfl, rfl, rfl, rfl, trivial⟩ ?_
          exact U93 _ _ _ _ _ h
        · refine g_aload_n (i := 0) F dX10_worth_78 rfl rfl ?_
          refine g_get_10_45 F wd_12_19 dX10_worth_79 ?_
          refine g_iload (i := 4) F dX10_worth_82 rfl ?_
          obtain ⟨v15, e16, h⟩ := bind_at h
          refine g_ildM F rfl rfl e16 dX10_worth_84 ?_
          refine g_goto (tgt := 93) F dX10_worth_85 (by decide) ?_
          refine g_lv (lv' := [(0, .ref (ev 0 + 65)), (1, .int l1f16), (2, .int l2), (3, .int l3)]) ⟨rfl, rfl, rfl, rfl, trivial⟩ ?_
          exact U93 _ _ _ _ _ h
      have U130 : ∀ (M : MW) (l2 : Int32) (l3 : Int32) (t1 : Int32) (t2 : Int32), fX10_worth_b130 l1f16 (lo3 (fX10_worth_l16 l1f16) N16) M l2 l3 t1 t2 = some (r', M') → GJ p9 l e9 (rg 1 0 0) s9 m9 args9 below9 meth9 c9 (MQ below9 (QI s0 D ev r' (cells ev X M' (nb + 1))) args9 s9 0 0 (frA ev)) s0 D ev 5 0 0 130 [(0, .ref (ev 0 + 65)), (1, .int l1f16), (2, .int l2), (3, .int l3)] (.int t2 :: .int t1 :: .ref (ev 0 + 94) :: []) (cells ev X M (nb + 1)) := by
        intro M l2 l3 t1 t2 h
        rw [fX10_worth_b130] at h
        obtain ⟨h35, h⟩ := if_at h
        obtain ⟨M36, e37, h⟩ := bd_at h
        refine g_istM F rfl rfl h35 dX10_worth_130 ?_
        rw [← e37]
        refine g_goto (tgt := 191) F dX10_worth_131 (by decide) ?_
        refine g_iinc (i := 3) (v := (l3 + (1 : Int32))) (lv' := [(3, .int (l3 + (1 : Int32))), (0, .ref (ev 0 + 65)), (1, .int l1f16), (2, .int l2)]) F dX10_worth_191 rfl rfl (by decide) rfl ?_
        refine g_goto (tgt := 16) F dX10_worth_194 (by decide) ?_
        refine g_lv (lv' := [(0, .ref (ev 0 + 65)), (1, .int l1f16), (2, .int l2), (3, .int (l3 + (1 : Int32)))]) ⟨rfl, rfl, rfl, rfl, trivial⟩ ?_
        exact ih16 _ _ _ h
      intro M l2 l3 h
      change fX10_worth_l16 l1f16 (lo3 (fX10_worth_l16 l1f16) N16) M l2 l3 = some (r', M') at h
      rw [fX10_worth_l16] at h
      refine g_iload_n (i := 3) F dX10_worth_16 rfl rfl ?_
      refine g_aload_n (i := 0) F dX10_worth_17 rfl rfl ?_
      refine g_get_10_20 F wd_12_7 dX10_worth_18 ?_
      refine g_iconst F dX10_worth_21 (v := 4) (by decide) ?_
      refine g_aload_n (i := 0) F dX10_worth_22 rfl rfl ?_
      refine g_get_10_22 F wd_18_19 dX10_worth_23 ?_
      refine g_imul F dX10_worth_26 ?_
      refine g_iload_n (i := 1) F dX10_worth_27 rfl rfl ?_
      refine g_iadd F dX10_worth_28 ?_
      refine g_iconst F dX10_worth_29 (v := 1) (by decide) ?_
      refine g_iadd F dX10_worth_30 ?_
      obtain ⟨v3, e4, h⟩ := bind_at h
      refine g_ildM F rfl rfl e4 dX10_worth_31 ?_
      refine g_icmp_ge (tgt := 197) F dX10_worth_32 (by decide) h (fun a42 h => ?_) (fun a42 h => ?_)
      · refine g_lv (lv' := [(0, .ref (ev 0 + 65)), (1, .int l1f16)]) ⟨rfl, rfl, trivial⟩ ?_
        exact U197 _ _ h
      · refine g_aload_n (i := 0) F dX10_worth_35 rfl rfl ?_
        refine g_get_10_19 F wd_12_6 dX10_worth_36 ?_
        refine g_sipush F dX10_worth_39 (v := 200) (by decide) ?_
        refine g_aload_n (i := 0) F dX10_worth_42 rfl rfl ?_
        refine g_get_10_22 F wd_18_19 dX10_worth_43 ?_
        refine g_imul F dX10_worth_46 ?_
        refine g_iload_n (i := 3) F dX10_worth_47 rfl rfl ?_
        refine g_iadd F dX10_worth_48 ?_
        obtain ⟨v10, e11, h⟩ := bind_at h
        refine g_ildM F rfl rfl e11 dX10_worth_49 ?_
        refine g_istore (i := 4) (lv' := [(4, .int v10), (0, .ref (ev 0 + 65)), (1, .int l1f16), (2, .int l2), (3, .int l3)]) F dX10_worth_50 (by decide) rfl ?_
        refine g_iload (i := 4) F dX10_worth_52 rfl ?_
        refine g_ldc F dX10_worth_54 wd_14_8 ?_
        refine g_icmp_ge (tgt := 66) F dX10_worth_56 (by decide) h (fun a41 h => ?_) (fun a41 h => ?_)
        · refine g_lv (lv' := [(0, .ref (ev 0 + 65)), (1, .int l1f16), (2, .int l2), (3, .int l3), (4, .int v10)]) ⟨rfl, rfl, rfl, rfl, rfl, trivial⟩ ?_
          exact U66 _ _ _ _ h
        · refine g_iload (i := 4) F dX10_worth_59 rfl ?_
          refine g_bipush F dX10_worth_61 (v := 11) (by decide) ?_
          refine g_icmp_ge (tgt := 100) F dX10_worth_63 (by decide) h (fun a40 h => ?_) (fun a40 h => ?_)
          · refine g_iload (i := 4) F dX10_worth_100 rfl ?_
            refine g_bipush F dX10_worth_102 (v := 13) (by decide) ?_
            refine g_icmp_ne (tgt := 134) F dX10_worth_104 (by decide) h (fun a39 h => ?_) (fun a39 h => ?_)
            · refine g_iload (i := 4) F dX10_worth_134 rfl ?_
              refine g_bipush F dX10_worth_136 (v := 19) (by decide) ?_
              refine g_icmp_ne (tgt := 161) F dX10_worth_138 (by decide) h (fun a32 h => ?_) (fun a32 h => ?_)
              · refine g_iinc (i := 2) (v := (l2 + (-1 : Int32))) (lv' := [(2, .int (l2 + (-1 : Int32))), (4, .int v10), (0, .ref (ev 0 + 65)), (1, .int l1f16), (3, .int l3)]) F dX10_worth_161 rfl rfl (by decide) rfl ?_
                refine g_aload_n (i := 0) F dX10_worth_164 rfl rfl ?_
                refine g_get_10_44 F wd_12_18 dX10_worth_165 ?_
                refine g_iload_n (i := 2) F dX10_worth_168 rfl rfl ?_
                refine g_iconst F dX10_worth_169 (v := 1) (by decide) ?_
                refine g_isub F dX10_worth_170 ?_
                refine g_iload (i := 4) F dX10_worth_171 rfl ?_
                refine g_aload_n (i := 0) F dX10_worth_173 rfl rfl ?_
                refine g_get_10_44 F wd_12_18 dX10_worth_174 ?_
                refine g_iload_n (i := 2) F dX10_worth_177 rfl rfl ?_
                refine g_iconst F dX10_worth_178 (v := 1) (by decide) ?_
                refine g_isub F dX10_worth_179 ?_
                obtain ⟨v18, e19, h⟩ := bind_at h
                refine g_ildM F rfl rfl e19 dX10_worth_180 ?_
                refine g_aload_n (i := 0) F dX10_worth_181 rfl rfl ?_
                refine g_get_10_44 F wd_12_18 dX10_worth_182 ?_
                refine g_iload_n (i := 2) F dX10_worth_185 rfl rfl ?_
                obtain ⟨v20, e21, h⟩ := bind_at h
                refine g_ildM F rfl rfl e21 dX10_worth_186 ?_
                refine g_callSI F (mcR := 0) (msR := 0) (c_X10_two G0 (X := X) (M := M) (nb := nb) rfl) wd_21_14 wd_21_12 wd_21_13 wd_1_5 ⟨by decide, by decide⟩ (nn := 3) (by decide) (As := [.int v10, .int v18, .int v20]) rfl rfl (Nat.le_of_ble_eq_true rfl) (by decide) (by decide) ⟨by decide, by decide⟩ dX10_worth_187 ?_
                obtain ⟨h24, h⟩ := if_at h
                obtain ⟨M25, e26, h⟩ := bd_at h
                refine g_istM F rfl rfl h24 dX10_worth_190 ?_
                rw [← e26]
                refine g_iinc (i := 3) (v := (l3 + (1 : Int32))) (lv' := [(3, .int (l3 + (1 : Int32))), (2, .int (l2 + (-1 : Int32))), (4, .int v10), (0, .ref (ev 0 + 65)), (1, .int l1f16)]) F dX10_worth_191 rfl rfl (by decide) rfl ?_
                refine g_goto (tgt := 16) F dX10_worth_194 (by decide) ?_
                refine g_lv (lv' := [(0, .ref (ev 0 + 65)), (1, .int l1f16), (2, .int (l2 + (-1 : Int32))), (3, .int (l3 + (1 : Int32)))]) ⟨rfl, rfl, rfl, rfl, trivial⟩ ?_
                exact ih16 _ _ _ h
              · refine g_aload_n (i := 0) F dX10_worth_141 rfl rfl ?_
                refine g_get_10_44 F wd_12_18 dX10_worth_142 ?_
                refine g_iload_n (i := 2) F dX10_worth_145 rfl rfl ?_
                refine g_iconst F dX10_worth_146 (v := 1) (by decide) ?_
                refine g_isub F dX10_worth_147 ?_
                refine g_aload_n (i := 0) F dX10_worth_148 rfl rfl ?_
                refine g_get_10_44 F wd_12_18 dX10_worth_149 ?_
                refine g_iload_n (i := 2) F dX10_worth_152 rfl rfl ?_
                refine g_iconst F dX10_worth_153 (v := 1) (by decide) ?_
                refine g_isub F dX10_worth_154 ?_
                obtain ⟨v27, e28, h⟩ := bind_at h
                refine g_ildM F rfl rfl e28 dX10_worth_155 ?_
                refine g_ineg F dX10_worth_156 ?_
                obtain ⟨h29, h⟩ := if_at h
                obtain ⟨M30, e31, h⟩ := bd_at h
                refine g_istM F rfl rfl h29 dX10_worth_157 ?_
                rw [← e31]
                refine g_goto (tgt := 191) F dX10_worth_158 (by decide) ?_
                refine g_iinc (i := 3) (v := (l3 + (1 : Int32))) (lv' := [(3, .int (l3 + (1 : Int32))), (4, .int v10), (0, .ref (ev 0 + 65)), (1, .int l1f16), (2, .int l2)]) F dX10_worth_191 rfl rfl (by decide) rfl ?_
                refine g_goto (tgt := 16) F dX10_worth_194 (by decide) ?_
                refine g_lv (lv' := [(0, .ref (ev 0 + 65)), (1, .int l1f16), (2, .int l2), (3, .int (l3 + (1 : Int32)))]) ⟨rfl, rfl, rfl, rfl, trivial⟩ ?_
                exact ih16 _ _ _ h
            · refine g_aload_n (i := 0) F dX10_worth_107 rfl rfl ?_
              refine g_get_10_44 F wd_12_18 dX10_worth_108 ?_
              refine g_iload_n (i := 2) F dX10_worth_111 rfl rfl ?_
              refine g_iconst F dX10_worth_112 (v := 1) (by decide) ?_
              refine g_isub F dX10_worth_113 ?_
              refine g_aload_n (i := 0) F dX10_worth_114 rfl rfl ?_
              refine g_get_10_44 F wd_12_18 dX10_worth_115 ?_
              refine g_iload_n (i := 2) F dX10_worth_118 rfl rfl ?_
              refine g_iconst F dX10_worth_119 (v := 1) (by decide) ?_
              refine g_isub F dX10_worth_120 ?_
              obtain ⟨v33, e34, h⟩ := bind_at h
              refine g_ildM F rfl rfl e34 dX10_worth_121 ?_
              refine g_if_ne (tgt := 129) F dX10_worth_122 (by decide) h (fun a38 h => ?_) (fun a38 h => ?_)
              · refine g_iconst F dX10_worth_129 (v := 0) (by decide) ?_
                refine g_lv (lv' := [(0, .ref (ev 0 + 65)), (1, .int l1f16), (2, .int l2), (3, .int l3)]) ⟨rfl, rfl, rfl, rfl, trivial⟩ ?_
                exact U130 _ _ _ _ _ h
              · refine g_iconst F dX10_worth_125 (v := 1) (by decide) ?_
                refine g_goto (tgt := 130) F dX10_worth_126 (by decide) ?_
                refine g_lv (lv' := [(0, .ref (ev 0 + 65)), (1, .int l1f16), (2, .int l2), (3, .int l3)]) ⟨rfl, rfl, rfl, rfl, trivial⟩ ?_
                exact U130 _ _ _ _ _ h
          · refine g_lv (lv' := [(0, .ref (ev 0 + 65)), (1, .int l1f16), (2, .int l2), (3, .int l3), (4, .int v10)]) ⟨rfl, rfl, rfl, rfl, rfl, trivial⟩ ?_
            exact U66 _ _ _ _ h
  rw [fX10_worth] at h
  refine g_lv (lv' := [(0, .ref (ev 0 + 65)), (1, .int l1)]) ⟨rfl, rfl, trivial⟩ ?_
  refine g_iconst F dX10_worth_0 (v := 0) (by decide) ?_
  refine g_istore_n (i := 2) (lv' := [(2, .int (0 : Int32)), (0, .ref (ev 0 + 65)), (1, .int l1)]) F dX10_worth_1 rfl (by decide) rfl ?_
  refine g_aload_n (i := 0) F dX10_worth_2 rfl rfl ?_
  refine g_get_10_20 F wd_12_7 dX10_worth_3 ?_
  refine g_iconst F dX10_worth_6 (v := 4) (by decide) ?_
  refine g_aload_n (i := 0) F dX10_worth_7 rfl rfl ?_
  refine g_get_10_22 F wd_18_19 dX10_worth_8 ?_
  refine g_imul F dX10_worth_11 ?_
  refine g_iload_n (i := 1) F dX10_worth_12 rfl rfl ?_
  refine g_iadd F dX10_worth_13 ?_
  obtain ⟨v1, e2, h⟩ := bind_at h
  refine g_ildM F rfl rfl e2 dX10_worth_14 ?_
  refine g_istore_n (i := 3) (lv' := [(3, .int v1), (2, .int (0 : Int32)), (0, .ref (ev 0 + 65)), (1, .int l1)]) F dX10_worth_15 rfl (by decide) rfl ?_
  refine g_lv (lv' := [(0, .ref (ev 0 + 65)), (1, .int l1), (2, .int (0 : Int32)), (3, .int v1)]) ⟨rfl, rfl, rfl, rfl, trivial⟩ ?_
  exact L16 _ FU _ _ _ h
def fX10_force (M : MW) (l1 : Int32) : Option (Int32 × MW) :=
  if (fX10_in l1 (0 : Int32) ((M.1 21) - (1 : Int32))) = 0 then some ((-2 : Int32), M)
  else bd (M.1 22) fun v3 =>
  bd (mI M 22 l1) fun M5 =>
  some (v3, M5)
set_option maxRecDepth 100000 in
set_option maxHeartbeats 4000000 in
theorem c_X10_force {l : Launch} {s0 : State} {D : va_G} {ev : Nat → Nat} (G0 : Gl s0 D ev) {X : XW} {M : MW} {nb : Nat} {l1 : Int32} {r' : Int32} {M' : MW}  (h : fX10_force M l1 = some (r', M')) : CT l s0 D ev yX10_force cX10_force 3 (some .int) 1 0 0 [.ref (ev 0 + 65), .int l1] (cells ev X M (nb + 1)) (QI s0 D ev r' (cells ev X M' (nb + 1))) := by
  refine ct_of G0 (by decide) (Nat.le_of_ble_eq_true rfl) ?_
  intro p9 e9 s9 m9 args9 below9 meth9 c9 F hr9 hl9 hin9 hargs9 hts9
  rw [fX10_force] at h
  refine g_lv (lv' := [(0, .ref (ev 0 + 65)), (1, .int l1)]) ⟨rfl, rfl, trivial⟩ ?_
  refine g_iload_n (i := 1) F dX10_force_0 rfl rfl ?_
  refine g_iconst F dX10_force_1 (v := 0) (by decide) ?_
  refine g_aload_n (i := 0) F dX10_force_2 rfl rfl ?_
  refine g_get_10_21 F wd_13_9 dX10_force_3 ?_
  refine g_iconst F dX10_force_6 (v := 1) (by decide) ?_
  refine g_isub F dX10_force_7 ?_
  refine g_callSI F (mcR := 0) (msR := 0) (c_X10_in G0 (X := X) (M := M) (nb := nb) rfl) wd_13_21 wd_13_19 wd_13_20 wd_1_5 ⟨by decide, by decide⟩ (nn := 3) (by decide) (As := [.int l1, .int (0 : Int32), .int ((M.1 21) - (1 : Int32))]) rfl rfl (Nat.le_of_ble_eq_true rfl) (by decide) (by decide) ⟨by decide, by decide⟩ dX10_force_8 ?_
  refine g_if_ne (tgt := 17) F dX10_force_11 (by decide) h (fun a7 h => ?_) (fun a7 h => ?_)
  · refine g_aload_n (i := 0) F dX10_force_17 rfl rfl ?_
    refine g_get_10_22 F wd_18_19 dX10_force_18 ?_
    refine g_topi F h (fun v3 e4 h => ?_)
    refine g_istore_n (i := 2) (lv' := [(2, .int v3), (0, .ref (ev 0 + 65)), (1, .int l1)]) F dX10_force_21 rfl (by decide) rfl ?_
    refine g_aload_n (i := 0) F dX10_force_22 rfl rfl ?_
    refine g_iload_n (i := 1) F dX10_force_23 rfl rfl ?_
    obtain ⟨M5, e6, h⟩ := bd_at h
    refine g_put_10_22 F wd_18_19 dX10_force_24 ?_
    rw [← e6]
    refine g_iload_n (i := 2) F dX10_force_27 rfl rfl ?_
    have hp := Prod.mk.inj (Option.some.inj h)
    exact g_iret F hr9 rfl hl9 hp.1 (by rw [hp.2]) (by decide) (by decide) dX10_force_28
  · refine g_bipush F dX10_force_14 (v := -2) (by decide) ?_
    have hp := Prod.mk.inj (Option.some.inj h)
    exact g_iret F hr9 rfl hl9 hp.1 (by rw [hp.2]) (by decide) (by decide) dX10_force_16
def fX10_names (M : MW) (l1 : Int32) (l2 : Int32) (l3 : Int32) (l4 : Int32) (l5 : Int32) (l6 : Int32) : Option (MW) :=
  if inb (0 : Int32) 6 then bd (mA M 95 (0 : Int32) l1) fun M2 =>
  if inb (1 : Int32) 6 then bd (mA M2 95 (1 : Int32) l2) fun M5 =>
  if inb (2 : Int32) 6 then bd (mA M5 95 (2 : Int32) l3) fun M8 =>
  if inb (3 : Int32) 6 then bd (mA M8 95 (3 : Int32) l4) fun M11 =>
  if inb (4 : Int32) 6 then bd (mA M11 95 (4 : Int32) l5) fun M14 =>
  if inb (5 : Int32) 6 then bd (mA M14 95 (5 : Int32) l6) fun M17 =>
  some M17
  else none
  else none
  else none
  else none
  else none
  else none
set_option maxRecDepth 100000 in
set_option maxHeartbeats 4000000 in
theorem c_X10_names {l : Launch} {s0 : State} {D : va_G} {ev : Nat → Nat} (G0 : Gl s0 D ev) {X : XW} {M : MW} {nb : Nat} {l1 : Int32} {l2 : Int32} {l3 : Int32} {l4 : Int32} {l5 : Int32} {l6 : Int32} {M' : MW}  (h : fX10_names M l1 l2 l3 l4 l5 l6 = some (M')) : CT l s0 D ev yX10_names cX10_names 7 none 0 0 0 [.ref (ev 0 + 65), .int l1, .int l2, .int l3, .int l4, .int l5, .int l6] (cells ev X M (nb + 1)) (QV s0 D ev (cells ev X M' (nb + 1))) := by
  refine ct_of G0 (by decide) (Nat.le_of_ble_eq_true rfl) ?_
  intro p9 e9 s9 m9 args9 below9 meth9 c9 F hr9 hl9 hin9 hargs9 hts9
  rw [fX10_names] at h
  refine g_lv (lv' := [(0, .ref (ev 0 + 65)), (1, .int l1), (2, .int l2), (3, .int l3), (4, .int l4), (5, .int l5), (6, .int l6)]) ⟨rfl, rfl, rfl, rfl, rfl, rfl, rfl, trivial⟩ ?_
  refine g_aload_n (i := 0) F dX10_names_0 rfl rfl ?_
  refine g_get_10_45 F wd_12_19 dX10_names_1 ?_
  refine g_iconst F dX10_names_4 (v := 0) (by decide) ?_
  refine g_iload_n (i := 1) F dX10_names_5 rfl rfl ?_
  obtain ⟨h1, h⟩ := if_at h
  obtain ⟨M2, e3, h⟩ := bd_at h
  refine g_istM F rfl rfl h1 dX10_names_6 ?_
  rw [← e3]
  refine g_aload_n (i := 0) F dX10_names_7 rfl rfl ?_
  refine g_get_10_45 F wd_12_19 dX10_names_8 ?_
  refine g_iconst F dX10_names_11 (v := 1) (by decide) ?_
  refine g_iload_n (i := 2) F dX10_names_12 rfl rfl ?_
  obtain ⟨h4, h⟩ := if_at h
  obtain ⟨M5, e6, h⟩ := bd_at h
  refine g_istM F rfl rfl h4 dX10_names_13 ?_
  rw [← e6]
  refine g_aload_n (i := 0) F dX10_names_14 rfl rfl ?_
  refine g_get_10_45 F wd_12_19 dX10_names_15 ?_
  refine g_iconst F dX10_names_18 (v := 2) (by decide) ?_
  refine g_iload_n (i := 3) F dX10_names_19 rfl rfl ?_
  obtain ⟨h7, h⟩ := if_at h
  obtain ⟨M8, e9, h⟩ := bd_at h
  refine g_istM F rfl rfl h7 dX10_names_20 ?_
  rw [← e9]
  refine g_aload_n (i := 0) F dX10_names_21 rfl rfl ?_
  refine g_get_10_45 F wd_12_19 dX10_names_22 ?_
  refine g_iconst F dX10_names_25 (v := 3) (by decide) ?_
  refine g_iload (i := 4) F dX10_names_26 rfl ?_
  obtain ⟨h10, h⟩ := if_at h
  obtain ⟨M11, e12, h⟩ := bd_at h
  refine g_istM F rfl rfl h10 dX10_names_28 ?_
  rw [← e12]
  refine g_aload_n (i := 0) F dX10_names_29 rfl rfl ?_
  refine g_get_10_45 F wd_12_19 dX10_names_30 ?_
  refine g_iconst F dX10_names_33 (v := 4) (by decide) ?_
  refine g_iload (i := 5) F dX10_names_34 rfl ?_
  obtain ⟨h13, h⟩ := if_at h
  obtain ⟨M14, e15, h⟩ := bd_at h
  refine g_istM F rfl rfl h13 dX10_names_36 ?_
  rw [← e15]
  refine g_aload_n (i := 0) F dX10_names_37 rfl rfl ?_
  refine g_get_10_45 F wd_12_19 dX10_names_38 ?_
  refine g_iconst F dX10_names_41 (v := 5) (by decide) ?_
  refine g_iload (i := 6) F dX10_names_42 rfl ?_
  obtain ⟨h16, h⟩ := if_at h
  obtain ⟨M17, e18, h⟩ := bd_at h
  refine g_istM F rfl rfl h16 dX10_names_44 ?_
  rw [← e18]
  exact g_vret F hr9 hl9 (by rw [Option.some.inj h]) (by decide) (by decide) dX10_names_45
def fX10_asks (M : MW) (l1 : Int32) (l2 : Int32) (l3 : Int32) (l4 : Int32) : Option (Int32 × MW) :=
  if (fX10_in l1 (0 : Int32) (2 : Int32)) = 0 then some ((-2 : Int32), M)
  else if (fX10_in l2 (0 : Int32) (9999 : Int32)) = 0 then some ((-2 : Int32), M)
  else if (fX10_in l3 (0 : Int32) (9999 : Int32)) = 0 then some ((-2 : Int32), M)
  else if (fX10_in l4 (0 : Int32) (39 : Int32)) = 0 then some ((-2 : Int32), M)
  else (fX10_names M (l2 / (100 : Int32)) (jrem l2 (100 : Int32)) (l3 / (100 : Int32)) (jrem l3 (100 : Int32)) (l4 / (10 : Int32)) (jrem l4 (10 : Int32))).bind fun M9 =>
  bd2 (fX10_worth M9 l1) fun v12 M11 =>
  some (v12, M11)
set_option maxRecDepth 100000 in
set_option maxHeartbeats 4000000 in
theorem c_X10_asks {l : Launch} {s0 : State} {D : va_G} {ev : Nat → Nat} (G0 : Gl s0 D ev) {X : XW} {M : MW} {nb : Nat} {l1 : Int32} {l2 : Int32} {l3 : Int32} {l4 : Int32} {r' : Int32} {M' : MW}  (h : fX10_asks M l1 l2 l3 l4 = some (r', M')) : CT l s0 D ev yX10_asks cX10_asks 5 (some .int) 2 0 0 [.ref (ev 0 + 65), .int l1, .int l2, .int l3, .int l4] (cells ev X M (nb + 1)) (QI s0 D ev r' (cells ev X M' (nb + 1))) := by
  refine ct_of G0 (by decide) (Nat.le_of_ble_eq_true rfl) ?_
  intro p9 e9 s9 m9 args9 below9 meth9 c9 F hr9 hl9 hin9 hargs9 hts9
  rw [fX10_asks] at h
  refine g_lv (lv' := [(0, .ref (ev 0 + 65)), (1, .int l1), (2, .int l2), (3, .int l3), (4, .int l4)]) ⟨rfl, rfl, rfl, rfl, rfl, trivial⟩ ?_
  refine g_iload_n (i := 1) F dX10_asks_0 rfl rfl ?_
  refine g_iconst F dX10_asks_1 (v := 0) (by decide) ?_
  refine g_iconst F dX10_asks_2 (v := 2) (by decide) ?_
  refine g_callSI F (mcR := 0) (msR := 0) (c_X10_in G0 (X := X) (M := M) (nb := nb) rfl) wd_13_21 wd_13_19 wd_13_20 wd_1_5 ⟨by decide, by decide⟩ (nn := 3) (by decide) (As := [.int l1, .int (0 : Int32), .int (2 : Int32)]) rfl rfl (Nat.le_of_ble_eq_true rfl) (by decide) (by decide) ⟨by decide, by decide⟩ dX10_asks_3 ?_
  refine g_if_eq (tgt := 42) F dX10_asks_6 (by decide) h (fun a17 h => ?_) (fun a17 h => ?_)
  · refine g_bipush F dX10_asks_42 (v := -2) (by decide) ?_
    have hp := Prod.mk.inj (Option.some.inj h)
    exact g_iret F hr9 rfl hl9 hp.1 (by rw [hp.2]) (by decide) (by decide) dX10_asks_44
  · refine g_iload_n (i := 2) F dX10_asks_9 rfl rfl ?_
    refine g_iconst F dX10_asks_10 (v := 0) (by decide) ?_
    refine g_sipush F dX10_asks_11 (v := 9999) (by decide) ?_
    refine g_callSI F (mcR := 0) (msR := 0) (c_X10_in G0 (X := X) (M := M) (nb := nb) rfl) wd_13_21 wd_13_19 wd_13_20 wd_1_5 ⟨by decide, by decide⟩ (nn := 3) (by decide) (As := [.int l2, .int (0 : Int32), .int (9999 : Int32)]) rfl rfl (Nat.le_of_ble_eq_true rfl) (by decide) (by decide) ⟨by decide, by decide⟩ dX10_asks_14 ?_
    refine g_if_eq (tgt := 42) F dX10_asks_17 (by decide) h (fun a16 h => ?_) (fun a16 h => ?_)
    · refine g_bipush F dX10_asks_42 (v := -2) (by decide) ?_
      have hp := Prod.mk.inj (Option.some.inj h)
      exact g_iret F hr9 rfl hl9 hp.1 (by rw [hp.2]) (by decide) (by decide) dX10_asks_44
    · refine g_iload_n (i := 3) F dX10_asks_20 rfl rfl ?_
      refine g_iconst F dX10_asks_21 (v := 0) (by decide) ?_
      refine g_sipush F dX10_asks_22 (v := 9999) (by decide) ?_
      refine g_callSI F (mcR := 0) (msR := 0) (c_X10_in G0 (X := X) (M := M) (nb := nb) rfl) wd_13_21 wd_13_19 wd_13_20 wd_1_5 ⟨by decide, by decide⟩ (nn := 3) (by decide) (As := [.int l3, .int (0 : Int32), .int (9999 : Int32)]) rfl rfl (Nat.le_of_ble_eq_true rfl) (by decide) (by decide) ⟨by decide, by decide⟩ dX10_asks_25 ?_
      refine g_if_eq (tgt := 42) F dX10_asks_28 (by decide) h (fun a15 h => ?_) (fun a15 h => ?_)
      · refine g_bipush F dX10_asks_42 (v := -2) (by decide) ?_
        have hp := Prod.mk.inj (Option.some.inj h)
        exact g_iret F hr9 rfl hl9 hp.1 (by rw [hp.2]) (by decide) (by decide) dX10_asks_44
      · refine g_iload (i := 4) F dX10_asks_31 rfl ?_
        refine g_iconst F dX10_asks_33 (v := 0) (by decide) ?_
        refine g_bipush F dX10_asks_34 (v := 39) (by decide) ?_
        refine g_callSI F (mcR := 0) (msR := 0) (c_X10_in G0 (X := X) (M := M) (nb := nb) rfl) wd_13_21 wd_13_19 wd_13_20 wd_1_5 ⟨by decide, by decide⟩ (nn := 3) (by decide) (As := [.int l4, .int (0 : Int32), .int (39 : Int32)]) rfl rfl (Nat.le_of_ble_eq_true rfl) (by decide) (by decide) ⟨by decide, by decide⟩ dX10_asks_36 ?_
        refine g_if_ne (tgt := 45) F dX10_asks_39 (by decide) h (fun a14 h => ?_) (fun a14 h => ?_)
        · refine g_aload_n (i := 0) F dX10_asks_45 rfl rfl ?_
          refine g_iload_n (i := 2) F dX10_asks_46 rfl rfl ?_
          refine g_bipush F dX10_asks_47 (v := 100) (by decide) ?_
          refine g_idiv F dX10_asks_49 (by decide) ?_
          refine g_iload_n (i := 2) F dX10_asks_50 rfl rfl ?_
          refine g_bipush F dX10_asks_51 (v := 100) (by decide) ?_
          refine g_irem F dX10_asks_53 (by decide) ?_
          refine g_iload_n (i := 3) F dX10_asks_54 rfl rfl ?_
          refine g_bipush F dX10_asks_55 (v := 100) (by decide) ?_
          refine g_idiv F dX10_asks_57 (by decide) ?_
          refine g_iload_n (i := 3) F dX10_asks_58 rfl rfl ?_
          refine g_bipush F dX10_asks_59 (v := 100) (by decide) ?_
          refine g_irem F dX10_asks_61 (by decide) ?_
          refine g_iload (i := 4) F dX10_asks_62 rfl ?_
          refine g_bipush F dX10_asks_64 (v := 10) (by decide) ?_
          refine g_idiv F dX10_asks_66 (by decide) ?_
          refine g_iload (i := 4) F dX10_asks_67 rfl ?_
          refine g_bipush F dX10_asks_69 (v := 10) (by decide) ?_
          refine g_irem F dX10_asks_71 (by decide) ?_
          obtain ⟨M9, e10, h⟩ := bind_at h
          refine g_callVV F (mcR := 0) (msR := 0) (id := 65) (cells_at (kd_hidM (show kd 65 = 10 from rfl) (by decide)) (xc_10 rfl)) (ci := 10) rfl rfl rfl (c_X10_names G0 e10) wd_21_7 wd_21_4 wd_21_5 wd_21_6 wd_1_5 ⟨by decide, by decide⟩ (nn := 6) (by decide) (As := [.int (l2 / (100 : Int32)), .int (jrem l2 (100 : Int32)), .int (l3 / (100 : Int32)), .int (jrem l3 (100 : Int32)), .int (l4 / (10 : Int32)), .int (jrem l4 (10 : Int32))]) rfl rfl (Nat.le_of_ble_eq_true rfl) (by decide) (by decide) ⟨by decide, by decide⟩ dX10_asks_72 ?_
          refine g_aload_n (i := 0) F dX10_asks_75 rfl rfl ?_
          refine g_iload_n (i := 1) F dX10_asks_76 rfl rfl ?_
          obtain ⟨v12, M11, e13, h⟩ := bd2_at h
          refine g_callVI F (mcR := 0) (msR := 0) (id := 65) (cells_at (kd_hidM (show kd 65 = 10 from rfl) (by decide)) (xc_10 rfl)) (ci := 10) rfl rfl rfl (c_X10_worth G0 e13) wd_21_11 wd_21_8 wd_21_9 wd_21_10 wd_1_5 ⟨by decide, by decide⟩ (nn := 1) (by decide) (As := [.int l1]) rfl rfl (Nat.le_of_ble_eq_true rfl) (by decide) (by decide) ⟨by decide, by decide⟩ dX10_asks_77 ?_
          have hp := Prod.mk.inj (Option.some.inj h)
          exact g_iret F hr9 rfl hl9 hp.1 (by rw [hp.2]) (by decide) (by decide) dX10_asks_80
        · refine g_bipush F dX10_asks_42 (v := -2) (by decide) ?_
          have hp := Prod.mk.inj (Option.some.inj h)
          exact g_iret F hr9 rfl hl9 hp.1 (by rw [hp.2]) (by decide) (by decide) dX10_asks_44
def fX10_boat (M : MW) (l1 : Int32) (l2 : Int32) (l3 : Int32) (l4 : Int32) : Option (Int32 × MW) :=
  if (fX10_in l1 (0 : Int32) (5 : Int32)) = 0 then some ((-2 : Int32), M)
  else if (fX10_in l2 (0 : Int32) (999 : Int32)) = 0 then some ((-2 : Int32), M)
  else if (fX10_isCell l3) = 0 then some ((-2 : Int32), M)
  else if (fX10_in l4 (1 : Int32) (40 : Int32)) = 0 then some ((-2 : Int32), M)
  else if (M.1 8) = (6 : Int32) then some ((-4 : Int32), M)
  else if inb (M.1 8) 6 then bd (mA M 73 (M.1 8) l1) fun M10 =>
  if inb (M10.1 8) 6 then bd (mA M10 74 (M10.1 8) (l2 / (100 : Int32))) fun M13 =>
  if inb (M13.1 8) 6 then bd (mA M13 75 (M13.1 8) (jrem (l2 / (10 : Int32)) (10 : Int32))) fun M16 =>
  if inb (M16.1 8) 6 then bd (mA M16 76 (M16.1 8) (jrem l2 (10 : Int32))) fun M19 =>
  if inb (M19.1 8) 6 then bd (mA M19 77 (M19.1 8) l3) fun M22 =>
  if inb (M22.1 8) 6 then bd (mA M22 78 (M22.1 8) l4) fun M25 =>
  bd (mI M25 8 ((M25.1 8) + (1 : Int32))) fun M27 =>
  some (((M27.1 8) - (1 : Int32)), M27)
  else none
  else none
  else none
  else none
  else none
  else none
set_option maxRecDepth 100000 in
set_option maxHeartbeats 4000000 in
theorem c_X10_boat {l : Launch} {s0 : State} {D : va_G} {ev : Nat → Nat} (G0 : Gl s0 D ev) {X : XW} {M : MW} {nb : Nat} {l1 : Int32} {l2 : Int32} {l3 : Int32} {l4 : Int32} {r' : Int32} {M' : MW}  (h : fX10_boat M l1 l2 l3 l4 = some (r', M')) : CT l s0 D ev yX10_boat cX10_boat 5 (some .int) 2 0 0 [.ref (ev 0 + 65), .int l1, .int l2, .int l3, .int l4] (cells ev X M (nb + 1)) (QI s0 D ev r' (cells ev X M' (nb + 1))) := by
  refine ct_of G0 (by decide) (Nat.le_of_ble_eq_true rfl) ?_
  intro p9 e9 s9 m9 args9 below9 meth9 c9 F hr9 hl9 hin9 hargs9 hts9
  rw [fX10_boat] at h
  refine g_lv (lv' := [(0, .ref (ev 0 + 65)), (1, .int l1), (2, .int l2), (3, .int l3), (4, .int l4)]) ⟨rfl, rfl, rfl, rfl, rfl, trivial⟩ ?_
  refine g_iload_n (i := 1) F dX10_boat_0 rfl rfl ?_
  refine g_iconst F dX10_boat_1 (v := 0) (by decide) ?_
  refine g_iconst F dX10_boat_2 (v := 5) (by decide) ?_
  refine g_callSI F (mcR := 0) (msR := 0) (c_X10_in G0 (X := X) (M := M) (nb := nb) rfl) wd_13_21 wd_13_19 wd_13_20 wd_1_5 ⟨by decide, by decide⟩ (nn := 3) (by decide) (As := [.int l1, .int (0 : Int32), .int (5 : Int32)]) rfl rfl (Nat.le_of_ble_eq_true rfl) (by decide) (by decide) ⟨by decide, by decide⟩ dX10_boat_3 ?_
  refine g_if_eq (tgt := 38) F dX10_boat_6 (by decide) h (fun a33 h => ?_) (fun a33 h => ?_)
  · refine g_bipush F dX10_boat_38 (v := -2) (by decide) ?_
    have hp := Prod.mk.inj (Option.some.inj h)
    exact g_iret F hr9 rfl hl9 hp.1 (by rw [hp.2]) (by decide) (by decide) dX10_boat_40
  · refine g_iload_n (i := 2) F dX10_boat_9 rfl rfl ?_
    refine g_iconst F dX10_boat_10 (v := 0) (by decide) ?_
    refine g_sipush F dX10_boat_11 (v := 999) (by decide) ?_
    refine g_callSI F (mcR := 0) (msR := 0) (c_X10_in G0 (X := X) (M := M) (nb := nb) rfl) wd_13_21 wd_13_19 wd_13_20 wd_1_5 ⟨by decide, by decide⟩ (nn := 3) (by decide) (As := [.int l2, .int (0 : Int32), .int (999 : Int32)]) rfl rfl (Nat.le_of_ble_eq_true rfl) (by decide) (by decide) ⟨by decide, by decide⟩ dX10_boat_14 ?_
    refine g_if_eq (tgt := 38) F dX10_boat_17 (by decide) h (fun a32 h => ?_) (fun a32 h => ?_)
    · refine g_bipush F dX10_boat_38 (v := -2) (by decide) ?_
      have hp := Prod.mk.inj (Option.some.inj h)
      exact g_iret F hr9 rfl hl9 hp.1 (by rw [hp.2]) (by decide) (by decide) dX10_boat_40
    · refine g_iload_n (i := 3) F dX10_boat_20 rfl rfl ?_
      refine g_callSI F (mcR := 0) (msR := 0) (c_X10_isCell G0 (X := X) (M := M) (nb := nb) rfl) wd_16_7 wd_16_5 wd_16_6 wd_1_5 ⟨by decide, by decide⟩ (nn := 1) (by decide) (As := [.int l3]) rfl rfl (Nat.le_of_ble_eq_true rfl) (by decide) (by decide) ⟨by decide, by decide⟩ dX10_boat_21 ?_
      refine g_if_eq (tgt := 38) F dX10_boat_24 (by decide) h (fun a31 h => ?_) (fun a31 h => ?_)
      · refine g_bipush F dX10_boat_38 (v := -2) (by decide) ?_
        have hp := Prod.mk.inj (Option.some.inj h)
        exact g_iret F hr9 rfl hl9 hp.1 (by rw [hp.2]) (by decide) (by decide) dX10_boat_40
      · refine g_iload (i := 4) F dX10_boat_27 rfl ?_
        refine g_iconst F dX10_boat_29 (v := 1) (by decide) ?_
        refine g_bipush F dX10_boat_30 (v := 40) (by decide) ?_
        refine g_callSI F (mcR := 0) (msR := 0) (c_X10_in G0 (X := X) (M := M) (nb := nb) rfl) wd_13_21 wd_13_19 wd_13_20 wd_1_5 ⟨by decide, by decide⟩ (nn := 3) (by decide) (As := [.int l4, .int (1 : Int32), .int (40 : Int32)]) rfl rfl (Nat.le_of_ble_eq_true rfl) (by decide) (by decide) ⟨by decide, by decide⟩ dX10_boat_32 ?_
        refine g_if_ne (tgt := 41) F dX10_boat_35 (by decide) h (fun a30 h => ?_) (fun a30 h => ?_)
        · refine g_aload_n (i := 0) F dX10_boat_41 rfl rfl ?_
          refine g_get_10_8 F wd_18_18 dX10_boat_42 ?_
          refine g_bipush F dX10_boat_45 (v := 6) (by decide) ?_
          refine g_icmp_ne (tgt := 53) F dX10_boat_47 (by decide) h (fun a29 h => ?_) (fun a29 h => ?_)
          · refine g_aload_n (i := 0) F dX10_boat_53 rfl rfl ?_
            refine g_get_10_9 F wd_11_21 dX10_boat_54 ?_
            refine g_aload_n (i := 0) F dX10_boat_57 rfl rfl ?_
            refine g_get_10_8 F wd_18_18 dX10_boat_58 ?_
            refine g_iload_n (i := 1) F dX10_boat_61 rfl rfl ?_
            obtain ⟨h9, h⟩ := if_at h
            obtain ⟨M10, e11, h⟩ := bd_at h
            refine g_istM F rfl rfl h9 dX10_boat_62 ?_
            rw [← e11]
            refine g_aload_n (i := 0) F dX10_boat_63 rfl rfl ?_
            refine g_get_10_10 F wd_11_22 dX10_boat_64 ?_
            refine g_aload_n (i := 0) F dX10_boat_67 rfl rfl ?_
            refine g_get_10_8 F wd_18_18 dX10_boat_68 ?_
            refine g_iload_n (i := 2) F dX10_boat_71 rfl rfl ?_
            refine g_bipush F dX10_boat_72 (v := 100) (by decide) ?_
            refine g_idiv F dX10_boat_74 (by decide) ?_
            obtain ⟨h12, h⟩ := if_at h
            obtain ⟨M13, e14, h⟩ := bd_at h
            refine g_istM F rfl rfl h12 dX10_boat_75 ?_
            rw [← e14]
            refine g_aload_n (i := 0) F dX10_boat_76 rfl rfl ?_
            refine g_get_10_11 F wd_11_23 dX10_boat_77 ?_
            refine g_aload_n (i := 0) F dX10_boat_80 rfl rfl ?_
            refine g_get_10_8 F wd_18_18 dX10_boat_81 ?_
            refine g_iload_n (i := 2) F dX10_boat_84 rfl rfl ?_
            refine g_bipush F dX10_boat_85 (v := 10) (by decide) ?_
            refine g_idiv F dX10_boat_87 (by decide) ?_
            refine g_bipush F dX10_boat_88 (v := 10) (by decide) ?_
            refine g_irem F dX10_boat_90 (by decide) ?_
            obtain ⟨h15, h⟩ := if_at h
            obtain ⟨M16, e17, h⟩ := bd_at h
            refine g_istM F rfl rfl h15 dX10_boat_91 ?_
            rw [← e17]
            refine g_aload_n (i := 0) F dX10_boat_92 rfl rfl ?_
            refine g_get_10_12 F wd_12_0 dX10_boat_93 ?_
            refine g_aload_n (i := 0) F dX10_boat_96 rfl rfl ?_
            refine g_get_10_8 F wd_18_18 dX10_boat_97 ?_
            refine g_iload_n (i := 2) F dX10_boat_100 rfl rfl ?_
            refine g_bipush F dX10_boat_101 (v := 10) (by decide) ?_
            refine g_irem F dX10_boat_103 (by decide) ?_
            obtain ⟨h18, h⟩ := if_at h
            obtain ⟨M19, e20, h⟩ := bd_at h
            refine g_istM F rfl rfl h18 dX10_boat_104 ?_
            rw [← e20]
            refine g_aload_n (i := 0) F dX10_boat_105 rfl rfl ?_
            refine g_get_10_13 F wd_12_1 dX10_boat_106 ?_
            refine g_aload_n (i := 0) F dX10_boat_109 rfl rfl ?_
            refine g_get_10_8 F wd_18_18 dX10_boat_110 ?_
            refine g_iload_n (i := 3) F dX10_boat_113 rfl rfl ?_
            obtain ⟨h21, h⟩ := if_at h
            obtain ⟨M22, e23, h⟩ := bd_at h
            refine g_istM F rfl rfl h21 dX10_boat_114 ?_
            rw [← e23]
            refine g_aload_n (i := 0) F dX10_boat_115 rfl rfl ?_
            refine g_get_10_14 F wd_12_2 dX10_boat_116 ?_
            refine g_aload_n (i := 0) F dX10_boat_119 rfl rfl ?_
            refine g_get_10_8 F wd_18_18 dX10_boat_120 ?_
            refine g_iload (i := 4) F dX10_boat_123 rfl ?_
            obtain ⟨h24, h⟩ := if_at h
            obtain ⟨M25, e26, h⟩ := bd_at h
            refine g_istM F rfl rfl h24 dX10_boat_125 ?_
            rw [← e26]
            refine g_aload_n (i := 0) F dX10_boat_126 rfl rfl ?_
            refine g_dup F dX10_boat_127 rfl ?_
            refine g_get_10_8 F wd_18_18 dX10_boat_128 ?_
            refine g_iconst F dX10_boat_131 (v := 1) (by decide) ?_
            refine g_iadd F dX10_boat_132 ?_
            obtain ⟨M27, e28, h⟩ := bd_at h
            refine g_put_10_8 F wd_18_18 dX10_boat_133 ?_
            rw [← e28]
            refine g_aload_n (i := 0) F dX10_boat_136 rfl rfl ?_
            refine g_get_10_8 F wd_18_18 dX10_boat_137 ?_
            refine g_iconst F dX10_boat_140 (v := 1) (by decide) ?_
            refine g_isub F dX10_boat_141 ?_
            have hp := Prod.mk.inj (Option.some.inj h)
            exact g_iret F hr9 rfl hl9 hp.1 (by rw [hp.2]) (by decide) (by decide) dX10_boat_142
          · refine g_bipush F dX10_boat_50 (v := -4) (by decide) ?_
            have hp := Prod.mk.inj (Option.some.inj h)
            exact g_iret F hr9 rfl hl9 hp.1 (by rw [hp.2]) (by decide) (by decide) dX10_boat_52
        · refine g_bipush F dX10_boat_38 (v := -2) (by decide) ?_
          have hp := Prod.mk.inj (Option.some.inj h)
          exact g_iret F hr9 rfl hl9 hp.1 (by rw [hp.2]) (by decide) (by decide) dX10_boat_40
def fX10_let_b113 (M : MW) (l5 : Int32) (t1 : Int32) (t2 : Int32) : Option (Int32 × MW) :=
  if inb t1 6 then bd (mA M 78 t1 t2) fun M13 =>
  some (l5, M13)
  else none
def fX10_let_b92 (M : MW) (l1 : Int32) (l2 : Int32) (l3 : Int32) (l5 : Int32) (t1 : Int32) (t2 : Int32) : Option (Int32 × MW) :=
  if inb t1 6 then bd (mA M 77 t1 t2) fun M8 =>
  if l2 = (1 : Int32) then fX10_let_b113 M8 l5 l1 l3
  else (rd (M8.2 78) 6 l1).bind fun v10 =>
  fX10_let_b113 M8 l5 l1 v10
  else none
def fX10_let_b71 (M : MW) (l1 : Int32) (l2 : Int32) (l3 : Int32) (t0 : Int32) : Option (Int32 × MW) :=
  if l2 = 0 then fX10_let_b92 M l1 l2 l3 t0 l1 l3
  else (rd (M.2 77) 6 l1).bind fun v5 =>
  fX10_let_b92 M l1 l2 l3 t0 l1 v5
def fX10_let_b42 (M : MW) (l1 : Int32) (l2 : Int32) (l3 : Int32) (t0 : Int32) : Option (Int32 × MW) :=
  if t0 = 0 then some ((-7 : Int32), M)
  else if l2 = 0 then (rd (M.2 77) 6 l1).bind fun v17 =>
  fX10_let_b71 M l1 l2 l3 v17
  else (rd (M.2 78) 6 l1).bind fun v3 =>
  fX10_let_b71 M l1 l2 l3 v3
def fX10_let_b41 (M : MW) (l1 : Int32) (l2 : Int32) (l3 : Int32) : Option (Int32 × MW) :=
  fX10_let_b42 M l1 l2 l3 (0 : Int32)
def fX10_let (M : MW) (l1 : Int32) (l2 : Int32) (l3 : Int32) : Option (Int32 × MW) :=
  if (fX10_isBoat M l1) = 0 then some ((-5 : Int32), M)
  else if l2 = 0 then fX10_let_b42 M l1 l2 l3 (fX10_isCell l3)
  else if l2 = (1 : Int32) then if (fX10_in l3 (1 : Int32) (40 : Int32)) = 0 then fX10_let_b41 M l1 l2 l3
  else fX10_let_b42 M l1 l2 l3 (1 : Int32)
  else fX10_let_b41 M l1 l2 l3
set_option maxRecDepth 100000 in
set_option maxHeartbeats 4000000 in
theorem c_X10_let {l : Launch} {s0 : State} {D : va_G} {ev : Nat → Nat} (G0 : Gl s0 D ev) {X : XW} {M : MW} {nb : Nat} {l1 : Int32} {l2 : Int32} {l3 : Int32} {r' : Int32} {M' : MW}  (h : fX10_let M l1 l2 l3 = some (r', M')) : CT l s0 D ev yX10_let cX10_let 6 (some .int) 2 0 0 [.ref (ev 0 + 65), .int l1, .int l2, .int l3] (cells ev X M (nb + 1)) (QI s0 D ev r' (cells ev X M' (nb + 1))) := by
  refine ct_of G0 (by decide) (Nat.le_of_ble_eq_true rfl) ?_
  intro p9 e9 s9 m9 args9 below9 meth9 c9 F hr9 hl9 hin9 hargs9 hts9
  have U113 : ∀ (M : MW) (l5 : Int32) (t1 : Int32) (t2 : Int32), fX10_let_b113 M l5 t1 t2 = some (r', M') → GJ p9 l e9 (rg 2 0 0) s9 m9 args9 below9 meth9 c9 (MQ below9 (QI s0 D ev r' (cells ev X M' (nb + 1))) args9 s9 0 0 (frA ev)) s0 D ev 6 0 0 113 [(5, .int l5)] (.int t2 :: .int t1 :: .ref (ev 0 + 78) :: []) (cells ev X M (nb + 1)) := by
    intro M l5 t1 t2 h
    rw [fX10_let_b113] at h
    obtain ⟨h12, h⟩ := if_at h
    obtain ⟨M13, e14, h⟩ := bd_at h
    refine g_istM F rfl rfl h12 dX10_let_113 ?_
    rw [← e14]
    refine g_iload (i := 5) F dX10_let_114 rfl ?_
    have hp := Prod.mk.inj (Option.some.inj h)
    exact g_iret F hr9 rfl hl9 hp.1 (by rw [hp.2]) (by decide) (by decide) dX10_let_116
  have U92 : ∀ (M : MW) (l1 : Int32) (l2 : Int32) (l3 : Int32) (l5 : Int32) (t1 : Int32) (t2 : Int32), fX10_let_b92 M l1 l2 l3 l5 t1 t2 = some (r', M') → GJ p9 l e9 (rg 2 0 0) s9 m9 args9 below9 meth9 c9 (MQ below9 (QI s0 D ev r' (cells ev X M' (nb + 1))) args9 s9 0 0 (frA ev)) s0 D ev 6 0 0 92 [(0, .ref (ev 0 + 65)), (1, .int l1), (2, .int l2), (3, .int l3), (5, .int l5)] (.int t2 :: .int t1 :: .ref (ev 0 + 77) :: []) (cells ev X M (nb + 1)) := by
    intro M l1 l2 l3 l5 t1 t2 h
    rw [fX10_let_b92] at h
    obtain ⟨h7, h⟩ := if_at h
    obtain ⟨M8, e9, h⟩ := bd_at h
    refine g_istM F rfl rfl h7 dX10_let_92 ?_
    rw [← e9]
    refine g_aload_n (i := 0) F dX10_let_93 rfl rfl ?_
    refine g_get_10_14 F wd_12_2 dX10_let_94 ?_
    refine g_iload_n (i := 1) F dX10_let_97 rfl rfl ?_
    refine g_iload_n (i := 2) F dX10_let_98 rfl rfl ?_
    refine g_iconst F dX10_let_99 (v := 1) (by decide) ?_
    refine g_icmp_ne (tgt := 107) F dX10_let_100 (by decide) h (fun a15 h => ?_) (fun a15 h => ?_)
    · refine g_aload_n (i := 0) F dX10_let_107 rfl rfl ?_
      refine g_get_10_14 F wd_12_2 dX10_let_108 ?_
      refine g_iload_n (i := 1) F dX10_let_111 rfl rfl ?_
      obtain ⟨v10, e11, h⟩ := bind_at h
      refine g_ildM F rfl rfl e11 dX10_let_112 ?_
      refine g_lv (lv' := [(5, .int l5)]) ⟨rfl, trivial⟩ ?_
      exact U113 _ _ _ _ h
    · refine g_iload_n (i := 3) F dX10_let_103 rfl rfl ?_
      refine g_goto (tgt := 113) F dX10_let_104 (by decide) ?_
      refine g_lv (lv' := [(5, .int l5)]) ⟨rfl, trivial⟩ ?_
      exact U113 _ _ _ _ h
  have U71 : ∀ (M : MW) (l1 : Int32) (l2 : Int32) (l3 : Int32) (t0 : Int32), fX10_let_b71 M l1 l2 l3 t0 = some (r', M') → GJ p9 l e9 (rg 2 0 0) s9 m9 args9 below9 meth9 c9 (MQ below9 (QI s0 D ev r' (cells ev X M' (nb + 1))) args9 s9 0 0 (frA ev)) s0 D ev 6 0 0 71 [(0, .ref (ev 0 + 65)), (1, .int l1), (2, .int l2), (3, .int l3)] (.int t0 :: []) (cells ev X M (nb + 1)) := by
    intro M l1 l2 l3 t0 h
    rw [fX10_let_b71] at h
    refine g_istore (i := 5) (lv' := [(5, .int t0), (0, .ref (ev 0 + 65)), (1, .int l1), (2, .int l2), (3, .int l3)]) F dX10_let_71 (by decide) rfl ?_
    refine g_aload_n (i := 0) F dX10_let_73 rfl rfl ?_
    refine g_get_10_13 F wd_12_1 dX10_let_74 ?_
    refine g_iload_n (i := 1) F dX10_let_77 rfl rfl ?_
    refine g_iload_n (i := 2) F dX10_let_78 rfl rfl ?_
    refine g_if_ne (tgt := 86) F dX10_let_79 (by decide) h (fun a16 h => ?_) (fun a16 h => ?_)
    · refine g_aload_n (i := 0) F dX10_let_86 rfl rfl ?_
      refine g_get_10_13 F wd_12_1 dX10_let_87 ?_
      refine g_iload_n (i := 1) F dX10_let_90 rfl rfl ?_
      obtain ⟨v5, e6, h⟩ := bind_at h
      refine g_ildM F rfl rfl e6 dX10_let_91 ?_
      refine g_lv (lv' := [(0, .ref (ev 0 + 65)), (1, .int l1), (2, .int l2), (3, .int l3), (5, .int t0)]) ⟨rfl, rfl, rfl, rfl, rfl, trivial⟩ ?_
      exact U92 _ _ _ _ _ _ _ h
    · refine g_iload_n (i := 3) F dX10_let_82 rfl rfl ?_
      refine g_goto (tgt := 92) F dX10_let_83 (by decide) ?_
      refine g_lv (lv' := [(0, .ref (ev 0 + 65)), (1, .int l1), (2, .int l2), (3, .int l3), (5, .int t0)]) ⟨rfl, rfl, rfl, rfl, rfl, trivial⟩ ?_
      exact U92 _ _ _ _ _ _ _ h
  have U42 : ∀ (M : MW) (l1 : Int32) (l2 : Int32) (l3 : Int32) (t0 : Int32), fX10_let_b42 M l1 l2 l3 t0 = some (r', M') → GJ p9 l e9 (rg 2 0 0) s9 m9 args9 below9 meth9 c9 (MQ below9 (QI s0 D ev r' (cells ev X M' (nb + 1))) args9 s9 0 0 (frA ev)) s0 D ev 6 0 0 42 [(0, .ref (ev 0 + 65)), (1, .int l1), (2, .int l2), (3, .int l3)] (.int t0 :: []) (cells ev X M (nb + 1)) := by
    intro M l1 l2 l3 t0 h
    rw [fX10_let_b42] at h
    refine g_istore (i := 4) (lv' := [(4, .int t0), (0, .ref (ev 0 + 65)), (1, .int l1), (2, .int l2), (3, .int l3)]) F dX10_let_42 (by decide) rfl ?_
    refine g_iload (i := 4) F dX10_let_44 rfl ?_
    refine g_if_ne (tgt := 52) F dX10_let_46 (by decide) h (fun a20 h => ?_) (fun a20 h => ?_)
    · refine g_iload_n (i := 2) F dX10_let_52 rfl rfl ?_
      refine g_if_ne (tgt := 65) F dX10_let_53 (by decide) h (fun a19 h => ?_) (fun a19 h => ?_)
      · refine g_aload_n (i := 0) F dX10_let_65 rfl rfl ?_
        refine g_get_10_14 F wd_12_2 dX10_let_66 ?_
        refine g_iload_n (i := 1) F dX10_let_69 rfl rfl ?_
        obtain ⟨v3, e4, h⟩ := bind_at h
        refine g_ildM F rfl rfl e4 dX10_let_70 ?_
        refine g_lv (lv' := [(0, .ref (ev 0 + 65)), (1, .int l1), (2, .int l2), (3, .int l3)]) ⟨rfl, rfl, rfl, rfl, trivial⟩ ?_
        exact U71 _ _ _ _ _ h
      · refine g_aload_n (i := 0) F dX10_let_56 rfl rfl ?_
        refine g_get_10_13 F wd_12_1 dX10_let_57 ?_
        refine g_iload_n (i := 1) F dX10_let_60 rfl rfl ?_
        obtain ⟨v17, e18, h⟩ := bind_at h
        refine g_ildM F rfl rfl e18 dX10_let_61 ?_
        refine g_goto (tgt := 71) F dX10_let_62 (by decide) ?_
        refine g_lv (lv' := [(0, .ref (ev 0 + 65)), (1, .int l1), (2, .int l2), (3, .int l3)]) ⟨rfl, rfl, rfl, rfl, trivial⟩ ?_
        exact U71 _ _ _ _ _ h
    · refine g_bipush F dX10_let_49 (v := -7) (by decide) ?_
      have hp := Prod.mk.inj (Option.some.inj h)
      exact g_iret F hr9 rfl hl9 hp.1 (by rw [hp.2]) (by decide) (by decide) dX10_let_51
  have U41 : ∀ (M : MW) (l1 : Int32) (l2 : Int32) (l3 : Int32), fX10_let_b41 M l1 l2 l3 = some (r', M') → GJ p9 l e9 (rg 2 0 0) s9 m9 args9 below9 meth9 c9 (MQ below9 (QI s0 D ev r' (cells ev X M' (nb + 1))) args9 s9 0 0 (frA ev)) s0 D ev 6 0 0 41 [(0, .ref (ev 0 + 65)), (1, .int l1), (2, .int l2), (3, .int l3)] ([]) (cells ev X M (nb + 1)) := by
    intro M l1 l2 l3 h
    rw [fX10_let_b41] at h
    refine g_iconst F dX10_let_41 (v := 0) (by decide) ?_
    refine g_lv (lv' := [(0, .ref (ev 0 + 65)), (1, .int l1), (2, .int l2), (3, .int l3)]) ⟨rfl, rfl, rfl, rfl, trivial⟩ ?_
    exact U42 _ _ _ _ _ h
  rw [fX10_let] at h
  refine g_lv (lv' := [(0, .ref (ev 0 + 65)), (1, .int l1), (2, .int l2), (3, .int l3)]) ⟨rfl, rfl, rfl, rfl, trivial⟩ ?_
  refine g_aload_n (i := 0) F dX10_let_0 rfl rfl ?_
  refine g_iload_n (i := 1) F dX10_let_1 rfl rfl ?_
  refine g_callVI F (mcR := 0) (msR := 0) (id := 65) (cells_at (kd_hidM (show kd 65 = 10 from rfl) (by decide)) (xc_10 rfl)) (ci := 10) rfl rfl rfl (c_X10_isBoat G0 (X := X) (M := M) (nb := nb) rfl) wd_23_7 wd_23_4 wd_23_5 wd_23_6 wd_1_5 ⟨by decide, by decide⟩ (nn := 1) (by decide) (As := [.int l1]) rfl rfl (Nat.le_of_ble_eq_true rfl) (by decide) (by decide) ⟨by decide, by decide⟩ dX10_let_2 ?_
  refine g_if_ne (tgt := 11) F dX10_let_5 (by decide) h (fun a28 h => ?_) (fun a28 h => ?_)
  · refine g_iload_n (i := 2) F dX10_let_11 rfl rfl ?_
    refine g_if_ne (tgt := 22) F dX10_let_12 (by decide) h (fun a27 h => ?_) (fun a27 h => ?_)
    · refine g_iload_n (i := 2) F dX10_let_22 rfl rfl ?_
      refine g_iconst F dX10_let_23 (v := 1) (by decide) ?_
      refine g_icmp_ne (tgt := 41) F dX10_let_24 (by decide) h (fun a24 h => ?_) (fun a24 h => ?_)
      · refine g_lv (lv' := [(0, .ref (ev 0 + 65)), (1, .int l1), (2, .int l2), (3, .int l3)]) ⟨rfl, rfl, rfl, rfl, trivial⟩ ?_
        exact U41 _ _ _ _ h
      · refine g_iload_n (i := 3) F dX10_let_27 rfl rfl ?_
        refine g_iconst F dX10_let_28 (v := 1) (by decide) ?_
        refine g_bipush F dX10_let_29 (v := 40) (by decide) ?_
        refine g_callSI F (mcR := 0) (msR := 0) (c_X10_in G0 (X := X) (M := M) (nb := nb) rfl) wd_13_21 wd_13_19 wd_13_20 wd_1_5 ⟨by decide, by decide⟩ (nn := 3) (by decide) (As := [.int l3, .int (1 : Int32), .int (40 : Int32)]) rfl rfl (Nat.le_of_ble_eq_true rfl) (by decide) (by decide) ⟨by decide, by decide⟩ dX10_let_31 ?_
        refine g_if_eq (tgt := 41) F dX10_let_34 (by decide) h (fun a23 h => ?_) (fun a23 h => ?_)
        · refine g_lv (lv' := [(0, .ref (ev 0 + 65)), (1, .int l1), (2, .int l2), (3, .int l3)]) ⟨rfl, rfl, rfl, rfl, trivial⟩ ?_
          exact U41 _ _ _ _ h
        · refine g_iconst F dX10_let_37 (v := 1) (by decide) ?_
          refine g_goto (tgt := 42) F dX10_let_38 (by decide) ?_
          refine g_lv (lv' := [(0, .ref (ev 0 + 65)), (1, .int l1), (2, .int l2), (3, .int l3)]) ⟨rfl, rfl, rfl, rfl, trivial⟩ ?_
          exact U42 _ _ _ _ _ h
    · refine g_iload_n (i := 3) F dX10_let_15 rfl rfl ?_
      refine g_callSI F (mcR := 0) (msR := 0) (c_X10_isCell G0 (X := X) (M := M) (nb := nb) rfl) wd_16_7 wd_16_5 wd_16_6 wd_1_5 ⟨by decide, by decide⟩ (nn := 1) (by decide) (As := [.int l3]) rfl rfl (Nat.le_of_ble_eq_true rfl) (by decide) (by decide) ⟨by decide, by decide⟩ dX10_let_16 ?_
      refine g_goto (tgt := 42) F dX10_let_19 (by decide) ?_
      refine g_lv (lv' := [(0, .ref (ev 0 + 65)), (1, .int l1), (2, .int l2), (3, .int l3)]) ⟨rfl, rfl, rfl, rfl, trivial⟩ ?_
      exact U42 _ _ _ _ _ h
  · refine g_bipush F dX10_let_8 (v := -5) (by decide) ?_
    have hp := Prod.mk.inj (Option.some.inj h)
    exact g_iret F hr9 rfl hl9 hp.1 (by rw [hp.2]) (by decide) (by decide) dX10_let_10
def fX10_boatTold (M : MW) (l1 : Int32) (l2 : Int32) : Option Int32 :=
  if (fX10_isBoat M l1) = 0 then some (-5 : Int32)
  else if l2 = (0 : Int32) then (rd (M.2 73) 6 l1).bind fun v9 =>
  some v9
  else if l2 = (1 : Int32) then (rd (M.2 74) 6 l1).bind fun v11 =>
  some v11
  else if l2 = (2 : Int32) then (rd (M.2 75) 6 l1).bind fun v13 =>
  some v13
  else if l2 = (3 : Int32) then (rd (M.2 76) 6 l1).bind fun v15 =>
  some v15
  else if l2 = (4 : Int32) then (rd (M.2 77) 6 l1).bind fun v17 =>
  some v17
  else if l2 = (5 : Int32) then (rd (M.2 78) 6 l1).bind fun v19 =>
  some v19
  else some (-7 : Int32)
set_option maxRecDepth 100000 in
set_option maxHeartbeats 4000000 in
theorem c_X10_boatTold {l : Launch} {s0 : State} {D : va_G} {ev : Nat → Nat} (G0 : Gl s0 D ev) {X : XW} {M : MW} {nb : Nat} {l1 : Int32} {l2 : Int32} {r' : Int32}  (h : fX10_boatTold M l1 l2 = some r') : CT l s0 D ev yX10_boatTold cX10_boatTold 3 (some .int) 2 0 0 [.ref (ev 0 + 65), .int l1, .int l2] (cells ev X M (nb + 1)) (QI s0 D ev r' (cells ev X M (nb + 1))) := by
  refine ct_of G0 (by decide) (Nat.le_of_ble_eq_true rfl) ?_
  intro p9 e9 s9 m9 args9 below9 meth9 c9 F hr9 hl9 hin9 hargs9 hts9
  rw [fX10_boatTold] at h
  refine g_lv (lv' := [(0, .ref (ev 0 + 65)), (1, .int l1), (2, .int l2)]) ⟨rfl, rfl, rfl, trivial⟩ ?_
  refine g_aload_n (i := 0) F dX10_boatTold_0 rfl rfl ?_
  refine g_iload_n (i := 1) F dX10_boatTold_1 rfl rfl ?_
  refine g_callVI F (mcR := 0) (msR := 0) (id := 65) (cells_at (kd_hidM (show kd 65 = 10 from rfl) (by decide)) (xc_10 rfl)) (ci := 10) rfl rfl rfl (c_X10_isBoat G0 (X := X) (M := M) (nb := nb) rfl) wd_23_7 wd_23_4 wd_23_5 wd_23_6 wd_1_5 ⟨by decide, by decide⟩ (nn := 1) (by decide) (As := [.int l1]) rfl rfl (Nat.le_of_ble_eq_true rfl) (by decide) (by decide) ⟨by decide, by decide⟩ dX10_boatTold_2 ?_
  refine g_if_ne (tgt := 11) F dX10_boatTold_5 (by decide) h (fun a21 h => ?_) (fun a21 h => ?_)
  · refine g_iload_n (i := 2) F dX10_boatTold_11 rfl rfl ?_
    refine ite_at h (fun a3 h => ?_) (fun a3 h => ?_)
    · refine g_tsw (k := 0) (off := 40) (tgt := 52) F a3 dX10_boatTold_12 (by decide) (by decide) (by decide) (by decide) ?_
      refine g_aload_n (i := 0) F dX10_boatTold_52 rfl rfl ?_
      refine g_get_10_9 F wd_11_21 dX10_boatTold_53 ?_
      refine g_iload_n (i := 1) F dX10_boatTold_56 rfl rfl ?_
      obtain ⟨v9, e10, h⟩ := bind_at h
      refine g_ildM F rfl rfl e10 dX10_boatTold_57 ?_
      exact g_iret F hr9 rfl hl9 (Option.some.inj h) rfl (by decide) (by decide) dX10_boatTold_58
    · refine ite_at h (fun a4 h => ?_) (fun a4 h => ?_)
      · refine g_tsw (k := 1) (off := 47) (tgt := 59) F a4 dX10_boatTold_12 (by decide) (by decide) (by decide) (by decide) ?_
        refine g_aload_n (i := 0) F dX10_boatTold_59 rfl rfl ?_
        refine g_get_10_10 F wd_11_22 dX10_boatTold_60 ?_
        refine g_iload_n (i := 1) F dX10_boatTold_63 rfl rfl ?_
        obtain ⟨v11, e12, h⟩ := bind_at h
        refine g_ildM F rfl rfl e12 dX10_boatTold_64 ?_
        exact g_iret F hr9 rfl hl9 (Option.some.inj h) rfl (by decide) (by decide) dX10_boatTold_65
      · refine ite_at h (fun a5 h => ?_) (fun a5 h => ?_)
        · refine g_tsw (k := 2) (off := 54) (tgt := 66) F a5 dX10_boatTold_12 (by decide) (by decide) (by decide) (by decide) ?_
          refine g_aload_n (i := 0) F dX10_boatTold_66 rfl rfl ?_
          refine g_get_10_11 F wd_11_23 dX10_boatTold_67 ?_
          refine g_iload_n (i := 1) F dX10_boatTold_70 rfl rfl ?_
          obtain ⟨v13, e14, h⟩ := bind_at h
          refine g_ildM F rfl rfl e14 dX10_boatTold_71 ?_
          exact g_iret F hr9 rfl hl9 (Option.some.inj h) rfl (by decide) (by decide) dX10_boatTold_72
        · refine ite_at h (fun a6 h => ?_) (fun a6 h => ?_)
          · refine g_tsw (k := 3) (off := 61) (tgt := 73) F a6 dX10_boatTold_12 (by decide) (by decide) (by decide) (by decide) ?_
            refine g_aload_n (i := 0) F dX10_boatTold_73 rfl rfl ?_
            refine g_get_10_12 F wd_12_0 dX10_boatTold_74 ?_
            refine g_iload_n (i := 1) F dX10_boatTold_77 rfl rfl ?_
            obtain ⟨v15, e16, h⟩ := bind_at h
            refine g_ildM F rfl rfl e16 dX10_boatTold_78 ?_
            exact g_iret F hr9 rfl hl9 (Option.some.inj h) rfl (by decide) (by decide) dX10_boatTold_79
          · refine ite_at h (fun a7 h => ?_) (fun a7 h => ?_)
            · refine g_tsw (k := 4) (off := 68) (tgt := 80) F a7 dX10_boatTold_12 (by decide) (by decide) (by decide) (by decide) ?_
              refine g_aload_n (i := 0) F dX10_boatTold_80 rfl rfl ?_
              refine g_get_10_13 F wd_12_1 dX10_boatTold_81 ?_
              refine g_iload_n (i := 1) F dX10_boatTold_84 rfl rfl ?_
              obtain ⟨v17, e18, h⟩ := bind_at h
              refine g_ildM F rfl rfl e18 dX10_boatTold_85 ?_
              exact g_iret F hr9 rfl hl9 (Option.some.inj h) rfl (by decide) (by decide) dX10_boatTold_86
            · refine ite_at h (fun a8 h => ?_) (fun a8 h => ?_)
              · refine g_tsw (k := 5) (off := 75) (tgt := 87) F a8 dX10_boatTold_12 (by decide) (by decide) (by decide) (by decide) ?_
                refine g_aload_n (i := 0) F dX10_boatTold_87 rfl rfl ?_
                refine g_get_10_14 F wd_12_2 dX10_boatTold_88 ?_
                refine g_iload_n (i := 1) F dX10_boatTold_91 rfl rfl ?_
                obtain ⟨v19, e20, h⟩ := bind_at h
                refine g_ildM F rfl rfl e20 dX10_boatTold_92 ?_
                exact g_iret F hr9 rfl hl9 (Option.some.inj h) rfl (by decide) (by decide) dX10_boatTold_93
              · have q0 : l2.toInt ≠ 0 := fun q => a3 (Int32.toInt_inj.mp (q.trans (by decide)))
                have q1 : l2.toInt ≠ 1 := fun q => a4 (Int32.toInt_inj.mp (q.trans (by decide)))
                have q2 : l2.toInt ≠ 2 := fun q => a5 (Int32.toInt_inj.mp (q.trans (by decide)))
                have q3 : l2.toInt ≠ 3 := fun q => a6 (Int32.toInt_inj.mp (q.trans (by decide)))
                have q4 : l2.toInt ≠ 4 := fun q => a7 (Int32.toInt_inj.mp (q.trans (by decide)))
                have q5 : l2.toInt ≠ 5 := fun q => a8 (Int32.toInt_inj.mp (q.trans (by decide)))
                refine g_tswd (tgt := 94) F (by omega) dX10_boatTold_12 (by decide) ?_
                refine g_bipush F dX10_boatTold_94 (v := -7) (by decide) ?_
                exact g_iret F hr9 rfl hl9 (Option.some.inj h) rfl (by decide) (by decide) dX10_boatTold_96
  · refine g_bipush F dX10_boatTold_8 (v := -5) (by decide) ?_
    exact g_iret F hr9 rfl hl9 (Option.some.inj h) rfl (by decide) (by decide) dX10_boatTold_10
def fX10_windIn (M : MW) (l1 : Int32) : Option Int32 :=
  if (M.1 46) = 0 then (rd (M.2 69) 12 l1).bind fun v1 =>
  some v1
  else (rd (M.2 69) 12 l1).bind fun v3 =>
  (rd (M.2 96) 12 l1).bind fun v5 =>
  some (fX10_within (v3 + v5) (0 : Int32) (99 : Int32))
set_option maxRecDepth 100000 in
set_option maxHeartbeats 4000000 in
theorem c_X10_windIn {l : Launch} {s0 : State} {D : va_G} {ev : Nat → Nat} (G0 : Gl s0 D ev) {X : XW} {M : MW} {nb : Nat} {l1 : Int32} {r' : Int32}  (h : fX10_windIn M l1 = some r') : CT l s0 D ev yX10_windIn cX10_windIn 2 (some .int) 1 0 0 [.ref (ev 0 + 65), .int l1] (cells ev X M (nb + 1)) (QI s0 D ev r' (cells ev X M (nb + 1))) := by
  refine ct_of G0 (by decide) (Nat.le_of_ble_eq_true rfl) ?_
  intro p9 e9 s9 m9 args9 below9 meth9 c9 F hr9 hl9 hin9 hargs9 hts9
  rw [fX10_windIn] at h
  refine g_lv (lv' := [(0, .ref (ev 0 + 65)), (1, .int l1)]) ⟨rfl, rfl, trivial⟩ ?_
  refine g_aload_n (i := 0) F dX10_windIn_0 rfl rfl ?_
  refine g_get_10_46 F wd_26_8 dX10_windIn_1 ?_
  refine g_if_eq (tgt := 29) F dX10_windIn_4 (by decide) h (fun a9 h => ?_) (fun a9 h => ?_)
  · refine g_aload_n (i := 0) F dX10_windIn_29 rfl rfl ?_
    refine g_get_10_3 F wd_11_17 dX10_windIn_30 ?_
    refine g_iload_n (i := 1) F dX10_windIn_33 rfl rfl ?_
    obtain ⟨v1, e2, h⟩ := bind_at h
    refine g_ildM F rfl rfl e2 dX10_windIn_34 ?_
    exact g_iret F hr9 rfl hl9 (Option.some.inj h) rfl (by decide) (by decide) dX10_windIn_35
  · refine g_aload_n (i := 0) F dX10_windIn_7 rfl rfl ?_
    refine g_get_10_3 F wd_11_17 dX10_windIn_8 ?_
    refine g_iload_n (i := 1) F dX10_windIn_11 rfl rfl ?_
    obtain ⟨v3, e4, h⟩ := bind_at h
    refine g_ildM F rfl rfl e4 dX10_windIn_12 ?_
    refine g_aload_n (i := 0) F dX10_windIn_13 rfl rfl ?_
    refine g_get_10_47 F wd_12_20 dX10_windIn_14 ?_
    refine g_iload_n (i := 1) F dX10_windIn_17 rfl rfl ?_
    obtain ⟨v5, e6, h⟩ := bind_at h
    refine g_ildM F rfl rfl e6 dX10_windIn_18 ?_
    refine g_iadd F dX10_windIn_19 ?_
    refine g_iconst F dX10_windIn_20 (v := 0) (by decide) ?_
    refine g_bipush F dX10_windIn_21 (v := 99) (by decide) ?_
    refine g_callSI F (mcR := 0) (msR := 0) (c_X10_within G0 (X := X) (M := M) (nb := nb) rfl) wd_21_17 wd_21_15 wd_21_16 wd_1_5 ⟨by decide, by decide⟩ (nn := 3) (by decide) (As := [.int (v3 + v5), .int (0 : Int32), .int (99 : Int32)]) rfl rfl (Nat.le_of_ble_eq_true rfl) (by decide) (by decide) ⟨by decide, by decide⟩ dX10_windIn_23 ?_
    refine g_goto (tgt := 35) F dX10_windIn_26 (by decide) ?_
    exact g_iret F hr9 rfl hl9 (Option.some.inj h) rfl (by decide) (by decide) dX10_windIn_35
def fX10_deepAt (M : MW) (l1 : Int32) (l2 : Int32) : Option Int32 :=
  (rd (M.2 66) 100 l1).bind fun v1 =>
  (rd (M.2 70) 12 l2).bind fun v3 =>
  bd (v1 + v3) fun v5 =>
  if 0 ≤ v5 then some v5
  else some (0 : Int32)
set_option maxRecDepth 100000 in
set_option maxHeartbeats 4000000 in
theorem c_X10_deepAt {l : Launch} {s0 : State} {D : va_G} {ev : Nat → Nat} (G0 : Gl s0 D ev) {X : XW} {M : MW} {nb : Nat} {l1 : Int32} {l2 : Int32} {r' : Int32}  (h : fX10_deepAt M l1 l2 = some r') : CT l s0 D ev yX10_deepAt cX10_deepAt 4 (some .int) 0 0 0 [.ref (ev 0 + 65), .int l1, .int l2] (cells ev X M (nb + 1)) (QI s0 D ev r' (cells ev X M (nb + 1))) := by
  refine ct_of G0 (by decide) (Nat.le_of_ble_eq_true rfl) ?_
  intro p9 e9 s9 m9 args9 below9 meth9 c9 F hr9 hl9 hin9 hargs9 hts9
  rw [fX10_deepAt] at h
  refine g_lv (lv' := [(0, .ref (ev 0 + 65)), (1, .int l1), (2, .int l2)]) ⟨rfl, rfl, rfl, trivial⟩ ?_
  refine g_aload_n (i := 0) F dX10_deepAt_0 rfl rfl ?_
  refine g_get_10_0 F wd_11_14 dX10_deepAt_1 ?_
  refine g_iload_n (i := 1) F dX10_deepAt_4 rfl rfl ?_
  obtain ⟨v1, e2, h⟩ := bind_at h
  refine g_ildM F rfl rfl e2 dX10_deepAt_5 ?_
  refine g_aload_n (i := 0) F dX10_deepAt_6 rfl rfl ?_
  refine g_get_10_4 F wd_11_18 dX10_deepAt_7 ?_
  refine g_iload_n (i := 2) F dX10_deepAt_10 rfl rfl ?_
  obtain ⟨v3, e4, h⟩ := bind_at h
  refine g_ildM F rfl rfl e4 dX10_deepAt_11 ?_
  refine g_iadd F dX10_deepAt_12 ?_
  refine g_topi F h (fun v5 e6 h => ?_)
  refine g_istore_n (i := 3) (lv' := [(3, .int v5), (0, .ref (ev 0 + 65)), (1, .int l1), (2, .int l2)]) F dX10_deepAt_13 rfl (by decide) rfl ?_
  refine g_iload_n (i := 3) F dX10_deepAt_14 rfl rfl ?_
  refine g_if_ge (tgt := 22) F dX10_deepAt_15 (by decide) h (fun a7 h => ?_) (fun a7 h => ?_)
  · refine g_iload_n (i := 3) F dX10_deepAt_22 rfl rfl ?_
    exact g_iret F hr9 rfl hl9 (Option.some.inj h) rfl (by decide) (by decide) dX10_deepAt_23
  · refine g_iconst F dX10_deepAt_18 (v := 0) (by decide) ?_
    refine g_goto (tgt := 23) F dX10_deepAt_19 (by decide) ?_
    exact g_iret F hr9 rfl hl9 (Option.some.inj h) rfl (by decide) (by decide) dX10_deepAt_23
def fX10_namesOf (M : MW) (l1 : Int32) (l2 : Int32) (l3 : Int32) (l4 : Int32) : Option (MW) :=
  (fX10_windIn M l3).bind fun v1 =>
  (rd (M.2 74) 6 l1).bind fun v3 =>
  (fX10_deepAt M l2 l3).bind fun v5 =>
  (rd (M.2 67) 100 l2).bind fun v7 =>
  (rd (M.2 75) 6 l1).bind fun v9 =>
  (fX10_names M v1 v3 v5 l4 v7 v9).bind fun M11 =>
  some M11
set_option maxRecDepth 100000 in
set_option maxHeartbeats 4000000 in
theorem c_X10_namesOf {l : Launch} {s0 : State} {D : va_G} {ev : Nat → Nat} (G0 : Gl s0 D ev) {X : XW} {M : MW} {nb : Nat} {l1 : Int32} {l2 : Int32} {l3 : Int32} {l4 : Int32} {M' : MW}  (h : fX10_namesOf M l1 l2 l3 l4 = some (M')) : CT l s0 D ev yX10_namesOf cX10_namesOf 5 none 2 0 0 [.ref (ev 0 + 65), .int l1, .int l2, .int l3, .int l4] (cells ev X M (nb + 1)) (QV s0 D ev (cells ev X M' (nb + 1))) := by
  refine ct_of G0 (by decide) (Nat.le_of_ble_eq_true rfl) ?_
  intro p9 e9 s9 m9 args9 below9 meth9 c9 F hr9 hl9 hin9 hargs9 hts9
  rw [fX10_namesOf] at h
  refine g_lv (lv' := [(0, .ref (ev 0 + 65)), (1, .int l1), (2, .int l2), (3, .int l3), (4, .int l4)]) ⟨rfl, rfl, rfl, rfl, rfl, trivial⟩ ?_
  refine g_aload_n (i := 0) F dX10_namesOf_0 rfl rfl ?_
  refine g_aload_n (i := 0) F dX10_namesOf_1 rfl rfl ?_
  refine g_iload_n (i := 3) F dX10_namesOf_2 rfl rfl ?_
  obtain ⟨v1, e2, h⟩ := bind_at h
  refine g_callVI F (mcR := 0) (msR := 0) (id := 65) (cells_at (kd_hidM (show kd 65 = 10 from rfl) (by decide)) (xc_10 rfl)) (ci := 10) rfl rfl rfl (c_X10_windIn G0 e2) wd_26_7 wd_26_4 wd_26_5 wd_26_6 wd_1_5 ⟨by decide, by decide⟩ (nn := 1) (by decide) (As := [.int l3]) rfl rfl (Nat.le_of_ble_eq_true rfl) (by decide) (by decide) ⟨by decide, by decide⟩ dX10_namesOf_3 ?_
  refine g_aload_n (i := 0) F dX10_namesOf_6 rfl rfl ?_
  refine g_get_10_10 F wd_11_22 dX10_namesOf_7 ?_
  refine g_iload_n (i := 1) F dX10_namesOf_10 rfl rfl ?_
  obtain ⟨v3, e4, h⟩ := bind_at h
  refine g_ildM F rfl rfl e4 dX10_namesOf_11 ?_
  refine g_aload_n (i := 0) F dX10_namesOf_12 rfl rfl ?_
  refine g_iload_n (i := 2) F dX10_namesOf_13 rfl rfl ?_
  refine g_iload_n (i := 3) F dX10_namesOf_14 rfl rfl ?_
  obtain ⟨v5, e6, h⟩ := bind_at h
  refine g_callVI F (mcR := 0) (msR := 0) (id := 65) (cells_at (kd_hidM (show kd 65 = 10 from rfl) (by decide)) (xc_10 rfl)) (ci := 10) rfl rfl rfl (c_X10_deepAt G0 e6) wd_26_12 wd_26_9 wd_26_10 wd_26_11 wd_1_5 ⟨by decide, by decide⟩ (nn := 2) (by decide) (As := [.int l2, .int l3]) rfl rfl (Nat.le_of_ble_eq_true rfl) (by decide) (by decide) ⟨by decide, by decide⟩ dX10_namesOf_15 ?_
  refine g_iload (i := 4) F dX10_namesOf_18 rfl ?_
  refine g_aload_n (i := 0) F dX10_namesOf_20 rfl rfl ?_
  refine g_get_10_1 F wd_11_15 dX10_namesOf_21 ?_
  refine g_iload_n (i := 2) F dX10_namesOf_24 rfl rfl ?_
  obtain ⟨v7, e8, h⟩ := bind_at h
  refine g_ildM F rfl rfl e8 dX10_namesOf_25 ?_
  refine g_aload_n (i := 0) F dX10_namesOf_26 rfl rfl ?_
  refine g_get_10_11 F wd_11_23 dX10_namesOf_27 ?_
  refine g_iload_n (i := 1) F dX10_namesOf_30 rfl rfl ?_
  obtain ⟨v9, e10, h⟩ := bind_at h
  refine g_ildM F rfl rfl e10 dX10_namesOf_31 ?_
  obtain ⟨M11, e12, h⟩ := bind_at h
  refine g_callVV F (mcR := 0) (msR := 0) (id := 65) (cells_at (kd_hidM (show kd 65 = 10 from rfl) (by decide)) (xc_10 rfl)) (ci := 10) rfl rfl rfl (c_X10_names G0 e12) wd_21_7 wd_21_4 wd_21_5 wd_21_6 wd_1_5 ⟨by decide, by decide⟩ (nn := 6) (by decide) (As := [.int v1, .int v3, .int v5, .int l4, .int v7, .int v9]) rfl rfl (Nat.le_of_ble_eq_true rfl) (by decide) (by decide) ⟨by decide, by decide⟩ dX10_namesOf_32 ?_
  exact g_vret F hr9 hl9 (by rw [Option.some.inj h]) (by decide) (by decide) dX10_namesOf_35
def fX10_pullOf (M : MW) (l1 : Int32) (l2 : Int32) (l3 : Int32) (l4 : Int32) : Option (Int32 × MW) :=
  (fX10_namesOf M l1 l2 l3 l4).bind fun M1 =>
  bd2 (fX10_worth M1 (0 : Int32)) fun v4 M3 =>
  some (v4, M3)
set_option maxRecDepth 100000 in
set_option maxHeartbeats 4000000 in
theorem c_X10_pullOf {l : Launch} {s0 : State} {D : va_G} {ev : Nat → Nat} (G0 : Gl s0 D ev) {X : XW} {M : MW} {nb : Nat} {l1 : Int32} {l2 : Int32} {l3 : Int32} {l4 : Int32} {r' : Int32} {M' : MW}  (h : fX10_pullOf M l1 l2 l3 l4 = some (r', M')) : CT l s0 D ev yX10_pullOf cX10_pullOf 5 (some .int) 3 0 0 [.ref (ev 0 + 65), .int l1, .int l2, .int l3, .int l4] (cells ev X M (nb + 1)) (QI s0 D ev r' (cells ev X M' (nb + 1))) := by
  refine ct_of G0 (by decide) (Nat.le_of_ble_eq_true rfl) ?_
  intro p9 e9 s9 m9 args9 below9 meth9 c9 F hr9 hl9 hin9 hargs9 hts9
  rw [fX10_pullOf] at h
  refine g_lv (lv' := [(0, .ref (ev 0 + 65)), (1, .int l1), (2, .int l2), (3, .int l3), (4, .int l4)]) ⟨rfl, rfl, rfl, rfl, rfl, trivial⟩ ?_
  refine g_aload_n (i := 0) F dX10_pullOf_0 rfl rfl ?_
  refine g_iload_n (i := 1) F dX10_pullOf_1 rfl rfl ?_
  refine g_iload_n (i := 2) F dX10_pullOf_2 rfl rfl ?_
  refine g_iload_n (i := 3) F dX10_pullOf_3 rfl rfl ?_
  refine g_iload (i := 4) F dX10_pullOf_4 rfl ?_
  obtain ⟨M1, e2, h⟩ := bind_at h
  refine g_callVV F (mcR := 0) (msR := 0) (id := 65) (cells_at (kd_hidM (show kd 65 = 10 from rfl) (by decide)) (xc_10 rfl)) (ci := 10) rfl rfl rfl (c_X10_namesOf G0 e2) wd_26_3 wd_26_0 wd_26_1 wd_26_2 wd_1_5 ⟨by decide, by decide⟩ (nn := 4) (by decide) (As := [.int l1, .int l2, .int l3, .int l4]) rfl rfl (Nat.le_of_ble_eq_true rfl) (by decide) (by decide) ⟨by decide, by decide⟩ dX10_pullOf_6 ?_
  refine g_aload_n (i := 0) F dX10_pullOf_9 rfl rfl ?_
  refine g_iconst F dX10_pullOf_10 (v := 0) (by decide) ?_
  obtain ⟨v4, M3, e5, h⟩ := bd2_at h
  refine g_callVI F (mcR := 0) (msR := 0) (id := 65) (cells_at (kd_hidM (show kd 65 = 10 from rfl) (by decide)) (xc_10 rfl)) (ci := 10) rfl rfl rfl (c_X10_worth G0 e5) wd_21_11 wd_21_8 wd_21_9 wd_21_10 wd_1_5 ⟨by decide, by decide⟩ (nn := 1) (by decide) (As := [.int (0 : Int32)]) rfl rfl (Nat.le_of_ble_eq_true rfl) (by decide) (by decide) ⟨by decide, by decide⟩ dX10_pullOf_11 ?_
  have hp := Prod.mk.inj (Option.some.inj h)
  exact g_iret F hr9 rfl hl9 hp.1 (by rw [hp.2]) (by decide) (by decide) dX10_pullOf_14
def fX10_powerOf_b85 (M : MW) (l2 : Int32) (l3 : Int32) (l4 : Int32) (t0 : Int32) : Option (Int32 × MW) :=
  (fX10_deepAt M l2 l3).bind fun v10 =>
  bd ((3 : Int32) * v10) fun v12 =>
  if v12 ≤ l4 then some (t0, M)
  else if v12 = 0 then none else some (((t0 * l4) / v12), M)
def fX10_powerOf_b70 (M : MW) (l2 : Int32) (l3 : Int32) (l4 : Int32) (l5 : Int32) (l6 : Int32) : Option (Int32 × MW) :=
  if l6 = (3 : Int32) then fX10_powerOf_b85 M l2 l3 l4 (l5 / (4 : Int32))
  else fX10_powerOf_b85 M l2 l3 l4 l5
def fX10_powerOf_b67 (M : MW) (l2 : Int32) (l3 : Int32) (l4 : Int32) (l6 : Int32) (t0 : Int32) (t1 : Int32) : Option (Int32 × MW) :=
  bd (t0 + t1) fun v8 =>
  fX10_powerOf_b70 M l2 l3 l4 v8 l6
def fX10_powerOf_b42 (M : MW) (l1 : Int32) (l2 : Int32) (l3 : Int32) (l4 : Int32) (l5 : Int32) (l6 : Int32) : Option (Int32 × MW) :=
  if l6 = (5 : Int32) then (rd (M.2 76) 6 l1).bind fun v17 =>
  fX10_powerOf_b67 M l2 l3 l4 l6 (((3 : Int32) * l5) / (2 : Int32)) ((10 : Int32) * v17)
  else fX10_powerOf_b67 M l2 l3 l4 l6 (((3 : Int32) * l5) / (2 : Int32)) (0 : Int32)
def fX10_powerOf (M : MW) (l1 : Int32) (l2 : Int32) (l3 : Int32) (l4 : Int32) : Option (Int32 × MW) :=
  (fX10_namesOf M l1 l2 l3 l4).bind fun M1 =>
  bd2 (fX10_worth M1 (1 : Int32)) fun v4 M3 =>
  (rd (M3.2 73) 6 l1).bind fun v6 =>
  if v6 = (1 : Int32) then fX10_powerOf_b42 M3 l1 l2 l3 l4 v4 v6
  else if v6 = (4 : Int32) then fX10_powerOf_b42 M3 l1 l2 l3 l4 v4 v6
  else if v6 = (5 : Int32) then fX10_powerOf_b42 M3 l1 l2 l3 l4 v4 v6
  else fX10_powerOf_b70 M3 l2 l3 l4 v4 v6
set_option maxRecDepth 100000 in
set_option maxHeartbeats 4000000 in
theorem c_X10_powerOf {l : Launch} {s0 : State} {D : va_G} {ev : Nat → Nat} (G0 : Gl s0 D ev) {X : XW} {M : MW} {nb : Nat} {l1 : Int32} {l2 : Int32} {l3 : Int32} {l4 : Int32} {r' : Int32} {M' : MW}  (h : fX10_powerOf M l1 l2 l3 l4 = some (r', M')) : CT l s0 D ev yX10_powerOf cX10_powerOf 8 (some .int) 3 0 0 [.ref (ev 0 + 65), .int l1, .int l2, .int l3, .int l4] (cells ev X M (nb + 1)) (QI s0 D ev r' (cells ev X M' (nb + 1))) := by
  refine ct_of G0 (by decide) (Nat.le_of_ble_eq_true rfl) ?_
  intro p9 e9 s9 m9 args9 below9 meth9 c9 F hr9 hl9 hin9 hargs9 hts9
  have U85 : ∀ (M : MW) (l2 : Int32) (l3 : Int32) (l4 : Int32) (t0 : Int32), fX10_powerOf_b85 M l2 l3 l4 t0 = some (r', M') → GJ p9 l e9 (rg 3 0 0) s9 m9 args9 below9 meth9 c9 (MQ below9 (QI s0 D ev r' (cells ev X M' (nb + 1))) args9 s9 0 0 (frA ev)) s0 D ev 8 0 0 85 [(0, .ref (ev 0 + 65)), (2, .int l2), (3, .int l3), (4, .int l4)] (.int t0 :: []) (cells ev X M (nb + 1)) := by
    intro M l2 l3 l4 t0 h
    rw [fX10_powerOf_b85] at h
    refine g_istore (i := 5) (lv' := [(5, .int t0), (0, .ref (ev 0 + 65)), (2, .int l2), (3, .int l3), (4, .int l4)]) F dX10_powerOf_85 (by decide) rfl ?_
    refine g_iconst F dX10_powerOf_87 (v := 3) (by decide) ?_
    refine g_aload_n (i := 0) F dX10_powerOf_88 rfl rfl ?_
    refine g_iload_n (i := 2) F dX10_powerOf_89 rfl rfl ?_
    refine g_iload_n (i := 3) F dX10_powerOf_90 rfl rfl ?_
    obtain ⟨v10, e11, h⟩ := bind_at h
    refine g_callVI F (mcR := 0) (msR := 0) (id := 65) (cells_at (kd_hidM (show kd 65 = 10 from rfl) (by decide)) (xc_10 rfl)) (ci := 10) rfl rfl rfl (c_X10_deepAt G0 e11) wd_26_12 wd_26_9 wd_26_10 wd_26_11 wd_1_5 ⟨by decide, by decide⟩ (nn := 2) (by decide) (As := [.int l2, .int l3]) rfl rfl (Nat.le_of_ble_eq_true rfl) (by decide) (by decide) ⟨by decide, by decide⟩ dX10_powerOf_91 ?_
    refine g_imul F dX10_powerOf_94 ?_
    refine g_topi F h (fun v12 e13 h => ?_)
    refine g_istore (i := 7) (lv' := [(7, .int v12), (5, .int t0), (0, .ref (ev 0 + 65)), (2, .int l2), (3, .int l3), (4, .int l4)]) F dX10_powerOf_95 (by decide) rfl ?_
    refine g_iload (i := 4) F dX10_powerOf_97 rfl ?_
    refine g_iload (i := 7) F dX10_powerOf_99 rfl ?_
    refine g_icmp_ge (tgt := 115) F dX10_powerOf_101 (by decide) h (fun a15 h => ?_) (fun a15 h => ?_)
    · refine g_iload (i := 5) F dX10_powerOf_115 rfl ?_
      have hp := Prod.mk.inj (Option.some.inj h)
      exact g_iret F hr9 rfl hl9 hp.1 (by rw [hp.2]) (by decide) (by decide) dX10_powerOf_117
    · refine g_iload (i := 5) F dX10_powerOf_104 rfl ?_
      refine g_iload (i := 4) F dX10_powerOf_106 rfl ?_
      refine g_imul F dX10_powerOf_108 ?_
      refine g_iload (i := 7) F dX10_powerOf_109 rfl ?_
      refine ite_at h (fun _ h => by cases h) (fun h14 h => ?_)
      refine g_idiv F dX10_powerOf_111 h14 ?_
      refine g_goto (tgt := 117) F dX10_powerOf_112 (by decide) ?_
      have hp := Prod.mk.inj (Option.some.inj h)
      exact g_iret F hr9 rfl hl9 hp.1 (by rw [hp.2]) (by decide) (by decide) dX10_powerOf_117
  have U70 : ∀ (M : MW) (l2 : Int32) (l3 : Int32) (l4 : Int32) (l5 : Int32) (l6 : Int32), fX10_powerOf_b70 M l2 l3 l4 l5 l6 = some (r', M') → GJ p9 l e9 (rg 3 0 0) s9 m9 args9 below9 meth9 c9 (MQ below9 (QI s0 D ev r' (cells ev X M' (nb + 1))) args9 s9 0 0 (frA ev)) s0 D ev 8 0 0 70 [(0, .ref (ev 0 + 65)), (2, .int l2), (3, .int l3), (4, .int l4), (5, .int l5), (6, .int l6)] ([]) (cells ev X M (nb + 1)) := by
    intro M l2 l3 l4 l5 l6 h
    rw [fX10_powerOf_b70] at h
    refine g_iload (i := 6) F dX10_powerOf_70 rfl ?_
    refine g_iconst F dX10_powerOf_72 (v := 3) (by decide) ?_
    refine g_icmp_ne (tgt := 83) F dX10_powerOf_73 (by decide) h (fun a16 h => ?_) (fun a16 h => ?_)
    · refine g_iload (i := 5) F dX10_powerOf_83 rfl ?_
      refine g_lv (lv' := [(0, .ref (ev 0 + 65)), (2, .int l2), (3, .int l3), (4, .int l4)]) ⟨rfl, rfl, rfl, rfl, trivial⟩ ?_
      exact U85 _ _ _ _ _ h
    · refine g_iload (i := 5) F dX10_powerOf_76 rfl ?_
      refine g_iconst F dX10_powerOf_78 (v := 4) (by decide) ?_
      refine g_idiv F dX10_powerOf_79 (by decide) ?_
      refine g_goto (tgt := 85) F dX10_powerOf_80 (by decide) ?_
      refine g_lv (lv' := [(0, .ref (ev 0 + 65)), (2, .int l2), (3, .int l3), (4, .int l4)]) ⟨rfl, rfl, rfl, rfl, trivial⟩ ?_
      exact U85 _ _ _ _ _ h
  have U67 : ∀ (M : MW) (l2 : Int32) (l3 : Int32) (l4 : Int32) (l6 : Int32) (t0 : Int32) (t1 : Int32), fX10_powerOf_b67 M l2 l3 l4 l6 t0 t1 = some (r', M') → GJ p9 l e9 (rg 3 0 0) s9 m9 args9 below9 meth9 c9 (MQ below9 (QI s0 D ev r' (cells ev X M' (nb + 1))) args9 s9 0 0 (frA ev)) s0 D ev 8 0 0 67 [(0, .ref (ev 0 + 65)), (2, .int l2), (3, .int l3), (4, .int l4), (6, .int l6)] (.int t1 :: .int t0 :: []) (cells ev X M (nb + 1)) := by
    intro M l2 l3 l4 l6 t0 t1 h
    rw [fX10_powerOf_b67] at h
    refine g_iadd F dX10_powerOf_67 ?_
    refine g_topi F h (fun v8 e9 h => ?_)
    refine g_istore (i := 5) (lv' := [(5, .int v8), (0, .ref (ev 0 + 65)), (2, .int l2), (3, .int l3), (4, .int l4), (6, .int l6)]) F dX10_powerOf_68 (by decide) rfl ?_
    refine g_lv (lv' := [(0, .ref (ev 0 + 65)), (2, .int l2), (3, .int l3), (4, .int l4), (5, .int v8), (6, .int l6)]) ⟨rfl, rfl, rfl, rfl, rfl, rfl, trivial⟩ ?_
    exact U70 _ _ _ _ _ _ h
  have U42 : ∀ (M : MW) (l1 : Int32) (l2 : Int32) (l3 : Int32) (l4 : Int32) (l5 : Int32) (l6 : Int32), fX10_powerOf_b42 M l1 l2 l3 l4 l5 l6 = some (r', M') → GJ p9 l e9 (rg 3 0 0) s9 m9 args9 below9 meth9 c9 (MQ below9 (QI s0 D ev r' (cells ev X M' (nb + 1))) args9 s9 0 0 (frA ev)) s0 D ev 8 0 0 42 [(0, .ref (ev 0 + 65)), (1, .int l1), (2, .int l2), (3, .int l3), (4, .int l4), (5, .int l5), (6, .int l6)] ([]) (cells ev X M (nb + 1)) := by
    intro M l1 l2 l3 l4 l5 l6 h
    rw [fX10_powerOf_b42] at h
    refine g_iconst F dX10_powerOf_42 (v := 3) (by decide) ?_
    refine g_iload (i := 5) F dX10_powerOf_43 rfl ?_
    refine g_imul F dX10_powerOf_45 ?_
    refine g_iconst F dX10_powerOf_46 (v := 2) (by decide) ?_
    refine g_idiv F dX10_powerOf_47 (by decide) ?_
    refine g_iload (i := 6) F dX10_powerOf_48 rfl ?_
    refine g_iconst F dX10_powerOf_50 (v := 5) (by decide) ?_
    refine g_icmp_ne (tgt := 66) F dX10_powerOf_51 (by decide) h (fun a19 h => ?_) (fun a19 h => ?_)
    · refine g_iconst F dX10_powerOf_66 (v := 0) (by decide) ?_
      refine g_lv (lv' := [(0, .ref (ev 0 + 65)), (2, .int l2), (3, .int l3), (4, .int l4), (6, .int l6)]) ⟨rfl, rfl, rfl, rfl, rfl, trivial⟩ ?_
      exact U67 _ _ _ _ _ _ _ h
    · refine g_bipush F dX10_powerOf_54 (v := 10) (by decide) ?_
      refine g_aload_n (i := 0) F dX10_powerOf_56 rfl rfl ?_
      refine g_get_10_12 F wd_12_0 dX10_powerOf_57 ?_
      refine g_iload_n (i := 1) F dX10_powerOf_60 rfl rfl ?_
      obtain ⟨v17, e18, h⟩ := bind_at h
      refine g_ildM F rfl rfl e18 dX10_powerOf_61 ?_
      refine g_imul F dX10_powerOf_62 ?_
      refine g_goto (tgt := 67) F dX10_powerOf_63 (by decide) ?_
      refine g_lv (lv' := [(0, .ref (ev 0 + 65)), (2, .int l2), (3, .int l3), (4, .int l4), (6, .int l6)]) ⟨rfl, rfl, rfl, rfl, rfl, trivial⟩ ?_
      exact U67 _ _ _ _ _ _ _ h
  rw [fX10_powerOf] at h
  refine g_lv (lv' := [(0, .ref (ev 0 + 65)), (1, .int l1), (2, .int l2), (3, .int l3), (4, .int l4)]) ⟨rfl, rfl, rfl, rfl, rfl, trivial⟩ ?_
  refine g_aload_n (i := 0) F dX10_powerOf_0 rfl rfl ?_
  refine g_iload_n (i := 1) F dX10_powerOf_1 rfl rfl ?_
  refine g_iload_n (i := 2) F dX10_powerOf_2 rfl rfl ?_
  refine g_iload_n (i := 3) F dX10_powerOf_3 rfl rfl ?_
  refine g_iload (i := 4) F dX10_powerOf_4 rfl ?_
  obtain ⟨M1, e2, h⟩ := bind_at h
  refine g_callVV F (mcR := 0) (msR := 0) (id := 65) (cells_at (kd_hidM (show kd 65 = 10 from rfl) (by decide)) (xc_10 rfl)) (ci := 10) rfl rfl rfl (c_X10_namesOf G0 e2) wd_26_3 wd_26_0 wd_26_1 wd_26_2 wd_1_5 ⟨by decide, by decide⟩ (nn := 4) (by decide) (As := [.int l1, .int l2, .int l3, .int l4]) rfl rfl (Nat.le_of_ble_eq_true rfl) (by decide) (by decide) ⟨by decide, by decide⟩ dX10_powerOf_6 ?_
  refine g_aload_n (i := 0) F dX10_powerOf_9 rfl rfl ?_
  refine g_iconst F dX10_powerOf_10 (v := 1) (by decide) ?_
  obtain ⟨v4, M3, e5, h⟩ := bd2_at h
  refine g_callVI F (mcR := 0) (msR := 0) (id := 65) (cells_at (kd_hidM (show kd 65 = 10 from rfl) (by decide)) (xc_10 rfl)) (ci := 10) rfl rfl rfl (c_X10_worth G0 e5) wd_21_11 wd_21_8 wd_21_9 wd_21_10 wd_1_5 ⟨by decide, by decide⟩ (nn := 1) (by decide) (As := [.int (1 : Int32)]) rfl rfl (Nat.le_of_ble_eq_true rfl) (by decide) (by decide) ⟨by decide, by decide⟩ dX10_powerOf_11 ?_
  refine g_istore (i := 5) (lv' := [(5, .int v4), (0, .ref (ev 0 + 65)), (1, .int l1), (2, .int l2), (3, .int l3), (4, .int l4)]) F dX10_powerOf_14 (by decide) rfl ?_
  refine g_aload_n (i := 0) F dX10_powerOf_16 rfl rfl ?_
  refine g_get_10_9 F wd_11_21 dX10_powerOf_17 ?_
  refine g_iload_n (i := 1) F dX10_powerOf_20 rfl rfl ?_
  obtain ⟨v6, e7, h⟩ := bind_at h
  refine g_ildM F rfl rfl e7 dX10_powerOf_21 ?_
  refine g_istore (i := 6) (lv' := [(6, .int v6), (5, .int v4), (0, .ref (ev 0 + 65)), (1, .int l1), (2, .int l2), (3, .int l3), (4, .int l4)]) F dX10_powerOf_22 (by decide) rfl ?_
  refine g_iload (i := 6) F dX10_powerOf_24 rfl ?_
  refine g_iconst F dX10_powerOf_26 (v := 1) (by decide) ?_
  refine g_icmp_eq (tgt := 42) F dX10_powerOf_27 (by decide) h (fun a22 h => ?_) (fun a22 h => ?_)
  · refine g_lv (lv' := [(0, .ref (ev 0 + 65)), (1, .int l1), (2, .int l2), (3, .int l3), (4, .int l4), (5, .int v4), (6, .int v6)]) ⟨rfl, rfl, rfl, rfl, rfl, rfl, rfl, trivial⟩ ?_
    exact U42 _ _ _ _ _ _ _ h
  · refine g_iload (i := 6) F dX10_powerOf_30 rfl ?_
    refine g_iconst F dX10_powerOf_32 (v := 4) (by decide) ?_
    refine g_icmp_eq (tgt := 42) F dX10_powerOf_33 (by decide) h (fun a21 h => ?_) (fun a21 h => ?_)
    · refine g_lv (lv' := [(0, .ref (ev 0 + 65)), (1, .int l1), (2, .int l2), (3, .int l3), (4, .int l4), (5, .int v4), (6, .int v6)]) ⟨rfl, rfl, rfl, rfl, rfl, rfl, rfl, trivial⟩ ?_
      exact U42 _ _ _ _ _ _ _ h
    · refine g_iload (i := 6) F dX10_powerOf_36 rfl ?_
      refine g_iconst F dX10_powerOf_38 (v := 5) (by decide) ?_
      refine g_icmp_ne (tgt := 70) F dX10_powerOf_39 (by decide) h (fun a20 h => ?_) (fun a20 h => ?_)
      · refine g_lv (lv' := [(0, .ref (ev 0 + 65)), (2, .int l2), (3, .int l3), (4, .int l4), (5, .int v4), (6, .int v6)]) ⟨rfl, rfl, rfl, rfl, rfl, rfl, trivial⟩ ?_
        exact U70 _ _ _ _ _ _ h
      · refine g_lv (lv' := [(0, .ref (ev 0 + 65)), (1, .int l1), (2, .int l2), (3, .int l3), (4, .int l4), (5, .int v4), (6, .int v6)]) ⟨rfl, rfl, rfl, rfl, rfl, rfl, rfl, trivial⟩ ?_
        exact U42 _ _ _ _ _ _ _ h
def fX10_farOff_l32 (M : MW) (l5f32 : Int32) (K32 : Int32 → Option Int32) (l6 : Int32) : Option Int32 :=
  if l5f32 < ((l6 + (1 : Int32)) * (l6 + (1 : Int32))) then some (l6 / (5 : Int32))
  else K32 (l6 + (1 : Int32))
def fX10_farOff_b27 (M : MW) (t0 : Int32) : Option Int32 :=
  lo1 (fX10_farOff_l32 M t0) FU (0 : Int32)
def fX10_farOff (M : MW) (l1 : Int32) (l2 : Int32) (l3 : Int32) : Option Int32 :=
  (fX10_deepAt M l1 l2).bind fun v1 =>
  if l3 ≤ v1 then fX10_farOff_b27 M (0 : Int32)
  else fX10_farOff_b27 M ((l3 * l3) - (v1 * v1))
set_option maxRecDepth 100000 in
set_option maxHeartbeats 4000000 in
theorem c_X10_farOff {l : Launch} {s0 : State} {D : va_G} {ev : Nat → Nat} (G0 : Gl s0 D ev) {X : XW} {M : MW} {nb : Nat} {l1 : Int32} {l2 : Int32} {l3 : Int32} {r' : Int32}  (h : fX10_farOff M l1 l2 l3 = some r') : CT l s0 D ev yX10_farOff cX10_farOff 7 (some .int) 1 0 0 [.ref (ev 0 + 65), .int l1, .int l2, .int l3] (cells ev X M (nb + 1)) (QI s0 D ev r' (cells ev X M (nb + 1))) := by
  refine ct_of G0 (by decide) (Nat.le_of_ble_eq_true rfl) ?_
  intro p9 e9 s9 m9 args9 below9 meth9 c9 F hr9 hl9 hin9 hargs9 hts9
  have L32 : ∀ (l5f32 : Int32) (N32 : Nat) (l6 : Int32), lo1 (fX10_farOff_l32 M l5f32) N32 l6 = some r' → GJ p9 l e9 (rg 1 0 0) s9 m9 args9 below9 meth9 c9 (MQ below9 (QI s0 D ev r' (cells ev X M (nb + 1))) args9 s9 0 0 (frA ev)) s0 D ev 7 0 0 32 [(5, .int l5f32), (6, .int l6)] ([]) (cells ev X M (nb + 1)) := by
    intro l5f32 N32
    induction N32 with
    | zero => intro l6 h; cases h
    | succ N32 ih32 =>
      intro l6 h
      change fX10_farOff_l32 M l5f32 (lo1 (fX10_farOff_l32 M l5f32) N32) l6 = some r' at h
      rw [fX10_farOff_l32] at h
      refine g_iload (i := 6) F dX10_farOff_32 rfl ?_
      refine g_iconst F dX10_farOff_34 (v := 1) (by decide) ?_
      refine g_iadd F dX10_farOff_35 ?_
      refine g_iload (i := 6) F dX10_farOff_36 rfl ?_
      refine g_iconst F dX10_farOff_38 (v := 1) (by decide) ?_
      refine g_iadd F dX10_farOff_39 ?_
      refine g_imul F dX10_farOff_40 ?_
      refine g_iload (i := 5) F dX10_farOff_41 rfl ?_
      refine g_icmp_gt (tgt := 52) F dX10_farOff_43 (by decide) h (fun a3 h => ?_) (fun a3 h => ?_)
      · refine g_iload (i := 6) F dX10_farOff_52 rfl ?_
        refine g_iconst F dX10_farOff_54 (v := 5) (by decide) ?_
        refine g_idiv F dX10_farOff_55 (by decide) ?_
        exact g_iret F hr9 rfl hl9 (Option.some.inj h) rfl (by decide) (by decide) dX10_farOff_56
      · refine g_iinc (i := 6) (v := (l6 + (1 : Int32))) (lv' := [(6, .int (l6 + (1 : Int32))), (5, .int l5f32)]) F dX10_farOff_46 rfl rfl (by decide) rfl ?_
        refine g_goto (tgt := 32) F dX10_farOff_49 (by decide) ?_
        refine g_lv (lv' := [(5, .int l5f32), (6, .int (l6 + (1 : Int32)))]) ⟨rfl, rfl, trivial⟩ ?_
        exact ih32 _ h
  have U27 : ∀ (t0 : Int32), fX10_farOff_b27 M t0 = some r' → GJ p9 l e9 (rg 1 0 0) s9 m9 args9 below9 meth9 c9 (MQ below9 (QI s0 D ev r' (cells ev X M (nb + 1))) args9 s9 0 0 (frA ev)) s0 D ev 7 0 0 27 [] (.int t0 :: []) (cells ev X M (nb + 1)) := by
    intro t0 h
    rw [fX10_farOff_b27] at h
    refine g_istore (i := 5) (lv' := [(5, .int t0)]) F dX10_farOff_27 (by decide) rfl ?_
    refine g_iconst F dX10_farOff_29 (v := 0) (by decide) ?_
    refine g_istore (i := 6) (lv' := [(6, .int (0 : Int32)), (5, .int t0)]) F dX10_farOff_30 (by decide) rfl ?_
    refine g_lv (lv' := [(5, .int t0), (6, .int (0 : Int32))]) ⟨rfl, rfl, trivial⟩ ?_
    exact L32 _ FU _ h
  rw [fX10_farOff] at h
  refine g_lv (lv' := [(0, .ref (ev 0 + 65)), (1, .int l1), (2, .int l2), (3, .int l3)]) ⟨rfl, rfl, rfl, rfl, trivial⟩ ?_
  refine g_aload_n (i := 0) F dX10_farOff_0 rfl rfl ?_
  refine g_iload_n (i := 1) F dX10_farOff_1 rfl rfl ?_
  refine g_iload_n (i := 2) F dX10_farOff_2 rfl rfl ?_
  obtain ⟨v1, e2, h⟩ := bind_at h
  refine g_callVI F (mcR := 0) (msR := 0) (id := 65) (cells_at (kd_hidM (show kd 65 = 10 from rfl) (by decide)) (xc_10 rfl)) (ci := 10) rfl rfl rfl (c_X10_deepAt G0 e2) wd_26_12 wd_26_9 wd_26_10 wd_26_11 wd_1_5 ⟨by decide, by decide⟩ (nn := 2) (by decide) (As := [.int l1, .int l2]) rfl rfl (Nat.le_of_ble_eq_true rfl) (by decide) (by decide) ⟨by decide, by decide⟩ dX10_farOff_3 ?_
  refine g_istore (i := 4) (lv' := [(4, .int v1), (0, .ref (ev 0 + 65)), (1, .int l1), (2, .int l2), (3, .int l3)]) F dX10_farOff_6 (by decide) rfl ?_
  refine g_iload_n (i := 3) F dX10_farOff_8 rfl rfl ?_
  refine g_iload (i := 4) F dX10_farOff_9 rfl ?_
  refine g_icmp_le (tgt := 26) F dX10_farOff_11 (by decide) h (fun a4 h => ?_) (fun a4 h => ?_)
  · refine g_iconst F dX10_farOff_26 (v := 0) (by decide) ?_
    refine g_lv (lv' := []) trivial ?_
    exact U27 _ h
  · refine g_iload_n (i := 3) F dX10_farOff_14 rfl rfl ?_
    refine g_iload_n (i := 3) F dX10_farOff_15 rfl rfl ?_
    refine g_imul F dX10_farOff_16 ?_
    refine g_iload (i := 4) F dX10_farOff_17 rfl ?_
    refine g_iload (i := 4) F dX10_farOff_19 rfl ?_
    refine g_imul F dX10_farOff_21 ?_
    refine g_isub F dX10_farOff_22 ?_
    refine g_goto (tgt := 27) F dX10_farOff_23 (by decide) ?_
    refine g_lv (lv' := []) trivial ?_
    exact U27 _ h
def fX10_isWithin (l0 : Int32) (l1 : Int32) : Int32 :=
  if (fX10_in l0 (0 : Int32) (9 : Int32)) = 0 then (0 : Int32)
  else if (fX10_in l1 (0 : Int32) (9 : Int32)) = 0 then (0 : Int32)
  else (1 : Int32)
set_option maxRecDepth 100000 in
set_option maxHeartbeats 4000000 in
theorem c_X10_isWithin {l : Launch} {s0 : State} {D : va_G} {ev : Nat → Nat} (G0 : Gl s0 D ev) {X : XW} {M : MW} {nb : Nat} {l0 : Int32} {l1 : Int32} {r' : Int32}  (h : fX10_isWithin l0 l1 = r') : CT l s0 D ev yX10_isWithin cX10_isWithin 2 (some .boolean) 1 0 0 [.int l0, .int l1] (cells ev X M (nb + 1)) (QI s0 D ev r' (cells ev X M (nb + 1))) := by
  refine ct_of G0 (by decide) (Nat.le_of_ble_eq_true rfl) ?_
  intro p9 e9 s9 m9 args9 below9 meth9 c9 F hr9 hl9 hin9 hargs9 hts9
  rw [fX10_isWithin] at h
  refine g_lv (lv' := [(0, .int l0), (1, .int l1)]) ⟨rfl, rfl, trivial⟩ ?_
  refine g_iload_n (i := 0) F dX10_isWithin_0 rfl rfl ?_
  refine g_iconst F dX10_isWithin_1 (v := 0) (by decide) ?_
  refine g_bipush F dX10_isWithin_2 (v := 9) (by decide) ?_
  refine g_callSI F (mcR := 0) (msR := 0) (c_X10_in G0 (X := X) (M := M) (nb := nb) rfl) wd_13_21 wd_13_19 wd_13_20 wd_1_5 ⟨by decide, by decide⟩ (nn := 3) (by decide) (As := [.int l0, .int (0 : Int32), .int (9 : Int32)]) rfl rfl (Nat.le_of_ble_eq_true rfl) (by decide) (by decide) ⟨by decide, by decide⟩ dX10_isWithin_4 ?_
  refine g_if_eq (tgt := 24) F dX10_isWithin_7 (by decide) h (fun a6 h => ?_) (fun a6 h => ?_)
  · refine g_iconst F dX10_isWithin_24 (v := 0) (by decide) ?_
    exact g_iret F hr9 (by decide) hl9 h rfl (by decide) (by decide) dX10_isWithin_25
  · refine g_iload_n (i := 1) F dX10_isWithin_10 rfl rfl ?_
    refine g_iconst F dX10_isWithin_11 (v := 0) (by decide) ?_
    refine g_bipush F dX10_isWithin_12 (v := 9) (by decide) ?_
    refine g_callSI F (mcR := 0) (msR := 0) (c_X10_in G0 (X := X) (M := M) (nb := nb) rfl) wd_13_21 wd_13_19 wd_13_20 wd_1_5 ⟨by decide, by decide⟩ (nn := 3) (by decide) (As := [.int l1, .int (0 : Int32), .int (9 : Int32)]) rfl rfl (Nat.le_of_ble_eq_true rfl) (by decide) (by decide) ⟨by decide, by decide⟩ dX10_isWithin_14 ?_
    refine g_if_eq (tgt := 24) F dX10_isWithin_17 (by decide) h (fun a5 h => ?_) (fun a5 h => ?_)
    · refine g_iconst F dX10_isWithin_24 (v := 0) (by decide) ?_
      exact g_iret F hr9 (by decide) hl9 h rfl (by decide) (by decide) dX10_isWithin_25
    · refine g_iconst F dX10_isWithin_20 (v := 1) (by decide) ?_
      refine g_goto (tgt := 25) F dX10_isWithin_21 (by decide) ?_
      exact g_iret F hr9 (by decide) hl9 h rfl (by decide) (by decide) dX10_isWithin_25
theorem b_X10_isWithin {l0 : Int32} {l1 : Int32} : (fX10_isWithin l0 l1) = 0 ∨ (fX10_isWithin l0 l1) = 1 := by
  unfold fX10_isWithin
  (repeat' split) <;> first | exact Or.inl rfl | exact Or.inr rfl | exact b_X10_in | exact b_X10_in
def fX10_lies_l15 (M : MW) (l2f15 : Int32) (l3f15 : Int32) (K15 : Int32 → Int32 → Int32 → Option Int32) (l4 : Int32) (l5 : Int32) (l6 : Int32) : Option Int32 :=
  if l3f15 ≤ l6 then some (((10 : Int32) * l5) + l4)
  else (rd (M.2 71) 8 l2f15).bind fun v5 =>
  (rd (M.2 72) 8 l2f15).bind fun v7 =>
  if (fX10_isWithin (l4 + v5) (l5 + v7)) = 0 then some (((10 : Int32) * l5) + l4)
  else (rd (M.2 71) 8 l2f15).bind fun v11 =>
  bd (l4 + v11) fun v13 =>
  (rd (M.2 72) 8 l2f15).bind fun v15 =>
  bd (l5 + v15) fun v17 =>
  K15 v13 v17 (l6 + (1 : Int32))
def fX10_lies (M : MW) (l1 : Int32) (l2 : Int32) (l3 : Int32) : Option Int32 :=
  bd (jrem l1 (10 : Int32)) fun v1 =>
  bd (l1 / (10 : Int32)) fun v3 =>
  lo3 (fX10_lies_l15 M l2 l3) FU v1 v3 (0 : Int32)
set_option maxRecDepth 100000 in
set_option maxHeartbeats 4000000 in
theorem c_X10_lies {l : Launch} {s0 : State} {D : va_G} {ev : Nat → Nat} (G0 : Gl s0 D ev) {X : XW} {M : MW} {nb : Nat} {l1 : Int32} {l2 : Int32} {l3 : Int32} {r' : Int32}  (h : fX10_lies M l1 l2 l3 = some r') : CT l s0 D ev yX10_lies cX10_lies 7 (some .int) 2 0 0 [.ref (ev 0 + 65), .int l1, .int l2, .int l3] (cells ev X M (nb + 1)) (QI s0 D ev r' (cells ev X M (nb + 1))) := by
  refine ct_of G0 (by decide) (Nat.le_of_ble_eq_true rfl) ?_
  intro p9 e9 s9 m9 args9 below9 meth9 c9 F hr9 hl9 hin9 hargs9 hts9
  have L15 : ∀ (l2f15 : Int32) (l3f15 : Int32) (N15 : Nat) (l4 : Int32) (l5 : Int32) (l6 : Int32), lo3 (fX10_lies_l15 M l2f15 l3f15) N15 l4 l5 l6 = some r' → GJ p9 l e9 (rg 2 0 0) s9 m9 args9 below9 meth9 c9 (MQ below9 (QI s0 D ev r' (cells ev X M (nb + 1))) args9 s9 0 0 (frA ev)) s0 D ev 7 0 0 15 [(0, .ref (ev 0 + 65)), (2, .int l2f15), (3, .int l3f15), (4, .int l4), (5, .int l5), (6, .int l6)] ([]) (cells ev X M (nb + 1)) := by
    intro l2f15 l3f15 N15
    induction N15 with
    | zero => intro l4 l5 l6 h; cases h
    | succ N15 ih15 =>
      intro l4 l5 l6 h
      change fX10_lies_l15 M l2f15 l3f15 (lo3 (fX10_lies_l15 M l2f15 l3f15) N15) l4 l5 l6 = some r' at h
      rw [fX10_lies_l15] at h
      refine g_iload (i := 6) F dX10_lies_15 rfl ?_
      refine g_iload_n (i := 3) F dX10_lies_17 rfl rfl ?_
      refine g_icmp_ge (tgt := 73) F dX10_lies_18 (by decide) h (fun a20 h => ?_) (fun a20 h => ?_)
      · refine g_bipush F dX10_lies_73 (v := 10) (by decide) ?_
        refine g_iload (i := 5) F dX10_lies_75 rfl ?_
        refine g_imul F dX10_lies_77 ?_
        refine g_iload (i := 4) F dX10_lies_78 rfl ?_
        refine g_iadd F dX10_lies_80 ?_
        exact g_iret F hr9 rfl hl9 (Option.some.inj h) rfl (by decide) (by decide) dX10_lies_81
      · refine g_iload (i := 4) F dX10_lies_21 rfl ?_
        refine g_aload_n (i := 0) F dX10_lies_23 rfl rfl ?_
        refine g_get_10_5 F wd_11_19 dX10_lies_24 ?_
        refine g_iload_n (i := 2) F dX10_lies_27 rfl rfl ?_
        obtain ⟨v5, e6, h⟩ := bind_at h
        refine g_ildM F rfl rfl e6 dX10_lies_28 ?_
        refine g_iadd F dX10_lies_29 ?_
        refine g_iload (i := 5) F dX10_lies_30 rfl ?_
        refine g_aload_n (i := 0) F dX10_lies_32 rfl rfl ?_
        refine g_get_10_6 F wd_11_20 dX10_lies_33 ?_
        refine g_iload_n (i := 2) F dX10_lies_36 rfl rfl ?_
        obtain ⟨v7, e8, h⟩ := bind_at h
        refine g_ildM F rfl rfl e8 dX10_lies_37 ?_
        refine g_iadd F dX10_lies_38 ?_
        refine g_callSI F (mcR := 0) (msR := 0) (c_X10_isWithin G0 (X := X) (M := M) (nb := nb) rfl) wd_31_0 wd_30_22 wd_30_23 wd_1_5 ⟨by decide, by decide⟩ (nn := 2) (by decide) (As := [.int (l4 + v5), .int (l5 + v7)]) rfl rfl (Nat.le_of_ble_eq_true rfl) (by decide) (by decide) ⟨by decide, by decide⟩ dX10_lies_39 ?_
        refine g_if_eq (tgt := 73) F dX10_lies_42 (by decide) h (fun a19 h => ?_) (fun a19 h => ?_)
        · refine g_bipush F dX10_lies_73 (v := 10) (by decide) ?_
          refine g_iload (i := 5) F dX10_lies_75 rfl ?_
          refine g_imul F dX10_lies_77 ?_
          refine g_iload (i := 4) F dX10_lies_78 rfl ?_
          refine g_iadd F dX10_lies_80 ?_
          exact g_iret F hr9 rfl hl9 (Option.some.inj h) rfl (by decide) (by decide) dX10_lies_81
        · refine g_iload (i := 4) F dX10_lies_45 rfl ?_
          refine g_aload_n (i := 0) F dX10_lies_47 rfl rfl ?_
          refine g_get_10_5 F wd_11_19 dX10_lies_48 ?_
          refine g_iload_n (i := 2) F dX10_lies_51 rfl rfl ?_
          obtain ⟨v11, e12, h⟩ := bind_at h
          refine g_ildM F rfl rfl e12 dX10_lies_52 ?_
          refine g_iadd F dX10_lies_53 ?_
          refine g_topi F h (fun v13 e14 h => ?_)
          refine g_istore (i := 4) (lv' := [(4, .int v13), (0, .ref (ev 0 + 65)), (2, .int l2f15), (3, .int l3f15), (5, .int l5), (6, .int l6)]) F dX10_lies_54 (by decide) rfl ?_
          refine g_iload (i := 5) F dX10_lies_56 rfl ?_
          refine g_aload_n (i := 0) F dX10_lies_58 rfl rfl ?_
          refine g_get_10_6 F wd_11_20 dX10_lies_59 ?_
          refine g_iload_n (i := 2) F dX10_lies_62 rfl rfl ?_
          obtain ⟨v15, e16, h⟩ := bind_at h
          refine g_ildM F rfl rfl e16 dX10_lies_63 ?_
          refine g_iadd F dX10_lies_64 ?_
          refine g_topi F h (fun v17 e18 h => ?_)
          refine g_istore (i := 5) (lv' := [(5, .int v17), (4, .int v13), (0, .ref (ev 0 + 65)), (2, .int l2f15), (3, .int l3f15), (6, .int l6)]) F dX10_lies_65 (by decide) rfl ?_
          refine g_iinc (i := 6) (v := (l6 + (1 : Int32))) (lv' := [(6, .int (l6 + (1 : Int32))), (5, .int v17), (4, .int v13), (0, .ref (ev 0 + 65)), (2, .int l2f15), (3, .int l3f15)]) F dX10_lies_67 rfl rfl (by decide) rfl ?_
          refine g_goto (tgt := 15) F dX10_lies_70 (by decide) ?_
          refine g_lv (lv' := [(0, .ref (ev 0 + 65)), (2, .int l2f15), (3, .int l3f15), (4, .int v13), (5, .int v17), (6, .int (l6 + (1 : Int32)))]) ⟨rfl, rfl, rfl, rfl, rfl, rfl, trivial⟩ ?_
          exact ih15 _ _ _ h
  rw [fX10_lies] at h
  refine g_lv (lv' := [(0, .ref (ev 0 + 65)), (1, .int l1), (2, .int l2), (3, .int l3)]) ⟨rfl, rfl, rfl, rfl, trivial⟩ ?_
  refine g_iload_n (i := 1) F dX10_lies_0 rfl rfl ?_
  refine g_bipush F dX10_lies_1 (v := 10) (by decide) ?_
  refine g_irem F dX10_lies_3 (by decide) ?_
  refine g_topi F h (fun v1 e2 h => ?_)
  refine g_istore (i := 4) (lv' := [(4, .int v1), (0, .ref (ev 0 + 65)), (1, .int l1), (2, .int l2), (3, .int l3)]) F dX10_lies_4 (by decide) rfl ?_
  refine g_iload_n (i := 1) F dX10_lies_6 rfl rfl ?_
  refine g_bipush F dX10_lies_7 (v := 10) (by decide) ?_
  refine g_idiv F dX10_lies_9 (by decide) ?_
  refine g_topi F h (fun v3 e4 h => ?_)
  refine g_istore (i := 5) (lv' := [(5, .int v3), (4, .int v1), (0, .ref (ev 0 + 65)), (1, .int l1), (2, .int l2), (3, .int l3)]) F dX10_lies_10 (by decide) rfl ?_
  refine g_iconst F dX10_lies_12 (v := 0) (by decide) ?_
  refine g_istore (i := 6) (lv' := [(6, .int (0 : Int32)), (5, .int v3), (4, .int v1), (0, .ref (ev 0 + 65)), (1, .int l1), (2, .int l2), (3, .int l3)]) F dX10_lies_13 (by decide) rfl ?_
  refine g_lv (lv' := [(0, .ref (ev 0 + 65)), (2, .int l2), (3, .int l3), (4, .int v1), (5, .int v3), (6, .int (0 : Int32))]) ⟨rfl, rfl, rfl, rfl, rfl, rfl, trivial⟩ ?_
  exact L15 _ _ FU _ _ _ h

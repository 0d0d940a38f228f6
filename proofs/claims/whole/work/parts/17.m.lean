def fX10_back_l74 (K74 : MW → Int32 → Option (Int32 × MW)) (M : MW) (l1 : Int32) : Option (Int32 × MW) :=
  if (20 : Int32) ≤ l1 then some ((M.1 8), M)
  else (rd (M.2 86) 20 l1).bind fun v7 =>
  if inb l1 20 then bd (mA M 79 l1 v7) fun M10 =>
  (rd (M10.2 87) 20 l1).bind fun v12 =>
  if inb l1 20 then bd (mA M10 80 l1 v12) fun M15 =>
  K74 M15 (l1 + (1 : Int32))
  else none
  else none
def fX10_back_b72 (M : MW) : Option (Int32 × MW) :=
  lo2 (fX10_back_l74) FU M (0 : Int32)
def fX10_back_l36 (K36 : MW → Int32 → Option (Int32 × MW)) (M : MW) (l1 : Int32) : Option (Int32 × MW) :=
  if (6 : Int32) ≤ l1 then fX10_back_b72 M
  else (rd (M.2 84) 6 l1).bind fun v18 =>
  if inb l1 6 then bd (mA M 77 l1 v18) fun M21 =>
  (rd (M21.2 85) 6 l1).bind fun v23 =>
  if inb l1 6 then bd (mA M21 78 l1 v23) fun M26 =>
  K36 M26 (l1 + (1 : Int32))
  else none
  else none
def fX10_back (M : MW) : Option (Int32 × MW) :=
  if (M.1 23) = 0 then some ((-3 : Int32), M)
  else bd (mI M 7 (M.1 24)) fun M1 =>
  bd (mI M1 8 (M1.1 25)) fun M3 =>
  bd (mI M3 22 (M3.1 26)) fun M5 =>
  lo2 (fX10_back_l36) FU M5 (0 : Int32)
set_option maxRecDepth 100000 in
set_option maxHeartbeats 4000000 in
theorem c_X10_back {l : Launch} {s0 : State} {D : va_G} {ev : Nat → Nat} (G0 : Gl s0 D ev) {X : XW} {M : MW} {nb : Nat}  {r' : Int32} {M' : MW}  (h : fX10_back M = some (r', M')) : CT l s0 D ev yX10_back cX10_back 2 (some .int) 0 0 0 [.ref (ev 0 + 65)] (cells ev X M (nb + 1)) (QI s0 D ev r' (cells ev X M' (nb + 1))) := by
  refine ct_of G0 (by decide) (Nat.le_of_ble_eq_true rfl) ?_
  intro p9 e9 s9 m9 args9 below9 meth9 c9 F hr9 hl9 hin9 hargs9 hts9
  have L74 : ∀  (N74 : Nat) (M : MW) (l1 : Int32), lo2 (fX10_back_l74) N74 M l1 = some (r', M') → GJ p9 l e9 (rg 0 0 0) s9 m9 args9 below9 meth9 c9 (MQ below9 (QI s0 D ev r' (cells ev X M' (nb + 1))) args9 s9 0 0 (frA ev)) s0 D ev 2 0 0 74 [(0, .ref (ev 0 + 65)), (1, .int l1)] ([]) (cells ev X M (nb + 1)) := by
    intro  N74
    induction N74 with
    | zero => intro M l1 h; cases h
    | succ N74 ih74 =>
      intro M l1 h
      change fX10_back_l74 (lo2 (fX10_back_l74) N74) M l1 = some (r', M') at h
      rw [fX10_back_l74] at h
      refine g_iload_n (i := 1) F dX10_back_74 rfl rfl ?_
      refine g_bipush F dX10_back_75 (v := 20) (by decide) ?_
      refine g_icmp_ge (tgt := 110) F dX10_back_77 (by decide) h (fun a17 h => ?_) (fun a17 h => ?_)
      · refine g_aload_n (i := 0) F dX10_back_110 rfl rfl ?_
        refine g_get_10_8 F wd_18_18 dX10_back_111 ?_
        have hp := Prod.mk.inj (Option.some.inj h)
        exact g_iret F hr9 rfl hl9 hp.1 (by rw [hp.2]) (by decide) (by decide) dX10_back_114
      · refine g_aload_n (i := 0) F dX10_back_80 rfl rfl ?_
        refine g_get_10_15 F wd_12_3 dX10_back_81 ?_
        refine g_iload_n (i := 1) F dX10_back_84 rfl rfl ?_
        refine g_aload_n (i := 0) F dX10_back_85 rfl rfl ?_
        refine g_get_10_29 F wd_12_10 dX10_back_86 ?_
        refine g_iload_n (i := 1) F dX10_back_89 rfl rfl ?_
        obtain ⟨v7, e8, h⟩ := bind_at h
        refine g_ildM F rfl rfl e8 dX10_back_90 ?_
        obtain ⟨h9, h⟩ := if_at h
        obtain ⟨M10, e11, h⟩ := bd_at h
        refine g_istM F rfl rfl h9 dX10_back_91 ?_
        rw [← e11]
        refine g_aload_n (i := 0) F dX10_back_92 rfl rfl ?_
        refine g_get_10_16 F wd_12_4 dX10_back_93 ?_
        refine g_iload_n (i := 1) F dX10_back_96 rfl rfl ?_
        refine g_aload_n (i := 0) F dX10_back_97 rfl rfl ?_
        refine g_get_10_30 F wd_12_11 dX10_back_98 ?_
        refine g_iload_n (i := 1) F dX10_back_101 rfl rfl ?_
        obtain ⟨v12, e13, h⟩ := bind_at h
        refine g_ildM F rfl rfl e13 dX10_back_102 ?_
        obtain ⟨h14, h⟩ := if_at h
        obtain ⟨M15, e16, h⟩ := bd_at h
        refine g_istM F rfl rfl h14 dX10_back_103 ?_
        rw [← e16]
        refine g_iinc (i := 1) (v := (l1 + (1 : Int32))) (lv' := [(1, .int (l1 + (1 : Int32))), (0, .ref (ev 0 + 65))]) F dX10_back_104 rfl rfl (by decide) rfl ?_
        refine g_goto (tgt := 74) F dX10_back_107 (by decide) ?_
        refine g_lv (lv' := [(0, .ref (ev 0 + 65)), (1, .int (l1 + (1 : Int32)))]) ⟨rfl, rfl, trivial⟩ ?_
        exact ih74 _ _ h
  have U72 : ∀ (M : MW), fX10_back_b72 M = some (r', M') → GJ p9 l e9 (rg 0 0 0) s9 m9 args9 below9 meth9 c9 (MQ below9 (QI s0 D ev r' (cells ev X M' (nb + 1))) args9 s9 0 0 (frA ev)) s0 D ev 2 0 0 72 [(0, .ref (ev 0 + 65))] ([]) (cells ev X M (nb + 1)) := by
    intro M h
    rw [fX10_back_b72] at h
    refine g_iconst F dX10_back_72 (v := 0) (by decide) ?_
    refine g_istore_n (i := 1) (lv' := [(1, .int (0 : Int32)), (0, .ref (ev 0 + 65))]) F dX10_back_73 rfl (by decide) rfl ?_
    refine g_lv (lv' := [(0, .ref (ev 0 + 65)), (1, .int (0 : Int32))]) ⟨rfl, rfl, trivial⟩ ?_
    exact L74 FU _ _ h
  have L36 : ∀  (N36 : Nat) (M : MW) (l1 : Int32), lo2 (fX10_back_l36) N36 M l1 = some (r', M') → GJ p9 l e9 (rg 0 0 0) s9 m9 args9 below9 meth9 c9 (MQ below9 (QI s0 D ev r' (cells ev X M' (nb + 1))) args9 s9 0 0 (frA ev)) s0 D ev 2 0 0 36 [(0, .ref (ev 0 + 65)), (1, .int l1)] ([]) (cells ev X M (nb + 1)) := by
    intro  N36
    induction N36 with
    | zero => intro M l1 h; cases h
    | succ N36 ih36 =>
      intro M l1 h
      change fX10_back_l36 (lo2 (fX10_back_l36) N36) M l1 = some (r', M') at h
      rw [fX10_back_l36] at h
      refine g_iload_n (i := 1) F dX10_back_36 rfl rfl ?_
      refine g_bipush F dX10_back_37 (v := 6) (by decide) ?_
      refine g_icmp_ge (tgt := 72) F dX10_back_39 (by decide) h (fun a28 h => ?_) (fun a28 h => ?_)
      · refine g_lv (lv' := [(0, .ref (ev 0 + 65))]) ⟨rfl, trivial⟩ ?_
        exact U72 _ h
      · refine g_aload_n (i := 0) F dX10_back_42 rfl rfl ?_
        refine g_get_10_13 F wd_12_1 dX10_back_43 ?_
        refine g_iload_n (i := 1) F dX10_back_46 rfl rfl ?_
        refine g_aload_n (i := 0) F dX10_back_47 rfl rfl ?_
        refine g_get_10_27 F wd_12_8 dX10_back_48 ?_
        refine g_iload_n (i := 1) F dX10_back_51 rfl rfl ?_
        obtain ⟨v18, e19, h⟩ := bind_at h
        refine g_ildM F rfl rfl e19 dX10_back_52 ?_
        obtain ⟨h20, h⟩ := if_at h
        obtain ⟨M21, e22, h⟩ := bd_at h
        refine g_istM F rfl rfl h20 dX10_back_53 ?_
        rw [← e22]
        refine g_aload_n (i := 0) F dX10_back_54 rfl rfl ?_
        refine g_get_10_14 F wd_12_2 dX10_back_55 ?_
        refine g_iload_n (i := 1) F dX10_back_58 rfl rfl ?_
        refine g_aload_n (i := 0) F dX10_back_59 rfl rfl ?_
        refine g_get_10_28 F wd_12_9 dX10_back_60 ?_
        refine g_iload_n (i := 1) F dX10_back_63 rfl rfl ?_
        obtain ⟨v23, e24, h⟩ := bind_at h
        refine g_ildM F rfl rfl e24 dX10_back_64 ?_
        obtain ⟨h25, h⟩ := if_at h
        obtain ⟨M26, e27, h⟩ := bd_at h
        refine g_istM F rfl rfl h25 dX10_back_65 ?_
        rw [← e27]
        refine g_iinc (i := 1) (v := (l1 + (1 : Int32))) (lv' := [(1, .int (l1 + (1 : Int32))), (0, .ref (ev 0 + 65))]) F dX10_back_66 rfl rfl (by decide) rfl ?_
        refine g_goto (tgt := 36) F dX10_back_69 (by decide) ?_
        refine g_lv (lv' := [(0, .ref (ev 0 + 65)), (1, .int (l1 + (1 : Int32)))]) ⟨rfl, rfl, trivial⟩ ?_
        exact ih36 _ _ h
  rw [fX10_back] at h
  refine g_lv (lv' := [(0, .ref (ev 0 + 65))]) ⟨rfl, trivial⟩ ?_
  refine g_aload_n (i := 0) F dX10_back_0 rfl rfl ?_
  refine g_get_10_23 F wd_49_21 dX10_back_1 ?_
  refine g_if_ne (tgt := 10) F dX10_back_4 (by decide) h (fun a29 h => ?_) (fun a29 h => ?_)
  · refine g_aload_n (i := 0) F dX10_back_10 rfl rfl ?_
    refine g_aload_n (i := 0) F dX10_back_11 rfl rfl ?_
    refine g_get_10_24 F wd_49_22 dX10_back_12 ?_
    obtain ⟨M1, e2, h⟩ := bd_at h
    refine g_put_10_7 F wd_18_17 dX10_back_15 ?_
    rw [← e2]
    refine g_aload_n (i := 0) F dX10_back_18 rfl rfl ?_
    refine g_aload_n (i := 0) F dX10_back_19 rfl rfl ?_
    refine g_get_10_25 F wd_49_23 dX10_back_20 ?_
    obtain ⟨M3, e4, h⟩ := bd_at h
    refine g_put_10_8 F wd_18_18 dX10_back_23 ?_
    rw [← e4]
    refine g_aload_n (i := 0) F dX10_back_26 rfl rfl ?_
    refine g_aload_n (i := 0) F dX10_back_27 rfl rfl ?_
    refine g_get_10_26 F wd_50_0 dX10_back_28 ?_
    obtain ⟨M5, e6, h⟩ := bd_at h
    refine g_put_10_22 F wd_18_19 dX10_back_31 ?_
    rw [← e6]
    refine g_iconst F dX10_back_34 (v := 0) (by decide) ?_
    refine g_istore_n (i := 1) (lv' := [(1, .int (0 : Int32)), (0, .ref (ev 0 + 65))]) F dX10_back_35 rfl (by decide) rfl ?_
    refine g_lv (lv' := [(0, .ref (ev 0 + 65)), (1, .int (0 : Int32))]) ⟨rfl, rfl, trivial⟩ ?_
    exact L36 FU _ _ h
  · refine g_bipush F dX10_back_7 (v := -3) (by decide) ?_
    have hp := Prod.mk.inj (Option.some.inj h)
    exact g_iret F hr9 rfl hl9 hp.1 (by rw [hp.2]) (by decide) (by decide) dX10_back_9
def fX10_sheet_l70 (l1f70 : Int32) (K70 : MW → Int32 → Option (Int32 × MW)) (M : MW) (l4 : Int32) : Option (Int32 × MW) :=
  if (40 : Int32) ≤ l4 then some ((1 : Int32), M)
  else if inb (((40 : Int32) * l1f70) + l4) 160 then bd (mA M 90 (((40 : Int32) * l1f70) + l4) (0 : Int32)) fun M12 =>
  K70 M12 (l4 + (1 : Int32))
  else none
def fX10_sheet_b66 (M : MW) (l1 : Int32) (t1 : Int32) (t2 : Int32) : Option (Int32 × MW) :=
  if inb t1 4 then bd (mA M 89 t1 t2) fun M9 =>
  lo2 (fX10_sheet_l70 l1) FU M9 (0 : Int32)
  else none
def fX10_sheet_b44 (M : MW) (l1 : Int32) (l2 : Int32) (l3 : Int32) : Option (Int32 × MW) :=
  if inb l1 4 then bd (mA M 88 l1 l2) fun M6 =>
  if l2 = (-1 : Int32) then fX10_sheet_b66 M6 l1 l1 (0 : Int32)
  else fX10_sheet_b66 M6 l1 l1 l3
  else none
def fX10_sheet_b32 (M : MW) (l1 : Int32) (l2 : Int32) (l3 : Int32) : Option (Int32 × MW) :=
  if l2 = (-1 : Int32) then fX10_sheet_b44 M l1 l2 l3
  else if 0 ≤ l3 then fX10_sheet_b44 M l1 l2 l3
  else some ((-14 : Int32), M)
def fX10_sheet (M : MW) (l1 : Int32) (l2 : Int32) (l3 : Int32) : Option (Int32 × MW) :=
  if (fX10_in l1 (0 : Int32) (3 : Int32)) = 0 then some ((-2 : Int32), M)
  else if (fX10_in l2 (-1 : Int32) (2 : Int32)) = 0 then some ((-2 : Int32), M)
  else if l2 = (-1 : Int32) then fX10_sheet_b32 M l1 l2 l3
  else if l3 ≤ (40 : Int32) then fX10_sheet_b32 M l1 l2 l3
  else some ((-2 : Int32), M)
set_option maxRecDepth 100000 in
set_option maxHeartbeats 4000000 in
theorem c_X10_sheet {l : Launch} {s0 : State} {D : va_G} {ev : Nat → Nat} (G0 : Gl s0 D ev) {X : XW} {M : MW} {nb : Nat} {l1 : Int32} {l2 : Int32} {l3 : Int32} {r' : Int32} {M' : MW}  (h : fX10_sheet M l1 l2 l3 = some (r', M')) : CT l s0 D ev yX10_sheet cX10_sheet 5 (some .int) 1 0 0 [.ref (ev 0 + 65), .int l1, .int l2, .int l3] (cells ev X M (nb + 1)) (QI s0 D ev r' (cells ev X M' (nb + 1))) := by
  refine ct_of G0 (by decide) (Nat.le_of_ble_eq_true rfl) ?_
  intro p9 e9 s9 m9 args9 below9 meth9 c9 F hr9 hl9 hin9 hargs9 hts9
  have L70 : ∀ (l1f70 : Int32) (N70 : Nat) (M : MW) (l4 : Int32), lo2 (fX10_sheet_l70 l1f70) N70 M l4 = some (r', M') → GJ p9 l e9 (rg 1 0 0) s9 m9 args9 below9 meth9 c9 (MQ below9 (QI s0 D ev r' (cells ev X M' (nb + 1))) args9 s9 0 0 (frA ev)) s0 D ev 5 0 0 70 [(0, .ref (ev 0 + 65)), (1, .int l1f70), (4, .int l4)] ([]) (cells ev X M (nb + 1)) := by
    intro l1f70 N70
    induction N70 with
    | zero => intro M l4 h; cases h
    | succ N70 ih70 =>
      intro M l4 h
      change fX10_sheet_l70 l1f70 (lo2 (fX10_sheet_l70 l1f70) N70) M l4 = some (r', M') at h
      rw [fX10_sheet_l70] at h
      refine g_iload (i := 4) F dX10_sheet_70 rfl ?_
      refine g_bipush F dX10_sheet_72 (v := 40) (by decide) ?_
      refine g_icmp_ge (tgt := 96) F dX10_sheet_74 (by decide) h (fun a14 h => ?_) (fun a14 h => ?_)
      · refine g_iconst F dX10_sheet_96 (v := 1) (by decide) ?_
        have hp := Prod.mk.inj (Option.some.inj h)
        exact g_iret F hr9 rfl hl9 hp.1 (by rw [hp.2]) (by decide) (by decide) dX10_sheet_97
      · refine g_aload_n (i := 0) F dX10_sheet_77 rfl rfl ?_
        refine g_get_10_33 F wd_12_14 dX10_sheet_78 ?_
        refine g_bipush F dX10_sheet_81 (v := 40) (by decide) ?_
        refine g_iload_n (i := 1) F dX10_sheet_83 rfl rfl ?_
        refine g_imul F dX10_sheet_84 ?_
        refine g_iload (i := 4) F dX10_sheet_85 rfl ?_
        refine g_iadd F dX10_sheet_87 ?_
        refine g_iconst F dX10_sheet_88 (v := 0) (by decide) ?_
        obtain ⟨h11, h⟩ := if_at h
        obtain ⟨M12, e13, h⟩ := bd_at h
        refine g_istM F rfl rfl h11 dX10_sheet_89 ?_
        rw [← e13]
        refine g_iinc (i := 4) (v := (l4 + (1 : Int32))) (lv' := [(4, .int (l4 + (1 : Int32))), (0, .ref (ev 0 + 65)), (1, .int l1f70)]) F dX10_sheet_90 rfl rfl (by decide) rfl ?_
        refine g_goto (tgt := 70) F dX10_sheet_93 (by decide) ?_
        refine g_lv (lv' := [(0, .ref (ev 0 + 65)), (1, .int l1f70), (4, .int (l4 + (1 : Int32)))]) ⟨rfl, rfl, rfl, trivial⟩ ?_
        exact ih70 _ _ h
  have U66 : ∀ (M : MW) (l1 : Int32) (t1 : Int32) (t2 : Int32), fX10_sheet_b66 M l1 t1 t2 = some (r', M') → GJ p9 l e9 (rg 1 0 0) s9 m9 args9 below9 meth9 c9 (MQ below9 (QI s0 D ev r' (cells ev X M' (nb + 1))) args9 s9 0 0 (frA ev)) s0 D ev 5 0 0 66 [(0, .ref (ev 0 + 65)), (1, .int l1)] (.int t2 :: .int t1 :: .ref (ev 0 + 89) :: []) (cells ev X M (nb + 1)) := by
    intro M l1 t1 t2 h
    rw [fX10_sheet_b66] at h
    obtain ⟨h8, h⟩ := if_at h
    obtain ⟨M9, e10, h⟩ := bd_at h
    refine g_istM F rfl rfl h8 dX10_sheet_66 ?_
    rw [← e10]
    refine g_iconst F dX10_sheet_67 (v := 0) (by decide) ?_
    refine g_istore (i := 4) (lv' := [(4, .int (0 : Int32)), (0, .ref (ev 0 + 65)), (1, .int l1)]) F dX10_sheet_68 (by decide) rfl ?_
    refine g_lv (lv' := [(0, .ref (ev 0 + 65)), (1, .int l1), (4, .int (0 : Int32))]) ⟨rfl, rfl, rfl, trivial⟩ ?_
    exact L70 _ FU _ _ h
  have U44 : ∀ (M : MW) (l1 : Int32) (l2 : Int32) (l3 : Int32), fX10_sheet_b44 M l1 l2 l3 = some (r', M') → GJ p9 l e9 (rg 1 0 0) s9 m9 args9 below9 meth9 c9 (MQ below9 (QI s0 D ev r' (cells ev X M' (nb + 1))) args9 s9 0 0 (frA ev)) s0 D ev 5 0 0 44 [(0, .ref (ev 0 + 65)), (1, .int l1), (2, .int l2), (3, .int l3)] ([]) (cells ev X M (nb + 1)) := by
    intro M l1 l2 l3 h
    rw [fX10_sheet_b44] at h
    refine g_aload_n (i := 0) F dX10_sheet_44 rfl rfl ?_
    refine g_get_10_31 F wd_12_12 dX10_sheet_45 ?_
    refine g_iload_n (i := 1) F dX10_sheet_48 rfl rfl ?_
    refine g_iload_n (i := 2) F dX10_sheet_49 rfl rfl ?_
    obtain ⟨h5, h⟩ := if_at h
    obtain ⟨M6, e7, h⟩ := bd_at h
    refine g_istM F rfl rfl h5 dX10_sheet_50 ?_
    rw [← e7]
    refine g_aload_n (i := 0) F dX10_sheet_51 rfl rfl ?_
    refine g_get_10_32 F wd_12_13 dX10_sheet_52 ?_
    refine g_iload_n (i := 1) F dX10_sheet_55 rfl rfl ?_
    refine g_iload_n (i := 2) F dX10_sheet_56 rfl rfl ?_
    refine g_iconst F dX10_sheet_57 (v := -1) (by decide) ?_
    refine g_icmp_ne (tgt := 65) F dX10_sheet_58 (by decide) h (fun a15 h => ?_) (fun a15 h => ?_)
    · refine g_iload_n (i := 3) F dX10_sheet_65 rfl rfl ?_
      refine g_lv (lv' := [(0, .ref (ev 0 + 65)), (1, .int l1)]) ⟨rfl, rfl, trivial⟩ ?_
      exact U66 _ _ _ _ h
    · refine g_iconst F dX10_sheet_61 (v := 0) (by decide) ?_
      refine g_goto (tgt := 66) F dX10_sheet_62 (by decide) ?_
      refine g_lv (lv' := [(0, .ref (ev 0 + 65)), (1, .int l1)]) ⟨rfl, rfl, trivial⟩ ?_
      exact U66 _ _ _ _ h
  have U32 : ∀ (M : MW) (l1 : Int32) (l2 : Int32) (l3 : Int32), fX10_sheet_b32 M l1 l2 l3 = some (r', M') → GJ p9 l e9 (rg 1 0 0) s9 m9 args9 below9 meth9 c9 (MQ below9 (QI s0 D ev r' (cells ev X M' (nb + 1))) args9 s9 0 0 (frA ev)) s0 D ev 5 0 0 32 [(0, .ref (ev 0 + 65)), (1, .int l1), (2, .int l2), (3, .int l3)] ([]) (cells ev X M (nb + 1)) := by
    intro M l1 l2 l3 h
    rw [fX10_sheet_b32] at h
    refine g_iload_n (i := 2) F dX10_sheet_32 rfl rfl ?_
    refine g_iconst F dX10_sheet_33 (v := -1) (by decide) ?_
    refine g_icmp_eq (tgt := 44) F dX10_sheet_34 (by decide) h (fun a17 h => ?_) (fun a17 h => ?_)
    · refine g_lv (lv' := [(0, .ref (ev 0 + 65)), (1, .int l1), (2, .int l2), (3, .int l3)]) ⟨rfl, rfl, rfl, rfl, trivial⟩ ?_
      exact U44 _ _ _ _ h
    · refine g_iload_n (i := 3) F dX10_sheet_37 rfl rfl ?_
      refine g_if_ge (tgt := 44) F dX10_sheet_38 (by decide) h (fun a16 h => ?_) (fun a16 h => ?_)
      · refine g_lv (lv' := [(0, .ref (ev 0 + 65)), (1, .int l1), (2, .int l2), (3, .int l3)]) ⟨rfl, rfl, rfl, rfl, trivial⟩ ?_
        exact U44 _ _ _ _ h
      · refine g_bipush F dX10_sheet_41 (v := -14) (by decide) ?_
        have hp := Prod.mk.inj (Option.some.inj h)
        exact g_iret F hr9 rfl hl9 hp.1 (by rw [hp.2]) (by decide) (by decide) dX10_sheet_43
  rw [fX10_sheet] at h
  refine g_lv (lv' := [(0, .ref (ev 0 + 65)), (1, .int l1), (2, .int l2), (3, .int l3)]) ⟨rfl, rfl, rfl, rfl, trivial⟩ ?_
  refine g_iload_n (i := 1) F dX10_sheet_0 rfl rfl ?_
  refine g_iconst F dX10_sheet_1 (v := 0) (by decide) ?_
  refine g_iconst F dX10_sheet_2 (v := 3) (by decide) ?_
  refine g_callSI F (mcR := 0) (msR := 0) (c_X10_in G0 (X := X) (M := M) (nb := nb) rfl) wd_13_21 wd_13_19 wd_13_20 wd_1_5 ⟨by decide, by decide⟩ (nn := 3) (by decide) (As := [.int l1, .int (0 : Int32), .int (3 : Int32)]) rfl rfl (Nat.le_of_ble_eq_true rfl) (by decide) (by decide) ⟨by decide, by decide⟩ dX10_sheet_3 ?_
  refine g_if_eq (tgt := 29) F dX10_sheet_6 (by decide) h (fun a21 h => ?_) (fun a21 h => ?_)
  · refine g_bipush F dX10_sheet_29 (v := -2) (by decide) ?_
    have hp := Prod.mk.inj (Option.some.inj h)
    exact g_iret F hr9 rfl hl9 hp.1 (by rw [hp.2]) (by decide) (by decide) dX10_sheet_31
  · refine g_iload_n (i := 2) F dX10_sheet_9 rfl rfl ?_
    refine g_iconst F dX10_sheet_10 (v := -1) (by decide) ?_
    refine g_iconst F dX10_sheet_11 (v := 2) (by decide) ?_
    refine g_callSI F (mcR := 0) (msR := 0) (c_X10_in G0 (X := X) (M := M) (nb := nb) rfl) wd_13_21 wd_13_19 wd_13_20 wd_1_5 ⟨by decide, by decide⟩ (nn := 3) (by decide) (As := [.int l2, .int (-1 : Int32), .int (2 : Int32)]) rfl rfl (Nat.le_of_ble_eq_true rfl) (by decide) (by decide) ⟨by decide, by decide⟩ dX10_sheet_12 ?_
    refine g_if_eq (tgt := 29) F dX10_sheet_15 (by decide) h (fun a20 h => ?_) (fun a20 h => ?_)
    · refine g_bipush F dX10_sheet_29 (v := -2) (by decide) ?_
      have hp := Prod.mk.inj (Option.some.inj h)
      exact g_iret F hr9 rfl hl9 hp.1 (by rw [hp.2]) (by decide) (by decide) dX10_sheet_31
    · refine g_iload_n (i := 2) F dX10_sheet_18 rfl rfl ?_
      refine g_iconst F dX10_sheet_19 (v := -1) (by decide) ?_
      refine g_icmp_eq (tgt := 32) F dX10_sheet_20 (by decide) h (fun a19 h => ?_) (fun a19 h => ?_)
      · refine g_lv (lv' := [(0, .ref (ev 0 + 65)), (1, .int l1), (2, .int l2), (3, .int l3)]) ⟨rfl, rfl, rfl, rfl, trivial⟩ ?_
        exact U32 _ _ _ _ h
      · refine g_iload_n (i := 3) F dX10_sheet_23 rfl rfl ?_
        refine g_bipush F dX10_sheet_24 (v := 40) (by decide) ?_
        refine g_icmp_le (tgt := 32) F dX10_sheet_26 (by decide) h (fun a18 h => ?_) (fun a18 h => ?_)
        · refine g_lv (lv' := [(0, .ref (ev 0 + 65)), (1, .int l1), (2, .int l2), (3, .int l3)]) ⟨rfl, rfl, rfl, rfl, trivial⟩ ?_
          exact U32 _ _ _ _ h
        · refine g_bipush F dX10_sheet_29 (v := -2) (by decide) ?_
          have hp := Prod.mk.inj (Option.some.inj h)
          exact g_iret F hr9 rfl hl9 hp.1 (by rw [hp.2]) (by decide) (by decide) dX10_sheet_31
def fX10_cell_b84 (M : MW) (t1 : Int32) (t2 : Int32) : Option (Int32 × MW) :=
  if inb t1 160 then bd (mA M 90 t1 t2) fun M14 =>
  some ((1 : Int32), M14)
  else none
def fX10_cell (M : MW) (l1 : Int32) (l2 : Int32) (l3 : Int32) : Option (Int32 × MW) :=
  if (fX10_in l1 (0 : Int32) (3 : Int32)) = 0 then some ((-2 : Int32), M)
  else (rd (M.2 88) 4 l1).bind fun v3 =>
  if v3 = (-1 : Int32) then some ((-11 : Int32), M)
  else (rd (M.2 89) 4 l1).bind fun v5 =>
  if (fX10_in l2 (0 : Int32) (v5 - (1 : Int32))) = 0 then some ((-12 : Int32), M)
  else (rd (M.2 88) 4 l1).bind fun v9 =>
  if v9 = 0 then fX10_cell_b84 M (((40 : Int32) * l1) + l2) (l3.toInt8.toInt32)
  else (rd (M.2 88) 4 l1).bind fun v11 =>
  if v11 = (1 : Int32) then fX10_cell_b84 M (((40 : Int32) * l1) + l2) (l3.toInt16.toInt32)
  else fX10_cell_b84 M (((40 : Int32) * l1) + l2) l3
set_option maxRecDepth 100000 in
set_option maxHeartbeats 4000000 in
theorem c_X10_cell {l : Launch} {s0 : State} {D : va_G} {ev : Nat → Nat} (G0 : Gl s0 D ev) {X : XW} {M : MW} {nb : Nat} {l1 : Int32} {l2 : Int32} {l3 : Int32} {r' : Int32} {M' : MW}  (h : fX10_cell M l1 l2 l3 = some (r', M')) : CT l s0 D ev yX10_cell cX10_cell 4 (some .int) 1 0 0 [.ref (ev 0 + 65), .int l1, .int l2, .int l3] (cells ev X M (nb + 1)) (QI s0 D ev r' (cells ev X M' (nb + 1))) := by
  refine ct_of G0 (by decide) (Nat.le_of_ble_eq_true rfl) ?_
  intro p9 e9 s9 m9 args9 below9 meth9 c9 F hr9 hl9 hin9 hargs9 hts9
  have U84 : ∀ (M : MW) (t1 : Int32) (t2 : Int32), fX10_cell_b84 M t1 t2 = some (r', M') → GJ p9 l e9 (rg 1 0 0) s9 m9 args9 below9 meth9 c9 (MQ below9 (QI s0 D ev r' (cells ev X M' (nb + 1))) args9 s9 0 0 (frA ev)) s0 D ev 4 0 0 84 [] (.int t2 :: .int t1 :: .ref (ev 0 + 90) :: []) (cells ev X M (nb + 1)) := by
    intro M t1 t2 h
    rw [fX10_cell_b84] at h
    obtain ⟨h13, h⟩ := if_at h
    obtain ⟨M14, e15, h⟩ := bd_at h
    refine g_istM F rfl rfl h13 dX10_cell_84 ?_
    rw [← e15]
    refine g_iconst F dX10_cell_85 (v := 1) (by decide) ?_
    have hp := Prod.mk.inj (Option.some.inj h)
    exact g_iret F hr9 rfl hl9 hp.1 (by rw [hp.2]) (by decide) (by decide) dX10_cell_86
  rw [fX10_cell] at h
  refine g_lv (lv' := [(0, .ref (ev 0 + 65)), (1, .int l1), (2, .int l2), (3, .int l3)]) ⟨rfl, rfl, rfl, rfl, trivial⟩ ?_
  refine g_iload_n (i := 1) F dX10_cell_0 rfl rfl ?_
  refine g_iconst F dX10_cell_1 (v := 0) (by decide) ?_
  refine g_iconst F dX10_cell_2 (v := 3) (by decide) ?_
  refine g_callSI F (mcR := 0) (msR := 0) (c_X10_in G0 (X := X) (M := M) (nb := nb) rfl) wd_13_21 wd_13_19 wd_13_20 wd_1_5 ⟨by decide, by decide⟩ (nn := 3) (by decide) (As := [.int l1, .int (0 : Int32), .int (3 : Int32)]) rfl rfl (Nat.le_of_ble_eq_true rfl) (by decide) (by decide) ⟨by decide, by decide⟩ dX10_cell_3 ?_
  refine g_if_ne (tgt := 12) F dX10_cell_6 (by decide) h (fun a20 h => ?_) (fun a20 h => ?_)
  · refine g_aload_n (i := 0) F dX10_cell_12 rfl rfl ?_
    refine g_get_10_31 F wd_12_12 dX10_cell_13 ?_
    refine g_iload_n (i := 1) F dX10_cell_16 rfl rfl ?_
    obtain ⟨v3, e4, h⟩ := bind_at h
    refine g_ildM F rfl rfl e4 dX10_cell_17 ?_
    refine g_iconst F dX10_cell_18 (v := -1) (by decide) ?_
    refine g_icmp_ne (tgt := 25) F dX10_cell_19 (by decide) h (fun a19 h => ?_) (fun a19 h => ?_)
    · refine g_iload_n (i := 2) F dX10_cell_25 rfl rfl ?_
      refine g_iconst F dX10_cell_26 (v := 0) (by decide) ?_
      refine g_aload_n (i := 0) F dX10_cell_27 rfl rfl ?_
      refine g_get_10_32 F wd_12_13 dX10_cell_28 ?_
      refine g_iload_n (i := 1) F dX10_cell_31 rfl rfl ?_
      obtain ⟨v5, e6, h⟩ := bind_at h
      refine g_ildM F rfl rfl e6 dX10_cell_32 ?_
      refine g_iconst F dX10_cell_33 (v := 1) (by decide) ?_
      refine g_isub F dX10_cell_34 ?_
      refine g_callSI F (mcR := 0) (msR := 0) (c_X10_in G0 (X := X) (M := M) (nb := nb) rfl) wd_13_21 wd_13_19 wd_13_20 wd_1_5 ⟨by decide, by decide⟩ (nn := 3) (by decide) (As := [.int l2, .int (0 : Int32), .int (v5 - (1 : Int32))]) rfl rfl (Nat.le_of_ble_eq_true rfl) (by decide) (by decide) ⟨by decide, by decide⟩ dX10_cell_35 ?_
      refine g_if_ne (tgt := 44) F dX10_cell_38 (by decide) h (fun a18 h => ?_) (fun a18 h => ?_)
      · refine g_aload_n (i := 0) F dX10_cell_44 rfl rfl ?_
        refine g_get_10_33 F wd_12_14 dX10_cell_45 ?_
        refine g_bipush F dX10_cell_48 (v := 40) (by decide) ?_
        refine g_iload_n (i := 1) F dX10_cell_50 rfl rfl ?_
        refine g_imul F dX10_cell_51 ?_
        refine g_iload_n (i := 2) F dX10_cell_52 rfl rfl ?_
        refine g_iadd F dX10_cell_53 ?_
        refine g_aload_n (i := 0) F dX10_cell_54 rfl rfl ?_
        refine g_get_10_31 F wd_12_12 dX10_cell_55 ?_
        refine g_iload_n (i := 1) F dX10_cell_58 rfl rfl ?_
        obtain ⟨v9, e10, h⟩ := bind_at h
        refine g_ildM F rfl rfl e10 dX10_cell_59 ?_
        refine g_if_ne (tgt := 68) F dX10_cell_60 (by decide) h (fun a17 h => ?_) (fun a17 h => ?_)
        · refine g_aload_n (i := 0) F dX10_cell_68 rfl rfl ?_
          refine g_get_10_31 F wd_12_12 dX10_cell_69 ?_
          refine g_iload_n (i := 1) F dX10_cell_72 rfl rfl ?_
          obtain ⟨v11, e12, h⟩ := bind_at h
          refine g_ildM F rfl rfl e12 dX10_cell_73 ?_
          refine g_iconst F dX10_cell_74 (v := 1) (by decide) ?_
          refine g_icmp_ne (tgt := 83) F dX10_cell_75 (by decide) h (fun a16 h => ?_) (fun a16 h => ?_)
          · refine g_iload_n (i := 3) F dX10_cell_83 rfl rfl ?_
            refine g_lv (lv' := []) trivial ?_
            exact U84 _ _ _ h
          · refine g_iload_n (i := 3) F dX10_cell_78 rfl rfl ?_
            refine g_i2s F dX10_cell_79 ?_
            refine g_goto (tgt := 84) F dX10_cell_80 (by decide) ?_
            refine g_lv (lv' := []) trivial ?_
            exact U84 _ _ _ h
        · refine g_iload_n (i := 3) F dX10_cell_63 rfl rfl ?_
          refine g_i2b F dX10_cell_64 ?_
          refine g_goto (tgt := 84) F dX10_cell_65 (by decide) ?_
          refine g_lv (lv' := []) trivial ?_
          exact U84 _ _ _ h
      · refine g_bipush F dX10_cell_41 (v := -12) (by decide) ?_
        have hp := Prod.mk.inj (Option.some.inj h)
        exact g_iret F hr9 rfl hl9 hp.1 (by rw [hp.2]) (by decide) (by decide) dX10_cell_43
    · refine g_bipush F dX10_cell_22 (v := -11) (by decide) ?_
      have hp := Prod.mk.inj (Option.some.inj h)
      exact g_iret F hr9 rfl hl9 hp.1 (by rw [hp.2]) (by decide) (by decide) dX10_cell_24
  · refine g_bipush F dX10_cell_9 (v := -2) (by decide) ?_
    have hp := Prod.mk.inj (Option.some.inj h)
    exact g_iret F hr9 rfl hl9 hp.1 (by rw [hp.2]) (by decide) (by decide) dX10_cell_11
def fX10_copy_b173 (l5f147 : Int32) (l6f147 : Int32) (l7f147 : Int32) (K147 : MW → Int32 → Option (Int32 × MW)) (M : MW) (l8 : Int32) (t0 : Int32) : Option (Int32 × MW) :=
  (rd (M.2 90) 160 (l6f147 + t0)).bind fun v25 =>
  if inb (l7f147 + t0) 160 then bd (mA M 90 (l7f147 + t0) v25) fun M28 =>
  K147 M28 (l8 + (1 : Int32))
  else none
def fX10_copy_l147 (l5f147 : Int32) (l6f147 : Int32) (l7f147 : Int32) (K147 : MW → Int32 → Option (Int32 × MW)) (M : MW) (l8 : Int32) : Option (Int32 × MW) :=
  if l5f147 ≤ l8 then some (l5f147, M)
  else if l7f147 ≤ l6f147 then fX10_copy_b173 l5f147 l6f147 l7f147 K147 M l8 l8
  else fX10_copy_b173 l5f147 l6f147 l7f147 K147 M l8 ((l5f147 - (1 : Int32)) - l8)
def fX10_copy (M : MW) (l1 : Int32) (l2 : Int32) (l3 : Int32) (l4 : Int32) (l5 : Int32) : Option (Int32 × MW) :=
  if (fX10_in l1 (0 : Int32) (3 : Int32)) = 0 then some ((-2 : Int32), M)
  else if (fX10_in l3 (0 : Int32) (3 : Int32)) = 0 then some ((-2 : Int32), M)
  else (rd (M.2 88) 4 l1).bind fun v5 =>
  if v5 = (-1 : Int32) then some ((-11 : Int32), M)
  else (rd (M.2 88) 4 l3).bind fun v7 =>
  if v7 = (-1 : Int32) then some ((-11 : Int32), M)
  else (rd (M.2 88) 4 l1).bind fun v9 =>
  (rd (M.2 88) 4 l3).bind fun v11 =>
  if v9 = v11 then if l5 < 0 then some ((-12 : Int32), M)
  else if l2 < 0 then some ((-12 : Int32), M)
  else if l4 < 0 then some ((-12 : Int32), M)
  else (rd (M.2 89) 4 l1).bind fun v13 =>
  if v13 < l2 then some ((-12 : Int32), M)
  else (rd (M.2 89) 4 l3).bind fun v15 =>
  if v15 < l4 then some ((-12 : Int32), M)
  else (rd (M.2 89) 4 l1).bind fun v17 =>
  if (v17 - l2) < l5 then some ((-12 : Int32), M)
  else (rd (M.2 89) 4 l3).bind fun v19 =>
  if l5 ≤ (v19 - l4) then bd (((40 : Int32) * l1) + l2) fun v21 =>
  bd (((40 : Int32) * l3) + l4) fun v23 =>
  lo2 (fX10_copy_l147 l5 v21 v23) FU M (0 : Int32)
  else some ((-12 : Int32), M)
  else some ((-13 : Int32), M)
set_option maxRecDepth 100000 in
set_option maxHeartbeats 4000000 in
theorem c_X10_copy {l : Launch} {s0 : State} {D : va_G} {ev : Nat → Nat} (G0 : Gl s0 D ev) {X : XW} {M : MW} {nb : Nat} {l1 : Int32} {l2 : Int32} {l3 : Int32} {l4 : Int32} {l5 : Int32} {r' : Int32} {M' : MW}  (h : fX10_copy M l1 l2 l3 l4 l5 = some (r', M')) : CT l s0 D ev yX10_copy cX10_copy 10 (some .int) 1 0 0 [.ref (ev 0 + 65), .int l1, .int l2, .int l3, .int l4, .int l5] (cells ev X M (nb + 1)) (QI s0 D ev r' (cells ev X M' (nb + 1))) := by
  refine ct_of G0 (by decide) (Nat.le_of_ble_eq_true rfl) ?_
  intro p9 e9 s9 m9 args9 below9 meth9 c9 F hr9 hl9 hin9 hargs9 hts9
  have L147 : ∀ (l5f147 : Int32) (l6f147 : Int32) (l7f147 : Int32) (N147 : Nat) (M : MW) (l8 : Int32), lo2 (fX10_copy_l147 l5f147 l6f147 l7f147) N147 M l8 = some (r', M') → GJ p9 l e9 (rg 1 0 0) s9 m9 args9 below9 meth9 c9 (MQ below9 (QI s0 D ev r' (cells ev X M' (nb + 1))) args9 s9 0 0 (frA ev)) s0 D ev 10 0 0 147 [(0, .ref (ev 0 + 65)), (5, .int l5f147), (6, .int l6f147), (7, .int l7f147), (8, .int l8)] ([]) (cells ev X M (nb + 1)) := by
    intro l5f147 l6f147 l7f147 N147
    induction N147 with
    | zero => intro M l8 h; cases h
    | succ N147 ih147 =>
      have U173 : ∀ (M : MW) (l8 : Int32) (t0 : Int32), fX10_copy_b173 l5f147 l6f147 l7f147 (lo2 (fX10_copy_l147 l5f147 l6f147 l7f147) N147) M l8 t0 = some (r', M') → GJ p9 l e9 (rg 1 0 0) s9 m9 args9 below9 meth9 c9 (MQ below9 (QI s0 D ev r' (cells ev X M' (nb + 1))) args9 s9 0 0 (frA ev)) s0 D ev 10 0 0 173 [(0, .ref (ev 0 + 65)), (5, .int l5f147), (6, .int l6f147), (7, .int l7f147), (8, .int l8)] (.int t0 :: []) (cells ev X M (nb + 1)) := by
        intro M l8 t0 h
        rw [fX10_copy_b173] at h
        refine g_istore (i := 9) (lv' := [(9, .int t0), (0, .ref (ev 0 + 65)), (5, .int l5f147), (6, .int l6f147), (7, .int l7f147), (8, .int l8)]) F dX10_copy_173 (by decide) rfl ?_
        refine g_aload_n (i := 0) F dX10_copy_175 rfl rfl ?_
        refine g_get_10_33 F wd_12_14 dX10_copy_176 ?_
        refine g_iload (i := 7) F dX10_copy_179 rfl ?_
        refine g_iload (i := 9) F dX10_copy_181 rfl ?_
        refine g_iadd F dX10_copy_183 ?_
        refine g_aload_n (i := 0) F dX10_copy_184 rfl rfl ?_
        refine g_get_10_33 F wd_12_14 dX10_copy_185 ?_
        refine g_iload (i := 6) F dX10_copy_188 rfl ?_
        refine g_iload (i := 9) F dX10_copy_190 rfl ?_
        refine g_iadd F dX10_copy_192 ?_
        obtain ⟨v25, e26, h⟩ := bind_at h
        refine g_ildM F rfl rfl e26 dX10_copy_193 ?_
        obtain ⟨h27, h⟩ := if_at h
        obtain ⟨M28, e29, h⟩ := bd_at h
        refine g_istM F rfl rfl h27 dX10_copy_194 ?_
        rw [← e29]
        refine g_iinc (i := 8) (v := (l8 + (1 : Int32))) (lv' := [(8, .int (l8 + (1 : Int32))), (9, .int t0), (0, .ref (ev 0 + 65)), (5, .int l5f147), (6, .int l6f147), (7, .int l7f147)]) F dX10_copy_195 rfl rfl (by decide) rfl ?_
        refine g_goto (tgt := 147) F dX10_copy_198 (by decide) ?_
        refine g_lv (lv' := [(0, .ref (ev 0 + 65)), (5, .int l5f147), (6, .int l6f147), (7, .int l7f147), (8, .int (l8 + (1 : Int32)))]) ⟨rfl, rfl, rfl, rfl, rfl, trivial⟩ ?_
        exact ih147 _ _ h
      intro M l8 h
      change fX10_copy_l147 l5f147 l6f147 l7f147 (lo2 (fX10_copy_l147 l5f147 l6f147 l7f147) N147) M l8 = some (r', M') at h
      rw [fX10_copy_l147] at h
      refine g_iload (i := 8) F dX10_copy_147 rfl ?_
      refine g_iload (i := 5) F dX10_copy_149 rfl ?_
      refine g_icmp_ge (tgt := 201) F dX10_copy_151 (by decide) h (fun a31 h => ?_) (fun a31 h => ?_)
      · refine g_iload (i := 5) F dX10_copy_201 rfl ?_
        have hp := Prod.mk.inj (Option.some.inj h)
        exact g_iret F hr9 rfl hl9 hp.1 (by rw [hp.2]) (by decide) (by decide) dX10_copy_203
      · refine g_iload (i := 6) F dX10_copy_154 rfl ?_
        refine g_iload (i := 7) F dX10_copy_156 rfl ?_
        refine g_icmp_ge (tgt := 171) F dX10_copy_158 (by decide) h (fun a30 h => ?_) (fun a30 h => ?_)
        · refine g_iload (i := 8) F dX10_copy_171 rfl ?_
          refine g_lv (lv' := [(0, .ref (ev 0 + 65)), (5, .int l5f147), (6, .int l6f147), (7, .int l7f147), (8, .int l8)]) ⟨rfl, rfl, rfl, rfl, rfl, trivial⟩ ?_
          exact U173 _ _ _ h
        · refine g_iload (i := 5) F dX10_copy_161 rfl ?_
          refine g_iconst F dX10_copy_163 (v := 1) (by decide) ?_
          refine g_isub F dX10_copy_164 ?_
          refine g_iload (i := 8) F dX10_copy_165 rfl ?_
          refine g_isub F dX10_copy_167 ?_
          refine g_goto (tgt := 173) F dX10_copy_168 (by decide) ?_
          refine g_lv (lv' := [(0, .ref (ev 0 + 65)), (5, .int l5f147), (6, .int l6f147), (7, .int l7f147), (8, .int l8)]) ⟨rfl, rfl, rfl, rfl, rfl, trivial⟩ ?_
          exact U173 _ _ _ h
  rw [fX10_copy] at h
  refine g_lv (lv' := [(0, .ref (ev 0 + 65)), (1, .int l1), (2, .int l2), (3, .int l3), (4, .int l4), (5, .int l5)]) ⟨rfl, rfl, rfl, rfl, rfl, rfl, trivial⟩ ?_
  refine g_iload_n (i := 1) F dX10_copy_0 rfl rfl ?_
  refine g_iconst F dX10_copy_1 (v := 0) (by decide) ?_
  refine g_iconst F dX10_copy_2 (v := 3) (by decide) ?_
  refine g_callSI F (mcR := 0) (msR := 0) (c_X10_in G0 (X := X) (M := M) (nb := nb) rfl) wd_13_21 wd_13_19 wd_13_20 wd_1_5 ⟨by decide, by decide⟩ (nn := 3) (by decide) (As := [.int l1, .int (0 : Int32), .int (3 : Int32)]) rfl rfl (Nat.le_of_ble_eq_true rfl) (by decide) (by decide) ⟨by decide, by decide⟩ dX10_copy_3 ?_
  refine g_if_eq (tgt := 18) F dX10_copy_6 (by decide) h (fun a43 h => ?_) (fun a43 h => ?_)
  · refine g_bipush F dX10_copy_18 (v := -2) (by decide) ?_
    have hp := Prod.mk.inj (Option.some.inj h)
    exact g_iret F hr9 rfl hl9 hp.1 (by rw [hp.2]) (by decide) (by decide) dX10_copy_20
  · refine g_iload_n (i := 3) F dX10_copy_9 rfl rfl ?_
    refine g_iconst F dX10_copy_10 (v := 0) (by decide) ?_
    refine g_iconst F dX10_copy_11 (v := 3) (by decide) ?_
    refine g_callSI F (mcR := 0) (msR := 0) (c_X10_in G0 (X := X) (M := M) (nb := nb) rfl) wd_13_21 wd_13_19 wd_13_20 wd_1_5 ⟨by decide, by decide⟩ (nn := 3) (by decide) (As := [.int l3, .int (0 : Int32), .int (3 : Int32)]) rfl rfl (Nat.le_of_ble_eq_true rfl) (by decide) (by decide) ⟨by decide, by decide⟩ dX10_copy_12 ?_
    refine g_if_ne (tgt := 21) F dX10_copy_15 (by decide) h (fun a42 h => ?_) (fun a42 h => ?_)
    · refine g_aload_n (i := 0) F dX10_copy_21 rfl rfl ?_
      refine g_get_10_31 F wd_12_12 dX10_copy_22 ?_
      refine g_iload_n (i := 1) F dX10_copy_25 rfl rfl ?_
      obtain ⟨v5, e6, h⟩ := bind_at h
      refine g_ildM F rfl rfl e6 dX10_copy_26 ?_
      refine g_iconst F dX10_copy_27 (v := -1) (by decide) ?_
      refine g_icmp_eq (tgt := 41) F dX10_copy_28 (by decide) h (fun a41 h => ?_) (fun a41 h => ?_)
      · refine g_bipush F dX10_copy_41 (v := -11) (by decide) ?_
        have hp := Prod.mk.inj (Option.some.inj h)
        exact g_iret F hr9 rfl hl9 hp.1 (by rw [hp.2]) (by decide) (by decide) dX10_copy_43
      · refine g_aload_n (i := 0) F dX10_copy_31 rfl rfl ?_
        refine g_get_10_31 F wd_12_12 dX10_copy_32 ?_
        refine g_iload_n (i := 3) F dX10_copy_35 rfl rfl ?_
        obtain ⟨v7, e8, h⟩ := bind_at h
        refine g_ildM F rfl rfl e8 dX10_copy_36 ?_
        refine g_iconst F dX10_copy_37 (v := -1) (by decide) ?_
        refine g_icmp_ne (tgt := 44) F dX10_copy_38 (by decide) h (fun a40 h => ?_) (fun a40 h => ?_)
        · refine g_aload_n (i := 0) F dX10_copy_44 rfl rfl ?_
          refine g_get_10_31 F wd_12_12 dX10_copy_45 ?_
          refine g_iload_n (i := 1) F dX10_copy_48 rfl rfl ?_
          obtain ⟨v9, e10, h⟩ := bind_at h
          refine g_ildM F rfl rfl e10 dX10_copy_49 ?_
          refine g_aload_n (i := 0) F dX10_copy_50 rfl rfl ?_
          refine g_get_10_31 F wd_12_12 dX10_copy_51 ?_
          refine g_iload_n (i := 3) F dX10_copy_54 rfl rfl ?_
          obtain ⟨v11, e12, h⟩ := bind_at h
          refine g_ildM F rfl rfl e12 dX10_copy_55 ?_
          refine g_icmp_eq (tgt := 62) F dX10_copy_56 (by decide) h (fun a39 h => ?_) (fun a39 h => ?_)
          · refine g_iload (i := 5) F dX10_copy_62 rfl ?_
            refine g_if_lt (tgt := 124) F dX10_copy_64 (by decide) h (fun a38 h => ?_) (fun a38 h => ?_)
            · refine g_bipush F dX10_copy_124 (v := -12) (by decide) ?_
              have hp := Prod.mk.inj (Option.some.inj h)
              exact g_iret F hr9 rfl hl9 hp.1 (by rw [hp.2]) (by decide) (by decide) dX10_copy_126
            · refine g_iload_n (i := 2) F dX10_copy_67 rfl rfl ?_
              refine g_if_lt (tgt := 124) F dX10_copy_68 (by decide) h (fun a37 h => ?_) (fun a37 h => ?_)
              · refine g_bipush F dX10_copy_124 (v := -12) (by decide) ?_
                have hp := Prod.mk.inj (Option.some.inj h)
                exact g_iret F hr9 rfl hl9 hp.1 (by rw [hp.2]) (by decide) (by decide) dX10_copy_126
              · refine g_iload (i := 4) F dX10_copy_71 rfl ?_
                refine g_if_lt (tgt := 124) F dX10_copy_73 (by decide) h (fun a36 h => ?_) (fun a36 h => ?_)
                · refine g_bipush F dX10_copy_124 (v := -12) (by decide) ?_
                  have hp := Prod.mk.inj (Option.some.inj h)
                  exact g_iret F hr9 rfl hl9 hp.1 (by rw [hp.2]) (by decide) (by decide) dX10_copy_126
                · refine g_iload_n (i := 2) F dX10_copy_76 rfl rfl ?_
                  refine g_aload_n (i := 0) F dX10_copy_77 rfl rfl ?_
                  refine g_get_10_32 F wd_12_13 dX10_copy_78 ?_
                  refine g_iload_n (i := 1) F dX10_copy_81 rfl rfl ?_
                  obtain ⟨v13, e14, h⟩ := bind_at h
                  refine g_ildM F rfl rfl e14 dX10_copy_82 ?_
                  refine g_icmp_gt (tgt := 124) F dX10_copy_83 (by decide) h (fun a35 h => ?_) (fun a35 h => ?_)
                  · refine g_bipush F dX10_copy_124 (v := -12) (by decide) ?_
                    have hp := Prod.mk.inj (Option.some.inj h)
                    exact g_iret F hr9 rfl hl9 hp.1 (by rw [hp.2]) (by decide) (by decide) dX10_copy_126
                  · refine g_iload (i := 4) F dX10_copy_86 rfl ?_
                    refine g_aload_n (i := 0) F dX10_copy_88 rfl rfl ?_
                    refine g_get_10_32 F wd_12_13 dX10_copy_89 ?_
                    refine g_iload_n (i := 3) F dX10_copy_92 rfl rfl ?_
                    obtain ⟨v15, e16, h⟩ := bind_at h
                    refine g_ildM F rfl rfl e16 dX10_copy_93 ?_
                    refine g_icmp_gt (tgt := 124) F dX10_copy_94 (by decide) h (fun a34 h => ?_) (fun a34 h => ?_)
                    · refine g_bipush F dX10_copy_124 (v := -12) (by decide) ?_
                      have hp := Prod.mk.inj (Option.some.inj h)
                      exact g_iret F hr9 rfl hl9 hp.1 (by rw [hp.2]) (by decide) (by decide) dX10_copy_126
                    · refine g_iload (i := 5) F dX10_copy_97 rfl ?_
                      refine g_aload_n (i := 0) F dX10_copy_99 rfl rfl ?_
                      refine g_get_10_32 F wd_12_13 dX10_copy_100 ?_
                      refine g_iload_n (i := 1) F dX10_copy_103 rfl rfl ?_
                      obtain ⟨v17, e18, h⟩ := bind_at h
                      refine g_ildM F rfl rfl e18 dX10_copy_104 ?_
                      refine g_iload_n (i := 2) F dX10_copy_105 rfl rfl ?_
                      refine g_isub F dX10_copy_106 ?_
                      refine g_icmp_gt (tgt := 124) F dX10_copy_107 (by decide) h (fun a33 h => ?_) (fun a33 h => ?_)
                      · refine g_bipush F dX10_copy_124 (v := -12) (by decide) ?_
                        have hp := Prod.mk.inj (Option.some.inj h)
                        exact g_iret F hr9 rfl hl9 hp.1 (by rw [hp.2]) (by decide) (by decide) dX10_copy_126
                      · refine g_iload (i := 5) F dX10_copy_110 rfl ?_
                        refine g_aload_n (i := 0) F dX10_copy_112 rfl rfl ?_
                        refine g_get_10_32 F wd_12_13 dX10_copy_113 ?_
                        refine g_iload_n (i := 3) F dX10_copy_116 rfl rfl ?_
                        obtain ⟨v19, e20, h⟩ := bind_at h
                        refine g_ildM F rfl rfl e20 dX10_copy_117 ?_
                        refine g_iload (i := 4) F dX10_copy_118 rfl ?_
                        refine g_isub F dX10_copy_120 ?_
                        refine g_icmp_le (tgt := 127) F dX10_copy_121 (by decide) h (fun a32 h => ?_) (fun a32 h => ?_)
                        · refine g_bipush F dX10_copy_127 (v := 40) (by decide) ?_
                          refine g_iload_n (i := 1) F dX10_copy_129 rfl rfl ?_
                          refine g_imul F dX10_copy_130 ?_
                          refine g_iload_n (i := 2) F dX10_copy_131 rfl rfl ?_
                          refine g_iadd F dX10_copy_132 ?_
                          refine g_topi F h (fun v21 e22 h => ?_)
                          refine g_istore (i := 6) (lv' := [(6, .int v21), (0, .ref (ev 0 + 65)), (1, .int l1), (2, .int l2), (3, .int l3), (4, .int l4), (5, .int l5)]) F dX10_copy_133 (by decide) rfl ?_
                          refine g_bipush F dX10_copy_135 (v := 40) (by decide) ?_
                          refine g_iload_n (i := 3) F dX10_copy_137 rfl rfl ?_
                          refine g_imul F dX10_copy_138 ?_
                          refine g_iload (i := 4) F dX10_copy_139 rfl ?_
                          refine g_iadd F dX10_copy_141 ?_
                          refine g_topi F h (fun v23 e24 h => ?_)
                          refine g_istore (i := 7) (lv' := [(7, .int v23), (6, .int v21), (0, .ref (ev 0 + 65)), (1, .int l1), (2, .int l2), (3, .int l3), (4, .int l4), (5, .int l5)]) F dX10_copy_142 (by decide) rfl ?_
                          refine g_iconst F dX10_copy_144 (v := 0) (by decide) ?_
                          refine g_istore (i := 8) (lv' := [(8, .int (0 : Int32)), (7, .int v23), (6, .int v21), (0, .ref (ev 0 + 65)), (1, .int l1), (2, .int l2), (3, .int l3), (4, .int l4), (5, .int l5)]) F dX10_copy_145 (by decide) rfl ?_
                          refine g_lv (lv' := [(0, .ref (ev 0 + 65)), (5, .int l5), (6, .int v21), (7, .int v23), (8, .int (0 : Int32))]) ⟨rfl, rfl, rfl, rfl, rfl, trivial⟩ ?_
                          exact L147 _ _ _ FU _ _ h
                        · refine g_bipush F dX10_copy_124 (v := -12) (by decide) ?_
                          have hp := Prod.mk.inj (Option.some.inj h)
                          exact g_iret F hr9 rfl hl9 hp.1 (by rw [hp.2]) (by decide) (by decide) dX10_copy_126
          · refine g_bipush F dX10_copy_59 (v := -13) (by decide) ?_
            have hp := Prod.mk.inj (Option.some.inj h)
            exact g_iret F hr9 rfl hl9 hp.1 (by rw [hp.2]) (by decide) (by decide) dX10_copy_61
        · refine g_bipush F dX10_copy_41 (v := -11) (by decide) ?_
          have hp := Prod.mk.inj (Option.some.inj h)
          exact g_iret F hr9 rfl hl9 hp.1 (by rw [hp.2]) (by decide) (by decide) dX10_copy_43
    · refine g_bipush F dX10_copy_18 (v := -2) (by decide) ?_
      have hp := Prod.mk.inj (Option.some.inj h)
      exact g_iret F hr9 rfl hl9 hp.1 (by rw [hp.2]) (by decide) (by decide) dX10_copy_20
def fX10_boatsBy_l64 (l1f64 : Int32) (l3f64 : Int32) (l4f64 : Int32) (K64 : MW → Int32 → Int32 → Option (Int32 × MW)) (M : MW) (l5 : Int32) (l6 : Int32) : Option (Int32 × MW) :=
  if l4f64 ≤ l6 then some (l5, M)
  else bd (l3f64 + ((4 : Int32) * l6)) fun v11 =>
  if l3f64 < 0 then some ((-12 : Int32), M)
  else if v11 < l3f64 then some ((-12 : Int32), M)
  else (rd (M.2 89) 4 l1f64).bind fun v13 =>
  if v11 ≤ (v13 - (4 : Int32)) then bd (((40 : Int32) * l1f64) + v11) fun v15 =>
  (rd (M.2 90) 160 v15).bind fun v17 =>
  (rd (M.2 90) 160 (v15 + (1 : Int32))).bind fun v19 =>
  (rd (M.2 90) 160 (v15 + (2 : Int32))).bind fun v21 =>
  (rd (M.2 90) 160 (v15 + (3 : Int32))).bind fun v23 =>
  bd2 (fX10_boat M v17 v19 v21 v23) fun v26 M25 =>
  if v26 < 0 then bd (l5 + (0 : Int32)) fun v28 =>
  K64 M25 v28 (l6 + (1 : Int32))
  else bd (l5 + (1 : Int32)) fun v30 =>
  K64 M25 v30 (l6 + (1 : Int32))
  else some ((-12 : Int32), M)
def fX10_boatsBy (M : MW) (l1 : Int32) (l2 : Int32) (l3 : Int32) (l4 : Int32) : Option (Int32 × MW) :=
  if (fX10_in l1 (0 : Int32) (3 : Int32)) = 0 then some ((-2 : Int32), M)
  else if (fX10_in l2 (0 : Int32) (2 : Int32)) = 0 then some ((-2 : Int32), M)
  else if (fX10_in l4 (0 : Int32) (6 : Int32)) = 0 then some ((-2 : Int32), M)
  else (rd (M.2 88) 4 l1).bind fun v7 =>
  if v7 = (-1 : Int32) then some ((-11 : Int32), M)
  else (rd (M.2 88) 4 l1).bind fun v9 =>
  if v9 = l2 then lo3 (fX10_boatsBy_l64 l1 l3 l4) FU M (0 : Int32) (0 : Int32)
  else some ((-13 : Int32), M)
set_option maxRecDepth 100000 in
set_option maxHeartbeats 4000000 in
theorem c_X10_boatsBy {l : Launch} {s0 : State} {D : va_G} {ev : Nat → Nat} (G0 : Gl s0 D ev) {X : XW} {M : MW} {nb : Nat} {l1 : Int32} {l2 : Int32} {l3 : Int32} {l4 : Int32} {r' : Int32} {M' : MW}  (h : fX10_boatsBy M l1 l2 l3 l4 = some (r', M')) : CT l s0 D ev yX10_boatsBy cX10_boatsBy 9 (some .int) 3 0 0 [.ref (ev 0 + 65), .int l1, .int l2, .int l3, .int l4] (cells ev X M (nb + 1)) (QI s0 D ev r' (cells ev X M' (nb + 1))) := by
  refine ct_of G0 (by decide) (Nat.le_of_ble_eq_true rfl) ?_
  intro p9 e9 s9 m9 args9 below9 meth9 c9 F hr9 hl9 hin9 hargs9 hts9
  have L64 : ∀ (l1f64 : Int32) (l3f64 : Int32) (l4f64 : Int32) (N64 : Nat) (M : MW) (l5 : Int32) (l6 : Int32), lo3 (fX10_boatsBy_l64 l1f64 l3f64 l4f64) N64 M l5 l6 = some (r', M') → GJ p9 l e9 (rg 3 0 0) s9 m9 args9 below9 meth9 c9 (MQ below9 (QI s0 D ev r' (cells ev X M' (nb + 1))) args9 s9 0 0 (frA ev)) s0 D ev 9 0 0 64 [(0, .ref (ev 0 + 65)), (1, .int l1f64), (3, .int l3f64), (4, .int l4f64), (5, .int l5), (6, .int l6)] ([]) (cells ev X M (nb + 1)) := by
    intro l1f64 l3f64 l4f64 N64
    induction N64 with
    | zero => intro M l5 l6 h; cases h
    | succ N64 ih64 =>
      intro M l5 l6 h
      change fX10_boatsBy_l64 l1f64 l3f64 l4f64 (lo3 (fX10_boatsBy_l64 l1f64 l3f64 l4f64) N64) M l5 l6 = some (r', M') at h
      rw [fX10_boatsBy_l64] at h
      refine g_iload (i := 6) F dX10_boatsBy_64 rfl ?_
      refine g_iload (i := 4) F dX10_boatsBy_66 rfl ?_
      refine g_icmp_ge (tgt := 171) F dX10_boatsBy_68 (by decide) h (fun a36 h => ?_) (fun a36 h => ?_)
      · refine g_iload (i := 5) F dX10_boatsBy_171 rfl ?_
        have hp := Prod.mk.inj (Option.some.inj h)
        exact g_iret F hr9 rfl hl9 hp.1 (by rw [hp.2]) (by decide) (by decide) dX10_boatsBy_173
      · refine g_iload_n (i := 3) F dX10_boatsBy_71 rfl rfl ?_
        refine g_iconst F dX10_boatsBy_72 (v := 4) (by decide) ?_
        refine g_iload (i := 6) F dX10_boatsBy_73 rfl ?_
        refine g_imul F dX10_boatsBy_75 ?_
        refine g_iadd F dX10_boatsBy_76 ?_
        refine g_topi F h (fun v11 e12 h => ?_)
        refine g_istore (i := 7) (lv' := [(7, .int v11), (0, .ref (ev 0 + 65)), (1, .int l1f64), (3, .int l3f64), (4, .int l4f64), (5, .int l5), (6, .int l6)]) F dX10_boatsBy_77 (by decide) rfl ?_
        refine g_iload_n (i := 3) F dX10_boatsBy_79 rfl rfl ?_
        refine g_if_lt (tgt := 102) F dX10_boatsBy_80 (by decide) h (fun a35 h => ?_) (fun a35 h => ?_)
        · refine g_bipush F dX10_boatsBy_102 (v := -12) (by decide) ?_
          have hp := Prod.mk.inj (Option.some.inj h)
          exact g_iret F hr9 rfl hl9 hp.1 (by rw [hp.2]) (by decide) (by decide) dX10_boatsBy_104
        · refine g_iload (i := 7) F dX10_boatsBy_83 rfl ?_
          refine g_iload_n (i := 3) F dX10_boatsBy_85 rfl rfl ?_
          refine g_icmp_lt (tgt := 102) F dX10_boatsBy_86 (by decide) h (fun a34 h => ?_) (fun a34 h => ?_)
          · refine g_bipush F dX10_boatsBy_102 (v := -12) (by decide) ?_
            have hp := Prod.mk.inj (Option.some.inj h)
            exact g_iret F hr9 rfl hl9 hp.1 (by rw [hp.2]) (by decide) (by decide) dX10_boatsBy_104
          · refine g_iload (i := 7) F dX10_boatsBy_89 rfl ?_
            refine g_aload_n (i := 0) F dX10_boatsBy_91 rfl rfl ?_
            refine g_get_10_32 F wd_12_13 dX10_boatsBy_92 ?_
            refine g_iload_n (i := 1) F dX10_boatsBy_95 rfl rfl ?_
            obtain ⟨v13, e14, h⟩ := bind_at h
            refine g_ildM F rfl rfl e14 dX10_boatsBy_96 ?_
            refine g_iconst F dX10_boatsBy_97 (v := 4) (by decide) ?_
            refine g_isub F dX10_boatsBy_98 ?_
            refine g_icmp_le (tgt := 105) F dX10_boatsBy_99 (by decide) h (fun a33 h => ?_) (fun a33 h => ?_)
            · refine g_bipush F dX10_boatsBy_105 (v := 40) (by decide) ?_
              refine g_iload_n (i := 1) F dX10_boatsBy_107 rfl rfl ?_
              refine g_imul F dX10_boatsBy_108 ?_
              refine g_iload (i := 7) F dX10_boatsBy_109 rfl ?_
              refine g_iadd F dX10_boatsBy_111 ?_
              refine g_topi F h (fun v15 e16 h => ?_)
              refine g_istore (i := 8) (lv' := [(8, .int v15), (7, .int v11), (0, .ref (ev 0 + 65)), (1, .int l1f64), (3, .int l3f64), (4, .int l4f64), (5, .int l5), (6, .int l6)]) F dX10_boatsBy_112 (by decide) rfl ?_
              refine g_iload (i := 5) F dX10_boatsBy_114 rfl ?_
              refine g_aload_n (i := 0) F dX10_boatsBy_116 rfl rfl ?_
              refine g_aload_n (i := 0) F dX10_boatsBy_117 rfl rfl ?_
              refine g_get_10_33 F wd_12_14 dX10_boatsBy_118 ?_
              refine g_iload (i := 8) F dX10_boatsBy_121 rfl ?_
              obtain ⟨v17, e18, h⟩ := bind_at h
              refine g_ildM F rfl rfl e18 dX10_boatsBy_123 ?_
              refine g_aload_n (i := 0) F dX10_boatsBy_124 rfl rfl ?_
              refine g_get_10_33 F wd_12_14 dX10_boatsBy_125 ?_
              refine g_iload (i := 8) F dX10_boatsBy_128 rfl ?_
              refine g_iconst F dX10_boatsBy_130 (v := 1) (by decide) ?_
              refine g_iadd F dX10_boatsBy_131 ?_
              obtain ⟨v19, e20, h⟩ := bind_at h
              refine g_ildM F rfl rfl e20 dX10_boatsBy_132 ?_
              refine g_aload_n (i := 0) F dX10_boatsBy_133 rfl rfl ?_
              refine g_get_10_33 F wd_12_14 dX10_boatsBy_134 ?_
              refine g_iload (i := 8) F dX10_boatsBy_137 rfl ?_
              refine g_iconst F dX10_boatsBy_139 (v := 2) (by decide) ?_
              refine g_iadd F dX10_boatsBy_140 ?_
              obtain ⟨v21, e22, h⟩ := bind_at h
              refine g_ildM F rfl rfl e22 dX10_boatsBy_141 ?_
              refine g_aload_n (i := 0) F dX10_boatsBy_142 rfl rfl ?_
              refine g_get_10_33 F wd_12_14 dX10_boatsBy_143 ?_
              refine g_iload (i := 8) F dX10_boatsBy_146 rfl ?_
              refine g_iconst F dX10_boatsBy_148 (v := 3) (by decide) ?_
              refine g_iadd F dX10_boatsBy_149 ?_
              obtain ⟨v23, e24, h⟩ := bind_at h
              refine g_ildM F rfl rfl e24 dX10_boatsBy_150 ?_
              obtain ⟨v26, M25, e27, h⟩ := bd2_at h
              refine g_callVI F (mcR := 0) (msR := 0) (id := 65) (cells_at (kd_hidM (show kd 65 = 10 from rfl) (by decide)) (xc_10 rfl)) (ci := 10) rfl rfl rfl (c_X10_boat G0 e27) wd_22_13 wd_52_3 wd_22_11 wd_22_12 wd_1_5 ⟨by decide, by decide⟩ (nn := 4) (by decide) (As := [.int v17, .int v19, .int v21, .int v23]) rfl rfl (Nat.le_of_ble_eq_true rfl) (by decide) (by decide) ⟨by decide, by decide⟩ dX10_boatsBy_151 ?_
              refine g_if_lt (tgt := 161) F dX10_boatsBy_154 (by decide) h (fun a32 h => ?_) (fun a32 h => ?_)
              · refine g_iconst F dX10_boatsBy_161 (v := 0) (by decide) ?_
                refine g_iadd F dX10_boatsBy_162 ?_
                refine g_topi F h (fun v28 e29 h => ?_)
                refine g_istore (i := 5) (lv' := [(5, .int v28), (8, .int v15), (7, .int v11), (0, .ref (ev 0 + 65)), (1, .int l1f64), (3, .int l3f64), (4, .int l4f64), (6, .int l6)]) F dX10_boatsBy_163 (by decide) rfl ?_
                refine g_iinc (i := 6) (v := (l6 + (1 : Int32))) (lv' := [(6, .int (l6 + (1 : Int32))), (5, .int v28), (8, .int v15), (7, .int v11), (0, .ref (ev 0 + 65)), (1, .int l1f64), (3, .int l3f64), (4, .int l4f64)]) F dX10_boatsBy_165 rfl rfl (by decide) rfl ?_
                refine g_goto (tgt := 64) F dX10_boatsBy_168 (by decide) ?_
                refine g_lv (lv' := [(0, .ref (ev 0 + 65)), (1, .int l1f64), (3, .int l3f64), (4, .int l4f64), (5, .int v28), (6, .int (l6 + (1 : Int32)))]) ⟨rfl, rfl, rfl, rfl, rfl, rfl, trivial⟩ ?_
                exact ih64 _ _ _ h
              · refine g_iconst F dX10_boatsBy_157 (v := 1) (by decide) ?_
                refine g_goto (tgt := 162) F dX10_boatsBy_158 (by decide) ?_
                refine g_iadd F dX10_boatsBy_162 ?_
                refine g_topi F h (fun v30 e31 h => ?_)
                refine g_istore (i := 5) (lv' := [(5, .int v30), (8, .int v15), (7, .int v11), (0, .ref (ev 0 + 65)), (1, .int l1f64), (3, .int l3f64), (4, .int l4f64), (6, .int l6)]) F dX10_boatsBy_163 (by decide) rfl ?_
                refine g_iinc (i := 6) (v := (l6 + (1 : Int32))) (lv' := [(6, .int (l6 + (1 : Int32))), (5, .int v30), (8, .int v15), (7, .int v11), (0, .ref (ev 0 + 65)), (1, .int l1f64), (3, .int l3f64), (4, .int l4f64)]) F dX10_boatsBy_165 rfl rfl (by decide) rfl ?_
                refine g_goto (tgt := 64) F dX10_boatsBy_168 (by decide) ?_
                refine g_lv (lv' := [(0, .ref (ev 0 + 65)), (1, .int l1f64), (3, .int l3f64), (4, .int l4f64), (5, .int v30), (6, .int (l6 + (1 : Int32)))]) ⟨rfl, rfl, rfl, rfl, rfl, rfl, trivial⟩ ?_
                exact ih64 _ _ _ h
            · refine g_bipush F dX10_boatsBy_102 (v := -12) (by decide) ?_
              have hp := Prod.mk.inj (Option.some.inj h)
              exact g_iret F hr9 rfl hl9 hp.1 (by rw [hp.2]) (by decide) (by decide) dX10_boatsBy_104
  rw [fX10_boatsBy] at h
  refine g_lv (lv' := [(0, .ref (ev 0 + 65)), (1, .int l1), (2, .int l2), (3, .int l3), (4, .int l4)]) ⟨rfl, rfl, rfl, rfl, rfl, trivial⟩ ?_
  refine g_iload_n (i := 1) F dX10_boatsBy_0 rfl rfl ?_
  refine g_iconst F dX10_boatsBy_1 (v := 0) (by decide) ?_
  refine g_iconst F dX10_boatsBy_2 (v := 3) (by decide) ?_
  refine g_callSI F (mcR := 0) (msR := 0) (c_X10_in G0 (X := X) (M := M) (nb := nb) rfl) wd_13_21 wd_13_19 wd_13_20 wd_1_5 ⟨by decide, by decide⟩ (nn := 3) (by decide) (As := [.int l1, .int (0 : Int32), .int (3 : Int32)]) rfl rfl (Nat.le_of_ble_eq_true rfl) (by decide) (by decide) ⟨by decide, by decide⟩ dX10_boatsBy_3 ?_
  refine g_if_eq (tgt := 29) F dX10_boatsBy_6 (by decide) h (fun a41 h => ?_) (fun a41 h => ?_)
  · refine g_bipush F dX10_boatsBy_29 (v := -2) (by decide) ?_
    have hp := Prod.mk.inj (Option.some.inj h)
    exact g_iret F hr9 rfl hl9 hp.1 (by rw [hp.2]) (by decide) (by decide) dX10_boatsBy_31
  · refine g_iload_n (i := 2) F dX10_boatsBy_9 rfl rfl ?_
    refine g_iconst F dX10_boatsBy_10 (v := 0) (by decide) ?_
    refine g_iconst F dX10_boatsBy_11 (v := 2) (by decide) ?_
    refine g_callSI F (mcR := 0) (msR := 0) (c_X10_in G0 (X := X) (M := M) (nb := nb) rfl) wd_13_21 wd_13_19 wd_13_20 wd_1_5 ⟨by decide, by decide⟩ (nn := 3) (by decide) (As := [.int l2, .int (0 : Int32), .int (2 : Int32)]) rfl rfl (Nat.le_of_ble_eq_true rfl) (by decide) (by decide) ⟨by decide, by decide⟩ dX10_boatsBy_12 ?_
    refine g_if_eq (tgt := 29) F dX10_boatsBy_15 (by decide) h (fun a40 h => ?_) (fun a40 h => ?_)
    · refine g_bipush F dX10_boatsBy_29 (v := -2) (by decide) ?_
      have hp := Prod.mk.inj (Option.some.inj h)
      exact g_iret F hr9 rfl hl9 hp.1 (by rw [hp.2]) (by decide) (by decide) dX10_boatsBy_31
    · refine g_iload (i := 4) F dX10_boatsBy_18 rfl ?_
      refine g_iconst F dX10_boatsBy_20 (v := 0) (by decide) ?_
      refine g_bipush F dX10_boatsBy_21 (v := 6) (by decide) ?_
      refine g_callSI F (mcR := 0) (msR := 0) (c_X10_in G0 (X := X) (M := M) (nb := nb) rfl) wd_13_21 wd_13_19 wd_13_20 wd_1_5 ⟨by decide, by decide⟩ (nn := 3) (by decide) (As := [.int l4, .int (0 : Int32), .int (6 : Int32)]) rfl rfl (Nat.le_of_ble_eq_true rfl) (by decide) (by decide) ⟨by decide, by decide⟩ dX10_boatsBy_23 ?_
      refine g_if_ne (tgt := 32) F dX10_boatsBy_26 (by decide) h (fun a39 h => ?_) (fun a39 h => ?_)
      · refine g_aload_n (i := 0) F dX10_boatsBy_32 rfl rfl ?_
        refine g_get_10_31 F wd_12_12 dX10_boatsBy_33 ?_
        refine g_iload_n (i := 1) F dX10_boatsBy_36 rfl rfl ?_
        obtain ⟨v7, e8, h⟩ := bind_at h
        refine g_ildM F rfl rfl e8 dX10_boatsBy_37 ?_
        refine g_iconst F dX10_boatsBy_38 (v := -1) (by decide) ?_
        refine g_icmp_ne (tgt := 45) F dX10_boatsBy_39 (by decide) h (fun a38 h => ?_) (fun a38 h => ?_)
        · refine g_aload_n (i := 0) F dX10_boatsBy_45 rfl rfl ?_
          refine g_get_10_31 F wd_12_12 dX10_boatsBy_46 ?_
          refine g_iload_n (i := 1) F dX10_boatsBy_49 rfl rfl ?_
          obtain ⟨v9, e10, h⟩ := bind_at h
          refine g_ildM F rfl rfl e10 dX10_boatsBy_50 ?_
          refine g_iload_n (i := 2) F dX10_boatsBy_51 rfl rfl ?_
          refine g_icmp_eq (tgt := 58) F dX10_boatsBy_52 (by decide) h (fun a37 h => ?_) (fun a37 h => ?_)
          · refine g_iconst F dX10_boatsBy_58 (v := 0) (by decide) ?_
            refine g_istore (i := 5) (lv' := [(5, .int (0 : Int32)), (0, .ref (ev 0 + 65)), (1, .int l1), (2, .int l2), (3, .int l3), (4, .int l4)]) F dX10_boatsBy_59 (by decide) rfl ?_
            refine g_iconst F dX10_boatsBy_61 (v := 0) (by decide) ?_
            refine g_istore (i := 6) (lv' := [(6, .int (0 : Int32)), (5, .int (0 : Int32)), (0, .ref (ev 0 + 65)), (1, .int l1), (2, .int l2), (3, .int l3), (4, .int l4)]) F dX10_boatsBy_62 (by decide) rfl ?_
            refine g_lv (lv' := [(0, .ref (ev 0 + 65)), (1, .int l1), (3, .int l3), (4, .int l4), (5, .int (0 : Int32)), (6, .int (0 : Int32))]) ⟨rfl, rfl, rfl, rfl, rfl, rfl, trivial⟩ ?_
            exact L64 _ _ _ FU _ _ _ h
          · refine g_bipush F dX10_boatsBy_55 (v := -13) (by decide) ?_
            have hp := Prod.mk.inj (Option.some.inj h)
            exact g_iret F hr9 rfl hl9 hp.1 (by rw [hp.2]) (by decide) (by decide) dX10_boatsBy_57
        · refine g_bipush F dX10_boatsBy_42 (v := -11) (by decide) ?_
          have hp := Prod.mk.inj (Option.some.inj h)
          exact g_iret F hr9 rfl hl9 hp.1 (by rw [hp.2]) (by decide) (by decide) dX10_boatsBy_44
      · refine g_bipush F dX10_boatsBy_29 (v := -2) (by decide) ?_
        have hp := Prod.mk.inj (Option.some.inj h)
        exact g_iret F hr9 rfl hl9 hp.1 (by rw [hp.2]) (by decide) (by decide) dX10_boatsBy_31
def fX10_isUnder (l0 : Int32) (l1 : Int32) : Int32 :=
  if l1 = 0 then (1 : Int32)
  else if l0 = l1 then (1 : Int32)
  else if l1 = (1 : Int32) then if l0 = (4 : Int32) then (1 : Int32)
  else if l0 = (5 : Int32) then (1 : Int32)
  else (0 : Int32)
  else (0 : Int32)
set_option maxRecDepth 100000 in
set_option maxHeartbeats 4000000 in
theorem c_X10_isUnder {l : Launch} {s0 : State} {D : va_G} {ev : Nat → Nat} (G0 : Gl s0 D ev) {X : XW} {M : MW} {nb : Nat} {l0 : Int32} {l1 : Int32} {r' : Int32}  (h : fX10_isUnder l0 l1 = r') : CT l s0 D ev yX10_isUnder cX10_isUnder 2 (some .boolean) 0 0 0 [.int l0, .int l1] (cells ev X M (nb + 1)) (QI s0 D ev r' (cells ev X M (nb + 1))) := by
  refine ct_of G0 (by decide) (Nat.le_of_ble_eq_true rfl) ?_
  intro p9 e9 s9 m9 args9 below9 meth9 c9 F hr9 hl9 hin9 hargs9 hts9
  rw [fX10_isUnder] at h
  refine g_lv (lv' := [(0, .int l0), (1, .int l1)]) ⟨rfl, rfl, trivial⟩ ?_
  refine g_iload_n (i := 1) F dX10_isUnder_0 rfl rfl ?_
  refine g_if_eq (tgt := 24) F dX10_isUnder_1 (by decide) h (fun a5 h => ?_) (fun a5 h => ?_)
  · refine g_iconst F dX10_isUnder_24 (v := 1) (by decide) ?_
    refine g_goto (tgt := 29) F dX10_isUnder_25 (by decide) ?_
    exact g_iret F hr9 (by decide) hl9 h rfl (by decide) (by decide) dX10_isUnder_29
  · refine g_iload_n (i := 0) F dX10_isUnder_4 rfl rfl ?_
    refine g_iload_n (i := 1) F dX10_isUnder_5 rfl rfl ?_
    refine g_icmp_eq (tgt := 24) F dX10_isUnder_6 (by decide) h (fun a4 h => ?_) (fun a4 h => ?_)
    · refine g_iconst F dX10_isUnder_24 (v := 1) (by decide) ?_
      refine g_goto (tgt := 29) F dX10_isUnder_25 (by decide) ?_
      exact g_iret F hr9 (by decide) hl9 h rfl (by decide) (by decide) dX10_isUnder_29
    · refine g_iload_n (i := 1) F dX10_isUnder_9 rfl rfl ?_
      refine g_iconst F dX10_isUnder_10 (v := 1) (by decide) ?_
      refine g_icmp_ne (tgt := 28) F dX10_isUnder_11 (by decide) h (fun a3 h => ?_) (fun a3 h => ?_)
      · refine g_iconst F dX10_isUnder_28 (v := 0) (by decide) ?_
        exact g_iret F hr9 (by decide) hl9 h rfl (by decide) (by decide) dX10_isUnder_29
      · refine g_iload_n (i := 0) F dX10_isUnder_14 rfl rfl ?_
        refine g_iconst F dX10_isUnder_15 (v := 4) (by decide) ?_
        refine g_icmp_eq (tgt := 24) F dX10_isUnder_16 (by decide) h (fun a2 h => ?_) (fun a2 h => ?_)
        · refine g_iconst F dX10_isUnder_24 (v := 1) (by decide) ?_
          refine g_goto (tgt := 29) F dX10_isUnder_25 (by decide) ?_
          exact g_iret F hr9 (by decide) hl9 h rfl (by decide) (by decide) dX10_isUnder_29
        · refine g_iload_n (i := 0) F dX10_isUnder_19 rfl rfl ?_
          refine g_iconst F dX10_isUnder_20 (v := 5) (by decide) ?_
          refine g_icmp_ne (tgt := 28) F dX10_isUnder_21 (by decide) h (fun a1 h => ?_) (fun a1 h => ?_)
          · refine g_iconst F dX10_isUnder_28 (v := 0) (by decide) ?_
            exact g_iret F hr9 (by decide) hl9 h rfl (by decide) (by decide) dX10_isUnder_29
          · refine g_iconst F dX10_isUnder_24 (v := 1) (by decide) ?_
            refine g_goto (tgt := 29) F dX10_isUnder_25 (by decide) ?_
            exact g_iret F hr9 (by decide) hl9 h rfl (by decide) (by decide) dX10_isUnder_29
theorem b_X10_isUnder {l0 : Int32} {l1 : Int32} : (fX10_isUnder l0 l1) = 0 ∨ (fX10_isUnder l0 l1) = 1 := by
  unfold fX10_isUnder
  (repeat' split) <;> first | exact Or.inl rfl | exact Or.inr rfl
def fX10_taken_b75 (M : MW) (l1 : Int32) (l2 : Int32) : Option Int32 :=
  (rd (M.2 66) 100 l1).bind fun v5 =>
  if v5 = 0 then some (-11 : Int32)
  else if l2 = (6 : Int32) then (rd (M.2 66) 100 l1).bind fun v7 =>
  (rd (M.2 67) 100 l1).bind fun v9 =>
  some (((10 : Int32) * v7) + v9)
  else some (-13 : Int32)
def fX10_taken_b43 (M : MW) (l2 : Int32) (l3 : Int32) : Option Int32 :=
  if (6 : Int32) ≤ l2 then some (-13 : Int32)
  else (rd (M.2 73) 6 l3).bind fun v15 =>
  if (fX10_isUnder v15 l2) = 0 then some (-13 : Int32)
  else some l3
def fX10_taken_l25 (M : MW) (l1f25 : Int32) (l2f25 : Int32) (K25 : Int32 → Option Int32) (l3 : Int32) : Option Int32 :=
  if (M.1 8) ≤ l3 then fX10_taken_b75 M l1f25 l2f25
  else (rd (M.2 77) 6 l3).bind fun v13 =>
  if v13 = l1f25 then fX10_taken_b43 M l2f25 l3
  else K25 (l3 + (1 : Int32))
def fX10_taken (M : MW) (l1 : Int32) (l2 : Int32) : Option Int32 :=
  if (fX10_in l2 (0 : Int32) (6 : Int32)) = 0 then some (-2 : Int32)
  else if (fX10_isCell l1) = 0 then some (-12 : Int32)
  else lo1 (fX10_taken_l25 M l1 l2) FU (0 : Int32)
set_option maxRecDepth 100000 in
set_option maxHeartbeats 4000000 in
theorem c_X10_taken {l : Launch} {s0 : State} {D : va_G} {ev : Nat → Nat} (G0 : Gl s0 D ev) {X : XW} {M : MW} {nb : Nat} {l1 : Int32} {l2 : Int32} {r' : Int32}  (h : fX10_taken M l1 l2 = some r') : CT l s0 D ev yX10_taken cX10_taken 4 (some .int) 2 0 0 [.ref (ev 0 + 65), .int l1, .int l2] (cells ev X M (nb + 1)) (QI s0 D ev r' (cells ev X M (nb + 1))) := by
  refine ct_of G0 (by decide) (Nat.le_of_ble_eq_true rfl) ?_
  intro p9 e9 s9 m9 args9 below9 meth9 c9 F hr9 hl9 hin9 hargs9 hts9
  have U75 : ∀ (l1 : Int32) (l2 : Int32), fX10_taken_b75 M l1 l2 = some r' → GJ p9 l e9 (rg 2 0 0) s9 m9 args9 below9 meth9 c9 (MQ below9 (QI s0 D ev r' (cells ev X M (nb + 1))) args9 s9 0 0 (frA ev)) s0 D ev 4 0 0 75 [(0, .ref (ev 0 + 65)), (1, .int l1), (2, .int l2)] ([]) (cells ev X M (nb + 1)) := by
    intro l1 l2 h
    rw [fX10_taken_b75] at h
    refine g_aload_n (i := 0) F dX10_taken_75 rfl rfl ?_
    refine g_get_10_0 F wd_11_14 dX10_taken_76 ?_
    refine g_iload_n (i := 1) F dX10_taken_79 rfl rfl ?_
    obtain ⟨v5, e6, h⟩ := bind_at h
    refine g_ildM F rfl rfl e6 dX10_taken_80 ?_
    refine g_if_ne (tgt := 89) F dX10_taken_81 (by decide) h (fun a12 h => ?_) (fun a12 h => ?_)
    · refine g_iload_n (i := 2) F dX10_taken_89 rfl rfl ?_
      refine g_bipush F dX10_taken_90 (v := 6) (by decide) ?_
      refine g_icmp_ne (tgt := 114) F dX10_taken_92 (by decide) h (fun a11 h => ?_) (fun a11 h => ?_)
      · refine g_bipush F dX10_taken_114 (v := -13) (by decide) ?_
        exact g_iret F hr9 rfl hl9 (Option.some.inj h) rfl (by decide) (by decide) dX10_taken_116
      · refine g_bipush F dX10_taken_95 (v := 10) (by decide) ?_
        refine g_aload_n (i := 0) F dX10_taken_97 rfl rfl ?_
        refine g_get_10_0 F wd_11_14 dX10_taken_98 ?_
        refine g_iload_n (i := 1) F dX10_taken_101 rfl rfl ?_
        obtain ⟨v7, e8, h⟩ := bind_at h
        refine g_ildM F rfl rfl e8 dX10_taken_102 ?_
        refine g_imul F dX10_taken_103 ?_
        refine g_aload_n (i := 0) F dX10_taken_104 rfl rfl ?_
        refine g_get_10_1 F wd_11_15 dX10_taken_105 ?_
        refine g_iload_n (i := 1) F dX10_taken_108 rfl rfl ?_
        obtain ⟨v9, e10, h⟩ := bind_at h
        refine g_ildM F rfl rfl e10 dX10_taken_109 ?_
        refine g_iadd F dX10_taken_110 ?_
        refine g_goto (tgt := 116) F dX10_taken_111 (by decide) ?_
        exact g_iret F hr9 rfl hl9 (Option.some.inj h) rfl (by decide) (by decide) dX10_taken_116
    · refine g_bipush F dX10_taken_84 (v := -11) (by decide) ?_
      refine g_goto (tgt := 116) F dX10_taken_86 (by decide) ?_
      exact g_iret F hr9 rfl hl9 (Option.some.inj h) rfl (by decide) (by decide) dX10_taken_116
  have U43 : ∀ (l2 : Int32) (l3 : Int32), fX10_taken_b43 M l2 l3 = some r' → GJ p9 l e9 (rg 2 0 0) s9 m9 args9 below9 meth9 c9 (MQ below9 (QI s0 D ev r' (cells ev X M (nb + 1))) args9 s9 0 0 (frA ev)) s0 D ev 4 0 0 43 [(0, .ref (ev 0 + 65)), (2, .int l2), (3, .int l3)] ([]) (cells ev X M (nb + 1)) := by
    intro l2 l3 h
    rw [fX10_taken_b43] at h
    refine g_iload_n (i := 2) F dX10_taken_43 rfl rfl ?_
    refine g_bipush F dX10_taken_44 (v := 6) (by decide) ?_
    refine g_icmp_ge (tgt := 66) F dX10_taken_46 (by decide) h (fun a20 h => ?_) (fun a20 h => ?_)
    · refine g_bipush F dX10_taken_66 (v := -13) (by decide) ?_
      exact g_iret F hr9 rfl hl9 (Option.some.inj h) rfl (by decide) (by decide) dX10_taken_68
    · refine g_aload_n (i := 0) F dX10_taken_49 rfl rfl ?_
      refine g_get_10_9 F wd_11_21 dX10_taken_50 ?_
      refine g_iload_n (i := 3) F dX10_taken_53 rfl rfl ?_
      obtain ⟨v15, e16, h⟩ := bind_at h
      refine g_ildM F rfl rfl e16 dX10_taken_54 ?_
      refine g_iload_n (i := 2) F dX10_taken_55 rfl rfl ?_
      refine g_callSI F (mcR := 0) (msR := 0) (c_X10_isUnder G0 (X := X) (M := M) (nb := nb) rfl) wd_52_18 wd_52_16 wd_52_17 wd_1_5 ⟨by decide, by decide⟩ (nn := 2) (by decide) (As := [.int v15, .int l2]) rfl rfl (Nat.le_of_ble_eq_true rfl) (by decide) (by decide) ⟨by decide, by decide⟩ dX10_taken_56 ?_
      refine g_if_eq (tgt := 66) F dX10_taken_59 (by decide) h (fun a19 h => ?_) (fun a19 h => ?_)
      · refine g_bipush F dX10_taken_66 (v := -13) (by decide) ?_
        exact g_iret F hr9 rfl hl9 (Option.some.inj h) rfl (by decide) (by decide) dX10_taken_68
      · refine g_iload_n (i := 3) F dX10_taken_62 rfl rfl ?_
        refine g_goto (tgt := 68) F dX10_taken_63 (by decide) ?_
        exact g_iret F hr9 rfl hl9 (Option.some.inj h) rfl (by decide) (by decide) dX10_taken_68
  have L25 : ∀ (l1f25 : Int32) (l2f25 : Int32) (N25 : Nat) (l3 : Int32), lo1 (fX10_taken_l25 M l1f25 l2f25) N25 l3 = some r' → GJ p9 l e9 (rg 2 0 0) s9 m9 args9 below9 meth9 c9 (MQ below9 (QI s0 D ev r' (cells ev X M (nb + 1))) args9 s9 0 0 (frA ev)) s0 D ev 4 0 0 25 [(0, .ref (ev 0 + 65)), (1, .int l1f25), (2, .int l2f25), (3, .int l3)] ([]) (cells ev X M (nb + 1)) := by
    intro l1f25 l2f25 N25
    induction N25 with
    | zero => intro l3 h; cases h
    | succ N25 ih25 =>
      intro l3 h
      change fX10_taken_l25 M l1f25 l2f25 (lo1 (fX10_taken_l25 M l1f25 l2f25) N25) l3 = some r' at h
      rw [fX10_taken_l25] at h
      refine g_iload_n (i := 3) F dX10_taken_25 rfl rfl ?_
      refine g_aload_n (i := 0) F dX10_taken_26 rfl rfl ?_
      refine g_get_10_8 F wd_18_18 dX10_taken_27 ?_
      refine g_icmp_ge (tgt := 75) F dX10_taken_30 (by decide) h (fun a22 h => ?_) (fun a22 h => ?_)
      · refine g_lv (lv' := [(0, .ref (ev 0 + 65)), (1, .int l1f25), (2, .int l2f25)]) ⟨rfl, rfl, rfl, trivial⟩ ?_
        exact U75 _ _ h
      · refine g_aload_n (i := 0) F dX10_taken_33 rfl rfl ?_
        refine g_get_10_13 F wd_12_1 dX10_taken_34 ?_
        refine g_iload_n (i := 3) F dX10_taken_37 rfl rfl ?_
        obtain ⟨v13, e14, h⟩ := bind_at h
        refine g_ildM F rfl rfl e14 dX10_taken_38 ?_
        refine g_iload_n (i := 1) F dX10_taken_39 rfl rfl ?_
        refine g_icmp_ne (tgt := 69) F dX10_taken_40 (by decide) h (fun a21 h => ?_) (fun a21 h => ?_)
        · refine g_iinc (i := 3) (v := (l3 + (1 : Int32))) (lv' := [(3, .int (l3 + (1 : Int32))), (0, .ref (ev 0 + 65)), (1, .int l1f25), (2, .int l2f25)]) F dX10_taken_69 rfl rfl (by decide) rfl ?_
          refine g_goto (tgt := 25) F dX10_taken_72 (by decide) ?_
          refine g_lv (lv' := [(0, .ref (ev 0 + 65)), (1, .int l1f25), (2, .int l2f25), (3, .int (l3 + (1 : Int32)))]) ⟨rfl, rfl, rfl, rfl, trivial⟩ ?_
          exact ih25 _ h
        · refine g_lv (lv' := [(0, .ref (ev 0 + 65)), (2, .int l2f25), (3, .int l3)]) ⟨rfl, rfl, rfl, trivial⟩ ?_
          exact U43 _ _ h
  rw [fX10_taken] at h
  refine g_lv (lv' := [(0, .ref (ev 0 + 65)), (1, .int l1), (2, .int l2)]) ⟨rfl, rfl, rfl, trivial⟩ ?_
  refine g_iload_n (i := 2) F dX10_taken_0 rfl rfl ?_
  refine g_iconst F dX10_taken_1 (v := 0) (by decide) ?_
  refine g_bipush F dX10_taken_2 (v := 6) (by decide) ?_
  refine g_callSI F (mcR := 0) (msR := 0) (c_X10_in G0 (X := X) (M := M) (nb := nb) rfl) wd_13_21 wd_13_19 wd_13_20 wd_1_5 ⟨by decide, by decide⟩ (nn := 3) (by decide) (As := [.int l2, .int (0 : Int32), .int (6 : Int32)]) rfl rfl (Nat.le_of_ble_eq_true rfl) (by decide) (by decide) ⟨by decide, by decide⟩ dX10_taken_4 ?_
  refine g_if_ne (tgt := 13) F dX10_taken_7 (by decide) h (fun a24 h => ?_) (fun a24 h => ?_)
  · refine g_iload_n (i := 1) F dX10_taken_13 rfl rfl ?_
    refine g_callSI F (mcR := 0) (msR := 0) (c_X10_isCell G0 (X := X) (M := M) (nb := nb) rfl) wd_16_7 wd_16_5 wd_16_6 wd_1_5 ⟨by decide, by decide⟩ (nn := 1) (by decide) (As := [.int l1]) rfl rfl (Nat.le_of_ble_eq_true rfl) (by decide) (by decide) ⟨by decide, by decide⟩ dX10_taken_14 ?_
    refine g_if_ne (tgt := 23) F dX10_taken_17 (by decide) h (fun a23 h => ?_) (fun a23 h => ?_)
    · refine g_iconst F dX10_taken_23 (v := 0) (by decide) ?_
      refine g_istore_n (i := 3) (lv' := [(3, .int (0 : Int32)), (0, .ref (ev 0 + 65)), (1, .int l1), (2, .int l2)]) F dX10_taken_24 rfl (by decide) rfl ?_
      refine g_lv (lv' := [(0, .ref (ev 0 + 65)), (1, .int l1), (2, .int l2), (3, .int (0 : Int32))]) ⟨rfl, rfl, rfl, rfl, trivial⟩ ?_
      exact L25 _ _ FU _ h
    · refine g_bipush F dX10_taken_20 (v := -12) (by decide) ?_
      exact g_iret F hr9 rfl hl9 (Option.some.inj h) rfl (by decide) (by decide) dX10_taken_22
  · refine g_bipush F dX10_taken_10 (v := -2) (by decide) ?_
    exact g_iret F hr9 rfl hl9 (Option.some.inj h) rfl (by decide) (by decide) dX10_taken_12

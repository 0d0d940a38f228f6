def fX6_word (l0 : Int32) : Nat :=
  if l0 = (0 : Int32) then 0
  else if l0 = (1 : Int32) then 1
  else if l0 = (2 : Int32) then 2
  else if l0 = (3 : Int32) then 3
  else if l0 = (4 : Int32) then 4
  else if l0 = (5 : Int32) then 5
  else if l0 = (6 : Int32) then 6
  else if l0 = (7 : Int32) then 7
  else if l0 = (8 : Int32) then 8
  else if l0 = (9 : Int32) then 9
  else if l0 = (10 : Int32) then 10
  else 11
set_option maxRecDepth 100000 in
set_option maxHeartbeats 4000000 in
theorem c_X6_word {l : Launch} {s0 : State} {D : va_G} {ev : Nat → Nat} (G0 : Gl s0 D ev) {X : XW} {M : MW} {nb : Nat} {l0 : Int32} {r' : Nat}  (h : fX6_word l0 = r') : CT l s0 D ev yX6_word cX6_word 1 (some (.object "java/lang/String")) 0 0 0 [.int l0] (cells ev X M nb) (QR s0 D ev (some (ev (30 + r'))) (cells ev X M nb)) := by
  refine ct_of G0 (by decide) (Nat.le_of_ble_eq_true rfl) ?_
  intro p9 e9 s9 m9 args9 below9 meth9 c9 F hr9 hl9 hin9 hargs9 hts9
  rw [fX6_word] at h
  refine g_lv (lv' := [(0, .int l0)]) ⟨rfl, trivial⟩ ?_
  refine g_iload_n (i := 0) F dX6_word_0 rfl rfl ?_
  refine ite_at h (fun a1 h => ?_) (fun a1 h => ?_)
  · refine g_tsw (k := 0) (off := 59) (tgt := 60) F a1 dX6_word_1 (by decide) (by decide) (by decide) (by decide) ?_
    refine g_ldcs F (i := 0) (by decide) rfl rfl dX6_word_60 ?_
    exact g_aret F hr9 (Or.inl ⟨_, rfl⟩) hl9 (by rw [← h]; rfl) rfl (by decide) (by decide) dX6_word_62
  · refine ite_at h (fun a2 h => ?_) (fun a2 h => ?_)
    · refine g_tsw (k := 1) (off := 62) (tgt := 63) F a2 dX6_word_1 (by decide) (by decide) (by decide) (by decide) ?_
      refine g_ldcs F (i := 1) (by decide) rfl rfl dX6_word_63 ?_
      exact g_aret F hr9 (Or.inl ⟨_, rfl⟩) hl9 (by rw [← h]; rfl) rfl (by decide) (by decide) dX6_word_65
    · refine ite_at h (fun a3 h => ?_) (fun a3 h => ?_)
      · refine g_tsw (k := 2) (off := 65) (tgt := 66) F a3 dX6_word_1 (by decide) (by decide) (by decide) (by decide) ?_
        refine g_ldcs F (i := 2) (by decide) rfl rfl dX6_word_66 ?_
        exact g_aret F hr9 (Or.inl ⟨_, rfl⟩) hl9 (by rw [← h]; rfl) rfl (by decide) (by decide) dX6_word_68
      · refine ite_at h (fun a4 h => ?_) (fun a4 h => ?_)
        · refine g_tsw (k := 3) (off := 68) (tgt := 69) F a4 dX6_word_1 (by decide) (by decide) (by decide) (by decide) ?_
          refine g_ldcs F (i := 3) (by decide) rfl rfl dX6_word_69 ?_
          exact g_aret F hr9 (Or.inl ⟨_, rfl⟩) hl9 (by rw [← h]; rfl) rfl (by decide) (by decide) dX6_word_71
        · refine ite_at h (fun a5 h => ?_) (fun a5 h => ?_)
          · refine g_tsw (k := 4) (off := 71) (tgt := 72) F a5 dX6_word_1 (by decide) (by decide) (by decide) (by decide) ?_
            refine g_ldcs F (i := 4) (by decide) rfl rfl dX6_word_72 ?_
            exact g_aret F hr9 (Or.inl ⟨_, rfl⟩) hl9 (by rw [← h]; rfl) rfl (by decide) (by decide) dX6_word_74
          · refine ite_at h (fun a6 h => ?_) (fun a6 h => ?_)
            · refine g_tsw (k := 5) (off := 74) (tgt := 75) F a6 dX6_word_1 (by decide) (by decide) (by decide) (by decide) ?_
              refine g_ldcs F (i := 5) (by decide) rfl rfl dX6_word_75 ?_
              exact g_aret F hr9 (Or.inl ⟨_, rfl⟩) hl9 (by rw [← h]; rfl) rfl (by decide) (by decide) dX6_word_77
            · refine ite_at h (fun a7 h => ?_) (fun a7 h => ?_)
              · refine g_tsw (k := 6) (off := 77) (tgt := 78) F a7 dX6_word_1 (by decide) (by decide) (by decide) (by decide) ?_
                refine g_ldcs F (i := 6) (by decide) rfl rfl dX6_word_78 ?_
                exact g_aret F hr9 (Or.inl ⟨_, rfl⟩) hl9 (by rw [← h]; rfl) rfl (by decide) (by decide) dX6_word_80
              · refine ite_at h (fun a8 h => ?_) (fun a8 h => ?_)
                · refine g_tsw (k := 7) (off := 80) (tgt := 81) F a8 dX6_word_1 (by decide) (by decide) (by decide) (by decide) ?_
                  refine g_ldcs F (i := 7) (by decide) rfl rfl dX6_word_81 ?_
                  exact g_aret F hr9 (Or.inl ⟨_, rfl⟩) hl9 (by rw [← h]; rfl) rfl (by decide) (by decide) dX6_word_83
                · refine ite_at h (fun a9 h => ?_) (fun a9 h => ?_)
                  · refine g_tsw (k := 8) (off := 83) (tgt := 84) F a9 dX6_word_1 (by decide) (by decide) (by decide) (by decide) ?_
                    refine g_ldcs F (i := 8) (by decide) rfl rfl dX6_word_84 ?_
                    exact g_aret F hr9 (Or.inl ⟨_, rfl⟩) hl9 (by rw [← h]; rfl) rfl (by decide) (by decide) dX6_word_86
                  · refine ite_at h (fun a10 h => ?_) (fun a10 h => ?_)
                    · refine g_tsw (k := 9) (off := 86) (tgt := 87) F a10 dX6_word_1 (by decide) (by decide) (by decide) (by decide) ?_
                      refine g_ldcs F (i := 9) (by decide) rfl rfl dX6_word_87 ?_
                      exact g_aret F hr9 (Or.inl ⟨_, rfl⟩) hl9 (by rw [← h]; rfl) rfl (by decide) (by decide) dX6_word_89
                    · refine ite_at h (fun a11 h => ?_) (fun a11 h => ?_)
                      · refine g_tsw (k := 10) (off := 89) (tgt := 90) F a11 dX6_word_1 (by decide) (by decide) (by decide) (by decide) ?_
                        refine g_ldcs F (i := 10) (by decide) rfl rfl dX6_word_90 ?_
                        exact g_aret F hr9 (Or.inl ⟨_, rfl⟩) hl9 (by rw [← h]; rfl) rfl (by decide) (by decide) dX6_word_92
                      · have q0 : l0.toInt ≠ 0 := fun q => a1 (Int32.toInt_inj.mp (q.trans (by decide)))
                        have q1 : l0.toInt ≠ 1 := fun q => a2 (Int32.toInt_inj.mp (q.trans (by decide)))
                        have q2 : l0.toInt ≠ 2 := fun q => a3 (Int32.toInt_inj.mp (q.trans (by decide)))
                        have q3 : l0.toInt ≠ 3 := fun q => a4 (Int32.toInt_inj.mp (q.trans (by decide)))
                        have q4 : l0.toInt ≠ 4 := fun q => a5 (Int32.toInt_inj.mp (q.trans (by decide)))
                        have q5 : l0.toInt ≠ 5 := fun q => a6 (Int32.toInt_inj.mp (q.trans (by decide)))
                        have q6 : l0.toInt ≠ 6 := fun q => a7 (Int32.toInt_inj.mp (q.trans (by decide)))
                        have q7 : l0.toInt ≠ 7 := fun q => a8 (Int32.toInt_inj.mp (q.trans (by decide)))
                        have q8 : l0.toInt ≠ 8 := fun q => a9 (Int32.toInt_inj.mp (q.trans (by decide)))
                        have q9 : l0.toInt ≠ 9 := fun q => a10 (Int32.toInt_inj.mp (q.trans (by decide)))
                        have q10 : l0.toInt ≠ 10 := fun q => a11 (Int32.toInt_inj.mp (q.trans (by decide)))
                        refine g_tswd (tgt := 93) F (by omega) dX6_word_1 (by decide) ?_
                        refine g_ldcs F (i := 11) (by decide) rfl rfl dX6_word_93 ?_
                        exact g_aret F hr9 (Or.inl ⟨_, rfl⟩) hl9 (by rw [← h]; rfl) rfl (by decide) (by decide) dX6_word_95
def fX6_stands_l20 (X : XW) (l1f20 : Nat) (K20 : Int32 → Option Int32) (l2 : Int32) : Option Int32 :=
  if l1f20 < 13 then if (nI (sN l1f20)) ≤ l2 then some (1 : Int32)
  else (rd (sF l1f20) (sN l1f20) l2).bind fun v3 =>
  (fX6_byteAt X ((X.1 7 4) + l2)).bind fun v5 =>
  if v3 = v5 then K20 (l2 + (1 : Int32))
  else some (0 : Int32) else none
def fX6_stands (X : XW) (l1 : Nat) : Option Int32 :=
  if l1 < 13 then if (nI (sN l1)) = ((X.1 7 3) - (X.1 7 4)) then lo1 (fX6_stands_l20 X l1) FU (0 : Int32)
  else some (0 : Int32) else none
set_option maxRecDepth 100000 in
set_option maxHeartbeats 4000000 in
theorem c_X6_stands {l : Launch} {s0 : State} {D : va_G} {ev : Nat → Nat} (G0 : Gl s0 D ev) {X : XW} {M : MW} {nb : Nat} {l1 : Nat} {r' : Int32}  (h : fX6_stands X l1 = some r') : CT l s0 D ev yX6_stands cX6_stands 3 (some .boolean) 6 0 0 [.ref (ev 0 + 7), .ref (ev (30 + l1))] (cells ev X M nb) (QI s0 D ev r' (cells ev X M nb)) := by
  refine ct_of G0 (by decide) (Nat.le_of_ble_eq_true rfl) ?_
  intro p9 e9 s9 m9 args9 below9 meth9 c9 F hr9 hl9 hin9 hargs9 hts9
  have L20 : ∀ (l1f20 : Nat) (N20 : Nat) (l2 : Int32), lo1 (fX6_stands_l20 X l1f20) N20 l2 = some r' → GJ p9 l e9 (rg 6 0 0) s9 m9 args9 below9 meth9 c9 (MQ below9 (QI s0 D ev r' (cells ev X M nb)) args9 s9 0 0 (frA ev)) s0 D ev 3 0 0 20 [(0, .ref (ev 0 + 7)), (1, .ref (ev (30 + l1f20))), (2, .int l2)] ([]) (cells ev X M nb) := by
    intro l1f20 N20
    induction N20 with
    | zero => intro l2 h; cases h
    | succ N20 ih20 =>
      intro l2 h
      change fX6_stands_l20 X l1f20 (lo1 (fX6_stands_l20 X l1f20) N20) l2 = some r' at h
      rw [fX6_stands_l20] at h
      refine g_iload_n (i := 2) F dX6_stands_20 rfl rfl ?_
      refine g_aload_n (i := 1) F dX6_stands_21 rfl rfl ?_
      obtain ⟨h2, h⟩ := if_at h
      refine g_callStr F (mcR := 0) (msR := 0) h2 rfl (cJ_length G0 h2) wd_6_10 wd_10_2 wd_6_7 wd_6_8 wd_6_9 (nn := 0) (by decide) (As := []) rfl rfl (Nat.le_of_ble_eq_true rfl) (by decide) (by decide) ⟨by decide, by decide⟩ dX6_stands_22 ?_
      refine g_icmp_ge (tgt := 54) F dX6_stands_25 (by decide) h (fun a8 h => ?_) (fun a8 h => ?_)
      · refine g_iconst F dX6_stands_54 (v := 1) (by decide) ?_
        exact g_iret F hr9 (by decide) hl9 (Option.some.inj h) rfl (by decide) (by decide) dX6_stands_55
      · refine g_aload_n (i := 1) F dX6_stands_28 rfl rfl ?_
        refine g_iload_n (i := 2) F dX6_stands_29 rfl rfl ?_
        obtain ⟨v3, e4, h⟩ := bind_at h
        refine g_callStr F (mcR := 0) (msR := 0) h2 rfl (cJ_charAt G0 h2 e4) wd_6_21 wd_10_3 wd_6_19 wd_6_20 wd_6_9 (nn := 1) (by decide) (As := [.int l2]) rfl rfl (Nat.le_of_ble_eq_true rfl) (by decide) (by decide) ⟨by decide, by decide⟩ dX6_stands_30 ?_
        refine g_aload_n (i := 0) F dX6_stands_33 rfl rfl ?_
        refine g_aload_n (i := 0) F dX6_stands_34 rfl rfl ?_
        refine g_get_6_4 F rfl (kd_lit (by decide)) wd_4_3 dX6_stands_35 ?_
        refine g_iload_n (i := 2) F dX6_stands_38 rfl rfl ?_
        refine g_iadd F dX6_stands_39 ?_
        obtain ⟨v5, e6, h⟩ := bind_at h
        refine g_callVI F (mcR := 0) (msR := 0) (id := 7) (cells_at (kd_lit (i := 7) (by decide)) (xc_6 rfl)) (ci := 6) rfl rfl rfl (c_X6_byteAt G0 e6) wd_9_2 wd_8_23 wd_9_0 wd_9_1 wd_1_18 ⟨by decide, by decide⟩ (nn := 1) (by decide) (As := [.int ((X.1 7 4) + l2)]) rfl rfl (Nat.le_of_ble_eq_true rfl) (by decide) (by decide) ⟨by decide, by decide⟩ dX6_stands_40 ?_
        refine g_icmp_eq (tgt := 48) F dX6_stands_43 (by decide) h (fun a7 h => ?_) (fun a7 h => ?_)
        · refine g_iinc (i := 2) (v := (l2 + (1 : Int32))) (lv' := [(2, .int (l2 + (1 : Int32))), (0, .ref (ev 0 + 7)), (1, .ref (ev (30 + l1f20)))]) F dX6_stands_48 rfl rfl (by decide) rfl ?_
          refine g_goto (tgt := 20) F dX6_stands_51 (by decide) ?_
          refine g_lv (lv' := [(0, .ref (ev 0 + 7)), (1, .ref (ev (30 + l1f20))), (2, .int (l2 + (1 : Int32)))]) ⟨rfl, rfl, rfl, trivial⟩ ?_
          exact ih20 _ h
        · refine g_iconst F dX6_stands_46 (v := 0) (by decide) ?_
          exact g_iret F hr9 (by decide) hl9 (Option.some.inj h) rfl (by decide) (by decide) dX6_stands_47
  rw [fX6_stands] at h
  refine g_lv (lv' := [(0, .ref (ev 0 + 7)), (1, .ref (ev (30 + l1)))]) ⟨rfl, rfl, trivial⟩ ?_
  refine g_aload_n (i := 1) F dX6_stands_0 rfl rfl ?_
  obtain ⟨h1, h⟩ := if_at h
  refine g_callStr F (mcR := 0) (msR := 0) h1 rfl (cJ_length G0 h1) wd_6_10 wd_10_2 wd_6_7 wd_6_8 wd_6_9 (nn := 0) (by decide) (As := []) rfl rfl (Nat.le_of_ble_eq_true rfl) (by decide) (by decide) ⟨by decide, by decide⟩ dX6_stands_1 ?_
  refine g_aload_n (i := 0) F dX6_stands_4 rfl rfl ?_
  refine g_get_6_3 F rfl (kd_lit (by decide)) wd_4_2 dX6_stands_5 ?_
  refine g_aload_n (i := 0) F dX6_stands_8 rfl rfl ?_
  refine g_get_6_4 F rfl (kd_lit (by decide)) wd_4_3 dX6_stands_9 ?_
  refine g_isub F dX6_stands_12 ?_
  refine g_icmp_eq (tgt := 18) F dX6_stands_13 (by decide) h (fun a9 h => ?_) (fun a9 h => ?_)
  · refine g_iconst F dX6_stands_18 (v := 0) (by decide) ?_
    refine g_istore_n (i := 2) (lv' := [(2, .int (0 : Int32)), (0, .ref (ev 0 + 7)), (1, .ref (ev (30 + l1)))]) F dX6_stands_19 rfl (by decide) rfl ?_
    refine g_lv (lv' := [(0, .ref (ev 0 + 7)), (1, .ref (ev (30 + l1))), (2, .int (0 : Int32))]) ⟨rfl, rfl, rfl, trivial⟩ ?_
    exact L20 _ FU _ h
  · refine g_iconst F dX6_stands_16 (v := 0) (by decide) ?_
    exact g_iret F hr9 (by decide) hl9 (Option.some.inj h) rfl (by decide) (by decide) dX6_stands_17
def fX6_readWord_l46 (K46 : XW → Int32 → Option (XW)) (X : XW) (l1 : Int32) : Option (XW) :=
  if (12 : Int32) ≤ l1 then some X
  else (fX6_stands X (fX6_word l1)).bind fun v5 =>
  if v5 = 0 then K46 X (l1 + (1 : Int32))
  else bd (xI X 7 5 ((20 : Int32) + l1)) fun X7 =>
  K46 X7 (l1 + (1 : Int32))
def fX6_readWord_b39 (X : XW) : Option (XW) :=
  bd (xI X 7 5 (1 : Int32)) fun X1 =>
  lo2 (fX6_readWord_l46) FU X1 (0 : Int32)
def fX6_readWord_l2 (K2 : XW → Int32 → Option (XW)) (X : XW) (l1 : Int32) : Option (XW) :=
  if (160 : Int32) ≤ l1 then fX6_readWord_b39 X
  else (fX6_byteAt X (X.1 7 3)).bind fun v11 =>
  if (fX6_isLetter v11) = 0 then fX6_readWord_b39 X
  else bd (xI X 7 3 ((X.1 7 3) + (1 : Int32))) fun X15 =>
  K2 X15 (l1 + (1 : Int32))
def fX6_readWord (X : XW) : Option (XW) :=
  lo2 (fX6_readWord_l2) FU X (0 : Int32)
set_option maxRecDepth 100000 in
set_option maxHeartbeats 4000000 in
theorem c_X6_readWord {l : Launch} {s0 : State} {D : va_G} {ev : Nat → Nat} (G0 : Gl s0 D ev) {X : XW} {M : MW} {nb : Nat}  {X' : XW}  (h : fX6_readWord X = some (X')) : CT l s0 D ev yX6_readWord cX6_readWord 2 none 7 0 0 [.ref (ev 0 + 7)] (cells ev X M nb) (QV s0 D ev (cells ev X' M nb)) := by
  refine ct_of G0 (by decide) (Nat.le_of_ble_eq_true rfl) ?_
  intro p9 e9 s9 m9 args9 below9 meth9 c9 F hr9 hl9 hin9 hargs9 hts9
  have L46 : ∀  (N46 : Nat) (X : XW) (l1 : Int32), lo2 (fX6_readWord_l46) N46 X l1 = some (X') → GJ p9 l e9 (rg 7 0 0) s9 m9 args9 below9 meth9 c9 (MQ below9 (QV s0 D ev (cells ev X' M nb)) args9 s9 0 0 (frA ev)) s0 D ev 2 0 0 46 [(0, .ref (ev 0 + 7)), (1, .int l1)] ([]) (cells ev X M nb) := by
    intro  N46
    induction N46 with
    | zero => intro X l1 h; cases h
    | succ N46 ih46 =>
      intro X l1 h
      change fX6_readWord_l46 (lo2 (fX6_readWord_l46) N46) X l1 = some (X') at h
      rw [fX6_readWord_l46] at h
      refine g_iload_n (i := 1) F dX6_readWord_46 rfl rfl ?_
      refine g_bipush F dX6_readWord_47 (v := 12) (by decide) ?_
      refine g_icmp_ge (tgt := 77) F dX6_readWord_49 (by decide) h (fun a10 h => ?_) (fun a10 h => ?_)
      · exact g_vret F hr9 hl9 (by rw [Option.some.inj h]) (by decide) (by decide) dX6_readWord_77
      · refine g_aload_n (i := 0) F dX6_readWord_52 rfl rfl ?_
        refine g_iload_n (i := 1) F dX6_readWord_53 rfl rfl ?_
        refine g_callSR F (mcR := 0) (msR := 0) (c_X6_word G0 (X := X) (M := M) (nb := nb) rfl) wd_9_21 wd_9_19 wd_9_20 wd_1_18 ⟨by decide, by decide⟩ (nn := 1) (by decide) (As := [.int l1]) rfl rfl (Nat.le_of_ble_eq_true rfl) (by decide) (by decide) ⟨by decide, by decide⟩ dX6_readWord_54 ?_
        obtain ⟨v5, e6, h⟩ := bind_at h
        refine g_callVI F (mcR := 0) (msR := 0) (id := 7) (cells_at (kd_lit (i := 7) (by decide)) (xc_6 rfl)) (ci := 6) rfl rfl rfl (c_X6_stands G0 e6) wd_10_1 wd_9_22 wd_9_23 wd_10_0 wd_1_18 ⟨by decide, by decide⟩ (nn := 1) (by decide) (As := [.ref (ev (30 + (fX6_word l1)))]) rfl rfl (Nat.le_of_ble_eq_true rfl) (by decide) (by decide) ⟨by decide, by decide⟩ dX6_readWord_57 ?_
        refine g_if_eq (tgt := 71) F dX6_readWord_60 (by decide) h (fun a9 h => ?_) (fun a9 h => ?_)
        · refine g_iinc (i := 1) (v := (l1 + (1 : Int32))) (lv' := [(1, .int (l1 + (1 : Int32))), (0, .ref (ev 0 + 7))]) F dX6_readWord_71 rfl rfl (by decide) rfl ?_
          refine g_goto (tgt := 46) F dX6_readWord_74 (by decide) ?_
          refine g_lv (lv' := [(0, .ref (ev 0 + 7)), (1, .int (l1 + (1 : Int32)))]) ⟨rfl, rfl, trivial⟩ ?_
          exact ih46 _ _ h
        · refine g_aload_n (i := 0) F dX6_readWord_63 rfl rfl ?_
          refine g_bipush F dX6_readWord_64 (v := 20) (by decide) ?_
          refine g_iload_n (i := 1) F dX6_readWord_66 rfl rfl ?_
          refine g_iadd F dX6_readWord_67 ?_
          obtain ⟨X7, e8, h⟩ := bd_at h
          refine g_put_6_5 F rfl (kd_lit (by decide)) wd_4_4 dX6_readWord_68 ?_
          rw [← e8]
          refine g_iinc (i := 1) (v := (l1 + (1 : Int32))) (lv' := [(1, .int (l1 + (1 : Int32))), (0, .ref (ev 0 + 7))]) F dX6_readWord_71 rfl rfl (by decide) rfl ?_
          refine g_goto (tgt := 46) F dX6_readWord_74 (by decide) ?_
          refine g_lv (lv' := [(0, .ref (ev 0 + 7)), (1, .int (l1 + (1 : Int32)))]) ⟨rfl, rfl, trivial⟩ ?_
          exact ih46 _ _ h
  have U39 : ∀ (X : XW), fX6_readWord_b39 X = some (X') → GJ p9 l e9 (rg 7 0 0) s9 m9 args9 below9 meth9 c9 (MQ below9 (QV s0 D ev (cells ev X' M nb)) args9 s9 0 0 (frA ev)) s0 D ev 2 0 0 39 [(0, .ref (ev 0 + 7))] ([]) (cells ev X M nb) := by
    intro X h
    rw [fX6_readWord_b39] at h
    refine g_aload_n (i := 0) F dX6_readWord_39 rfl rfl ?_
    refine g_iconst F dX6_readWord_40 (v := 1) (by decide) ?_
    obtain ⟨X1, e2, h⟩ := bd_at h
    refine g_put_6_5 F rfl (kd_lit (by decide)) wd_4_4 dX6_readWord_41 ?_
    rw [← e2]
    refine g_iconst F dX6_readWord_44 (v := 0) (by decide) ?_
    refine g_istore_n (i := 1) (lv' := [(1, .int (0 : Int32)), (0, .ref (ev 0 + 7))]) F dX6_readWord_45 rfl (by decide) rfl ?_
    refine g_lv (lv' := [(0, .ref (ev 0 + 7)), (1, .int (0 : Int32))]) ⟨rfl, rfl, trivial⟩ ?_
    exact L46 FU _ _ h
  have L2 : ∀  (N2 : Nat) (X : XW) (l1 : Int32), lo2 (fX6_readWord_l2) N2 X l1 = some (X') → GJ p9 l e9 (rg 7 0 0) s9 m9 args9 below9 meth9 c9 (MQ below9 (QV s0 D ev (cells ev X' M nb)) args9 s9 0 0 (frA ev)) s0 D ev 2 0 0 2 [(0, .ref (ev 0 + 7)), (1, .int l1)] ([]) (cells ev X M nb) := by
    intro  N2
    induction N2 with
    | zero => intro X l1 h; cases h
    | succ N2 ih2 =>
      intro X l1 h
      change fX6_readWord_l2 (lo2 (fX6_readWord_l2) N2) X l1 = some (X') at h
      rw [fX6_readWord_l2] at h
      refine g_iload_n (i := 1) F dX6_readWord_2 rfl rfl ?_
      refine g_sipush F dX6_readWord_3 (v := 160) (by decide) ?_
      refine g_icmp_ge (tgt := 39) F dX6_readWord_6 (by decide) h (fun a18 h => ?_) (fun a18 h => ?_)
      · refine g_lv (lv' := [(0, .ref (ev 0 + 7))]) ⟨rfl, trivial⟩ ?_
        exact U39 _ h
      · refine g_aload_n (i := 0) F dX6_readWord_9 rfl rfl ?_
        refine g_aload_n (i := 0) F dX6_readWord_10 rfl rfl ?_
        refine g_get_6_3 F rfl (kd_lit (by decide)) wd_4_2 dX6_readWord_11 ?_
        obtain ⟨v11, e12, h⟩ := bind_at h
        refine g_callVI F (mcR := 0) (msR := 0) (id := 7) (cells_at (kd_lit (i := 7) (by decide)) (xc_6 rfl)) (ci := 6) rfl rfl rfl (c_X6_byteAt G0 e12) wd_9_2 wd_8_23 wd_9_0 wd_9_1 wd_1_18 ⟨by decide, by decide⟩ (nn := 1) (by decide) (As := [.int (X.1 7 3)]) rfl rfl (Nat.le_of_ble_eq_true rfl) (by decide) (by decide) ⟨by decide, by decide⟩ dX6_readWord_14 ?_
        refine g_callSI F (mcR := 0) (msR := 0) (c_X6_isLetter G0 (X := X) (M := M) (nb := nb) rfl) wd_9_14 wd_9_12 wd_9_13 wd_1_18 ⟨by decide, by decide⟩ (nn := 1) (by decide) (As := [.int v11]) rfl rfl (Nat.le_of_ble_eq_true rfl) (by decide) (by decide) ⟨by decide, by decide⟩ dX6_readWord_17 ?_
        refine g_if_eq (tgt := 39) F dX6_readWord_20 (by decide) h (fun a17 h => ?_) (fun a17 h => ?_)
        · refine g_lv (lv' := [(0, .ref (ev 0 + 7))]) ⟨rfl, trivial⟩ ?_
          exact U39 _ h
        · refine g_aload_n (i := 0) F dX6_readWord_23 rfl rfl ?_
          refine g_dup F dX6_readWord_24 rfl ?_
          refine g_get_6_3 F rfl (kd_lit (by decide)) wd_4_2 dX6_readWord_25 ?_
          refine g_iconst F dX6_readWord_28 (v := 1) (by decide) ?_
          refine g_iadd F dX6_readWord_29 ?_
          obtain ⟨X15, e16, h⟩ := bd_at h
          refine g_put_6_3 F rfl (kd_lit (by decide)) wd_4_2 dX6_readWord_30 ?_
          rw [← e16]
          refine g_iinc (i := 1) (v := (l1 + (1 : Int32))) (lv' := [(1, .int (l1 + (1 : Int32))), (0, .ref (ev 0 + 7))]) F dX6_readWord_33 rfl rfl (by decide) rfl ?_
          refine g_goto (tgt := 2) F dX6_readWord_36 (by decide) ?_
          refine g_lv (lv' := [(0, .ref (ev 0 + 7)), (1, .int (l1 + (1 : Int32)))]) ⟨rfl, rfl, trivial⟩ ?_
          exact ih2 _ _ h
  rw [fX6_readWord] at h
  refine g_lv (lv' := [(0, .ref (ev 0 + 7))]) ⟨rfl, trivial⟩ ?_
  refine g_iconst F dX6_readWord_0 (v := 0) (by decide) ?_
  refine g_istore_n (i := 1) (lv' := [(1, .int (0 : Int32)), (0, .ref (ev 0 + 7))]) F dX6_readWord_1 rfl (by decide) rfl ?_
  refine g_lv (lv' := [(0, .ref (ev 0 + 7)), (1, .int (0 : Int32))]) ⟨rfl, rfl, trivial⟩ ?_
  exact L2 FU _ _ h
def fX6_advance_b51 (X : XW) : Option (XW) :=
  bd (xI X 7 4 (X.1 7 3)) fun X1 =>
  (fX6_byteAt X1 (X1.1 7 3)).bind fun v3 =>
  if v3 = (-1 : Int32) then bd (xI X1 7 5 (0 : Int32)) fun X21 =>
  some X21
  else if (fX6_isDigit v3) = 0 then if (fX6_isLetter v3) = 0 then bd (xI X1 7 5 (fX6_signOf v3)) fun X11 =>
  bd (xI X11 7 3 ((X11.1 7 3) + (1 : Int32))) fun X13 =>
  some X13
  else (fX6_readWord X1).bind fun X15 =>
  some X15
  else (fX6_readNumber X1).bind fun X18 =>
  some X18
def fX6_advance_b35 (K2 : XW → Int32 → Option (XW)) (X : XW) (l1 : Int32) : Option (XW) :=
  bd (xI X 7 3 ((X.1 7 3) + (1 : Int32))) fun X26 =>
  K2 X26 (l1 + (1 : Int32))
def fX6_advance_l2 (K2 : XW → Int32 → Option (XW)) (X : XW) (l1 : Int32) : Option (XW) :=
  if (160 : Int32) ≤ l1 then fX6_advance_b51 X
  else (fX6_byteAt X (X.1 7 3)).bind fun v24 =>
  if v24 = (32 : Int32) then fX6_advance_b35 K2 X l1
  else (fX6_byteAt X (X.1 7 3)).bind fun v28 =>
  if v28 = (10 : Int32) then fX6_advance_b35 K2 X l1
  else fX6_advance_b51 X
def fX6_advance (X : XW) : Option (XW) :=
  lo2 (fX6_advance_l2) FU X (0 : Int32)
set_option maxRecDepth 100000 in
set_option maxHeartbeats 4000000 in
theorem c_X6_advance {l : Launch} {s0 : State} {D : va_G} {ev : Nat → Nat} (G0 : Gl s0 D ev) {X : XW} {M : MW} {nb : Nat}  {X' : XW}  (h : fX6_advance X = some (X')) : CT l s0 D ev yX6_advance cX6_advance 2 none 8 0 0 [.ref (ev 0 + 7)] (cells ev X M nb) (QV s0 D ev (cells ev X' M nb)) := by
  refine ct_of G0 (by decide) (Nat.le_of_ble_eq_true rfl) ?_
  intro p9 e9 s9 m9 args9 below9 meth9 c9 F hr9 hl9 hin9 hargs9 hts9
  have U51 : ∀ (X : XW), fX6_advance_b51 X = some (X') → GJ p9 l e9 (rg 8 0 0) s9 m9 args9 below9 meth9 c9 (MQ below9 (QV s0 D ev (cells ev X' M nb)) args9 s9 0 0 (frA ev)) s0 D ev 2 0 0 51 [(0, .ref (ev 0 + 7))] ([]) (cells ev X M nb) := by
    intro X h
    rw [fX6_advance_b51] at h
    refine g_aload_n (i := 0) F dX6_advance_51 rfl rfl ?_
    refine g_aload_n (i := 0) F dX6_advance_52 rfl rfl ?_
    refine g_get_6_3 F rfl (kd_lit (by decide)) wd_4_2 dX6_advance_53 ?_
    obtain ⟨X1, e2, h⟩ := bd_at h
    refine g_put_6_4 F rfl (kd_lit (by decide)) wd_4_3 dX6_advance_56 ?_
    rw [← e2]
    refine g_aload_n (i := 0) F dX6_advance_59 rfl rfl ?_
    refine g_aload_n (i := 0) F dX6_advance_60 rfl rfl ?_
    refine g_get_6_3 F rfl (kd_lit (by decide)) wd_4_2 dX6_advance_61 ?_
    obtain ⟨v3, e4, h⟩ := bind_at h
    refine g_callVI F (mcR := 0) (msR := 0) (id := 7) (cells_at (kd_lit (i := 7) (by decide)) (xc_6 rfl)) (ci := 6) rfl rfl rfl (c_X6_byteAt G0 e4) wd_9_2 wd_8_23 wd_9_0 wd_9_1 wd_1_18 ⟨by decide, by decide⟩ (nn := 1) (by decide) (As := [.int (X1.1 7 3)]) rfl rfl (Nat.le_of_ble_eq_true rfl) (by decide) (by decide) ⟨by decide, by decide⟩ dX6_advance_64 ?_
    refine g_istore_n (i := 1) (lv' := [(1, .int v3), (0, .ref (ev 0 + 7))]) F dX6_advance_67 rfl (by decide) rfl ?_
    refine g_iload_n (i := 1) F dX6_advance_68 rfl rfl ?_
    refine g_iconst F dX6_advance_69 (v := -1) (by decide) ?_
    refine g_icmp_ne (tgt := 81) F dX6_advance_70 (by decide) h (fun a23 h => ?_) (fun a23 h => ?_)
    · refine g_iload_n (i := 1) F dX6_advance_81 rfl rfl ?_
      refine g_callSI F (mcR := 0) (msR := 0) (c_X6_isDigit G0 (X := X1) (M := M) (nb := nb) rfl) wd_9_5 wd_9_3 wd_9_4 wd_1_18 ⟨by decide, by decide⟩ (nn := 1) (by decide) (As := [.int v3]) rfl rfl (Nat.le_of_ble_eq_true rfl) (by decide) (by decide) ⟨by decide, by decide⟩ dX6_advance_82 ?_
      refine g_if_eq (tgt := 95) F dX6_advance_85 (by decide) h (fun a20 h => ?_) (fun a20 h => ?_)
      · refine g_iload_n (i := 1) F dX6_advance_95 rfl rfl ?_
        refine g_callSI F (mcR := 0) (msR := 0) (c_X6_isLetter G0 (X := X1) (M := M) (nb := nb) rfl) wd_9_14 wd_9_12 wd_9_13 wd_1_18 ⟨by decide, by decide⟩ (nn := 1) (by decide) (As := [.int v3]) rfl rfl (Nat.le_of_ble_eq_true rfl) (by decide) (by decide) ⟨by decide, by decide⟩ dX6_advance_96 ?_
        refine g_if_eq (tgt := 109) F dX6_advance_99 (by decide) h (fun a17 h => ?_) (fun a17 h => ?_)
        · refine g_aload_n (i := 0) F dX6_advance_109 rfl rfl ?_
          refine g_iload_n (i := 1) F dX6_advance_110 rfl rfl ?_
          refine g_callSI F (mcR := 0) (msR := 0) (c_X6_signOf G0 (X := X1) (M := M) (nb := nb) rfl) wd_10_6 wd_10_4 wd_10_5 wd_1_18 ⟨by decide, by decide⟩ (nn := 1) (by decide) (As := [.int v3]) rfl rfl (Nat.le_of_ble_eq_true rfl) (by decide) (by decide) ⟨by decide, by decide⟩ dX6_advance_111 ?_
          obtain ⟨X11, e12, h⟩ := bd_at h
          refine g_put_6_5 F rfl (kd_lit (by decide)) wd_4_4 dX6_advance_114 ?_
          rw [← e12]
          refine g_aload_n (i := 0) F dX6_advance_117 rfl rfl ?_
          refine g_dup F dX6_advance_118 rfl ?_
          refine g_get_6_3 F rfl (kd_lit (by decide)) wd_4_2 dX6_advance_119 ?_
          refine g_iconst F dX6_advance_122 (v := 1) (by decide) ?_
          refine g_iadd F dX6_advance_123 ?_
          obtain ⟨X13, e14, h⟩ := bd_at h
          refine g_put_6_3 F rfl (kd_lit (by decide)) wd_4_2 dX6_advance_124 ?_
          rw [← e14]
          exact g_vret F hr9 hl9 (by rw [Option.some.inj h]) (by decide) (by decide) dX6_advance_127
        · refine g_aload_n (i := 0) F dX6_advance_102 rfl rfl ?_
          obtain ⟨X15, e16, h⟩ := bind_at h
          refine g_callVV F (mcR := 0) (msR := 0) (id := 7) (cells_at (kd_lit (i := 7) (by decide)) (xc_6 rfl)) (ci := 6) rfl rfl rfl (c_X6_readWord G0 e16) wd_9_18 wd_9_15 wd_9_16 wd_9_17 wd_1_18 ⟨by decide, by decide⟩ (nn := 0) (by decide) (As := []) rfl rfl (Nat.le_of_ble_eq_true rfl) (by decide) (by decide) ⟨by decide, by decide⟩ dX6_advance_103 ?_
          refine g_goto (tgt := 127) F dX6_advance_106 (by decide) ?_
          exact g_vret F hr9 hl9 (by rw [Option.some.inj h]) (by decide) (by decide) dX6_advance_127
      · refine g_aload_n (i := 0) F dX6_advance_88 rfl rfl ?_
        obtain ⟨X18, e19, h⟩ := bind_at h
        refine g_callVV F (mcR := 0) (msR := 0) (id := 7) (cells_at (kd_lit (i := 7) (by decide)) (xc_6 rfl)) (ci := 6) rfl rfl rfl (c_X6_readNumber G0 e19) wd_9_11 wd_9_8 wd_9_9 wd_9_10 wd_1_18 ⟨by decide, by decide⟩ (nn := 0) (by decide) (As := []) rfl rfl (Nat.le_of_ble_eq_true rfl) (by decide) (by decide) ⟨by decide, by decide⟩ dX6_advance_89 ?_
        refine g_goto (tgt := 127) F dX6_advance_92 (by decide) ?_
        exact g_vret F hr9 hl9 (by rw [Option.some.inj h]) (by decide) (by decide) dX6_advance_127
    · refine g_aload_n (i := 0) F dX6_advance_73 rfl rfl ?_
      refine g_iconst F dX6_advance_74 (v := 0) (by decide) ?_
      obtain ⟨X21, e22, h⟩ := bd_at h
      refine g_put_6_5 F rfl (kd_lit (by decide)) wd_4_4 dX6_advance_75 ?_
      rw [← e22]
      refine g_goto (tgt := 127) F dX6_advance_78 (by decide) ?_
      exact g_vret F hr9 hl9 (by rw [Option.some.inj h]) (by decide) (by decide) dX6_advance_127
  have L2 : ∀  (N2 : Nat) (X : XW) (l1 : Int32), lo2 (fX6_advance_l2) N2 X l1 = some (X') → GJ p9 l e9 (rg 8 0 0) s9 m9 args9 below9 meth9 c9 (MQ below9 (QV s0 D ev (cells ev X' M nb)) args9 s9 0 0 (frA ev)) s0 D ev 2 0 0 2 [(0, .ref (ev 0 + 7)), (1, .int l1)] ([]) (cells ev X M nb) := by
    intro  N2
    induction N2 with
    | zero => intro X l1 h; cases h
    | succ N2 ih2 =>
      have U35 : ∀ (X : XW) (l1 : Int32), fX6_advance_b35 (lo2 (fX6_advance_l2) N2) X l1 = some (X') → GJ p9 l e9 (rg 8 0 0) s9 m9 args9 below9 meth9 c9 (MQ below9 (QV s0 D ev (cells ev X' M nb)) args9 s9 0 0 (frA ev)) s0 D ev 2 0 0 35 [(0, .ref (ev 0 + 7)), (1, .int l1)] ([]) (cells ev X M nb) := by
        intro X l1 h
        rw [fX6_advance_b35] at h
        refine g_aload_n (i := 0) F dX6_advance_35 rfl rfl ?_
        refine g_dup F dX6_advance_36 rfl ?_
        refine g_get_6_3 F rfl (kd_lit (by decide)) wd_4_2 dX6_advance_37 ?_
        refine g_iconst F dX6_advance_40 (v := 1) (by decide) ?_
        refine g_iadd F dX6_advance_41 ?_
        obtain ⟨X26, e27, h⟩ := bd_at h
        refine g_put_6_3 F rfl (kd_lit (by decide)) wd_4_2 dX6_advance_42 ?_
        rw [← e27]
        refine g_iinc (i := 1) (v := (l1 + (1 : Int32))) (lv' := [(1, .int (l1 + (1 : Int32))), (0, .ref (ev 0 + 7))]) F dX6_advance_45 rfl rfl (by decide) rfl ?_
        refine g_goto (tgt := 2) F dX6_advance_48 (by decide) ?_
        refine g_lv (lv' := [(0, .ref (ev 0 + 7)), (1, .int (l1 + (1 : Int32)))]) ⟨rfl, rfl, trivial⟩ ?_
        exact ih2 _ _ h
      intro X l1 h
      change fX6_advance_l2 (lo2 (fX6_advance_l2) N2) X l1 = some (X') at h
      rw [fX6_advance_l2] at h
      refine g_iload_n (i := 1) F dX6_advance_2 rfl rfl ?_
      refine g_sipush F dX6_advance_3 (v := 160) (by decide) ?_
      refine g_icmp_ge (tgt := 51) F dX6_advance_6 (by decide) h (fun a32 h => ?_) (fun a32 h => ?_)
      · refine g_lv (lv' := [(0, .ref (ev 0 + 7))]) ⟨rfl, trivial⟩ ?_
        exact U51 _ h
      · refine g_aload_n (i := 0) F dX6_advance_9 rfl rfl ?_
        refine g_aload_n (i := 0) F dX6_advance_10 rfl rfl ?_
        refine g_get_6_3 F rfl (kd_lit (by decide)) wd_4_2 dX6_advance_11 ?_
        obtain ⟨v24, e25, h⟩ := bind_at h
        refine g_callVI F (mcR := 0) (msR := 0) (id := 7) (cells_at (kd_lit (i := 7) (by decide)) (xc_6 rfl)) (ci := 6) rfl rfl rfl (c_X6_byteAt G0 e25) wd_9_2 wd_8_23 wd_9_0 wd_9_1 wd_1_18 ⟨by decide, by decide⟩ (nn := 1) (by decide) (As := [.int (X.1 7 3)]) rfl rfl (Nat.le_of_ble_eq_true rfl) (by decide) (by decide) ⟨by decide, by decide⟩ dX6_advance_14 ?_
        refine g_bipush F dX6_advance_17 (v := 32) (by decide) ?_
        refine g_icmp_eq (tgt := 35) F dX6_advance_19 (by decide) h (fun a31 h => ?_) (fun a31 h => ?_)
        · refine g_lv (lv' := [(0, .ref (ev 0 + 7)), (1, .int l1)]) ⟨rfl, rfl, trivial⟩ ?_
          exact U35 _ _ h
        · refine g_aload_n (i := 0) F dX6_advance_22 rfl rfl ?_
          refine g_aload_n (i := 0) F dX6_advance_23 rfl rfl ?_
          refine g_get_6_3 F rfl (kd_lit (by decide)) wd_4_2 dX6_advance_24 ?_
          obtain ⟨v28, e29, h⟩ := bind_at h
          refine g_callVI F (mcR := 0) (msR := 0) (id := 7) (cells_at (kd_lit (i := 7) (by decide)) (xc_6 rfl)) (ci := 6) rfl rfl rfl (c_X6_byteAt G0 e29) wd_9_2 wd_8_23 wd_9_0 wd_9_1 wd_1_18 ⟨by decide, by decide⟩ (nn := 1) (by decide) (As := [.int (X.1 7 3)]) rfl rfl (Nat.le_of_ble_eq_true rfl) (by decide) (by decide) ⟨by decide, by decide⟩ dX6_advance_27 ?_
          refine g_bipush F dX6_advance_30 (v := 10) (by decide) ?_
          refine g_icmp_ne (tgt := 51) F dX6_advance_32 (by decide) h (fun a30 h => ?_) (fun a30 h => ?_)
          · refine g_lv (lv' := [(0, .ref (ev 0 + 7))]) ⟨rfl, trivial⟩ ?_
            exact U51 _ h
          · refine g_lv (lv' := [(0, .ref (ev 0 + 7)), (1, .int l1)]) ⟨rfl, rfl, trivial⟩ ?_
            exact U35 _ _ h
  rw [fX6_advance] at h
  refine g_lv (lv' := [(0, .ref (ev 0 + 7))]) ⟨rfl, trivial⟩ ?_
  refine g_iconst F dX6_advance_0 (v := 0) (by decide) ?_
  refine g_istore_n (i := 1) (lv' := [(1, .int (0 : Int32)), (0, .ref (ev 0 + 7))]) F dX6_advance_1 rfl (by decide) rfl ?_
  refine g_lv (lv' := [(0, .ref (ev 0 + 7)), (1, .int (0 : Int32))]) ⟨rfl, rfl, trivial⟩ ?_
  exact L2 FU _ _ h
def fX6_readFrom_l79 (rX6_readFrom : XW → Int32 → Int32 → Option (Int32 × XW)) (rX6_readOne : XW → Int32 → Option (Int32 × XW)) (l1f79 : Int32) (l2f79 : Int32) (l4f79 : Int32) (K79 : XW → Int32 → Int32 → Option (Int32 × XW)) (X : XW) (l3 : Int32) (l5 : Int32) : Option (Int32 × XW) :=
  if l4f79 ≤ l5 then if l3 = 0 ∨ l3 = 1 then some (l3, X) else none
  else if l3 = 0 then if l3 = 0 ∨ l3 = 1 then some (l3, X) else none
  else if (fX6_joins (X.1 7 5) l1f79) = 0 then if l3 = 0 ∨ l3 = 1 then some (l3, X) else none
  else bd (X.1 7 5) fun v9 =>
  (fX6_advance X).bind fun X11 =>
  bd2 (rX6_readFrom X11 (l1f79 + (1 : Int32)) l2f79) fun v14 X13 =>
  (fX6_emit X13 v9).bind fun X16 =>
  K79 X16 v14 (l5 + (1 : Int32))
def fX6_readFrom_b74 (rX6_readFrom : XW → Int32 → Int32 → Option (Int32 × XW)) (rX6_readOne : XW → Int32 → Option (Int32 × XW)) (X : XW) (l1 : Int32) (l2 : Int32) (l3 : Int32) (t0 : Int32) : Option (Int32 × XW) :=
  lo3 (fX6_readFrom_l79 rX6_readFrom rX6_readOne l1 l2 t0) FU X l3 (0 : Int32)
def fX6_readFrom_b53 (rX6_readFrom : XW → Int32 → Int32 → Option (Int32 × XW)) (rX6_readOne : XW → Int32 → Option (Int32 × XW)) (X : XW) (l1 : Int32) (l2 : Int32) : Option (Int32 × XW) :=
  bd2 (rX6_readFrom X (l1 + (1 : Int32)) l2) fun v2 X1 =>
  if l1 = (2 : Int32) then fX6_readFrom_b74 rX6_readFrom rX6_readOne X1 l1 l2 v2 (1 : Int32)
  else fX6_readFrom_b74 rX6_readFrom rX6_readOne X1 l1 l2 v2 (160 : Int32)
def fX6_readFrom_r (rX6_readFrom : XW → Int32 → Int32 → Option (Int32 × XW)) (rX6_readOne : XW → Int32 → Option (Int32 × XW)) (X : XW) (l1 : Int32) (l2 : Int32) : Option (Int32 × XW) :=
  if l1 = (5 : Int32) then bd2 (rX6_readOne X l2) fun v34 X33 =>
  if v34 = 0 ∨ v34 = 1 then some (v34, X33) else none
  else if l1 = (2 : Int32) then if (X.1 7 5) = (31 : Int32) then if l2 < (5 : Int32) then (fX6_advance X).bind fun X22 =>
  bd2 (rX6_readFrom X22 (2 : Int32) (l2 + (1 : Int32))) fun v25 X24 =>
  (fX6_emit X24 (31 : Int32)).bind fun X27 =>
  if v25 = 0 ∨ v25 = 1 then some (v25, X27) else none
  else some ((0 : Int32), X)
  else fX6_readFrom_b53 rX6_readFrom rX6_readOne X l1 l2
  else fX6_readFrom_b53 rX6_readFrom rX6_readOne X l1 l2
set_option maxRecDepth 100000 in
set_option maxHeartbeats 4000000 in
theorem c_X6_readFrom_r {l : Launch} {s0 : State} {D : va_G} {ev : Nat → Nat} (G0 : Gl s0 D ev) {X : XW} {M : MW} {nb : Nat} {l1 : Int32} {l2 : Int32} {r' : Int32} {X' : XW}  {d9 : Nat} {rX6_readFrom : XW → Int32 → Int32 → Option (Int32 × XW)} {rX6_readOne : XW → Int32 → Option (Int32 × XW)} (IH_X6_readFrom : ∀ {X1 : XW} {X2 : XW} {q1 : Int32} {q2 : Int32} {r2 : Int32}, rX6_readFrom X1 q1 q2 = some (r2, X2) → CT l s0 D ev yX6_readFrom cX6_readFrom 7 (some .boolean) (8 + 2 * d9) 0 0 [.ref (ev 0 + 7), .int q1, .int q2] (cells ev X1 M nb) (QI s0 D ev r2 (cells ev X2 M nb))) (IH_X6_readOne : ∀ {X1 : XW} {X2 : XW} {q1 : Int32} {r2 : Int32}, rX6_readOne X1 q1 = some (r2, X2) → CT l s0 D ev yX6_readOne cX6_readOne 4 (some .boolean) (8 + 2 * d9) 0 0 [.ref (ev 0 + 7), .int q1] (cells ev X1 M nb) (QI s0 D ev r2 (cells ev X2 M nb))) (h : fX6_readFrom_r rX6_readFrom rX6_readOne X l1 l2 = some (r', X')) : CT l s0 D ev yX6_readFrom cX6_readFrom 7 (some .boolean) (8 + 2 * d9 + 2) 0 0 [.ref (ev 0 + 7), .int l1, .int l2] (cells ev X M nb) (QI s0 D ev r' (cells ev X' M nb)) := by
  refine ct_of G0 (by decide) (Nat.le_of_ble_eq_true rfl) ?_
  intro p9 e9 s9 m9 args9 below9 meth9 c9 F hr9 hl9 hin9 hargs9 hts9
  have L79 : ∀ (l1f79 : Int32) (l2f79 : Int32) (l4f79 : Int32) (N79 : Nat) (X : XW) (l3 : Int32) (l5 : Int32), lo3 (fX6_readFrom_l79 rX6_readFrom rX6_readOne l1f79 l2f79 l4f79) N79 X l3 l5 = some (r', X') → GJ p9 l e9 (rg (8 + 2 * d9 + 2) 0 0) s9 m9 args9 below9 meth9 c9 (MQ below9 (QI s0 D ev r' (cells ev X' M nb)) args9 s9 0 0 (frA ev)) s0 D ev 7 0 0 79 [(0, .ref (ev 0 + 7)), (1, .int l1f79), (2, .int l2f79), (3, .int l3), (4, .int l4f79), (5, .int l5)] ([]) (cells ev X M nb) := by
    intro l1f79 l2f79 l4f79 N79
    induction N79 with
    | zero => intro X l3 l5 h; cases h
    | succ N79 ih79 =>
      intro X l3 l5 h
      change fX6_readFrom_l79 rX6_readFrom rX6_readOne l1f79 l2f79 l4f79 (lo3 (fX6_readFrom_l79 rX6_readFrom rX6_readOne l1f79 l2f79 l4f79) N79) X l3 l5 = some (r', X') at h
      rw [fX6_readFrom_l79] at h
      refine g_iload (i := 5) F dX6_readFrom_79 rfl ?_
      refine g_iload (i := 4) F dX6_readFrom_81 rfl ?_
      refine g_icmp_ge (tgt := 132) F dX6_readFrom_83 (by decide) h (fun a20 h => ?_) (fun a20 h => ?_)
      · refine g_iload_n (i := 3) F dX6_readFrom_132 rfl rfl ?_
        obtain ⟨h4, h⟩ := if_at h
        have hp := Prod.mk.inj (Option.some.inj h)
        exact g_iret F hr9 (nar_b h4) hl9 hp.1 (by rw [hp.2]) (by decide) (by decide) dX6_readFrom_133
      · refine g_iload_n (i := 3) F dX6_readFrom_86 rfl rfl ?_
        refine g_if_eq (tgt := 132) F dX6_readFrom_87 (by decide) h (fun a19 h => ?_) (fun a19 h => ?_)
        · refine g_iload_n (i := 3) F dX6_readFrom_132 rfl rfl ?_
          obtain ⟨h5, h⟩ := if_at h
          have hp := Prod.mk.inj (Option.some.inj h)
          exact g_iret F hr9 (nar_b h5) hl9 hp.1 (by rw [hp.2]) (by decide) (by decide) dX6_readFrom_133
        · refine g_aload_n (i := 0) F dX6_readFrom_90 rfl rfl ?_
          refine g_get_6_5 F rfl (kd_lit (by decide)) wd_4_4 dX6_readFrom_91 ?_
          refine g_iload_n (i := 1) F dX6_readFrom_94 rfl rfl ?_
          refine g_callSI F (mcR := 0) (msR := 0) (c_X6_joins G0 (X := X) (M := M) (nb := nb) rfl) wd_11_0 wd_10_22 wd_10_23 wd_1_18 ⟨by decide, by decide⟩ (nn := 2) (by decide) (As := [.int (X.1 7 5), .int l1f79]) rfl rfl (Nat.le_of_ble_eq_true rfl) (by omega) (by omega) ⟨by decide, by decide⟩ dX6_readFrom_95 ?_
          refine g_if_eq (tgt := 132) F dX6_readFrom_98 (by decide) h (fun a18 h => ?_) (fun a18 h => ?_)
          · refine g_iload_n (i := 3) F dX6_readFrom_132 rfl rfl ?_
            obtain ⟨h8, h⟩ := if_at h
            have hp := Prod.mk.inj (Option.some.inj h)
            exact g_iret F hr9 (nar_b h8) hl9 hp.1 (by rw [hp.2]) (by decide) (by decide) dX6_readFrom_133
          · refine g_aload_n (i := 0) F dX6_readFrom_101 rfl rfl ?_
            refine g_get_6_5 F rfl (kd_lit (by decide)) wd_4_4 dX6_readFrom_102 ?_
            refine g_topi F h (fun v9 e10 h => ?_)
            refine g_istore (i := 6) (lv' := [(6, .int v9), (0, .ref (ev 0 + 7)), (1, .int l1f79), (2, .int l2f79), (3, .int l3), (4, .int l4f79), (5, .int l5)]) F dX6_readFrom_105 (by decide) rfl ?_
            refine g_aload_n (i := 0) F dX6_readFrom_107 rfl rfl ?_
            obtain ⟨X11, e12, h⟩ := bind_at h
            refine g_callVV F (mcR := 0) (msR := 0) (id := 7) (cells_at (kd_lit (i := 7) (by decide)) (xc_6 rfl)) (ci := 6) rfl rfl rfl (c_X6_advance G0 e12) wd_8_22 wd_8_19 wd_8_20 wd_8_21 wd_1_18 ⟨by decide, by decide⟩ (nn := 0) (by decide) (As := []) rfl rfl (Nat.le_of_ble_eq_true rfl) (by omega) (by omega) ⟨by decide, by decide⟩ dX6_readFrom_108 ?_
            refine g_aload_n (i := 0) F dX6_readFrom_111 rfl rfl ?_
            refine g_iload_n (i := 1) F dX6_readFrom_112 rfl rfl ?_
            refine g_iconst F dX6_readFrom_113 (v := 1) (by decide) ?_
            refine g_iadd F dX6_readFrom_114 ?_
            refine g_iload_n (i := 2) F dX6_readFrom_115 rfl rfl ?_
            obtain ⟨v14, X13, e15, h⟩ := bd2_at h
            refine g_callVI F (mcR := 0) (msR := 0) (id := 7) (cells_at (kd_lit (i := 7) (by decide)) (xc_6 rfl)) (ci := 6) rfl rfl rfl (IH_X6_readFrom e15) wd_10_10 wd_10_7 wd_10_8 wd_10_9 wd_1_18 ⟨by decide, by decide⟩ (nn := 2) (by decide) (As := [.int (l1f79 + (1 : Int32)), .int l2f79]) rfl rfl (Nat.le_of_ble_eq_true rfl) (by omega) (by omega) ⟨by decide, by decide⟩ dX6_readFrom_116 ?_
            refine g_istore_n (i := 3) (lv' := [(3, .int v14), (6, .int v9), (0, .ref (ev 0 + 7)), (1, .int l1f79), (2, .int l2f79), (4, .int l4f79), (5, .int l5)]) F dX6_readFrom_119 rfl (by decide) rfl ?_
            refine g_aload_n (i := 0) F dX6_readFrom_120 rfl rfl ?_
            refine g_iload (i := 6) F dX6_readFrom_121 rfl ?_
            obtain ⟨X16, e17, h⟩ := bind_at h
            refine g_callVV F (mcR := 0) (msR := 0) (id := 7) (cells_at (kd_lit (i := 7) (by decide)) (xc_6 rfl)) (ci := 6) rfl rfl rfl (c_X6_emit G0 e17) wd_10_17 wd_10_14 wd_10_15 wd_10_16 wd_1_18 ⟨by decide, by decide⟩ (nn := 1) (by decide) (As := [.int v9]) rfl rfl (Nat.le_of_ble_eq_true rfl) (by omega) (by omega) ⟨by decide, by decide⟩ dX6_readFrom_123 ?_
            refine g_iinc (i := 5) (v := (l5 + (1 : Int32))) (lv' := [(5, .int (l5 + (1 : Int32))), (3, .int v14), (6, .int v9), (0, .ref (ev 0 + 7)), (1, .int l1f79), (2, .int l2f79), (4, .int l4f79)]) F dX6_readFrom_126 rfl rfl (by decide) rfl ?_
            refine g_goto (tgt := 79) F dX6_readFrom_129 (by decide) ?_
            refine g_lv (lv' := [(0, .ref (ev 0 + 7)), (1, .int l1f79), (2, .int l2f79), (3, .int v14), (4, .int l4f79), (5, .int (l5 + (1 : Int32)))]) ⟨rfl, rfl, rfl, rfl, rfl, rfl, trivial⟩ ?_
            exact ih79 _ _ _ h
  have U74 : ∀ (X : XW) (l1 : Int32) (l2 : Int32) (l3 : Int32) (t0 : Int32), fX6_readFrom_b74 rX6_readFrom rX6_readOne X l1 l2 l3 t0 = some (r', X') → GJ p9 l e9 (rg (8 + 2 * d9 + 2) 0 0) s9 m9 args9 below9 meth9 c9 (MQ below9 (QI s0 D ev r' (cells ev X' M nb)) args9 s9 0 0 (frA ev)) s0 D ev 7 0 0 74 [(0, .ref (ev 0 + 7)), (1, .int l1), (2, .int l2), (3, .int l3)] (.int t0 :: []) (cells ev X M nb) := by
    intro X l1 l2 l3 t0 h
    rw [fX6_readFrom_b74] at h
    refine g_istore (i := 4) (lv' := [(4, .int t0), (0, .ref (ev 0 + 7)), (1, .int l1), (2, .int l2), (3, .int l3)]) F dX6_readFrom_74 (by decide) rfl ?_
    refine g_iconst F dX6_readFrom_76 (v := 0) (by decide) ?_
    refine g_istore (i := 5) (lv' := [(5, .int (0 : Int32)), (4, .int t0), (0, .ref (ev 0 + 7)), (1, .int l1), (2, .int l2), (3, .int l3)]) F dX6_readFrom_77 (by decide) rfl ?_
    refine g_lv (lv' := [(0, .ref (ev 0 + 7)), (1, .int l1), (2, .int l2), (3, .int l3), (4, .int t0), (5, .int (0 : Int32))]) ⟨rfl, rfl, rfl, rfl, rfl, rfl, trivial⟩ ?_
    exact L79 _ _ _ FU _ _ _ h
  have U53 : ∀ (X : XW) (l1 : Int32) (l2 : Int32), fX6_readFrom_b53 rX6_readFrom rX6_readOne X l1 l2 = some (r', X') → GJ p9 l e9 (rg (8 + 2 * d9 + 2) 0 0) s9 m9 args9 below9 meth9 c9 (MQ below9 (QI s0 D ev r' (cells ev X' M nb)) args9 s9 0 0 (frA ev)) s0 D ev 7 0 0 53 [(0, .ref (ev 0 + 7)), (1, .int l1), (2, .int l2)] ([]) (cells ev X M nb) := by
    intro X l1 l2 h
    rw [fX6_readFrom_b53] at h
    refine g_aload_n (i := 0) F dX6_readFrom_53 rfl rfl ?_
    refine g_iload_n (i := 1) F dX6_readFrom_54 rfl rfl ?_
    refine g_iconst F dX6_readFrom_55 (v := 1) (by decide) ?_
    refine g_iadd F dX6_readFrom_56 ?_
    refine g_iload_n (i := 2) F dX6_readFrom_57 rfl rfl ?_
    obtain ⟨v2, X1, e3, h⟩ := bd2_at h
    refine g_callVI F (mcR := 0) (msR := 0) (id := 7) (cells_at (kd_lit (i := 7) (by decide)) (xc_6 rfl)) (ci := 6) rfl rfl rfl (IH_X6_readFrom e3) wd_10_10 wd_10_7 wd_10_8 wd_10_9 wd_1_18 ⟨by decide, by decide⟩ (nn := 2) (by decide) (As := [.int (l1 + (1 : Int32)), .int l2]) rfl rfl (Nat.le_of_ble_eq_true rfl) (by omega) (by omega) ⟨by decide, by decide⟩ dX6_readFrom_58 ?_
    refine g_istore_n (i := 3) (lv' := [(3, .int v2), (0, .ref (ev 0 + 7)), (1, .int l1), (2, .int l2)]) F dX6_readFrom_61 rfl (by decide) rfl ?_
    refine g_iload_n (i := 1) F dX6_readFrom_62 rfl rfl ?_
    refine g_iconst F dX6_readFrom_63 (v := 2) (by decide) ?_
    refine g_icmp_ne (tgt := 71) F dX6_readFrom_64 (by decide) h (fun a21 h => ?_) (fun a21 h => ?_)
    · refine g_sipush F dX6_readFrom_71 (v := 160) (by decide) ?_
      refine g_lv (lv' := [(0, .ref (ev 0 + 7)), (1, .int l1), (2, .int l2), (3, .int v2)]) ⟨rfl, rfl, rfl, rfl, trivial⟩ ?_
      exact U74 _ _ _ _ _ h
    · refine g_iconst F dX6_readFrom_67 (v := 1) (by decide) ?_
      refine g_goto (tgt := 74) F dX6_readFrom_68 (by decide) ?_
      refine g_lv (lv' := [(0, .ref (ev 0 + 7)), (1, .int l1), (2, .int l2), (3, .int v2)]) ⟨rfl, rfl, rfl, rfl, trivial⟩ ?_
      exact U74 _ _ _ _ _ h
  rw [fX6_readFrom_r] at h
  refine g_lv (lv' := [(0, .ref (ev 0 + 7)), (1, .int l1), (2, .int l2)]) ⟨rfl, rfl, rfl, trivial⟩ ?_
  refine g_iload_n (i := 1) F dX6_readFrom_0 rfl rfl ?_
  refine g_iconst F dX6_readFrom_1 (v := 5) (by decide) ?_
  refine g_icmp_ne (tgt := 11) F dX6_readFrom_2 (by decide) h (fun a37 h => ?_) (fun a37 h => ?_)
  · refine g_iload_n (i := 1) F dX6_readFrom_11 rfl rfl ?_
    refine g_iconst F dX6_readFrom_12 (v := 2) (by decide) ?_
    refine g_icmp_ne (tgt := 53) F dX6_readFrom_13 (by decide) h (fun a32 h => ?_) (fun a32 h => ?_)
    · refine g_lv (lv' := [(0, .ref (ev 0 + 7)), (1, .int l1), (2, .int l2)]) ⟨rfl, rfl, rfl, trivial⟩ ?_
      exact U53 _ _ _ h
    · refine g_aload_n (i := 0) F dX6_readFrom_16 rfl rfl ?_
      refine g_get_6_5 F rfl (kd_lit (by decide)) wd_4_4 dX6_readFrom_17 ?_
      refine g_bipush F dX6_readFrom_20 (v := 31) (by decide) ?_
      refine g_icmp_ne (tgt := 53) F dX6_readFrom_22 (by decide) h (fun a31 h => ?_) (fun a31 h => ?_)
      · refine g_lv (lv' := [(0, .ref (ev 0 + 7)), (1, .int l1), (2, .int l2)]) ⟨rfl, rfl, rfl, trivial⟩ ?_
        exact U53 _ _ _ h
      · refine g_iload_n (i := 2) F dX6_readFrom_25 rfl rfl ?_
        refine g_iconst F dX6_readFrom_26 (v := 5) (by decide) ?_
        refine g_icmp_lt (tgt := 32) F dX6_readFrom_27 (by decide) h (fun a30 h => ?_) (fun a30 h => ?_)
        · refine g_aload_n (i := 0) F dX6_readFrom_32 rfl rfl ?_
          obtain ⟨X22, e23, h⟩ := bind_at h
          refine g_callVV F (mcR := 0) (msR := 0) (id := 7) (cells_at (kd_lit (i := 7) (by decide)) (xc_6 rfl)) (ci := 6) rfl rfl rfl (c_X6_advance G0 e23) wd_8_22 wd_8_19 wd_8_20 wd_8_21 wd_1_18 ⟨by decide, by decide⟩ (nn := 0) (by decide) (As := []) rfl rfl (Nat.le_of_ble_eq_true rfl) (by omega) (by omega) ⟨by decide, by decide⟩ dX6_readFrom_33 ?_
          refine g_aload_n (i := 0) F dX6_readFrom_36 rfl rfl ?_
          refine g_iconst F dX6_readFrom_37 (v := 2) (by decide) ?_
          refine g_iload_n (i := 2) F dX6_readFrom_38 rfl rfl ?_
          refine g_iconst F dX6_readFrom_39 (v := 1) (by decide) ?_
          refine g_iadd F dX6_readFrom_40 ?_
          obtain ⟨v25, X24, e26, h⟩ := bd2_at h
          refine g_callVI F (mcR := 0) (msR := 0) (id := 7) (cells_at (kd_lit (i := 7) (by decide)) (xc_6 rfl)) (ci := 6) rfl rfl rfl (IH_X6_readFrom e26) wd_10_10 wd_10_7 wd_10_8 wd_10_9 wd_1_18 ⟨by decide, by decide⟩ (nn := 2) (by decide) (As := [.int (2 : Int32), .int (l2 + (1 : Int32))]) rfl rfl (Nat.le_of_ble_eq_true rfl) (by omega) (by omega) ⟨by decide, by decide⟩ dX6_readFrom_41 ?_
          refine g_istore_n (i := 3) (lv' := [(3, .int v25), (0, .ref (ev 0 + 7)), (1, .int l1), (2, .int l2)]) F dX6_readFrom_44 rfl (by decide) rfl ?_
          refine g_aload_n (i := 0) F dX6_readFrom_45 rfl rfl ?_
          refine g_bipush F dX6_readFrom_46 (v := 31) (by decide) ?_
          obtain ⟨X27, e28, h⟩ := bind_at h
          refine g_callVV F (mcR := 0) (msR := 0) (id := 7) (cells_at (kd_lit (i := 7) (by decide)) (xc_6 rfl)) (ci := 6) rfl rfl rfl (c_X6_emit G0 e28) wd_10_17 wd_10_14 wd_10_15 wd_10_16 wd_1_18 ⟨by decide, by decide⟩ (nn := 1) (by decide) (As := [.int (31 : Int32)]) rfl rfl (Nat.le_of_ble_eq_true rfl) (by omega) (by omega) ⟨by decide, by decide⟩ dX6_readFrom_48 ?_
          refine g_iload_n (i := 3) F dX6_readFrom_51 rfl rfl ?_
          obtain ⟨h29, h⟩ := if_at h
          have hp := Prod.mk.inj (Option.some.inj h)
          exact g_iret F hr9 (nar_b h29) hl9 hp.1 (by rw [hp.2]) (by decide) (by decide) dX6_readFrom_52
        · refine g_iconst F dX6_readFrom_30 (v := 0) (by decide) ?_
          have hp := Prod.mk.inj (Option.some.inj h)
          exact g_iret F hr9 (by decide) hl9 hp.1 (by rw [hp.2]) (by decide) (by decide) dX6_readFrom_31
  · refine g_aload_n (i := 0) F dX6_readFrom_5 rfl rfl ?_
    refine g_iload_n (i := 2) F dX6_readFrom_6 rfl rfl ?_
    obtain ⟨v34, X33, e35, h⟩ := bd2_at h
    refine g_callVI F (mcR := 0) (msR := 0) (id := 7) (cells_at (kd_lit (i := 7) (by decide)) (xc_6 rfl)) (ci := 6) rfl rfl rfl (IH_X6_readOne e35) wd_11_1 wd_10_11 wd_10_12 wd_10_13 wd_1_18 ⟨by decide, by decide⟩ (nn := 1) (by decide) (As := [.int l2]) rfl rfl (Nat.le_of_ble_eq_true rfl) (by omega) (by omega) ⟨by decide, by decide⟩ dX6_readFrom_7 ?_
    obtain ⟨h36, h⟩ := if_at h
    have hp := Prod.mk.inj (Option.some.inj h)
    exact g_iret F hr9 (nar_b h36) hl9 hp.1 (by rw [hp.2]) (by decide) (by decide) dX6_readFrom_10
def fX6_readOne_b138 (rX6_readFrom : XW → Int32 → Int32 → Option (Int32 × XW)) (rX6_readOne : XW → Int32 → Option (Int32 × XW)) (X : XW) : Option (Int32 × XW) :=
  (fX6_advance X).bind fun X6 =>
  some ((1 : Int32), X6)
def fX6_readOne_b27 (rX6_readFrom : XW → Int32 → Int32 → Option (Int32 × XW)) (rX6_readOne : XW → Int32 → Option (Int32 × XW)) (X : XW) (l1 : Int32) (l2 : Int32) : Option (Int32 × XW) :=
  if l1 < (5 : Int32) then (fX6_advance X).bind fun X1 =>
  if l2 = 0 then bd2 (rX6_readFrom X1 (0 : Int32) (l1 + (1 : Int32))) fun v4 X3 =>
  if v4 = 0 then some ((0 : Int32), X3)
  else if (X3.1 7 5) = (4 : Int32) then fX6_readOne_b138 rX6_readFrom rX6_readOne X3
  else some ((0 : Int32), X3)
  else bd2 (rX6_readOne X1 (l1 + (1 : Int32))) fun v11 X10 =>
  (fX6_emit X10 (11 : Int32)).bind fun X13 =>
  if v11 = 0 ∨ v11 = 1 then some (v11, X13) else none
  else some ((0 : Int32), X)
def fX6_readOne_b14 (rX6_readFrom : XW → Int32 → Int32 → Option (Int32 × XW)) (rX6_readOne : XW → Int32 → Option (Int32 × XW)) (X : XW) (l1 : Int32) (t0 : Int32) : Option (Int32 × XW) :=
  if t0 = 0 then if (X.1 7 5) = (3 : Int32) then fX6_readOne_b27 rX6_readFrom rX6_readOne X l1 t0
  else if (X.1 7 5) = (2 : Int32) then bd (X.2.2 7 2) fun r28 =>
  (r28).bind fun b30 =>
  if kd b30 = 5 then (fX5_add X b30 (X.1 7 6)).bind fun X33 =>
  fX6_readOne_b138 rX6_readFrom rX6_readOne X33 else none
  else if (fX9_within (X.1 7 5) (20 : Int32) (25 : Int32)) = 0 then some ((0 : Int32), X)
  else bd (X.2.2 7 2) fun r20 =>
  (r20).bind fun b22 =>
  if kd b22 = 5 then (fX5_add X b22 (((10000 : Int32) + (X.1 7 5)) - (20 : Int32))).bind fun X25 =>
  fX6_readOne_b138 rX6_readFrom rX6_readOne X25 else none
  else fX6_readOne_b27 rX6_readFrom rX6_readOne X l1 t0
def fX6_readOne_r (rX6_readFrom : XW → Int32 → Int32 → Option (Int32 × XW)) (rX6_readOne : XW → Int32 → Option (Int32 × XW)) (X : XW) (l1 : Int32) : Option (Int32 × XW) :=
  if (X.1 7 5) = (7 : Int32) then fX6_readOne_b14 rX6_readFrom rX6_readOne X l1 (1 : Int32)
  else fX6_readOne_b14 rX6_readFrom rX6_readOne X l1 (0 : Int32)
set_option maxRecDepth 100000 in
set_option maxHeartbeats 4000000 in
theorem c_X6_readOne_r {l : Launch} {s0 : State} {D : va_G} {ev : Nat → Nat} (G0 : Gl s0 D ev) {X : XW} {M : MW} {nb : Nat} {l1 : Int32} {r' : Int32} {X' : XW}  {d9 : Nat} {rX6_readFrom : XW → Int32 → Int32 → Option (Int32 × XW)} {rX6_readOne : XW → Int32 → Option (Int32 × XW)} (IH_X6_readFrom : ∀ {X1 : XW} {X2 : XW} {q1 : Int32} {q2 : Int32} {r2 : Int32}, rX6_readFrom X1 q1 q2 = some (r2, X2) → CT l s0 D ev yX6_readFrom cX6_readFrom 7 (some .boolean) (8 + 2 * d9) 0 0 [.ref (ev 0 + 7), .int q1, .int q2] (cells ev X1 M nb) (QI s0 D ev r2 (cells ev X2 M nb))) (IH_X6_readOne : ∀ {X1 : XW} {X2 : XW} {q1 : Int32} {r2 : Int32}, rX6_readOne X1 q1 = some (r2, X2) → CT l s0 D ev yX6_readOne cX6_readOne 4 (some .boolean) (8 + 2 * d9) 0 0 [.ref (ev 0 + 7), .int q1] (cells ev X1 M nb) (QI s0 D ev r2 (cells ev X2 M nb))) (h : fX6_readOne_r rX6_readFrom rX6_readOne X l1 = some (r', X')) : CT l s0 D ev yX6_readOne cX6_readOne 4 (some .boolean) (8 + 2 * d9 + 2) 0 0 [.ref (ev 0 + 7), .int l1] (cells ev X M nb) (QI s0 D ev r' (cells ev X' M nb)) := by
  refine ct_of G0 (by decide) (Nat.le_of_ble_eq_true rfl) ?_
  intro p9 e9 s9 m9 args9 below9 meth9 c9 F hr9 hl9 hin9 hargs9 hts9
  have U138 : ∀ (X : XW), fX6_readOne_b138 rX6_readFrom rX6_readOne X = some (r', X') → GJ p9 l e9 (rg (8 + 2 * d9 + 2) 0 0) s9 m9 args9 below9 meth9 c9 (MQ below9 (QI s0 D ev r' (cells ev X' M nb)) args9 s9 0 0 (frA ev)) s0 D ev 4 0 0 138 [(0, .ref (ev 0 + 7))] ([]) (cells ev X M nb) := by
    intro X h
    rw [fX6_readOne_b138] at h
    refine g_aload_n (i := 0) F dX6_readOne_138 rfl rfl ?_
    obtain ⟨X6, e7, h⟩ := bind_at h
    refine g_callVV F (mcR := 0) (msR := 0) (id := 7) (cells_at (kd_lit (i := 7) (by decide)) (xc_6 rfl)) (ci := 6) rfl rfl rfl (c_X6_advance G0 e7) wd_8_22 wd_8_19 wd_8_20 wd_8_21 wd_1_18 ⟨by decide, by decide⟩ (nn := 0) (by decide) (As := []) rfl rfl (Nat.le_of_ble_eq_true rfl) (by omega) (by omega) ⟨by decide, by decide⟩ dX6_readOne_139 ?_
    refine g_iconst F dX6_readOne_142 (v := 1) (by decide) ?_
    have hp := Prod.mk.inj (Option.some.inj h)
    exact g_iret F hr9 (by decide) hl9 hp.1 (by rw [hp.2]) (by decide) (by decide) dX6_readOne_143
  have U27 : ∀ (X : XW) (l1 : Int32) (l2 : Int32), fX6_readOne_b27 rX6_readFrom rX6_readOne X l1 l2 = some (r', X') → GJ p9 l e9 (rg (8 + 2 * d9 + 2) 0 0) s9 m9 args9 below9 meth9 c9 (MQ below9 (QI s0 D ev r' (cells ev X' M nb)) args9 s9 0 0 (frA ev)) s0 D ev 4 0 0 27 [(0, .ref (ev 0 + 7)), (1, .int l1), (2, .int l2)] ([]) (cells ev X M nb) := by
    intro X l1 l2 h
    rw [fX6_readOne_b27] at h
    refine g_iload_n (i := 1) F dX6_readOne_27 rfl rfl ?_
    refine g_iconst F dX6_readOne_28 (v := 5) (by decide) ?_
    refine g_icmp_lt (tgt := 34) F dX6_readOne_29 (by decide) h (fun a17 h => ?_) (fun a17 h => ?_)
    · refine g_aload_n (i := 0) F dX6_readOne_34 rfl rfl ?_
      obtain ⟨X1, e2, h⟩ := bind_at h
      refine g_callVV F (mcR := 0) (msR := 0) (id := 7) (cells_at (kd_lit (i := 7) (by decide)) (xc_6 rfl)) (ci := 6) rfl rfl rfl (c_X6_advance G0 e2) wd_8_22 wd_8_19 wd_8_20 wd_8_21 wd_1_18 ⟨by decide, by decide⟩ (nn := 0) (by decide) (As := []) rfl rfl (Nat.le_of_ble_eq_true rfl) (by omega) (by omega) ⟨by decide, by decide⟩ dX6_readOne_35 ?_
      refine g_iload_n (i := 2) F dX6_readOne_38 rfl rfl ?_
      refine g_if_eq (tgt := 58) F dX6_readOne_39 (by decide) h (fun a16 h => ?_) (fun a16 h => ?_)
      · refine g_aload_n (i := 0) F dX6_readOne_58 rfl rfl ?_
        refine g_iconst F dX6_readOne_59 (v := 0) (by decide) ?_
        refine g_iload_n (i := 1) F dX6_readOne_60 rfl rfl ?_
        refine g_iconst F dX6_readOne_61 (v := 1) (by decide) ?_
        refine g_iadd F dX6_readOne_62 ?_
        obtain ⟨v4, X3, e5, h⟩ := bd2_at h
        refine g_callVI F (mcR := 0) (msR := 0) (id := 7) (cells_at (kd_lit (i := 7) (by decide)) (xc_6 rfl)) (ci := 6) rfl rfl rfl (IH_X6_readFrom e5) wd_10_10 wd_10_7 wd_10_8 wd_10_9 wd_1_18 ⟨by decide, by decide⟩ (nn := 2) (by decide) (As := [.int (0 : Int32), .int (l1 + (1 : Int32))]) rfl rfl (Nat.le_of_ble_eq_true rfl) (by omega) (by omega) ⟨by decide, by decide⟩ dX6_readOne_63 ?_
        refine g_if_eq (tgt := 77) F dX6_readOne_66 (by decide) h (fun a9 h => ?_) (fun a9 h => ?_)
        · refine g_iconst F dX6_readOne_77 (v := 0) (by decide) ?_
          have hp := Prod.mk.inj (Option.some.inj h)
          exact g_iret F hr9 (by decide) hl9 hp.1 (by rw [hp.2]) (by decide) (by decide) dX6_readOne_78
        · refine g_aload_n (i := 0) F dX6_readOne_69 rfl rfl ?_
          refine g_get_6_5 F rfl (kd_lit (by decide)) wd_4_4 dX6_readOne_70 ?_
          refine g_iconst F dX6_readOne_73 (v := 4) (by decide) ?_
          refine g_icmp_eq (tgt := 138) F dX6_readOne_74 (by decide) h (fun a8 h => ?_) (fun a8 h => ?_)
          · refine g_lv (lv' := [(0, .ref (ev 0 + 7))]) ⟨rfl, trivial⟩ ?_
            exact U138 _ h
          · refine g_iconst F dX6_readOne_77 (v := 0) (by decide) ?_
            have hp := Prod.mk.inj (Option.some.inj h)
            exact g_iret F hr9 (by decide) hl9 hp.1 (by rw [hp.2]) (by decide) (by decide) dX6_readOne_78
      · refine g_aload_n (i := 0) F dX6_readOne_42 rfl rfl ?_
        refine g_iload_n (i := 1) F dX6_readOne_43 rfl rfl ?_
        refine g_iconst F dX6_readOne_44 (v := 1) (by decide) ?_
        refine g_iadd F dX6_readOne_45 ?_
        obtain ⟨v11, X10, e12, h⟩ := bd2_at h
        refine g_callVI F (mcR := 0) (msR := 0) (id := 7) (cells_at (kd_lit (i := 7) (by decide)) (xc_6 rfl)) (ci := 6) rfl rfl rfl (IH_X6_readOne e12) wd_11_1 wd_10_11 wd_10_12 wd_10_13 wd_1_18 ⟨by decide, by decide⟩ (nn := 1) (by decide) (As := [.int (l1 + (1 : Int32))]) rfl rfl (Nat.le_of_ble_eq_true rfl) (by omega) (by omega) ⟨by decide, by decide⟩ dX6_readOne_46 ?_
        refine g_istore_n (i := 3) (lv' := [(3, .int v11), (0, .ref (ev 0 + 7)), (1, .int l1), (2, .int l2)]) F dX6_readOne_49 rfl (by decide) rfl ?_
        refine g_aload_n (i := 0) F dX6_readOne_50 rfl rfl ?_
        refine g_bipush F dX6_readOne_51 (v := 11) (by decide) ?_
        obtain ⟨X13, e14, h⟩ := bind_at h
        refine g_callVV F (mcR := 0) (msR := 0) (id := 7) (cells_at (kd_lit (i := 7) (by decide)) (xc_6 rfl)) (ci := 6) rfl rfl rfl (c_X6_emit G0 e14) wd_10_17 wd_10_14 wd_10_15 wd_10_16 wd_1_18 ⟨by decide, by decide⟩ (nn := 1) (by decide) (As := [.int (11 : Int32)]) rfl rfl (Nat.le_of_ble_eq_true rfl) (by omega) (by omega) ⟨by decide, by decide⟩ dX6_readOne_53 ?_
        refine g_iload_n (i := 3) F dX6_readOne_56 rfl rfl ?_
        obtain ⟨h15, h⟩ := if_at h
        have hp := Prod.mk.inj (Option.some.inj h)
        exact g_iret F hr9 (nar_b h15) hl9 hp.1 (by rw [hp.2]) (by decide) (by decide) dX6_readOne_57
    · refine g_iconst F dX6_readOne_32 (v := 0) (by decide) ?_
      have hp := Prod.mk.inj (Option.some.inj h)
      exact g_iret F hr9 (by decide) hl9 hp.1 (by rw [hp.2]) (by decide) (by decide) dX6_readOne_33
  have U14 : ∀ (X : XW) (l1 : Int32) (t0 : Int32), fX6_readOne_b14 rX6_readFrom rX6_readOne X l1 t0 = some (r', X') → GJ p9 l e9 (rg (8 + 2 * d9 + 2) 0 0) s9 m9 args9 below9 meth9 c9 (MQ below9 (QI s0 D ev r' (cells ev X' M nb)) args9 s9 0 0 (frA ev)) s0 D ev 4 0 0 14 [(0, .ref (ev 0 + 7)), (1, .int l1)] (.int t0 :: []) (cells ev X M nb) := by
    intro X l1 t0 h
    rw [fX6_readOne_b14] at h
    refine g_istore_n (i := 2) (lv' := [(2, .int t0), (0, .ref (ev 0 + 7)), (1, .int l1)]) F dX6_readOne_14 rfl (by decide) rfl ?_
    refine g_iload_n (i := 2) F dX6_readOne_15 rfl rfl ?_
    refine g_if_ne (tgt := 27) F dX6_readOne_16 (by decide) h (fun a37 h => ?_) (fun a37 h => ?_)
    · refine g_lv (lv' := [(0, .ref (ev 0 + 7)), (1, .int l1), (2, .int t0)]) ⟨rfl, rfl, rfl, trivial⟩ ?_
      exact U27 _ _ _ h
    · refine g_aload_n (i := 0) F dX6_readOne_19 rfl rfl ?_
      refine g_get_6_5 F rfl (kd_lit (by decide)) wd_4_4 dX6_readOne_20 ?_
      refine g_iconst F dX6_readOne_23 (v := 3) (by decide) ?_
      refine g_icmp_ne (tgt := 79) F dX6_readOne_24 (by decide) h (fun a36 h => ?_) (fun a36 h => ?_)
      · refine g_aload_n (i := 0) F dX6_readOne_79 rfl rfl ?_
        refine g_get_6_5 F rfl (kd_lit (by decide)) wd_4_4 dX6_readOne_80 ?_
        refine g_iconst F dX6_readOne_83 (v := 2) (by decide) ?_
        refine g_icmp_ne (tgt := 101) F dX6_readOne_84 (by decide) h (fun a35 h => ?_) (fun a35 h => ?_)
        · refine g_aload_n (i := 0) F dX6_readOne_101 rfl rfl ?_
          refine g_get_6_5 F rfl (kd_lit (by decide)) wd_4_4 dX6_readOne_102 ?_
          refine g_bipush F dX6_readOne_105 (v := 20) (by decide) ?_
          refine g_bipush F dX6_readOne_107 (v := 25) (by decide) ?_
          refine g_callSNI F (mcR := 0) (msR := 0) (c_X9_within G0 (X := X) (M := M) (nb := nb) rfl) wd_9_7 (List.mem_of_getElem? (l := nwL) (i := 2) rfl) wd_9_6 wd_1_2 ⟨by decide, by decide⟩ (nn := 3) (by decide) (As := [.int (X.1 7 5), .int (20 : Int32), .int (25 : Int32)]) rfl rfl (Nat.le_of_ble_eq_true rfl) (by omega) (by omega) ⟨by decide, by decide⟩ dX6_readOne_109 ?_
          refine g_if_eq (tgt := 136) F dX6_readOne_112 (by decide) h (fun a27 h => ?_) (fun a27 h => ?_)
          · refine g_iconst F dX6_readOne_136 (v := 0) (by decide) ?_
            have hp := Prod.mk.inj (Option.some.inj h)
            exact g_iret F hr9 (by decide) hl9 hp.1 (by rw [hp.2]) (by decide) (by decide) dX6_readOne_137
          · refine g_aload_n (i := 0) F dX6_readOne_115 rfl rfl ?_
            refine g_get_6_2 F rfl (kd_lit (by decide)) wd_4_1 dX6_readOne_116 ?_
            obtain ⟨r20, e21, h⟩ := bd_at h
            rw [← e21]
            refine g_sipush F dX6_readOne_119 (v := 10000) (by decide) ?_
            refine g_aload_n (i := 0) F dX6_readOne_122 rfl rfl ?_
            refine g_get_6_5 F rfl (kd_lit (by decide)) wd_4_4 dX6_readOne_123 ?_
            refine g_iadd F dX6_readOne_126 ?_
            refine g_bipush F dX6_readOne_127 (v := 20) (by decide) ?_
            refine g_isub F dX6_readOne_129 ?_
            obtain ⟨b22, e23, h⟩ := bind_at h
            rw [e23]
            obtain ⟨h24, h⟩ := if_at h
            obtain ⟨X25, e26, h⟩ := bind_at h
            refine g_callVV F (mcR := 0) (msR := 0) (id := b22) (cells_at (kd_hid h24 (by decide)) (xc_5 h24)) (ci := 5) rfl rfl rfl (c_X5_add G0 e26) wd_10_21 wd_10_18 wd_10_19 wd_10_20 wd_3_4 ⟨by decide, by decide⟩ (nn := 1) (by decide) (As := [.int (((10000 : Int32) + (X.1 7 5)) - (20 : Int32))]) rfl rfl (Nat.le_of_ble_eq_true rfl) (by omega) (by omega) ⟨by decide, by decide⟩ dX6_readOne_130 ?_
            refine g_goto (tgt := 138) F dX6_readOne_133 (by decide) ?_
            refine g_lv (lv' := [(0, .ref (ev 0 + 7))]) ⟨rfl, trivial⟩ ?_
            exact U138 _ h
        · refine g_aload_n (i := 0) F dX6_readOne_87 rfl rfl ?_
          refine g_get_6_2 F rfl (kd_lit (by decide)) wd_4_1 dX6_readOne_88 ?_
          obtain ⟨r28, e29, h⟩ := bd_at h
          rw [← e29]
          refine g_aload_n (i := 0) F dX6_readOne_91 rfl rfl ?_
          refine g_get_6_6 F rfl (kd_lit (by decide)) wd_4_5 dX6_readOne_92 ?_
          obtain ⟨b30, e31, h⟩ := bind_at h
          rw [e31]
          obtain ⟨h32, h⟩ := if_at h
          obtain ⟨X33, e34, h⟩ := bind_at h
          refine g_callVV F (mcR := 0) (msR := 0) (id := b30) (cells_at (kd_hid h32 (by decide)) (xc_5 h32)) (ci := 5) rfl rfl rfl (c_X5_add G0 e34) wd_10_21 wd_10_18 wd_10_19 wd_10_20 wd_3_4 ⟨by decide, by decide⟩ (nn := 1) (by decide) (As := [.int (X.1 7 6)]) rfl rfl (Nat.le_of_ble_eq_true rfl) (by omega) (by omega) ⟨by decide, by decide⟩ dX6_readOne_95 ?_
          refine g_goto (tgt := 138) F dX6_readOne_98 (by decide) ?_
          refine g_lv (lv' := [(0, .ref (ev 0 + 7))]) ⟨rfl, trivial⟩ ?_
          exact U138 _ h
      · refine g_lv (lv' := [(0, .ref (ev 0 + 7)), (1, .int l1), (2, .int t0)]) ⟨rfl, rfl, rfl, trivial⟩ ?_
        exact U27 _ _ _ h
  rw [fX6_readOne_r] at h
  refine g_lv (lv' := [(0, .ref (ev 0 + 7)), (1, .int l1)]) ⟨rfl, rfl, trivial⟩ ?_
  refine g_aload_n (i := 0) F dX6_readOne_0 rfl rfl ?_
  refine g_get_6_5 F rfl (kd_lit (by decide)) wd_4_4 dX6_readOne_1 ?_
  refine g_bipush F dX6_readOne_4 (v := 7) (by decide) ?_
  refine g_icmp_ne (tgt := 13) F dX6_readOne_6 (by decide) h (fun a38 h => ?_) (fun a38 h => ?_)
  · refine g_iconst F dX6_readOne_13 (v := 0) (by decide) ?_
    refine g_lv (lv' := [(0, .ref (ev 0 + 7)), (1, .int l1)]) ⟨rfl, rfl, trivial⟩ ?_
    exact U14 _ _ _ h
  · refine g_iconst F dX6_readOne_9 (v := 1) (by decide) ?_
    refine g_goto (tgt := 14) F dX6_readOne_10 (by decide) ?_
    refine g_lv (lv' := [(0, .ref (ev 0 + 7)), (1, .int l1)]) ⟨rfl, rfl, trivial⟩ ?_
    exact U14 _ _ _ h
def fX6_RR : Nat → (XW → Int32 → Int32 → Option (Int32 × XW)) × (XW → Int32 → Option (Int32 × XW))
  | 0 => (fun _ _ _ => none, fun _ _ => none)
  | d + 1 => (fX6_readFrom_r (fX6_RR d).1 (fX6_RR d).2, fX6_readOne_r (fX6_RR d).1 (fX6_RR d).2)
theorem c_X6_RR {l : Launch} {s0 : State} {D : va_G} {ev : Nat → Nat} (G0 : Gl s0 D ev) {M : MW} {nb : Nat} : ∀ (d : Nat), (∀ {X1 : XW} {X2 : XW} {q1 : Int32} {q2 : Int32} {r2 : Int32}, (fX6_RR d).1 X1 q1 q2 = some (r2, X2) → CT l s0 D ev yX6_readFrom cX6_readFrom 7 (some .boolean) (8 + 2 * d) 0 0 [.ref (ev 0 + 7), .int q1, .int q2] (cells ev X1 M nb) (QI s0 D ev r2 (cells ev X2 M nb))) ∧ (∀ {X1 : XW} {X2 : XW} {q1 : Int32} {r2 : Int32}, (fX6_RR d).2 X1 q1 = some (r2, X2) → CT l s0 D ev yX6_readOne cX6_readOne 4 (some .boolean) (8 + 2 * d) 0 0 [.ref (ev 0 + 7), .int q1] (cells ev X1 M nb) (QI s0 D ev r2 (cells ev X2 M nb))) := by
  intro d
  induction d with
  | zero => exact ⟨(by intro u0 u1 u2 u3 u4 h; cases h), (by intro u0 u1 u2 u3 h; cases h)⟩
  | succ d ih => exact ⟨(by intro u0 u1 u2 u3 u4; exact fun h => c_X6_readFrom_r (d9 := d) G0 (rX6_readFrom := (fX6_RR d).1) (rX6_readOne := (fX6_RR d).2) (fun h2 => ih.1 h2) (fun h2 => ih.2 h2) h), (by intro u0 u1 u2 u3; exact fun h => c_X6_readOne_r (d9 := d) G0 (rX6_readFrom := (fX6_RR d).1) (rX6_readOne := (fX6_RR d).2) (fun h2 => ih.1 h2) (fun h2 => ih.2 h2) h)⟩
def fX6_readFrom (d : Nat) : XW → Int32 → Int32 → Option (Int32 × XW) := (fX6_RR d).1
theorem c_X6_readFrom {l : Launch} {s0 : State} {D : va_G} {ev : Nat → Nat} (G0 : Gl s0 D ev) {M : MW} {nb : Nat} {d : Nat} {X1 : XW} {X2 : XW} {q1 : Int32} {q2 : Int32} {r2 : Int32} : fX6_readFrom d X1 q1 q2 = some (r2, X2) → CT l s0 D ev yX6_readFrom cX6_readFrom 7 (some .boolean) (8 + 2 * d) 0 0 [.ref (ev 0 + 7), .int q1, .int q2] (cells ev X1 M nb) (QI s0 D ev r2 (cells ev X2 M nb)) := fun h => (c_X6_RR G0 d).1 h
def fX6_readOne (d : Nat) : XW → Int32 → Option (Int32 × XW) := (fX6_RR d).2
theorem c_X6_readOne {l : Launch} {s0 : State} {D : va_G} {ev : Nat → Nat} (G0 : Gl s0 D ev) {M : MW} {nb : Nat} {d : Nat} {X1 : XW} {X2 : XW} {q1 : Int32} {r2 : Int32} : fX6_readOne d X1 q1 = some (r2, X2) → CT l s0 D ev yX6_readOne cX6_readOne 4 (some .boolean) (8 + 2 * d) 0 0 [.ref (ev 0 + 7), .int q1] (cells ev X1 M nb) (QI s0 D ev r2 (cells ev X2 M nb)) := fun h => (c_X6_RR G0 d).2 h
def fX6_read_b88 (X : XW) : Option (Int32 × XW) :=
  if (X.1 7 5) = 0 then some ((-1 : Int32), X)
  else some ((X.1 7 4), X)
def fX6_read_l23 (K23 : XW → Int32 → Option (Int32 × XW)) (X : XW) (l2 : Int32) : Option (Int32 × XW) :=
  if (3 : Int32) ≤ l2 then fX6_read_b88 X
  else if (X.1 7 5) = ((26 : Int32) + l2) then (fX6_advance X).bind fun X15 =>
  bd2 (fX6_readFrom 60 X15 (0 : Int32) (0 : Int32)) fun v18 X17 =>
  if v18 = 0 then some ((X17.1 7 4), X17)
  else if (X17.1 7 5) = (5 : Int32) then (fX6_advance X17).bind fun X20 =>
  bd (X20.2.2 7 2) fun r22 =>
  (r22).bind fun b24 =>
  if kd b24 = 5 then (fX5_endPart X20 b24 l2).bind fun X27 =>
  K23 X27 (l2 + (1 : Int32)) else none
  else some ((X17.1 7 4), X17)
  else some ((X.1 7 4), X)
def fX6_read (X : XW) (l1 : Nat) : Option (Int32 × XW) :=
  bd (xR X 7 2 (some l1)) fun X1 =>
  bd (X1.2.2 7 2) fun r3 =>
  (r3).bind fun b5 =>
  if kd b5 = 5 then (fX5_clear X1 b5).bind fun X8 =>
  bd (xI X8 7 3 (0 : Int32)) fun X10 =>
  (fX6_advance X10).bind fun X12 =>
  lo2 (fX6_read_l23) FU X12 (0 : Int32) else none
set_option maxRecDepth 100000 in
set_option maxHeartbeats 4000000 in
theorem c_X6_read {l : Launch} {s0 : State} {D : va_G} {ev : Nat → Nat} (G0 : Gl s0 D ev) {X : XW} {M : MW} {nb : Nat} {l1 : Nat} {r' : Int32} {X' : XW}  (h : fX6_read X l1 = some (r', X')) : CT l s0 D ev yX6_read cX6_read 3 (some .int) 131 0 0 [.ref (ev 0 + 7), .ref (ev 0 + l1)] (cells ev X M nb) (QI s0 D ev r' (cells ev X' M nb)) := by
  refine ct_of G0 (by decide) (Nat.le_of_ble_eq_true rfl) ?_
  intro p9 e9 s9 m9 args9 below9 meth9 c9 F hr9 hl9 hin9 hargs9 hts9
  have U88 : ∀ (X : XW), fX6_read_b88 X = some (r', X') → GJ p9 l e9 (rg 131 0 0) s9 m9 args9 below9 meth9 c9 (MQ below9 (QI s0 D ev r' (cells ev X' M nb)) args9 s9 0 0 (frA ev)) s0 D ev 3 0 0 88 [(0, .ref (ev 0 + 7))] ([]) (cells ev X M nb) := by
    intro X h
    rw [fX6_read_b88] at h
    refine g_aload_n (i := 0) F dX6_read_88 rfl rfl ?_
    refine g_get_6_5 F rfl (kd_lit (by decide)) wd_4_4 dX6_read_89 ?_
    refine g_if_ne (tgt := 99) F dX6_read_92 (by decide) h (fun a14 h => ?_) (fun a14 h => ?_)
    · refine g_aload_n (i := 0) F dX6_read_99 rfl rfl ?_
      refine g_get_6_4 F rfl (kd_lit (by decide)) wd_4_3 dX6_read_100 ?_
      have hp := Prod.mk.inj (Option.some.inj h)
      exact g_iret F hr9 rfl hl9 hp.1 (by rw [hp.2]) (by decide) (by decide) dX6_read_103
    · refine g_iconst F dX6_read_95 (v := -1) (by decide) ?_
      refine g_goto (tgt := 103) F dX6_read_96 (by decide) ?_
      have hp := Prod.mk.inj (Option.some.inj h)
      exact g_iret F hr9 rfl hl9 hp.1 (by rw [hp.2]) (by decide) (by decide) dX6_read_103
  have L23 : ∀  (N23 : Nat) (X : XW) (l2 : Int32), lo2 (fX6_read_l23) N23 X l2 = some (r', X') → GJ p9 l e9 (rg 131 0 0) s9 m9 args9 below9 meth9 c9 (MQ below9 (QI s0 D ev r' (cells ev X' M nb)) args9 s9 0 0 (frA ev)) s0 D ev 3 0 0 23 [(0, .ref (ev 0 + 7)), (2, .int l2)] ([]) (cells ev X M nb) := by
    intro  N23
    induction N23 with
    | zero => intro X l2 h; cases h
    | succ N23 ih23 =>
      intro X l2 h
      change fX6_read_l23 (lo2 (fX6_read_l23) N23) X l2 = some (r', X') at h
      rw [fX6_read_l23] at h
      refine g_iload_n (i := 2) F dX6_read_23 rfl rfl ?_
      refine g_iconst F dX6_read_24 (v := 3) (by decide) ?_
      refine g_icmp_ge (tgt := 88) F dX6_read_25 (by decide) h (fun a32 h => ?_) (fun a32 h => ?_)
      · refine g_lv (lv' := [(0, .ref (ev 0 + 7))]) ⟨rfl, trivial⟩ ?_
        exact U88 _ h
      · refine g_aload_n (i := 0) F dX6_read_28 rfl rfl ?_
        refine g_get_6_5 F rfl (kd_lit (by decide)) wd_4_4 dX6_read_29 ?_
        refine g_bipush F dX6_read_32 (v := 26) (by decide) ?_
        refine g_iload_n (i := 2) F dX6_read_34 rfl rfl ?_
        refine g_iadd F dX6_read_35 ?_
        refine g_icmp_eq (tgt := 44) F dX6_read_36 (by decide) h (fun a31 h => ?_) (fun a31 h => ?_)
        · refine g_aload_n (i := 0) F dX6_read_44 rfl rfl ?_
          obtain ⟨X15, e16, h⟩ := bind_at h
          refine g_callVV F (mcR := 0) (msR := 0) (id := 7) (cells_at (kd_lit (i := 7) (by decide)) (xc_6 rfl)) (ci := 6) rfl rfl rfl (c_X6_advance G0 e16) wd_8_22 wd_8_19 wd_8_20 wd_8_21 wd_1_18 ⟨by decide, by decide⟩ (nn := 0) (by decide) (As := []) rfl rfl (Nat.le_of_ble_eq_true rfl) (by decide) (by decide) ⟨by decide, by decide⟩ dX6_read_45 ?_
          refine g_aload_n (i := 0) F dX6_read_48 rfl rfl ?_
          refine g_iconst F dX6_read_49 (v := 0) (by decide) ?_
          refine g_iconst F dX6_read_50 (v := 0) (by decide) ?_
          obtain ⟨v18, X17, e19, h⟩ := bd2_at h
          refine g_callVI F (mcR := 0) (msR := 0) (id := 7) (cells_at (kd_lit (i := 7) (by decide)) (xc_6 rfl)) (ci := 6) rfl rfl rfl (c_X6_readFrom G0 e19) wd_10_10 wd_10_7 wd_10_8 wd_10_9 wd_1_18 ⟨by decide, by decide⟩ (nn := 2) (by decide) (As := [.int (0 : Int32), .int (0 : Int32)]) rfl rfl (Nat.le_of_ble_eq_true rfl) (by decide) (by decide) ⟨by decide, by decide⟩ dX6_read_51 ?_
          refine g_if_eq (tgt := 65) F dX6_read_54 (by decide) h (fun a30 h => ?_) (fun a30 h => ?_)
          · refine g_aload_n (i := 0) F dX6_read_65 rfl rfl ?_
            refine g_get_6_4 F rfl (kd_lit (by decide)) wd_4_3 dX6_read_66 ?_
            have hp := Prod.mk.inj (Option.some.inj h)
            exact g_iret F hr9 rfl hl9 hp.1 (by rw [hp.2]) (by decide) (by decide) dX6_read_69
          · refine g_aload_n (i := 0) F dX6_read_57 rfl rfl ?_
            refine g_get_6_5 F rfl (kd_lit (by decide)) wd_4_4 dX6_read_58 ?_
            refine g_iconst F dX6_read_61 (v := 5) (by decide) ?_
            refine g_icmp_eq (tgt := 70) F dX6_read_62 (by decide) h (fun a29 h => ?_) (fun a29 h => ?_)
            · refine g_aload_n (i := 0) F dX6_read_70 rfl rfl ?_
              obtain ⟨X20, e21, h⟩ := bind_at h
              refine g_callVV F (mcR := 0) (msR := 0) (id := 7) (cells_at (kd_lit (i := 7) (by decide)) (xc_6 rfl)) (ci := 6) rfl rfl rfl (c_X6_advance G0 e21) wd_8_22 wd_8_19 wd_8_20 wd_8_21 wd_1_18 ⟨by decide, by decide⟩ (nn := 0) (by decide) (As := []) rfl rfl (Nat.le_of_ble_eq_true rfl) (by decide) (by decide) ⟨by decide, by decide⟩ dX6_read_71 ?_
              refine g_aload_n (i := 0) F dX6_read_74 rfl rfl ?_
              refine g_get_6_2 F rfl (kd_lit (by decide)) wd_4_1 dX6_read_75 ?_
              obtain ⟨r22, e23, h⟩ := bd_at h
              rw [← e23]
              refine g_iload_n (i := 2) F dX6_read_78 rfl rfl ?_
              obtain ⟨b24, e25, h⟩ := bind_at h
              rw [e25]
              obtain ⟨h26, h⟩ := if_at h
              obtain ⟨X27, e28, h⟩ := bind_at h
              refine g_callVV F (mcR := 0) (msR := 0) (id := b24) (cells_at (kd_hid h26 (by decide)) (xc_5 h26)) (ci := 5) rfl rfl rfl (c_X5_endPart G0 e28) wd_11_5 wd_11_2 wd_11_3 wd_11_4 wd_3_4 ⟨by decide, by decide⟩ (nn := 1) (by decide) (As := [.int l2]) rfl rfl (Nat.le_of_ble_eq_true rfl) (by decide) (by decide) ⟨by decide, by decide⟩ dX6_read_79 ?_
              refine g_iinc (i := 2) (v := (l2 + (1 : Int32))) (lv' := [(2, .int (l2 + (1 : Int32))), (0, .ref (ev 0 + 7))]) F dX6_read_82 rfl rfl (by decide) rfl ?_
              refine g_goto (tgt := 23) F dX6_read_85 (by decide) ?_
              refine g_lv (lv' := [(0, .ref (ev 0 + 7)), (2, .int (l2 + (1 : Int32)))]) ⟨rfl, rfl, trivial⟩ ?_
              exact ih23 _ _ h
            · refine g_aload_n (i := 0) F dX6_read_65 rfl rfl ?_
              refine g_get_6_4 F rfl (kd_lit (by decide)) wd_4_3 dX6_read_66 ?_
              have hp := Prod.mk.inj (Option.some.inj h)
              exact g_iret F hr9 rfl hl9 hp.1 (by rw [hp.2]) (by decide) (by decide) dX6_read_69
        · refine g_aload_n (i := 0) F dX6_read_39 rfl rfl ?_
          refine g_get_6_4 F rfl (kd_lit (by decide)) wd_4_3 dX6_read_40 ?_
          have hp := Prod.mk.inj (Option.some.inj h)
          exact g_iret F hr9 rfl hl9 hp.1 (by rw [hp.2]) (by decide) (by decide) dX6_read_43
  rw [fX6_read] at h
  refine g_lv (lv' := [(0, .ref (ev 0 + 7)), (1, .ref (ev 0 + l1))]) ⟨rfl, rfl, trivial⟩ ?_
  refine g_aload_n (i := 0) F dX6_read_0 rfl rfl ?_
  refine g_aload_n (i := 1) F dX6_read_1 rfl rfl ?_
  obtain ⟨X1, e2, h⟩ := bd_at h
  refine g_put_6_2 F (v := (some l1)) rfl rfl (kd_lit (by decide)) wd_4_1 dX6_read_2 ?_
  rw [← e2]
  refine g_aload_n (i := 0) F dX6_read_5 rfl rfl ?_
  refine g_get_6_2 F rfl (kd_lit (by decide)) wd_4_1 dX6_read_6 ?_
  obtain ⟨r3, e4, h⟩ := bd_at h
  rw [← e4]
  obtain ⟨b5, e6, h⟩ := bind_at h
  rw [e6]
  obtain ⟨h7, h⟩ := if_at h
  obtain ⟨X8, e9, h⟩ := bind_at h
  refine g_callVV F (mcR := 0) (msR := 0) (id := b5) (cells_at (kd_hid h7 (by decide)) (xc_5 h7)) (ci := 5) rfl rfl rfl (c_X5_clear G0 e9) wd_8_18 wd_8_15 wd_8_16 wd_8_17 wd_3_4 ⟨by decide, by decide⟩ (nn := 0) (by decide) (As := []) rfl rfl (Nat.le_of_ble_eq_true rfl) (by decide) (by decide) ⟨by decide, by decide⟩ dX6_read_9 ?_
  refine g_aload_n (i := 0) F dX6_read_12 rfl rfl ?_
  refine g_iconst F dX6_read_13 (v := 0) (by decide) ?_
  obtain ⟨X10, e11, h⟩ := bd_at h
  refine g_put_6_3 F rfl (kd_lit (by decide)) wd_4_2 dX6_read_14 ?_
  rw [← e11]
  refine g_aload_n (i := 0) F dX6_read_17 rfl rfl ?_
  obtain ⟨X12, e13, h⟩ := bind_at h
  refine g_callVV F (mcR := 0) (msR := 0) (id := 7) (cells_at (kd_lit (i := 7) (by decide)) (xc_6 rfl)) (ci := 6) rfl rfl rfl (c_X6_advance G0 e13) wd_8_22 wd_8_19 wd_8_20 wd_8_21 wd_1_18 ⟨by decide, by decide⟩ (nn := 0) (by decide) (As := []) rfl rfl (Nat.le_of_ble_eq_true rfl) (by decide) (by decide) ⟨by decide, by decide⟩ dX6_read_18 ?_
  refine g_iconst F dX6_read_21 (v := 0) (by decide) ?_
  refine g_istore_n (i := 2) (lv' := [(2, .int (0 : Int32)), (0, .ref (ev 0 + 7)), (1, .ref (ev 0 + l1))]) F dX6_read_22 rfl (by decide) rfl ?_
  refine g_lv (lv' := [(0, .ref (ev 0 + 7)), (2, .int (0 : Int32))]) ⟨rfl, rfl, trivial⟩ ?_
  exact L23 FU _ _ h
def fX9_text (X : XW) : Option (Int32 × XW) :=
  if (X.1 0 13) < (6 : Int32) then if inb (X.1 0 13) 6 then bd (47 + 3 * ((X.1 0 13)).toNatClampNeg) fun o2 =>
  bd2 (fX6_read X o2) fun v6 X5 =>
  (fX6_empty X5).bind fun X8 =>
  if v6 = (-1 : Int32) then bd (xI X8 0 13 ((X8.1 0 13) + (1 : Int32))) fun X10 =>
  some (((X10.1 0 13) - (1 : Int32)), X10)
  else some (((-100 : Int32) - v6), X8)
  else none
  else some ((-4 : Int32), X)
set_option maxRecDepth 100000 in
set_option maxHeartbeats 4000000 in
theorem c_X9_text {l : Launch} {s0 : State} {D : va_G} {ev : Nat → Nat} (G0 : Gl s0 D ev) {X : XW} {M : MW} {nb : Nat}  {r' : Int32} {X' : XW}  (h : fX9_text X = some (r', X')) : CT l s0 D ev yX9_text cX9_text 2 (some .int) 132 0 0 [.ref (ev 0 + 0)] (cells ev X M nb) (QI s0 D ev r' (cells ev X' M nb)) := by
  refine ct_of G0 (by decide) (Nat.le_of_ble_eq_true rfl) ?_
  intro p9 e9 s9 m9 args9 below9 meth9 c9 F hr9 hl9 hin9 hargs9 hts9
  rw [fX9_text] at h
  refine g_lv (lv' := [(0, .ref (ev 0 + 0))]) ⟨rfl, trivial⟩ ?_
  refine g_aload_n (i := 0) F dX9_text_0 rfl rfl ?_
  refine g_get_9_13 F rfl (kd_lit (by decide)) wd_2_21 dX9_text_1 ?_
  refine g_bipush F dX9_text_4 (v := 6) (by decide) ?_
  refine g_icmp_lt (tgt := 12) F dX9_text_6 (by decide) h (fun a13 h => ?_) (fun a13 h => ?_)
  · refine g_aload_n (i := 0) F dX9_text_12 rfl rfl ?_
    refine g_get_9_1 F rfl (kd_lit (by decide)) wd_1_19 dX9_text_13 ?_
    refine g_aload_n (i := 0) F dX9_text_16 rfl rfl ?_
    refine g_get_9_2 F rfl (kd_lit (by decide)) wd_1_21 dX9_text_17 ?_
    refine g_aload_n (i := 0) F dX9_text_20 rfl rfl ?_
    refine g_get_9_13 F rfl (kd_lit (by decide)) wd_2_21 dX9_text_21 ?_
    obtain ⟨h1, h⟩ := if_at h
    obtain ⟨o2, e3, h⟩ := bd_at h
    refine g_ald_14 F h1 dX9_text_24 ?_
    rw [← e3]
    have h4 : kd o2 = 5 := by rw [e3]; exact kd_p (clamp_lt h1)
    obtain ⟨v6, X5, e7, h⟩ := bd2_at h
    refine g_callVI F (mcR := 0) (msR := 0) (id := 7) (cells_at (kd_lit (i := 7) (by decide)) (xc_6 rfl)) (ci := 6) rfl rfl rfl (c_X6_read G0 e7) wd_8_14 wd_8_11 wd_8_12 wd_8_13 wd_1_18 ⟨by decide, by decide⟩ (nn := 1) (by decide) (As := [.ref (ev 0 + o2)]) rfl rfl (Nat.le_of_ble_eq_true rfl) (by decide) (by decide) ⟨by decide, by decide⟩ dX9_text_25 ?_
    refine g_istore_n (i := 1) (lv' := [(1, .int v6), (0, .ref (ev 0 + 0))]) F dX9_text_28 rfl (by decide) rfl ?_
    refine g_aload_n (i := 0) F dX9_text_29 rfl rfl ?_
    refine g_get_9_1 F rfl (kd_lit (by decide)) wd_1_19 dX9_text_30 ?_
    obtain ⟨X8, e9, h⟩ := bind_at h
    refine g_callVV F (mcR := 0) (msR := 0) (id := 7) (cells_at (kd_lit (i := 7) (by decide)) (xc_6 rfl)) (ci := 6) rfl rfl rfl (c_X6_empty G0 e9) wd_11_9 wd_11_6 wd_11_7 wd_11_8 wd_1_18 ⟨by decide, by decide⟩ (nn := 0) (by decide) (As := []) rfl rfl (Nat.le_of_ble_eq_true rfl) (by decide) (by decide) ⟨by decide, by decide⟩ dX9_text_33 ?_
    refine g_iload_n (i := 1) F dX9_text_36 rfl rfl ?_
    refine g_iconst F dX9_text_37 (v := -1) (by decide) ?_
    refine g_icmp_eq (tgt := 46) F dX9_text_38 (by decide) h (fun a12 h => ?_) (fun a12 h => ?_)
    · refine g_aload_n (i := 0) F dX9_text_46 rfl rfl ?_
      refine g_dup F dX9_text_47 rfl ?_
      refine g_get_9_13 F rfl (kd_lit (by decide)) wd_2_21 dX9_text_48 ?_
      refine g_iconst F dX9_text_51 (v := 1) (by decide) ?_
      refine g_iadd F dX9_text_52 ?_
      obtain ⟨X10, e11, h⟩ := bd_at h
      refine g_put_9_13 F rfl (kd_lit (by decide)) wd_2_21 dX9_text_53 ?_
      rw [← e11]
      refine g_aload_n (i := 0) F dX9_text_56 rfl rfl ?_
      refine g_get_9_13 F rfl (kd_lit (by decide)) wd_2_21 dX9_text_57 ?_
      refine g_iconst F dX9_text_60 (v := 1) (by decide) ?_
      refine g_isub F dX9_text_61 ?_
      have hp := Prod.mk.inj (Option.some.inj h)
      exact g_iret F hr9 rfl hl9 hp.1 (by rw [hp.2]) (by decide) (by decide) dX9_text_62
    · refine g_bipush F dX9_text_41 (v := -100) (by decide) ?_
      refine g_iload_n (i := 1) F dX9_text_43 rfl rfl ?_
      refine g_isub F dX9_text_44 ?_
      have hp := Prod.mk.inj (Option.some.inj h)
      exact g_iret F hr9 rfl hl9 hp.1 (by rw [hp.2]) (by decide) (by decide) dX9_text_45
  · refine g_bipush F dX9_text_9 (v := -4) (by decide) ?_
    have hp := Prod.mk.inj (Option.some.inj h)
    exact g_iret F hr9 rfl hl9 hp.1 (by rw [hp.2]) (by decide) (by decide) dX9_text_11
def fX8_become (X : XW) (l0 : Nat) (l1 : Int32) (l2 : Int32) : Option (XW) :=
  if kd l0 = 8 then bd (xI X l0 1 l1) fun X2 =>
  bd (xI X2 l0 2 (jmax (0 : Int32) (jmin (40 : Int32) l2))) fun X4 =>
  bd (xF X4 (l0 + 1) 40 (0 : Int32)) fun X6 =>
  some X6 else none
set_option maxRecDepth 100000 in
set_option maxHeartbeats 4000000 in
theorem c_X8_become {l : Launch} {s0 : State} {D : va_G} {ev : Nat → Nat} (G0 : Gl s0 D ev) {X : XW} {M : MW} {nb : Nat} {l0 : Nat} {l1 : Int32} {l2 : Int32} {X' : XW}  (h : fX8_become X l0 l1 l2 = some (X')) : CT l s0 D ev yX8_become cX8_become 3 none 2 0 0 [.ref (ev 0 + l0), .int l1, .int l2] (cells ev X M nb) (QV s0 D ev (cells ev X' M nb)) := by
  refine ct_of G0 (by decide) (Nat.le_of_ble_eq_true rfl) ?_
  intro p9 e9 s9 m9 args9 below9 meth9 c9 F hr9 hl9 hin9 hargs9 hts9
  rw [fX8_become] at h
  refine g_lv (lv' := [(0, .ref (ev 0 + l0)), (1, .int l1), (2, .int l2)]) ⟨rfl, rfl, rfl, trivial⟩ ?_
  refine g_aload_n (i := 0) F dX8_become_0 rfl rfl ?_
  refine g_iload_n (i := 1) F dX8_become_1 rfl rfl ?_
  obtain ⟨h1, h⟩ := if_at h
  obtain ⟨X2, e3, h⟩ := bd_at h
  refine g_put_8_1 F h1 (kd_hid h1 (by decide)) wd_5_22 dX8_become_2 ?_
  rw [← e3]
  refine g_aload_n (i := 0) F dX8_become_5 rfl rfl ?_
  refine g_iconst F dX8_become_6 (v := 0) (by decide) ?_
  refine g_bipush F dX8_become_7 (v := 40) (by decide) ?_
  refine g_iload_n (i := 2) F dX8_become_9 rfl rfl ?_
  refine g_mmin F wd_47_5 wd_16_20 wd_16_21 wd_16_22 (Nat.le_of_ble_eq_true rfl) (Nat.le_of_ble_eq_true rfl) (Nat.zero_le _) (Nat.zero_le _) dX8_become_10 ?_
  refine g_mmax F wd_47_6 wd_20_14 wd_16_21 wd_20_15 (Nat.le_of_ble_eq_true rfl) (Nat.le_of_ble_eq_true rfl) (Nat.zero_le _) (Nat.zero_le _) dX8_become_13 ?_
  obtain ⟨X4, e5, h⟩ := bd_at h
  refine g_put_8_2 F h1 (kd_hid h1 (by decide)) wd_5_23 dX8_become_16 ?_
  rw [← e5]
  refine g_aload_n (i := 0) F dX8_become_19 rfl rfl ?_
  refine g_get_8_0 F h1 (kd_hid h1 (by decide)) wd_5_21 dX8_become_20 ?_
  refine g_iconst F dX8_become_23 (v := 0) (by decide) ?_
  obtain ⟨X6, e7, h⟩ := bd_at h
  refine g_callSV F (y := yJ7_fill_53178) (cc2 := cJ7_fill_53178) (n2 := 4) (h2 := 0) (mc2 := 0) (ms2 := 0) (ret := none) (mcR := 0) (msR := 0) (ws1 := cells ev X6 M nb) (As := [.ref (ev 0 + (l0 + 1)), .int (0 : Int32)]) (by rw [e7]; exact cJ_fill G0 (kd_8_1 h1).1 (kd_8_1 h1).2 (by decide)) wd_3_18 wd_47_7 wd_3_16 wd_3_17 ⟨by decide, by decide⟩ (nn := 2) (by decide) rfl rfl (Nat.le_of_ble_eq_true rfl) (by decide) (by decide) ⟨by decide, by decide⟩ dX8_become_24 ?_
  exact g_vret F hr9 hl9 (by rw [Option.some.inj h]) (by decide) (by decide) dX8_become_27
def fX9_film_l61 (nb : Nat) (l3f61 : Int32) (l5f61 : Option Nat) (l6f61 : Option Nat) (K61 : XW → Int32 → Option (Int32 × XW)) (X : XW) (l7 : Int32) : Option (Int32 × XW) :=
  if l3f61 ≤ l7 then some (l3f61, X)
  else (l6f61).bind fun b17 =>
  if kd b17 = 2 then (fX2_liesIn X b17 ((X.1 0 11) + l7)).bind fun v20 =>
  (l5f61).bind fun b22 =>
  if kd b22 = 8 then (fX8_put X b22 l7 v20).bind fun X25 =>
  K61 X25 (l7 + (1 : Int32)) else none else none
def fX9_film (X : XW) (nb : Nat) (l1 : Int32) (l2 : Int32) (l3 : Int32) : Option (Int32 × XW) :=
  (fX9_boatOf X l1).bind fun r1 =>
  oc r1 (some ((-5 : Int32), X)) (fun b3 => (fX9_sheetOf X l2).bind fun r5 =>
  oc r5 (some ((-2 : Int32), X)) (fun b7 => if (fX9_isNight X l3) = 0 then some ((-7 : Int32), X)
  else bd2 (fX9_sailed X nb l1 b3 l3) fun r12 X11 =>
  if kd b7 = 8 then (fX8_become X11 b7 (2 : Int32) l3).bind fun X15 =>
  lo2 (fX9_film_l61 nb l3 (some b7) r12) FU X15 (0 : Int32) else none))
set_option maxRecDepth 100000 in
set_option maxHeartbeats 4000000 in
theorem c_X9_film {l : Launch} {s0 : State} {D : va_G} {ev : Nat → Nat} (G0 : Gl s0 D ev) {X : XW} {M : MW} {nb : Nat} {l1 : Int32} {l2 : Int32} {l3 : Int32} {r' : Int32} {X' : XW}  (h : fX9_film X nb l1 l2 l3 = some (r', X')) : CT l s0 D ev yX9_film cX9_film 8 (some .int) 7 0 0 [.ref (ev 0 + 0), .int l1, .int l2, .int l3] (cells ev X M nb) (QI s0 D ev r' (cells ev X' M nb)) := by
  refine ct_of G0 (by decide) (Nat.le_of_ble_eq_true rfl) ?_
  intro p9 e9 s9 m9 args9 below9 meth9 c9 F hr9 hl9 hin9 hargs9 hts9
  have L61 : ∀ (l3f61 : Int32) (l5f61 : Option Nat) (l6f61 : Option Nat) (N61 : Nat) (X : XW) (l7 : Int32), lo2 (fX9_film_l61 nb l3f61 l5f61 l6f61) N61 X l7 = some (r', X') → GJ p9 l e9 (rg 7 0 0) s9 m9 args9 below9 meth9 c9 (MQ below9 (QI s0 D ev r' (cells ev X' M nb)) args9 s9 0 0 (frA ev)) s0 D ev 8 0 0 61 [(0, .ref (ev 0 + 0)), (3, .int l3f61), (5, zr ev l5f61), (6, zr ev l6f61), (7, .int l7)] ([]) (cells ev X M nb) := by
    intro l3f61 l5f61 l6f61 N61
    induction N61 with
    | zero => intro X l7 h; cases h
    | succ N61 ih61 =>
      intro X l7 h
      change fX9_film_l61 nb l3f61 l5f61 l6f61 (lo2 (fX9_film_l61 nb l3f61 l5f61 l6f61) N61) X l7 = some (r', X') at h
      rw [fX9_film_l61] at h
      refine g_iload (i := 7) F dX9_film_61 rfl ?_
      refine g_iload_n (i := 3) F dX9_film_63 rfl rfl ?_
      refine g_icmp_ge (tgt := 92) F dX9_film_64 (by decide) h (fun a27 h => ?_) (fun a27 h => ?_)
      · refine g_iload_n (i := 3) F dX9_film_92 rfl rfl ?_
        have hp := Prod.mk.inj (Option.some.inj h)
        exact g_iret F hr9 rfl hl9 hp.1 (by rw [hp.2]) (by decide) (by decide) dX9_film_93
      · refine g_zaload (i := 5) F dX9_film_67 rfl ?_
        refine g_iload (i := 7) F dX9_film_69 rfl ?_
        refine g_zaload (i := 6) F dX9_film_71 rfl ?_
        refine g_aload_n (i := 0) F dX9_film_73 rfl rfl ?_
        refine g_get_9_11 F rfl (kd_lit (by decide)) wd_2_19 dX9_film_74 ?_
        refine g_iload (i := 7) F dX9_film_77 rfl ?_
        refine g_iadd F dX9_film_79 ?_
        obtain ⟨b17, e18, h⟩ := bind_at h
        rw [e18]
        obtain ⟨h19, h⟩ := if_at h
        obtain ⟨v20, e21, h⟩ := bind_at h
        refine g_callVI F (mcR := 0) (msR := 0) (id := b17) (cells_at (kd_hid h19 (by decide)) (xc_2 h19)) (ci := 2) rfl rfl rfl (c_X2_liesIn G0 e21) wd_29_9 wd_29_6 wd_29_7 wd_29_8 wd_3_0 ⟨by decide, by decide⟩ (nn := 1) (by decide) (As := [.int ((X.1 0 11) + l7)]) rfl rfl (by cases l5f61 <;> exact (Nat.le_of_ble_eq_true rfl)) (by decide) (by decide) ⟨by decide, by decide⟩ dX9_film_80 ?_
        obtain ⟨b22, e23, h⟩ := bind_at h
        rw [e23]
        obtain ⟨h24, h⟩ := if_at h
        obtain ⟨X25, e26, h⟩ := bind_at h
        refine g_callVV F (mcR := 0) (msR := 0) (id := b22) (cells_at (kd_hid h24 (by decide)) (xc_8 h24)) (ci := 8) rfl rfl rfl (c_X8_put G0 e26) wd_47_11 wd_47_8 wd_47_9 wd_47_10 wd_3_2 ⟨by decide, by decide⟩ (nn := 2) (by decide) (As := [.int l7, .int v20]) rfl rfl (Nat.le_of_ble_eq_true rfl) (by decide) (by decide) ⟨by decide, by decide⟩ dX9_film_83 ?_
        refine g_iinc (i := 7) (v := (l7 + (1 : Int32))) (lv' := [(7, .int (l7 + (1 : Int32))), (0, .ref (ev 0 + 0)), (3, .int l3f61), (5, .ref (ev 0 + b22)), (6, .ref (ev 0 + b17))]) F dX9_film_86 rfl rfl (by decide) rfl ?_
        refine g_goto (tgt := 61) F dX9_film_89 (by decide) ?_
        refine g_lv (lv' := [(0, .ref (ev 0 + 0)), (3, .int l3f61), (5, zr ev l5f61), (6, zr ev l6f61), (7, .int (l7 + (1 : Int32)))]) ⟨rfl, rfl, (by rw [e23]; rfl), (by rw [e18]; rfl), rfl, trivial⟩ ?_
        exact ih61 _ _ h
  rw [fX9_film] at h
  refine g_lv (lv' := [(0, .ref (ev 0 + 0)), (1, .int l1), (2, .int l2), (3, .int l3)]) ⟨rfl, rfl, rfl, rfl, trivial⟩ ?_
  refine g_aload_n (i := 0) F dX9_film_0 rfl rfl ?_
  refine g_iload_n (i := 1) F dX9_film_1 rfl rfl ?_
  obtain ⟨r1, e2, h⟩ := bind_at h
  refine g_callVR F (mcR := 0) (msR := 0) (id := 0) (cells_at (kd_lit (i := 0) (by decide)) (xc_9 rfl)) (ci := 9) rfl rfl rfl (c_X9_boatOf G0 e2) wd_22_23 wd_22_20 wd_22_21 wd_22_22 wd_1_2 ⟨by decide, by decide⟩ (nn := 1) (by decide) (As := [.int l1]) rfl rfl (Nat.le_of_ble_eq_true rfl) (by decide) (by decide) ⟨by decide, by decide⟩ dX9_film_2 ?_
  refine g_zastore (i := 4) (lv' := [(4, zr ev r1), (0, .ref (ev 0 + 0)), (1, .int l1), (2, .int l2), (3, .int l3)]) F dX9_film_5 (by decide) rfl ?_
  refine g_zaload (i := 4) F dX9_film_7 rfl ?_
  rcases oc_at h with ⟨e4, h⟩ | ⟨b3, e4, h⟩
  · rw [e4]
    refine g_ifnnN F dX9_film_9 ?_
    refine g_bipush F dX9_film_12 (v := -5) (by decide) ?_
    have hp := Prod.mk.inj (Option.some.inj h)
    exact g_iret F hr9 rfl hl9 hp.1 (by rw [hp.2]) (by decide) (by decide) dX9_film_14
  · rw [e4]
    refine g_ifnn (tgt := 15) F dX9_film_9 (by decide) ?_
    refine g_aload_n (i := 0) F dX9_film_15 rfl rfl ?_
    refine g_iload_n (i := 2) F dX9_film_16 rfl rfl ?_
    obtain ⟨r5, e6, h⟩ := bind_at h
    refine g_callVR F (mcR := 0) (msR := 0) (id := 0) (cells_at (kd_lit (i := 0) (by decide)) (xc_9 rfl)) (ci := 9) rfl rfl rfl (c_X9_sheetOf G0 e6) wd_45_2 wd_44_23 wd_45_0 wd_45_1 wd_1_2 ⟨by decide, by decide⟩ (nn := 1) (by decide) (As := [.int l2]) rfl rfl (Nat.le_of_ble_eq_true rfl) (by decide) (by decide) ⟨by decide, by decide⟩ dX9_film_17 ?_
    refine g_zastore (i := 5) (lv' := [(5, zr ev r5), (4, .ref (ev 0 + b3)), (0, .ref (ev 0 + 0)), (1, .int l1), (2, .int l2), (3, .int l3)]) F dX9_film_20 (by decide) rfl ?_
    refine g_zaload (i := 5) F dX9_film_22 rfl ?_
    rcases oc_at h with ⟨e8, h⟩ | ⟨b7, e8, h⟩
    · rw [e8]
      refine g_ifnnN F dX9_film_24 ?_
      refine g_bipush F dX9_film_27 (v := -2) (by decide) ?_
      have hp := Prod.mk.inj (Option.some.inj h)
      exact g_iret F hr9 rfl hl9 hp.1 (by rw [hp.2]) (by decide) (by decide) dX9_film_29
    · rw [e8]
      refine g_ifnn (tgt := 30) F dX9_film_24 (by decide) ?_
      refine g_aload_n (i := 0) F dX9_film_30 rfl rfl ?_
      refine g_iload_n (i := 3) F dX9_film_31 rfl rfl ?_
      refine g_callVI F (mcR := 0) (msR := 0) (id := 0) (cells_at (kd_lit (i := 0) (by decide)) (xc_9 rfl)) (ci := 9) rfl rfl rfl (c_X9_isNight G0 (X := X) (M := M) (nb := nb) rfl) wd_27_7 wd_27_4 wd_27_5 wd_27_6 wd_1_2 ⟨by decide, by decide⟩ (nn := 1) (by decide) (As := [.int l3]) rfl rfl (Nat.le_of_ble_eq_true rfl) (by decide) (by decide) ⟨by decide, by decide⟩ dX9_film_32 ?_
      refine g_if_ne (tgt := 41) F dX9_film_35 (by decide) h (fun a28 h => ?_) (fun a28 h => ?_)
      · refine g_aload_n (i := 0) F dX9_film_41 rfl rfl ?_
        refine g_iload_n (i := 1) F dX9_film_42 rfl rfl ?_
        refine g_aload (i := 4) F dX9_film_43 rfl ?_
        refine g_iload_n (i := 3) F dX9_film_45 rfl rfl ?_
        obtain ⟨r12, X11, e13, h⟩ := bd2_at h
        refine g_callVR F (mcR := 0) (msR := 0) (id := 0) (cells_at (kd_lit (i := 0) (by decide)) (xc_9 rfl)) (ci := 9) rfl rfl rfl (c_X9_sailed G0 e13) wd_27_11 wd_27_8 wd_27_9 wd_27_10 wd_1_2 ⟨by decide, by decide⟩ (nn := 3) (by decide) (As := [.int l1, .ref (ev 0 + b3), .int l3]) rfl rfl (Nat.le_of_ble_eq_true rfl) (by decide) (by decide) ⟨by decide, by decide⟩ dX9_film_46 ?_
        refine g_zastore (i := 6) (lv' := [(6, zr ev r12), (5, .ref (ev 0 + b7)), (4, .ref (ev 0 + b3)), (0, .ref (ev 0 + 0)), (1, .int l1), (2, .int l2), (3, .int l3)]) F dX9_film_49 (by decide) rfl ?_
        refine g_aload (i := 5) F dX9_film_51 rfl ?_
        refine g_iconst F dX9_film_53 (v := 2) (by decide) ?_
        refine g_iload_n (i := 3) F dX9_film_54 rfl rfl ?_
        obtain ⟨h14, h⟩ := if_at h
        obtain ⟨X15, e16, h⟩ := bind_at h
        refine g_callVV F (mcR := 0) (msR := 0) (id := b7) (cells_at (kd_hid h14 (by decide)) (xc_8 h14)) (ci := 8) rfl rfl rfl (c_X8_become G0 e16) wd_47_4 wd_47_1 wd_47_2 wd_47_3 wd_3_2 ⟨by decide, by decide⟩ (nn := 2) (by decide) (As := [.int (2 : Int32), .int l3]) rfl rfl (Nat.le_of_ble_eq_true rfl) (by decide) (by decide) ⟨by decide, by decide⟩ dX9_film_55 ?_
        refine g_iconst F dX9_film_58 (v := 0) (by decide) ?_
        refine g_istore (i := 7) (lv' := [(7, .int (0 : Int32)), (6, zr ev r12), (5, .ref (ev 0 + b7)), (4, .ref (ev 0 + b3)), (0, .ref (ev 0 + 0)), (1, .int l1), (2, .int l2), (3, .int l3)]) F dX9_film_59 (by decide) (by cases r12 <;> exact rfl) ?_
        refine g_lv (lv' := [(0, .ref (ev 0 + 0)), (3, .int l3), (5, zr ev (some b7)), (6, zr ev r12), (7, .int (0 : Int32))]) ⟨rfl, rfl, rfl, rfl, rfl, trivial⟩ ?_
        exact L61 _ _ _ FU _ _ h
      · refine g_bipush F dX9_film_38 (v := -7) (by decide) ?_
        have hp := Prod.mk.inj (Option.some.inj h)
        exact g_iret F hr9 rfl hl9 hp.1 (by rw [hp.2]) (by decide) (by decide) dX9_film_40
def fX9_sheet (X : XW) (l1 : Int32) (l2 : Int32) (l3 : Int32) : Option (Int32 × XW) :=
  (fX9_sheetOf X l1).bind fun r1 =>
  oc r1 (some ((-2 : Int32), X)) (fun b3 => if (fX9_within l2 (-1 : Int32) (2 : Int32)) = 0 then some ((-2 : Int32), X)
  else if l2 = (-1 : Int32) then if kd b3 = 8 then (fX8_become X b3 (-1 : Int32) (0 : Int32)).bind fun X13 =>
  some ((1 : Int32), X13) else none
  else if l3 ≤ (40 : Int32) then if 0 ≤ l3 then if kd b3 = 8 then (fX8_become X b3 l2 l3).bind fun X8 =>
  some ((1 : Int32), X8) else none
  else some ((-14 : Int32), X)
  else some ((-2 : Int32), X))
set_option maxRecDepth 100000 in
set_option maxHeartbeats 4000000 in
theorem c_X9_sheet {l : Launch} {s0 : State} {D : va_G} {ev : Nat → Nat} (G0 : Gl s0 D ev) {X : XW} {M : MW} {nb : Nat} {l1 : Int32} {l2 : Int32} {l3 : Int32} {r' : Int32} {X' : XW}  (h : fX9_sheet X l1 l2 l3 = some (r', X')) : CT l s0 D ev yX9_sheet cX9_sheet 5 (some .int) 3 0 0 [.ref (ev 0 + 0), .int l1, .int l2, .int l3] (cells ev X M nb) (QI s0 D ev r' (cells ev X' M nb)) := by
  refine ct_of G0 (by decide) (Nat.le_of_ble_eq_true rfl) ?_
  intro p9 e9 s9 m9 args9 below9 meth9 c9 F hr9 hl9 hin9 hargs9 hts9
  rw [fX9_sheet] at h
  refine g_lv (lv' := [(0, .ref (ev 0 + 0)), (1, .int l1), (2, .int l2), (3, .int l3)]) ⟨rfl, rfl, rfl, rfl, trivial⟩ ?_
  refine g_aload_n (i := 0) F dX9_sheet_0 rfl rfl ?_
  refine g_iload_n (i := 1) F dX9_sheet_1 rfl rfl ?_
  obtain ⟨r1, e2, h⟩ := bind_at h
  refine g_callVR F (mcR := 0) (msR := 0) (id := 0) (cells_at (kd_lit (i := 0) (by decide)) (xc_9 rfl)) (ci := 9) rfl rfl rfl (c_X9_sheetOf G0 e2) wd_45_2 wd_44_23 wd_45_0 wd_45_1 wd_1_2 ⟨by decide, by decide⟩ (nn := 1) (by decide) (As := [.int l1]) rfl rfl (Nat.le_of_ble_eq_true rfl) (by decide) (by decide) ⟨by decide, by decide⟩ dX9_sheet_2 ?_
  refine g_zastore (i := 4) (lv' := [(4, zr ev r1), (0, .ref (ev 0 + 0)), (1, .int l1), (2, .int l2), (3, .int l3)]) F dX9_sheet_5 (by decide) rfl ?_
  refine g_zaload (i := 4) F dX9_sheet_7 rfl ?_
  rcases oc_at h with ⟨e4, h⟩ | ⟨b3, e4, h⟩
  · rw [e4]
    refine g_ifnN (tgt := 21) F dX9_sheet_9 (by decide) ?_
    refine g_bipush F dX9_sheet_21 (v := -2) (by decide) ?_
    have hp := Prod.mk.inj (Option.some.inj h)
    exact g_iret F hr9 rfl hl9 hp.1 (by rw [hp.2]) (by decide) (by decide) dX9_sheet_23
  · rw [e4]
    refine g_ifn F dX9_sheet_9 ?_
    refine g_iload_n (i := 2) F dX9_sheet_12 rfl rfl ?_
    refine g_iconst F dX9_sheet_13 (v := -1) (by decide) ?_
    refine g_iconst F dX9_sheet_14 (v := 2) (by decide) ?_
    refine g_callSI F (mcR := 0) (msR := 0) (c_X9_within G0 (X := X) (M := M) (nb := nb) rfl) wd_9_7 wd_15_21 wd_9_6 wd_1_2 ⟨by decide, by decide⟩ (nn := 3) (by decide) (As := [.int l2, .int (-1 : Int32), .int (2 : Int32)]) rfl rfl (Nat.le_of_ble_eq_true rfl) (by decide) (by decide) ⟨by decide, by decide⟩ dX9_sheet_15 ?_
    refine g_if_ne (tgt := 24) F dX9_sheet_18 (by decide) h (fun a16 h => ?_) (fun a16 h => ?_)
    · refine g_iload_n (i := 2) F dX9_sheet_24 rfl rfl ?_
      refine g_iconst F dX9_sheet_25 (v := -1) (by decide) ?_
      refine g_icmp_ne (tgt := 38) F dX9_sheet_26 (by decide) h (fun a15 h => ?_) (fun a15 h => ?_)
      · refine g_iload_n (i := 3) F dX9_sheet_38 rfl rfl ?_
        refine g_bipush F dX9_sheet_39 (v := 40) (by decide) ?_
        refine g_icmp_le (tgt := 47) F dX9_sheet_41 (by decide) h (fun a11 h => ?_) (fun a11 h => ?_)
        · refine g_iload_n (i := 3) F dX9_sheet_47 rfl rfl ?_
          refine g_if_ge (tgt := 54) F dX9_sheet_48 (by decide) h (fun a10 h => ?_) (fun a10 h => ?_)
          · refine g_aload (i := 4) F dX9_sheet_54 rfl ?_
            refine g_iload_n (i := 2) F dX9_sheet_56 rfl rfl ?_
            refine g_iload_n (i := 3) F dX9_sheet_57 rfl rfl ?_
            obtain ⟨h7, h⟩ := if_at h
            obtain ⟨X8, e9, h⟩ := bind_at h
            refine g_callVV F (mcR := 0) (msR := 0) (id := b3) (cells_at (kd_hid h7 (by decide)) (xc_8 h7)) (ci := 8) rfl rfl rfl (c_X8_become G0 e9) wd_47_4 wd_47_1 wd_47_2 wd_47_3 wd_3_2 ⟨by decide, by decide⟩ (nn := 2) (by decide) (As := [.int l2, .int l3]) rfl rfl (Nat.le_of_ble_eq_true rfl) (by decide) (by decide) ⟨by decide, by decide⟩ dX9_sheet_58 ?_
            refine g_iconst F dX9_sheet_61 (v := 1) (by decide) ?_
            have hp := Prod.mk.inj (Option.some.inj h)
            exact g_iret F hr9 rfl hl9 hp.1 (by rw [hp.2]) (by decide) (by decide) dX9_sheet_62
          · refine g_bipush F dX9_sheet_51 (v := -14) (by decide) ?_
            have hp := Prod.mk.inj (Option.some.inj h)
            exact g_iret F hr9 rfl hl9 hp.1 (by rw [hp.2]) (by decide) (by decide) dX9_sheet_53
        · refine g_bipush F dX9_sheet_44 (v := -2) (by decide) ?_
          have hp := Prod.mk.inj (Option.some.inj h)
          exact g_iret F hr9 rfl hl9 hp.1 (by rw [hp.2]) (by decide) (by decide) dX9_sheet_46
      · refine g_aload (i := 4) F dX9_sheet_29 rfl ?_
        refine g_iconst F dX9_sheet_31 (v := -1) (by decide) ?_
        refine g_iconst F dX9_sheet_32 (v := 0) (by decide) ?_
        obtain ⟨h12, h⟩ := if_at h
        obtain ⟨X13, e14, h⟩ := bind_at h
        refine g_callVV F (mcR := 0) (msR := 0) (id := b3) (cells_at (kd_hid h12 (by decide)) (xc_8 h12)) (ci := 8) rfl rfl rfl (c_X8_become G0 e14) wd_47_4 wd_47_1 wd_47_2 wd_47_3 wd_3_2 ⟨by decide, by decide⟩ (nn := 2) (by decide) (As := [.int (-1 : Int32), .int (0 : Int32)]) rfl rfl (Nat.le_of_ble_eq_true rfl) (by decide) (by decide) ⟨by decide, by decide⟩ dX9_sheet_33 ?_
        refine g_iconst F dX9_sheet_36 (v := 1) (by decide) ?_
        have hp := Prod.mk.inj (Option.some.inj h)
        exact g_iret F hr9 rfl hl9 hp.1 (by rw [hp.2]) (by decide) (by decide) dX9_sheet_37
    · refine g_bipush F dX9_sheet_21 (v := -2) (by decide) ?_
      have hp := Prod.mk.inj (Option.some.inj h)
      exact g_iret F hr9 rfl hl9 hp.1 (by rw [hp.2]) (by decide) (by decide) dX9_sheet_23
def fX9_boat (X : XW) (nb : Nat) (l1 : Int32) (l2 : Int32) (l3 : Int32) (l4 : Int32) : Option (Int32 × XW × Nat) :=
  if (fX9_within l1 (0 : Int32) (5 : Int32)) = 0 then some ((-2 : Int32), X, nb)
  else if (fX9_within l2 (0 : Int32) (999 : Int32)) = 0 then some ((-2 : Int32), X, nb)
  else if (fX9_isCell l3) = 0 then some ((-2 : Int32), X, nb)
  else if (fX9_within l4 (1 : Int32) (40 : Int32)) = 0 then some ((-2 : Int32), X, nb)
  else if (X.1 0 12) < (6 : Int32) then if NS ≤ TT nb then bd (xN X (TT nb)) fun X9 =>
  bd (xB X9 (TT nb) l1 l2 l3 l4) fun X13 =>
  if inb (X.1 0 12) 6 then bd (xR X13 13 ((X.1 0 12)).toNatClampNeg (some (TT nb))) fun X16 =>
  bd (xI X16 0 12 ((X16.1 0 12) + (1 : Int32))) fun X18 =>
  some (((X18.1 0 12) - (1 : Int32)), X18, (nb + 1))
  else none
  else none
  else some ((-4 : Int32), X, nb)
set_option maxRecDepth 100000 in
set_option maxHeartbeats 4000000 in
theorem c_X9_boat {l : Launch} {s0 : State} {D : va_G} {ev : Nat → Nat} (G0 : Gl s0 D ev) {X : XW} {M : MW} {nb : Nat} {l1 : Int32} {l2 : Int32} {l3 : Int32} {l4 : Int32} {r' : Int32} {X' : XW} {nb' : Nat}  (h : fX9_boat X nb l1 l2 l3 l4 = some (r', X', nb')) : CT l s0 D ev yX9_boat cX9_boat 5 (some .int) 2 1 6 [.ref (ev 0 + 0), .int l1, .int l2, .int l3, .int l4] (cells ev X M nb) (QI s0 D ev r' (cells ev X' M nb')) := by
  refine ct_of G0 (by decide) (Nat.le_of_ble_eq_true rfl) ?_
  intro p9 e9 s9 m9 args9 below9 meth9 c9 F hr9 hl9 hin9 hargs9 hts9
  rw [fX9_boat] at h
  refine g_lv (lv' := [(0, .ref (ev 0 + 0)), (1, .int l1), (2, .int l2), (3, .int l3), (4, .int l4)]) ⟨rfl, rfl, rfl, rfl, rfl, trivial⟩ ?_
  refine g_iload_n (i := 1) F dX9_boat_0 rfl rfl ?_
  refine g_iconst F dX9_boat_1 (v := 0) (by decide) ?_
  refine g_iconst F dX9_boat_2 (v := 5) (by decide) ?_
  refine g_callSI F (mcR := 1) (msR := 6) (c_X9_within G0 (X := X) (M := M) (nb := nb) rfl) wd_9_7 wd_15_21 wd_9_6 wd_1_2 ⟨by decide, by decide⟩ (nn := 3) (by decide) (As := [.int l1, .int (0 : Int32), .int (5 : Int32)]) rfl rfl (Nat.le_of_ble_eq_true rfl) (by decide) (by decide) ⟨by omega, by omega⟩ dX9_boat_3 ?_
  refine g_if_eq (tgt := 38) F dX9_boat_6 (by decide) h (fun a24 h => ?_) (fun a24 h => ?_)
  · refine g_bipush F dX9_boat_38 (v := -2) (by decide) ?_
    have hp := Prod.mk.inj (Option.some.inj h)
    have hp2 := Prod.mk.inj hp.2
    exact g_iret F hr9 rfl hl9 hp.1 (by rw [hp2.1, hp2.2]) (by omega) (by omega) dX9_boat_40
  · refine g_iload_n (i := 2) F dX9_boat_9 rfl rfl ?_
    refine g_iconst F dX9_boat_10 (v := 0) (by decide) ?_
    refine g_sipush F dX9_boat_11 (v := 999) (by decide) ?_
    refine g_callSI F (mcR := 1) (msR := 6) (c_X9_within G0 (X := X) (M := M) (nb := nb) rfl) wd_9_7 wd_15_21 wd_9_6 wd_1_2 ⟨by decide, by decide⟩ (nn := 3) (by decide) (As := [.int l2, .int (0 : Int32), .int (999 : Int32)]) rfl rfl (Nat.le_of_ble_eq_true rfl) (by decide) (by decide) ⟨by omega, by omega⟩ dX9_boat_14 ?_
    refine g_if_eq (tgt := 38) F dX9_boat_17 (by decide) h (fun a23 h => ?_) (fun a23 h => ?_)
    · refine g_bipush F dX9_boat_38 (v := -2) (by decide) ?_
      have hp := Prod.mk.inj (Option.some.inj h)
      have hp2 := Prod.mk.inj hp.2
      exact g_iret F hr9 rfl hl9 hp.1 (by rw [hp2.1, hp2.2]) (by omega) (by omega) dX9_boat_40
    · refine g_iload_n (i := 3) F dX9_boat_20 rfl rfl ?_
      refine g_callSI F (mcR := 1) (msR := 6) (c_X9_isCell G0 (X := X) (M := M) (nb := nb) rfl) wd_15_20 wd_15_18 wd_15_19 wd_1_2 ⟨by decide, by decide⟩ (nn := 1) (by decide) (As := [.int l3]) rfl rfl (Nat.le_of_ble_eq_true rfl) (by decide) (by decide) ⟨by omega, by omega⟩ dX9_boat_21 ?_
      refine g_if_eq (tgt := 38) F dX9_boat_24 (by decide) h (fun a22 h => ?_) (fun a22 h => ?_)
      · refine g_bipush F dX9_boat_38 (v := -2) (by decide) ?_
        have hp := Prod.mk.inj (Option.some.inj h)
        have hp2 := Prod.mk.inj hp.2
        exact g_iret F hr9 rfl hl9 hp.1 (by rw [hp2.1, hp2.2]) (by omega) (by omega) dX9_boat_40
      · refine g_iload (i := 4) F dX9_boat_27 rfl ?_
        refine g_iconst F dX9_boat_29 (v := 1) (by decide) ?_
        refine g_bipush F dX9_boat_30 (v := 40) (by decide) ?_
        refine g_callSI F (mcR := 1) (msR := 6) (c_X9_within G0 (X := X) (M := M) (nb := nb) rfl) wd_9_7 wd_15_21 wd_9_6 wd_1_2 ⟨by decide, by decide⟩ (nn := 3) (by decide) (As := [.int l4, .int (1 : Int32), .int (40 : Int32)]) rfl rfl (Nat.le_of_ble_eq_true rfl) (by decide) (by decide) ⟨by omega, by omega⟩ dX9_boat_32 ?_
        refine g_if_ne (tgt := 41) F dX9_boat_35 (by decide) h (fun a21 h => ?_) (fun a21 h => ?_)
        · refine g_aload_n (i := 0) F dX9_boat_41 rfl rfl ?_
          refine g_get_9_12 F rfl (kd_lit (by decide)) wd_2_20 dX9_boat_42 ?_
          refine g_bipush F dX9_boat_45 (v := 6) (by decide) ?_
          refine g_icmp_lt (tgt := 53) F dX9_boat_47 (by decide) h (fun a20 h => ?_) (fun a20 h => ?_)
          · refine g_aload_n (i := 0) F dX9_boat_53 rfl rfl ?_
            refine g_get_9_4 F rfl (kd_lit (by decide)) wd_2_3 dX9_boat_54 ?_
            refine g_aload_n (i := 0) F dX9_boat_57 rfl rfl ?_
            refine g_get_9_12 F rfl (kd_lit (by decide)) wd_2_20 dX9_boat_58 ?_
            obtain ⟨h12, h⟩ := if_at h
            obtain ⟨X9, e10, h⟩ := bd_at h
            refine g_new F (fs := [.int 0, .int 0, .int 0, .int 0, .int 0, .int 0]) tyX1 tyX1_ok (ci := 1) rfl inlX1 wd_2_2 wd_21_22 wd_21_23 (fun j hj => by rcases (show j = 0 ∨ j = 1 ∨ j = 2 ∨ j = 3 ∨ j = 4 ∨ j = 5 by omega) with rfl | rfl | rfl | rfl | rfl | rfl <;> rfl) (by decide) (by decide) dX9_boat_61 ?_
            rw [cells_len, cells_new h12, ← e10]
            have h11 : NS ≤ TT nb ∧ TT nb < TT (nb + 1) := ⟨h12, TT_up h12⟩
            refine g_dup F dX9_boat_64 rfl ?_
            refine g_iload_n (i := 1) F dX9_boat_65 rfl rfl ?_
            refine g_iload_n (i := 2) F dX9_boat_66 rfl rfl ?_
            refine g_iload_n (i := 3) F dX9_boat_67 rfl rfl ?_
            refine g_iload (i := 4) F dX9_boat_68 rfl ?_
            obtain ⟨X13, e14, h⟩ := bd_at h
            refine g_callIV F (y := yX1_init) (mcR := 1) (msR := 6) (ws1 := cells ev X13 M (nb + 1)) rfl (by rw [e14]; exact c_X1_init G0 h11) wd_22_2 wd_22_0 wd_22_1 wd_21_23 ⟨by decide, by decide⟩ (nn := 4) (by decide) (As := [.int l1, .int l2, .int l3, .int l4]) rfl rfl (Nat.le_of_ble_eq_true rfl) (by decide) (by decide) ⟨by decide, by decide⟩ dX9_boat_70 ?_
            obtain ⟨h15, h⟩ := if_at h
            obtain ⟨X16, e17, h⟩ := bd_at h
            refine g_astB F h11 h15 dX9_boat_73 ?_
            rw [← e17]
            refine g_aload_n (i := 0) F dX9_boat_74 rfl rfl ?_
            refine g_dup F dX9_boat_75 rfl ?_
            refine g_get_9_12 F rfl (kd_lit (by decide)) wd_2_20 dX9_boat_76 ?_
            refine g_iconst F dX9_boat_79 (v := 1) (by decide) ?_
            refine g_iadd F dX9_boat_80 ?_
            obtain ⟨X18, e19, h⟩ := bd_at h
            refine g_put_9_12 F rfl (kd_lit (by decide)) wd_2_20 dX9_boat_81 ?_
            rw [← e19]
            refine g_aload_n (i := 0) F dX9_boat_84 rfl rfl ?_
            refine g_get_9_12 F rfl (kd_lit (by decide)) wd_2_20 dX9_boat_85 ?_
            refine g_iconst F dX9_boat_88 (v := 1) (by decide) ?_
            refine g_isub F dX9_boat_89 ?_
            have hp := Prod.mk.inj (Option.some.inj h)
            have hp2 := Prod.mk.inj hp.2
            exact g_iret F hr9 rfl hl9 hp.1 (by rw [hp2.1, hp2.2]) (by omega) (by omega) dX9_boat_90
          · refine g_bipush F dX9_boat_50 (v := -4) (by decide) ?_
            have hp := Prod.mk.inj (Option.some.inj h)
            have hp2 := Prod.mk.inj hp.2
            exact g_iret F hr9 rfl hl9 hp.1 (by rw [hp2.1, hp2.2]) (by omega) (by omega) dX9_boat_52
        · refine g_bipush F dX9_boat_38 (v := -2) (by decide) ?_
          have hp := Prod.mk.inj (Option.some.inj h)
          have hp2 := Prod.mk.inj hp.2
          exact g_iret F hr9 rfl hl9 hp.1 (by rw [hp2.1, hp2.2]) (by omega) (by omega) dX9_boat_40
def fX9_boatsBy_l64 (l3f64 : Int32) (l4f64 : Int32) (l5f64 : Option Nat) (K64 : XW → Nat → Int32 → Int32 → Option (Int32 × XW × Nat)) (X : XW) (nb : Nat) (l6 : Int32) (l7 : Int32) : Option (Int32 × XW × Nat) :=
  if l4f64 ≤ l7 then some (l6, X, nb)
  else bd (l3f64 + ((4 : Int32) * l7)) fun v12 =>
  (l5f64).bind fun b14 =>
  if kd b14 = 8 then (fX8_hasRun X b14 v12 (4 : Int32)).bind fun v17 =>
  if v17 = 0 then some ((-12 : Int32), X, nb)
  else (rd (X.2.1 (b14 + 1)) 40 v12).bind fun v19 =>
  (rd (X.2.1 (b14 + 1)) 40 (v12 + (1 : Int32))).bind fun v21 =>
  (rd (X.2.1 (b14 + 1)) 40 (v12 + (2 : Int32))).bind fun v23 =>
  (rd (X.2.1 (b14 + 1)) 40 (v12 + (3 : Int32))).bind fun v25 =>
  bd3 (fX9_boat X nb v19 v21 v23 v25) fun v28 X27 n30 =>
  if v28 < 0 then K64 X27 n30 l6 (l7 + (1 : Int32))
  else K64 X27 n30 (l6 + (1 : Int32)) (l7 + (1 : Int32)) else none
def fX9_boatsBy (X : XW) (nb : Nat) (l1 : Int32) (l2 : Int32) (l3 : Int32) (l4 : Int32) : Option (Int32 × XW × Nat) :=
  (fX9_sheetOf X l1).bind fun r1 =>
  oc r1 (some ((-2 : Int32), X, nb)) (fun b3 => if (fX9_within l2 (0 : Int32) (2 : Int32)) = 0 then some ((-2 : Int32), X, nb)
  else if (fX9_within l4 (0 : Int32) (6 : Int32)) = 0 then some ((-2 : Int32), X, nb)
  else if kd b3 = 8 then (fX8_isMissing X b3).bind fun v10 =>
  if v10 = 0 then if (X.1 b3 1) = l2 then lo4 (fX9_boatsBy_l64 l3 l4 (some b3)) 7 X nb (0 : Int32) (0 : Int32)
  else some ((-13 : Int32), X, nb)
  else some ((-11 : Int32), X, nb) else none)
set_option maxRecDepth 100000 in
set_option maxHeartbeats 4000000 in
theorem c_X9_boatsBy {l : Launch} {s0 : State} {D : va_G} {ev : Nat → Nat} (G0 : Gl s0 D ev) {X : XW} {M : MW} {nb : Nat} {l1 : Int32} {l2 : Int32} {l3 : Int32} {l4 : Int32} {r' : Int32} {X' : XW} {nb' : Nat}  (h : fX9_boatsBy X nb l1 l2 l3 l4 = some (r', X', nb')) : CT l s0 D ev yX9_boatsBy cX9_boatsBy 9 (some .int) 3 7 42 [.ref (ev 0 + 0), .int l1, .int l2, .int l3, .int l4] (cells ev X M nb) (QI s0 D ev r' (cells ev X' M nb')) := by
  refine ct_of G0 (by decide) (Nat.le_of_ble_eq_true rfl) ?_
  intro p9 e9 s9 m9 args9 below9 meth9 c9 F hr9 hl9 hin9 hargs9 hts9
  have L64 : ∀ (l3f64 : Int32) (l4f64 : Int32) (l5f64 : Option Nat) (N64 : Nat) (cl9 sl9 : Nat) (X : XW) (nb : Nat) (l6 : Int32) (l7 : Int32), cl9 + N64 ≤ 7 → sl9 + 6 * N64 ≤ 42 → lo4 (fX9_boatsBy_l64 l3f64 l4f64 l5f64) N64 X nb l6 l7 = some (r', X', nb') → GJ p9 l e9 (rg 3 7 42) s9 m9 args9 below9 meth9 c9 (MQ below9 (QI s0 D ev r' (cells ev X' M nb')) args9 s9 7 42 (frA ev)) s0 D ev 9 cl9 sl9 64 [(0, .ref (ev 0 + 0)), (3, .int l3f64), (4, .int l4f64), (5, zr ev l5f64), (6, .int l6), (7, .int l7)] ([]) (cells ev X M nb) := by
    intro l3f64 l4f64 l5f64 N64
    induction N64 with
    | zero => intro cl9 sl9 X nb l6 l7 hc9 hs9 h; cases h
    | succ N64 ih64 =>
      intro cl9 sl9 X nb l6 l7 hc9 hs9 h
      change fX9_boatsBy_l64 l3f64 l4f64 l5f64 (lo4 (fX9_boatsBy_l64 l3f64 l4f64 l5f64) N64) X nb l6 l7 = some (r', X', nb') at h
      rw [fX9_boatsBy_l64] at h
      refine g_iload (i := 7) F dX9_boatsBy_64 rfl ?_
      refine g_iload (i := 4) F dX9_boatsBy_66 rfl ?_
      refine g_icmp_ge (tgt := 147) F dX9_boatsBy_68 (by decide) h (fun a33 h => ?_) (fun a33 h => ?_)
      · refine g_iload (i := 6) F dX9_boatsBy_147 rfl ?_
        have hp := Prod.mk.inj (Option.some.inj h)
        have hp2 := Prod.mk.inj hp.2
        exact g_iret F hr9 rfl hl9 hp.1 (by rw [hp2.1, hp2.2]) (by omega) (by omega) dX9_boatsBy_149
      · refine g_iload_n (i := 3) F dX9_boatsBy_71 rfl rfl ?_
        refine g_iconst F dX9_boatsBy_72 (v := 4) (by decide) ?_
        refine g_iload (i := 7) F dX9_boatsBy_73 rfl ?_
        refine g_imul F dX9_boatsBy_75 ?_
        refine g_iadd F dX9_boatsBy_76 ?_
        refine g_topi F h (fun v12 e13 h => ?_)
        refine g_istore (i := 8) (lv' := [(8, .int v12), (0, .ref (ev 0 + 0)), (3, .int l3f64), (4, .int l4f64), (5, zr ev l5f64), (6, .int l6), (7, .int l7)]) F dX9_boatsBy_77 (by decide) rfl ?_
        refine g_zaload (i := 5) F dX9_boatsBy_79 rfl ?_
        refine g_iload (i := 8) F dX9_boatsBy_81 rfl ?_
        refine g_iconst F dX9_boatsBy_83 (v := 4) (by decide) ?_
        obtain ⟨b14, e15, h⟩ := bind_at h
        rw [e15]
        obtain ⟨h16, h⟩ := if_at h
        obtain ⟨v17, e18, h⟩ := bind_at h
        refine g_callVI F (mcR := 7) (msR := 42) (id := b14) (cells_at (kd_hid h16 (by decide)) (xc_8 h16)) (ci := 8) rfl rfl rfl (c_X8_hasRun G0 e18) wd_51_13 wd_51_10 wd_51_11 wd_51_12 wd_3_2 ⟨by decide, by decide⟩ (nn := 2) (by decide) (As := [.int v12, .int (4 : Int32)]) rfl rfl (Nat.le_of_ble_eq_true rfl) (by decide) (by decide) ⟨by omega, by omega⟩ dX9_boatsBy_84 ?_
        refine g_if_ne (tgt := 93) F dX9_boatsBy_87 (by decide) h (fun a32 h => ?_) (fun a32 h => ?_)
        · refine g_aload_n (i := 0) F dX9_boatsBy_93 rfl rfl ?_
          refine g_aload (i := 5) F dX9_boatsBy_94 rfl ?_
          refine g_get_8_0 F h16 (kd_hid h16 (by decide)) wd_45_16 dX9_boatsBy_96 ?_
          refine g_iload (i := 8) F dX9_boatsBy_99 rfl ?_
          obtain ⟨v19, e20, h⟩ := bind_at h
          refine g_ildX F (kd_8_1 h16).1 (kd_8_1 h16).2 e20 dX9_boatsBy_101 ?_
          refine g_aload (i := 5) F dX9_boatsBy_102 rfl ?_
          refine g_get_8_0 F h16 (kd_hid h16 (by decide)) wd_45_16 dX9_boatsBy_104 ?_
          refine g_iload (i := 8) F dX9_boatsBy_107 rfl ?_
          refine g_iconst F dX9_boatsBy_109 (v := 1) (by decide) ?_
          refine g_iadd F dX9_boatsBy_110 ?_
          obtain ⟨v21, e22, h⟩ := bind_at h
          refine g_ildX F (kd_8_1 h16).1 (kd_8_1 h16).2 e22 dX9_boatsBy_111 ?_
          refine g_aload (i := 5) F dX9_boatsBy_112 rfl ?_
          refine g_get_8_0 F h16 (kd_hid h16 (by decide)) wd_45_16 dX9_boatsBy_114 ?_
          refine g_iload (i := 8) F dX9_boatsBy_117 rfl ?_
          refine g_iconst F dX9_boatsBy_119 (v := 2) (by decide) ?_
          refine g_iadd F dX9_boatsBy_120 ?_
          obtain ⟨v23, e24, h⟩ := bind_at h
          refine g_ildX F (kd_8_1 h16).1 (kd_8_1 h16).2 e24 dX9_boatsBy_121 ?_
          refine g_aload (i := 5) F dX9_boatsBy_122 rfl ?_
          refine g_get_8_0 F h16 (kd_hid h16 (by decide)) wd_45_16 dX9_boatsBy_124 ?_
          refine g_iload (i := 8) F dX9_boatsBy_127 rfl ?_
          refine g_iconst F dX9_boatsBy_129 (v := 3) (by decide) ?_
          refine g_iadd F dX9_boatsBy_130 ?_
          obtain ⟨v25, e26, h⟩ := bind_at h
          refine g_ildX F (kd_8_1 h16).1 (kd_8_1 h16).2 e26 dX9_boatsBy_131 ?_
          obtain ⟨v28, X27, n30, e29, h⟩ := bd3_at h
          refine g_callVI F (mcR := 7) (msR := 42) (id := 0) (cells_at (kd_lit (i := 0) (by decide)) (xc_9 rfl)) (ci := 9) rfl rfl rfl (c_X9_boat G0 e29) wd_21_21 wd_51_22 wd_21_19 wd_21_20 wd_1_2 ⟨by decide, by decide⟩ (nn := 4) (by decide) (As := [.int v19, .int v21, .int v23, .int v25]) rfl rfl (Nat.le_of_ble_eq_true rfl) (by decide) (by decide) ⟨by omega, by omega⟩ dX9_boatsBy_132 ?_
          refine g_if_lt (tgt := 141) F dX9_boatsBy_135 (by decide) h (fun a31 h => ?_) (fun a31 h => ?_)
          · refine g_iinc (i := 7) (v := (l7 + (1 : Int32))) (lv' := [(7, .int (l7 + (1 : Int32))), (8, .int v12), (0, .ref (ev 0 + 0)), (3, .int l3f64), (4, .int l4f64), (5, .ref (ev 0 + b14)), (6, .int l6)]) F dX9_boatsBy_141 rfl rfl (by decide) rfl ?_
            refine g_goto (tgt := 64) F dX9_boatsBy_144 (by decide) ?_
            refine g_lv (lv' := [(0, .ref (ev 0 + 0)), (3, .int l3f64), (4, .int l4f64), (5, zr ev l5f64), (6, .int l6), (7, .int (l7 + (1 : Int32)))]) ⟨rfl, rfl, rfl, (by rw [e15]; rfl), rfl, rfl, trivial⟩ ?_
            exact ih64 _ _ _ _ _ _ (by omega) (by omega) h
          · refine g_iinc (i := 6) (v := (l6 + (1 : Int32))) (lv' := [(6, .int (l6 + (1 : Int32))), (8, .int v12), (0, .ref (ev 0 + 0)), (3, .int l3f64), (4, .int l4f64), (5, .ref (ev 0 + b14)), (7, .int l7)]) F dX9_boatsBy_138 rfl rfl (by decide) rfl ?_
            refine g_iinc (i := 7) (v := (l7 + (1 : Int32))) (lv' := [(7, .int (l7 + (1 : Int32))), (6, .int (l6 + (1 : Int32))), (8, .int v12), (0, .ref (ev 0 + 0)), (3, .int l3f64), (4, .int l4f64), (5, .ref (ev 0 + b14))]) F dX9_boatsBy_141 rfl rfl (by decide) rfl ?_
            refine g_goto (tgt := 64) F dX9_boatsBy_144 (by decide) ?_
            refine g_lv (lv' := [(0, .ref (ev 0 + 0)), (3, .int l3f64), (4, .int l4f64), (5, zr ev l5f64), (6, .int (l6 + (1 : Int32))), (7, .int (l7 + (1 : Int32)))]) ⟨rfl, rfl, rfl, (by rw [e15]; rfl), rfl, rfl, trivial⟩ ?_
            exact ih64 _ _ _ _ _ _ (by omega) (by omega) h
        · refine g_bipush F dX9_boatsBy_90 (v := -12) (by decide) ?_
          have hp := Prod.mk.inj (Option.some.inj h)
          have hp2 := Prod.mk.inj hp.2
          exact g_iret F hr9 rfl hl9 hp.1 (by rw [hp2.1, hp2.2]) (by omega) (by omega) dX9_boatsBy_92
  rw [fX9_boatsBy] at h
  refine g_lv (lv' := [(0, .ref (ev 0 + 0)), (1, .int l1), (2, .int l2), (3, .int l3), (4, .int l4)]) ⟨rfl, rfl, rfl, rfl, rfl, trivial⟩ ?_
  refine g_aload_n (i := 0) F dX9_boatsBy_0 rfl rfl ?_
  refine g_iload_n (i := 1) F dX9_boatsBy_1 rfl rfl ?_
  obtain ⟨r1, e2, h⟩ := bind_at h
  refine g_callVR F (mcR := 7) (msR := 42) (id := 0) (cells_at (kd_lit (i := 0) (by decide)) (xc_9 rfl)) (ci := 9) rfl rfl rfl (c_X9_sheetOf G0 e2) wd_45_2 wd_44_23 wd_45_0 wd_45_1 wd_1_2 ⟨by decide, by decide⟩ (nn := 1) (by decide) (As := [.int l1]) rfl rfl (Nat.le_of_ble_eq_true rfl) (by decide) (by decide) ⟨by omega, by omega⟩ dX9_boatsBy_2 ?_
  refine g_zastore (i := 5) (lv' := [(5, zr ev r1), (0, .ref (ev 0 + 0)), (1, .int l1), (2, .int l2), (3, .int l3), (4, .int l4)]) F dX9_boatsBy_5 (by decide) rfl ?_
  refine g_zaload (i := 5) F dX9_boatsBy_7 rfl ?_
  rcases oc_at h with ⟨e4, h⟩ | ⟨b3, e4, h⟩
  · rw [e4]
    refine g_ifnN (tgt := 32) F dX9_boatsBy_9 (by decide) ?_
    refine g_bipush F dX9_boatsBy_32 (v := -2) (by decide) ?_
    have hp := Prod.mk.inj (Option.some.inj h)
    have hp2 := Prod.mk.inj hp.2
    exact g_iret F hr9 rfl hl9 hp.1 (by rw [hp2.1, hp2.2]) (by omega) (by omega) dX9_boatsBy_34
  · rw [e4]
    refine g_ifn F dX9_boatsBy_9 ?_
    refine g_iload_n (i := 2) F dX9_boatsBy_12 rfl rfl ?_
    refine g_iconst F dX9_boatsBy_13 (v := 0) (by decide) ?_
    refine g_iconst F dX9_boatsBy_14 (v := 2) (by decide) ?_
    refine g_callSI F (mcR := 7) (msR := 42) (c_X9_within G0 (X := X) (M := M) (nb := nb) rfl) wd_9_7 wd_15_21 wd_9_6 wd_1_2 ⟨by decide, by decide⟩ (nn := 3) (by decide) (As := [.int l2, .int (0 : Int32), .int (2 : Int32)]) rfl rfl (Nat.le_of_ble_eq_true rfl) (by decide) (by decide) ⟨by omega, by omega⟩ dX9_boatsBy_15 ?_
    refine g_if_eq (tgt := 32) F dX9_boatsBy_18 (by decide) h (fun a37 h => ?_) (fun a37 h => ?_)
    · refine g_bipush F dX9_boatsBy_32 (v := -2) (by decide) ?_
      have hp := Prod.mk.inj (Option.some.inj h)
      have hp2 := Prod.mk.inj hp.2
      exact g_iret F hr9 rfl hl9 hp.1 (by rw [hp2.1, hp2.2]) (by omega) (by omega) dX9_boatsBy_34
    · refine g_iload (i := 4) F dX9_boatsBy_21 rfl ?_
      refine g_iconst F dX9_boatsBy_23 (v := 0) (by decide) ?_
      refine g_bipush F dX9_boatsBy_24 (v := 6) (by decide) ?_
      refine g_callSI F (mcR := 7) (msR := 42) (c_X9_within G0 (X := X) (M := M) (nb := nb) rfl) wd_9_7 wd_15_21 wd_9_6 wd_1_2 ⟨by decide, by decide⟩ (nn := 3) (by decide) (As := [.int l4, .int (0 : Int32), .int (6 : Int32)]) rfl rfl (Nat.le_of_ble_eq_true rfl) (by decide) (by decide) ⟨by omega, by omega⟩ dX9_boatsBy_26 ?_
      refine g_if_ne (tgt := 35) F dX9_boatsBy_29 (by decide) h (fun a36 h => ?_) (fun a36 h => ?_)
      · refine g_aload (i := 5) F dX9_boatsBy_35 rfl ?_
        obtain ⟨h9, h⟩ := if_at h
        obtain ⟨v10, e11, h⟩ := bind_at h
        refine g_callVI F (mcR := 7) (msR := 42) (id := b3) (cells_at (kd_hid h9 (by decide)) (xc_8 h9)) (ci := 8) rfl rfl rfl (c_X8_isMissing G0 e11) wd_45_11 wd_45_8 wd_45_9 wd_45_10 wd_3_2 ⟨by decide, by decide⟩ (nn := 0) (by decide) (As := []) rfl rfl (Nat.le_of_ble_eq_true rfl) (by decide) (by decide) ⟨by omega, by omega⟩ dX9_boatsBy_37 ?_
        refine g_if_eq (tgt := 46) F dX9_boatsBy_40 (by decide) h (fun a35 h => ?_) (fun a35 h => ?_)
        · refine g_aload (i := 5) F dX9_boatsBy_46 rfl ?_
          refine g_get_8_1 F h9 (kd_hid h9 (by decide)) wd_51_5 dX9_boatsBy_48 ?_
          refine g_iload_n (i := 2) F dX9_boatsBy_51 rfl rfl ?_
          refine g_icmp_eq (tgt := 58) F dX9_boatsBy_52 (by decide) h (fun a34 h => ?_) (fun a34 h => ?_)
          · refine g_iconst F dX9_boatsBy_58 (v := 0) (by decide) ?_
            refine g_istore (i := 6) (lv' := [(6, .int (0 : Int32)), (5, .ref (ev 0 + b3)), (0, .ref (ev 0 + 0)), (1, .int l1), (2, .int l2), (3, .int l3), (4, .int l4)]) F dX9_boatsBy_59 (by decide) rfl ?_
            refine g_iconst F dX9_boatsBy_61 (v := 0) (by decide) ?_
            refine g_istore (i := 7) (lv' := [(7, .int (0 : Int32)), (6, .int (0 : Int32)), (5, .ref (ev 0 + b3)), (0, .ref (ev 0 + 0)), (1, .int l1), (2, .int l2), (3, .int l3), (4, .int l4)]) F dX9_boatsBy_62 (by decide) rfl ?_
            refine g_lv (lv' := [(0, .ref (ev 0 + 0)), (3, .int l3), (4, .int l4), (5, zr ev (some b3)), (6, .int (0 : Int32)), (7, .int (0 : Int32))]) ⟨rfl, rfl, rfl, rfl, rfl, rfl, trivial⟩ ?_
            exact L64 _ _ _ 7 _ _ _ _ _ _ (by decide) (by decide) h
          · refine g_bipush F dX9_boatsBy_55 (v := -13) (by decide) ?_
            have hp := Prod.mk.inj (Option.some.inj h)
            have hp2 := Prod.mk.inj hp.2
            exact g_iret F hr9 rfl hl9 hp.1 (by rw [hp2.1, hp2.2]) (by omega) (by omega) dX9_boatsBy_57
        · refine g_bipush F dX9_boatsBy_43 (v := -11) (by decide) ?_
          have hp := Prod.mk.inj (Option.some.inj h)
          have hp2 := Prod.mk.inj hp.2
          exact g_iret F hr9 rfl hl9 hp.1 (by rw [hp2.1, hp2.2]) (by omega) (by omega) dX9_boatsBy_45
      · refine g_bipush F dX9_boatsBy_32 (v := -2) (by decide) ?_
        have hp := Prod.mk.inj (Option.some.inj h)
        have hp2 := Prod.mk.inj hp.2
        exact g_iret F hr9 rfl hl9 hp.1 (by rw [hp2.1, hp2.2]) (by omega) (by omega) dX9_boatsBy_34
def fX9_copy (X : XW) (l1 : Int32) (l2 : Int32) (l3 : Int32) (l4 : Int32) (l5 : Int32) : Option (Int32 × XW) :=
  (fX9_sheetOf X l1).bind fun r1 =>
  (fX9_sheetOf X l3).bind fun r3 =>
  oc r1 (some ((-2 : Int32), X)) (fun b5 => oc r3 (some ((-2 : Int32), X)) (fun b7 => if kd b5 = 8 then (fX8_isMissing X b5).bind fun v10 =>
  if v10 = 0 then if kd b7 = 8 then (fX8_isMissing X b7).bind fun v13 =>
  if v13 = 0 then if (X.1 b5 1) = (X.1 b7 1) then (fX8_hasRun X b5 l2 l5).bind fun v15 =>
  if v15 = 0 then some ((-12 : Int32), X)
  else (fX8_hasRun X b7 l4 l5).bind fun v17 =>
  if v17 = 0 then some ((-12 : Int32), X)
  else if cpOk 40 40 l2 l4 l5 then bd (xC X (b5 + 1) l2 (b7 + 1) l4 l5) fun X20 =>
  some (l5, X20)
  else none
  else some ((-13 : Int32), X)
  else some ((-11 : Int32), X) else none
  else some ((-11 : Int32), X) else none))
set_option maxRecDepth 100000 in
set_option maxHeartbeats 4000000 in
theorem c_X9_copy {l : Launch} {s0 : State} {D : va_G} {ev : Nat → Nat} (G0 : Gl s0 D ev) {X : XW} {M : MW} {nb : Nat} {l1 : Int32} {l2 : Int32} {l3 : Int32} {l4 : Int32} {l5 : Int32} {r' : Int32} {X' : XW}  (h : fX9_copy X l1 l2 l3 l4 l5 = some (r', X')) : CT l s0 D ev yX9_copy cX9_copy 8 (some .int) 2 0 0 [.ref (ev 0 + 0), .int l1, .int l2, .int l3, .int l4, .int l5] (cells ev X M nb) (QI s0 D ev r' (cells ev X' M nb)) := by
  refine ct_of G0 (by decide) (Nat.le_of_ble_eq_true rfl) ?_
  intro p9 e9 s9 m9 args9 below9 meth9 c9 F hr9 hl9 hin9 hargs9 hts9
  rw [fX9_copy] at h
  refine g_lv (lv' := [(0, .ref (ev 0 + 0)), (1, .int l1), (2, .int l2), (3, .int l3), (4, .int l4), (5, .int l5)]) ⟨rfl, rfl, rfl, rfl, rfl, rfl, trivial⟩ ?_
  refine g_aload_n (i := 0) F dX9_copy_0 rfl rfl ?_
  refine g_iload_n (i := 1) F dX9_copy_1 rfl rfl ?_
  obtain ⟨r1, e2, h⟩ := bind_at h
  refine g_callVR F (mcR := 0) (msR := 0) (id := 0) (cells_at (kd_lit (i := 0) (by decide)) (xc_9 rfl)) (ci := 9) rfl rfl rfl (c_X9_sheetOf G0 e2) wd_45_2 wd_44_23 wd_45_0 wd_45_1 wd_1_2 ⟨by decide, by decide⟩ (nn := 1) (by decide) (As := [.int l1]) rfl rfl (Nat.le_of_ble_eq_true rfl) (by decide) (by decide) ⟨by decide, by decide⟩ dX9_copy_2 ?_
  refine g_zastore (i := 6) (lv' := [(6, zr ev r1), (0, .ref (ev 0 + 0)), (1, .int l1), (2, .int l2), (3, .int l3), (4, .int l4), (5, .int l5)]) F dX9_copy_5 (by decide) rfl ?_
  refine g_aload_n (i := 0) F dX9_copy_7 rfl rfl ?_
  refine g_iload_n (i := 3) F dX9_copy_8 rfl rfl ?_
  obtain ⟨r3, e4, h⟩ := bind_at h
  refine g_callVR F (mcR := 0) (msR := 0) (id := 0) (cells_at (kd_lit (i := 0) (by decide)) (xc_9 rfl)) (ci := 9) rfl rfl rfl (c_X9_sheetOf G0 e4) wd_45_2 wd_44_23 wd_45_0 wd_45_1 wd_1_2 ⟨by decide, by decide⟩ (nn := 1) (by decide) (As := [.int l3]) rfl rfl (Nat.le_of_ble_eq_true rfl) (by decide) (by decide) ⟨by decide, by decide⟩ dX9_copy_9 ?_
  refine g_zastore (i := 7) (lv' := [(7, zr ev r3), (6, zr ev r1), (0, .ref (ev 0 + 0)), (1, .int l1), (2, .int l2), (3, .int l3), (4, .int l4), (5, .int l5)]) F dX9_copy_12 (by decide) (by cases r1 <;> exact rfl) ?_
  refine g_zaload (i := 6) F dX9_copy_14 rfl ?_
  rcases oc_at h with ⟨e6, h⟩ | ⟨b5, e6, h⟩
  · rw [e6]
    refine g_ifnN (tgt := 24) F dX9_copy_16 (by decide) ?_
    refine g_bipush F dX9_copy_24 (v := -2) (by decide) ?_
    have hp := Prod.mk.inj (Option.some.inj h)
    exact g_iret F hr9 rfl hl9 hp.1 (by rw [hp.2]) (by decide) (by decide) dX9_copy_26
  · rw [e6]
    refine g_ifn F dX9_copy_16 ?_
    refine g_zaload (i := 7) F dX9_copy_19 rfl ?_
    rcases oc_at h with ⟨e8, h⟩ | ⟨b7, e8, h⟩
    · rw [e8]
      refine g_ifnnN F dX9_copy_21 ?_
      refine g_bipush F dX9_copy_24 (v := -2) (by decide) ?_
      have hp := Prod.mk.inj (Option.some.inj h)
      exact g_iret F hr9 rfl hl9 hp.1 (by rw [hp.2]) (by decide) (by decide) dX9_copy_26
    · rw [e8]
      refine g_ifnn (tgt := 27) F dX9_copy_21 (by decide) ?_
      refine g_aload (i := 6) F dX9_copy_27 rfl ?_
      obtain ⟨h9, h⟩ := if_at h
      obtain ⟨v10, e11, h⟩ := bind_at h
      refine g_callVI F (mcR := 0) (msR := 0) (id := b5) (cells_at (kd_hid h9 (by decide)) (xc_8 h9)) (ci := 8) rfl rfl rfl (c_X8_isMissing G0 e11) wd_45_11 wd_45_8 wd_45_9 wd_45_10 wd_3_2 ⟨by decide, by decide⟩ (nn := 0) (by decide) (As := []) rfl rfl (Nat.le_of_ble_eq_true rfl) (by decide) (by decide) ⟨by decide, by decide⟩ dX9_copy_29 ?_
      refine g_if_ne (tgt := 43) F dX9_copy_32 (by decide) h (fun a26 h => ?_) (fun a26 h => ?_)
      · refine g_bipush F dX9_copy_43 (v := -11) (by decide) ?_
        have hp := Prod.mk.inj (Option.some.inj h)
        exact g_iret F hr9 rfl hl9 hp.1 (by rw [hp.2]) (by decide) (by decide) dX9_copy_45
      · refine g_aload (i := 7) F dX9_copy_35 rfl ?_
        obtain ⟨h12, h⟩ := if_at h
        obtain ⟨v13, e14, h⟩ := bind_at h
        refine g_callVI F (mcR := 0) (msR := 0) (id := b7) (cells_at (kd_hid h12 (by decide)) (xc_8 h12)) (ci := 8) rfl rfl rfl (c_X8_isMissing G0 e14) wd_45_11 wd_45_8 wd_45_9 wd_45_10 wd_3_2 ⟨by decide, by decide⟩ (nn := 0) (by decide) (As := []) rfl rfl (Nat.le_of_ble_eq_true rfl) (by decide) (by decide) ⟨by decide, by decide⟩ dX9_copy_37 ?_
        refine g_if_eq (tgt := 46) F dX9_copy_40 (by decide) h (fun a25 h => ?_) (fun a25 h => ?_)
        · refine g_aload (i := 6) F dX9_copy_46 rfl ?_
          refine g_get_8_1 F h9 (kd_hid h9 (by decide)) wd_51_5 dX9_copy_48 ?_
          refine g_aload (i := 7) F dX9_copy_51 rfl ?_
          refine g_get_8_1 F h12 (kd_hid h12 (by decide)) wd_51_5 dX9_copy_53 ?_
          refine g_icmp_eq (tgt := 62) F dX9_copy_56 (by decide) h (fun a24 h => ?_) (fun a24 h => ?_)
          · refine g_aload (i := 6) F dX9_copy_62 rfl ?_
            refine g_iload_n (i := 2) F dX9_copy_64 rfl rfl ?_
            refine g_iload (i := 5) F dX9_copy_65 rfl ?_
            obtain ⟨v15, e16, h⟩ := bind_at h
            refine g_callVI F (mcR := 0) (msR := 0) (id := b5) (cells_at (kd_hid h9 (by decide)) (xc_8 h9)) (ci := 8) rfl rfl rfl (c_X8_hasRun G0 e16) wd_51_13 wd_51_10 wd_51_11 wd_51_12 wd_3_2 ⟨by decide, by decide⟩ (nn := 2) (by decide) (As := [.int l2, .int l5]) rfl rfl (Nat.le_of_ble_eq_true rfl) (by decide) (by decide) ⟨by decide, by decide⟩ dX9_copy_67 ?_
            refine g_if_eq (tgt := 85) F dX9_copy_70 (by decide) h (fun a23 h => ?_) (fun a23 h => ?_)
            · refine g_bipush F dX9_copy_85 (v := -12) (by decide) ?_
              have hp := Prod.mk.inj (Option.some.inj h)
              exact g_iret F hr9 rfl hl9 hp.1 (by rw [hp.2]) (by decide) (by decide) dX9_copy_87
            · refine g_aload (i := 7) F dX9_copy_73 rfl ?_
              refine g_iload (i := 4) F dX9_copy_75 rfl ?_
              refine g_iload (i := 5) F dX9_copy_77 rfl ?_
              obtain ⟨v17, e18, h⟩ := bind_at h
              refine g_callVI F (mcR := 0) (msR := 0) (id := b7) (cells_at (kd_hid h12 (by decide)) (xc_8 h12)) (ci := 8) rfl rfl rfl (c_X8_hasRun G0 e18) wd_51_13 wd_51_10 wd_51_11 wd_51_12 wd_3_2 ⟨by decide, by decide⟩ (nn := 2) (by decide) (As := [.int l4, .int l5]) rfl rfl (Nat.le_of_ble_eq_true rfl) (by decide) (by decide) ⟨by decide, by decide⟩ dX9_copy_79 ?_
              refine g_if_ne (tgt := 88) F dX9_copy_82 (by decide) h (fun a22 h => ?_) (fun a22 h => ?_)
              · refine g_aload (i := 6) F dX9_copy_88 rfl ?_
                refine g_get_8_0 F h9 (kd_hid h9 (by decide)) wd_45_16 dX9_copy_90 ?_
                refine g_iload_n (i := 2) F dX9_copy_93 rfl rfl ?_
                refine g_aload (i := 7) F dX9_copy_94 rfl ?_
                refine g_get_8_0 F h12 (kd_hid h12 (by decide)) wd_45_16 dX9_copy_96 ?_
                refine g_iload (i := 4) F dX9_copy_99 rfl ?_
                refine g_iload (i := 5) F dX9_copy_101 rfl ?_
                obtain ⟨h19, h⟩ := if_at h
                obtain ⟨X20, e21, h⟩ := bd_at h
                refine g_acp F wd_51_6 wd_51_7 wd_51_8 wd_51_9 (kd_8_1 h9).1 (kd_8_1 h9).2 (kd_8_1 h12).1 (kd_8_1 h12).2 h19 (by decide) (Nat.le_of_ble_eq_true rfl) dX9_copy_103 ?_
                rw [← e21]
                refine g_iload (i := 5) F dX9_copy_106 rfl ?_
                have hp := Prod.mk.inj (Option.some.inj h)
                exact g_iret F hr9 rfl hl9 hp.1 (by rw [hp.2]) (by decide) (by decide) dX9_copy_108
              · refine g_bipush F dX9_copy_85 (v := -12) (by decide) ?_
                have hp := Prod.mk.inj (Option.some.inj h)
                exact g_iret F hr9 rfl hl9 hp.1 (by rw [hp.2]) (by decide) (by decide) dX9_copy_87
          · refine g_bipush F dX9_copy_59 (v := -13) (by decide) ?_
            have hp := Prod.mk.inj (Option.some.inj h)
            exact g_iret F hr9 rfl hl9 hp.1 (by rw [hp.2]) (by decide) (by decide) dX9_copy_61
        · refine g_bipush F dX9_copy_43 (v := -11) (by decide) ?_
          have hp := Prod.mk.inj (Option.some.inj h)
          exact g_iret F hr9 rfl hl9 hp.1 (by rw [hp.2]) (by decide) (by decide) dX9_copy_45

/-! the JDK's own methods: texts, rows' filling, copies -/
def sN (i : Nat) : Nat := (srB i).length
def sF (i : Nat) (j : Nat) : Int32 := (srB i).getD j 0
theorem sN_at : ∀ i, i < 13 → ((List.range 13).map fun i => (srB i).length).getD i 0 = sN i := by decide +kernel
theorem sB_at : ∀ i, i < 13 → ((List.range 13).map srB).getD i [] = srB i := by decide +kernel
theorem sN_lt : ∀ i, i < 13 → sN i < 100 := by decide +kernel
theorem sF_c : ∀ i, i < 13 → ∀ j, j < sN i → ((sF i j &&& 255).toUInt32 % 65536).toInt32 = sF i j ∧ narrow .char (.int (sF i j)) = .int (sF i j) := by
  have h : ∀ i, i < 13 → ∀ j, j < sN i → ((sF i j &&& 255).toUInt32 % 65536).toInt32 = sF i j ∧ sF i j &&& 255 = sF i j := by decide +kernel
  intro i hi j hj
  obtain ⟨h1, h2⟩ := h i hi j hj
  refine ⟨h1, ?_⟩
  rw [← h2]
  exact sc_nar _
section G8
variable {p : Program} {l : Launch} {e : Env} {R : Room} {s : State} {m : MethodId} {args : Array Value} {below : List Frame} {meth : Method} {c : Code} {Q : State → Prop} {s0 : State} {D : va_G} {ev : Nat → Nat} {nL cls slots pc : Nat} {lv lv' : List (Nat × Value)} {st : List Value} {cc : ByteArray} {own : String} {ws : List va_E}
theorem Fx.str (F : Fx p s m args c s0 D ev cc nL own) : vk_S 13 ((List.range 13).map fun i => (srB i).length) ((List.range 13).map srB) (fun i => ev (30 + i)) (fun i => ev (50 + i)) (frA ev) s s.heap := (F.gl.2.2.2.1.moved F.al).kept (fun a _ h2 => F.lo a (Nat.not_le.mp h2))
theorem g_ldcs (F : Fx p s m args c s0 D ev cc nL own) {i idx : Nat} (hi : i < 13) (ho : srO i = own) (hk : srK i = idx) (hd : decode cc pc = .ok (.ldc idx, 2)) (k9 : GJ p l e R s m args below meth c Q s0 D ev nL cls slots (pc + 2) lv (.ref (ev (30 + i)) :: st) ws) : GJ p l e R s m args below meth c Q s0 D ev nL cls slots pc lv st ws := fun H locs ls hl h => by
  subst ho hk
  exact va_ldcS F.ex F.co F.ow (F.sr.1 i hi) hd (k9 H locs ls hl h)
theorem g_getsC (F : Fx p s m args c s0 D ev cc nL own) {idx : Nat} (hw : Cond.fieldLink own idx "java/lang/String" "COMPACT_STRINGS" "Z" ∈ wsL_law) (hd : decode cc pc = .ok (.getstatic idx, 3)) (k9 : GJ p l e R s m args below meth c Q s0 D ev nL cls slots (pc + 3) lv (.int 1 :: st) ws) : GJ p l e R s m args below meth c Q s0 D ev nL cls slots pc lv st ws :=
  fun H locs ls hl h => va_gets F.ex F.co ((F.gl.2.2.2.2.2.1.moved F.al).kept (fun a _ h2 => F.lo a (Nat.not_le.mp h2))) (h.S F) F.ow (F.ts _ hw) (fun x hx => hx) hd (k9 H locs ls hl h)
theorem g_getsQ (F : Fx p s m args c s0 D ev cc nL own) {idx : Nat} (hw : Cond.fieldLink own idx "jdk/internal/util/Preconditions" "SIOOBE_FORMATTER" "Ljava/util/function/BiFunction;" ∈ wsL_law) (hd : decode cc pc = .ok (.getstatic idx, 3)) (k9 : ∀ r : Option Nat, GJ p l e R s m args below meth c Q s0 D ev nL cls slots (pc + 3) lv (va_rf r :: st) ws) : GJ p l e R s m args below meth c Q s0 D ev nL cls slots pc lv st ws :=
  fun H locs ls hl h => by
  rcases (F.gl.2.2.2.2.2.2.moved F.al).kept (fun a _ h2 => F.lo a (Nat.not_le.mp h2)) with hZ | ⟨t, hZ⟩
  · exact va_gets F.ex F.co hZ (h.S F) F.ow (F.ts _ hw) (fun x hx => hx) hd (k9 none H locs ls hl h)
  · exact va_gets F.ex F.co hZ (h.S F) F.ow (F.ts _ hw) (fun x hx => hx) hd (k9 (some t) H locs ls hl h)
theorem g_coder (F : Fx p s m args c s0 D ev cc nL own) {i idx : Nat} (hi : i < 13) (hw : Cond.fieldLink own idx "java/lang/String" "coder" "B" ∈ wsL_law) (hd : decode cc pc = .ok (.getfield idx, 3)) (k9 : GJ p l e R s m args below meth c Q s0 D ev nL cls slots (pc + 3) lv (.int 0 :: st) ws) : GJ p l e R s m args below meth c Q s0 D ev nL cls slots pc lv (.ref (ev (30 + i)) :: st) ws :=
  fun H locs ls hl h => vk_getf F.ex F.co (F.str.1 i hi).2.1 (h.S F) F.ow (F.ts _ hw) (fun x hx => hx) hd (k9 H locs ls hl h)
theorem g_sval (F : Fx p s m args c s0 D ev cc nL own) {i idx : Nat} (hi : i < 13) (hw : Cond.fieldLink own idx "java/lang/String" "value" "[B" ∈ wsL_law) (hd : decode cc pc = .ok (.getfield idx, 3)) (k9 : GJ p l e R s m args below meth c Q s0 D ev nL cls slots (pc + 3) lv (.ref (ev (50 + i)) :: st) ws) : GJ p l e R s m args below meth c Q s0 D ev nL cls slots pc lv (.ref (ev (30 + i)) :: st) ws :=
  fun H locs ls hl h => vk_getf F.ex F.co (F.str.1 i hi).2.2.1 (h.S F) F.ow (F.ts _ hw) (fun x hx => hx) hd (k9 H locs ls hl h)
theorem g_slen2 (F : Fx p s m args c s0 D ev cc nL own) {i : Nat} (hi : i < 13) (hd : decode cc pc = .ok (.arraylength, 1)) (k9 : GJ p l e R s m args below meth c Q s0 D ev nL cls slots (pc + 1) lv (.int (nI (sN i)) :: st) ws) : GJ p l e R s m args below meth c Q s0 D ev nL cls slots pc lv (.ref (ev (50 + i)) :: st) ws :=
  fun H locs ls hl h => va_tlen F.ex F.co (F.str.1 i hi).2.2.2 (h.S F) (by rw [sN_at i hi]; rfl) hd (k9 H locs ls hl h)
theorem g_sbl (F : Fx p s m args c s0 D ev cc nL own) {i : Nat} {j : Int32} (hi : i < 13) (hin : vp_in j (sN i)) (hd : decode cc pc = .ok (.baload, 1)) (k9 : GJ p l e R s m args below meth c Q s0 D ev nL cls slots (pc + 1) lv (.int (sF i j.toNatClampNeg) :: st) ws) : GJ p l e R s m args below meth c Q s0 D ev nL cls slots pc lv (.int j :: .ref (ev (50 + i)) :: st) ws :=
  fun H locs ls hl h => va_tb F.ex F.co (F.str.1 i hi).2.2.2 (h.S F) (by rw [sN_at i hi]; exact hin) (by rw [sB_at i hi]; rfl) hd (k9 H locs ls hl h)
theorem g_ishr (F : Fx p s m args c s0 D ev cc nL own) {x y : Int32} (hd : decode cc pc = .ok (.ishr, 1)) (k9 : GJ p l e R s m args below meth c Q s0 D ev nL cls slots (pc + 1) lv (.int (x >>> (y &&& 31)) :: st) ws) : GJ p l e R s m args below meth c Q s0 D ev nL cls slots pc lv (.int y :: .int x :: st) ws := fun H locs ls hl h => lv_ishr F.ex F.co hd (k9 H locs ls hl h)
theorem g_i2c (F : Fx p s m args c s0 D ev cc nL own) {x : Int32} (hd : decode cc pc = .ok (.i2c, 1)) (k9 : GJ p l e R s m args below meth c Q s0 D ev nL cls slots (pc + 1) lv (.int (x.toUInt32 % 65536).toInt32 :: st) ws) : GJ p l e R s m args below meth c Q s0 D ev nL cls slots pc lv (.int x :: st) ws := fun H locs ls hl h => lv_i2c F.ex F.co hd rfl (k9 H locs ls hl h)
theorem g_callStr (F : Fx p s m args c s0 D ev cc nL own) {y : MethodName} {cc2 : ByteArray} {ret : Option FieldType} {n2 h2 idx nn hR mcR msR i : Nat} {As stk : List Value} {r : Int32} {ws1 : List va_E} (hi : i < 13) (hy : y.cls = "java/lang/String") (hM : CT l s0 D ev y cc2 n2 ret h2 0 0 (.ref (ev (30 + i)) :: As) ws (QI s0 D ev r ws1)) (w0 : Cond.code y cc2 n2 ret ∈ wsL_law) (w1 : Cond.methodLink own idx y ∈ wsL_law) (w2 : Cond.instanceMethod y ∈ wsL_law) (w3 : Cond.selects "java/lang/String" y y ∈ wsL_law) (w4 : Cond.initialized "java/lang/String" ∈ wsL_law) (hnp : (parseMethodDescriptor y.desc).map (fun d => d.parameters.length) = some nn) (hAs : As.length = nn) (hst : stk = As.reverse ++ .ref (ev (30 + i)) :: st) (hcat : (st.map fun v => v.category).sum ≤ 8) (hR1 : h2 + 1 ≤ hR) (hR2 : 8 + (n2 + 11) + 40 * h2 ≤ 40 * hR) (hf : cls ≤ mcR ∧ slots ≤ msR) (hd : decode cc pc = .ok (.invokevirtual idx, 3)) (k9 : GJ p l e (rg hR mcR msR) s m args below meth c Q s0 D ev nL cls slots (pc + 3) lv (.int r :: st) ws1) : GJ p l e (rg hR mcR msR) s m args below meth c Q s0 D ev nL cls slots pc lv stk ws := by
  intro H locs ls hl h
  subst hst
  refine va_calli (va_runV (As := As) (rest := st) ⟨F.ex, F.co, F.ml, F.ow, F.ts⟩ hM (cwV nn F.ts (gi_v w0 w1 w2 w3 w4) rfl rfl rfl ⟨hy, by rw [hy]; decide, by rw [hy]; decide, hnp⟩ ⟨hR1, hR2⟩) ⟨wr_blind, vk_recv F.str hi (h.S F), fun U hU hW => ⟨rfl, h.wr F hU hW⟩⟩ rfl hAs hl.1 rfl (lv_room hcat) hd hf) (h.S F) (fun q _ hq => hq) (fun q hq => hq) (fun r' u t H1 locs1 ht hvm hw hB hz hk hS => ?_)
  have hw : r' = r := hw
  subst hw
  exact k9 H1 locs1 ls hl (h.back ht hB hz hS)
end G8
theorem yes_if {c : Prop} {d : Decidable c} : @ite Unit c d () () = () := by split <;> rfl
section G9
variable {l : Launch} {s0 : State} {D : va_G} {ev : Nat → Nat} {ws : List va_E}
theorem cJ_isLatin1 (G0 : Gl s0 D ev) {i : Nat} (hi : i < 13) : CT l s0 D ev yJ0_isLatin1_aae02 cJ0_isLatin1_aae02 1 (some .boolean) 0 0 0 [.ref (ev (30 + i))] ws (QI s0 D ev 1 ws) := by
  refine ct_of G0 (by decide) (Nat.le_of_ble_eq_true rfl) ?_
  intro p9 e9 s9 m9 args9 below9 meth9 c9 F hr9 hl9 hin9 hargs9 hts9
  refine g_lv (lv' := [(0, .ref (ev (30 + i)))]) ⟨rfl, trivial⟩ ?_
  refine g_getsC F wd_6_16 dJ0_isLatin1_aae02_0 ?_
  refine g_if_eq (dc := inferInstance) (tgt := 17) F dJ0_isLatin1_aae02_3 (by decide) yes_if (fun q _ => absurd q (by decide)) (fun _ _ => ?_)
  refine g_aload_n (i := 0) F dJ0_isLatin1_aae02_6 rfl rfl ?_
  refine g_coder F hi wd_6_17 dJ0_isLatin1_aae02_7 ?_
  refine g_if_ne (dc := inferInstance) (tgt := 17) F dJ0_isLatin1_aae02_10 (by decide) yes_if (fun q _ => absurd rfl q) (fun _ _ => ?_)
  refine g_iconst F dJ0_isLatin1_aae02_13 (v := 1) (by decide) ?_
  refine g_goto (tgt := 18) F dJ0_isLatin1_aae02_14 (by decide) ?_
  exact g_iret F hr9 (by decide) hl9 rfl rfl (by decide) (by decide) dJ0_isLatin1_aae02_18
theorem cJ_coder (G0 : Gl s0 D ev) {i : Nat} (hi : i < 13) : CT l s0 D ev yJ0_coder_7d493 cJ0_coder_7d493 1 (some .byte) 0 0 0 [.ref (ev (30 + i))] ws (QI s0 D ev 0 ws) := by
  refine ct_of G0 (by decide) (Nat.le_of_ble_eq_true rfl) ?_
  intro p9 e9 s9 m9 args9 below9 meth9 c9 F hr9 hl9 hin9 hargs9 hts9
  refine g_lv (lv' := [(0, .ref (ev (30 + i)))]) ⟨rfl, trivial⟩ ?_
  refine g_getsC F wd_6_16 dJ0_coder_7d493_0 ?_
  refine g_if_eq (dc := inferInstance) (tgt := 13) F dJ0_coder_7d493_3 (by decide) yes_if (fun q _ => absurd q (by decide)) (fun _ _ => ?_)
  refine g_aload_n (i := 0) F dJ0_coder_7d493_6 rfl rfl ?_
  refine g_coder F hi wd_6_17 dJ0_coder_7d493_7 ?_
  refine g_goto (tgt := 14) F dJ0_coder_7d493_10 (by decide) ?_
  exact g_iret F hr9 (by decide) hl9 rfl rfl (by decide) (by decide) dJ0_coder_7d493_14
theorem cJ_length (G0 : Gl s0 D ev) {i : Nat} (hi : i < 13) : CT l s0 D ev yJ0_length_8abf5 cJ0_length_8abf5 1 (some .int) 1 0 0 [.ref (ev (30 + i))] ws (QI s0 D ev (nI (sN i)) ws) := by
  refine ct_of G0 (by decide) (Nat.le_of_ble_eq_true rfl) ?_
  intro p9 e9 s9 m9 args9 below9 meth9 c9 F hr9 hl9 hin9 hargs9 hts9
  refine g_lv (lv' := [(0, .ref (ev (30 + i)))]) ⟨rfl, trivial⟩ ?_
  refine g_aload_n (i := 0) F dJ0_length_8abf5_0 rfl rfl ?_
  refine g_sval F hi wd_6_11 dJ0_length_8abf5_1 ?_
  refine g_slen2 F hi dJ0_length_8abf5_4 ?_
  refine g_aload_n (i := 0) F dJ0_length_8abf5_5 rfl rfl ?_
  refine g_callStr F (mcR := 0) (msR := 0) hi rfl (cJ_coder G0 hi) wd_6_15 wd_6_12 wd_6_13 wd_6_14 wd_6_9 (nn := 0) (by decide) (As := []) rfl rfl (Nat.le_of_ble_eq_true rfl) (by decide) (by decide) ⟨by decide, by decide⟩ dJ0_length_8abf5_6 ?_
  refine g_ishr F dJ0_length_8abf5_9 ?_
  exact g_iret F hr9 rfl hl9 (sc_shr0 (by have := sN_lt i hi; omega)) rfl (by decide) (by decide) dJ0_length_8abf5_10
theorem cJ_pre (G0 : Gl s0 D ev) {j n : Int32} {r : Option Nat} (h0 : ¬ j < 0) (h1 : j < n) : CT l s0 D ev yJ3_checkIndex_8e157 cJ3_checkIndex_8e157 3 (some .int) 0 0 0 [.int j, .int n, va_rf r] ws (QI s0 D ev j ws) := by
  refine ct_of G0 (by decide) (by cases r <;> exact Nat.le_of_ble_eq_true rfl) ?_
  intro p9 e9 s9 m9 args9 below9 meth9 c9 F hr9 hl9 hin9 hargs9 hts9
  refine g_lv (lv' := [(0, .int j), (1, .int n)]) (by cases r <;> exact ⟨rfl, rfl, trivial⟩) ?_
  refine g_iload_n (i := 0) F dJ3_checkIndex_8e157_0 rfl rfl ?_
  refine g_if_lt (dc := inferInstance) (tgt := 9) F dJ3_checkIndex_8e157_1 (by decide) yes_if (fun q _ => absurd q h0) (fun _ _ => ?_)
  refine g_iload_n (i := 0) F dJ3_checkIndex_8e157_4 rfl rfl ?_
  refine g_iload_n (i := 1) F dJ3_checkIndex_8e157_5 rfl rfl ?_
  refine g_icmp_lt (dc := inferInstance) (tgt := 16) F dJ3_checkIndex_8e157_6 (by decide) yes_if (fun _ _ => ?_) (fun q _ => absurd h1 q)
  refine g_iload_n (i := 0) F dJ3_checkIndex_8e157_16 rfl rfl ?_
  exact g_iret F hr9 rfl hl9 rfl rfl (by decide) (by decide) dJ3_checkIndex_8e157_17
theorem cJ_check (G0 : Gl s0 D ev) {j n : Int32} (h0 : ¬ j < 0) (h1 : j < n) : CT l s0 D ev yJ0_checkIndex_df160 cJ0_checkIndex_df160 2 none 1 0 0 [.int j, .int n] ws (QV s0 D ev ws) := by
  refine ct_of G0 (by decide) (Nat.le_of_ble_eq_true rfl) ?_
  intro p9 e9 s9 m9 args9 below9 meth9 c9 F hr9 hl9 hin9 hargs9 hts9
  refine g_lv (lv' := [(0, .int j), (1, .int n)]) ⟨rfl, rfl, trivial⟩ ?_
  refine g_iload_n (i := 0) F dJ0_checkIndex_df160_0 rfl rfl ?_
  refine g_iload_n (i := 1) F dJ0_checkIndex_df160_1 rfl rfl ?_
  refine g_getsQ F wd_7_9 dJ0_checkIndex_df160_2 (fun r => ?_)
  refine g_callSI F (mcR := 0) (msR := 0) (cJ_pre G0 (r := r) h0 h1) wd_7_13 wd_7_10 wd_7_11 wd_7_12 ⟨by decide, by decide⟩ (nn := 3) (by decide) (As := [.int j, .int n, va_rf r]) rfl rfl (Nat.le_of_ble_eq_true rfl) (by decide) (by decide) ⟨by decide, by decide⟩ dJ0_checkIndex_df160_5 ?_
  refine g_pop F dJ0_checkIndex_df160_8 rfl ?_
  exact g_vret F hr9 hl9 rfl (by decide) (by decide) dJ0_checkIndex_df160_9
theorem cJ_lat (G0 : Gl s0 D ev) {i : Nat} {j v : Int32} (hi : i < 13) (h : rd (sF i) (sN i) j = some v) : CT l s0 D ev yJ1_charAt_3b067 cJ1_charAt_3b067 2 (some .char) 2 0 0 [.ref (ev (50 + i)), .int j] ws (QI s0 D ev v ws) := by
  refine ct_of G0 (by decide) (Nat.le_of_ble_eq_true rfl) ?_
  intro p9 e9 s9 m9 args9 below9 meth9 c9 F hr9 hl9 hin9 hargs9 hts9
  obtain ⟨h1, hv⟩ := rd_at h
  have hlt : j.toNatClampNeg < sN i := Nat.not_le.mp fun q => h1 (Or.inr q)
  have hn0 : ¬ j < 0 := fun q => h1 (Or.inl q)
  have hlt2 : j < nI (sN i) := by
    obtain ⟨k, hk, rfl⟩ := vp_in_of h1 (by have := sN_lt i hi; omega)
    exact nI_lt hk (by have := sN_lt i hi; omega)
  refine g_lv (lv' := [(0, .ref (ev (50 + i))), (1, .int j)]) ⟨rfl, rfl, trivial⟩ ?_
  refine g_iload_n (i := 1) F dJ1_charAt_3b067_0 rfl rfl ?_
  refine g_aload_n (i := 0) F dJ1_charAt_3b067_1 rfl rfl ?_
  refine g_slen2 F hi dJ1_charAt_3b067_2 ?_
  refine g_callSV F (mcR := 0) (msR := 0) (cJ_check G0 hn0 hlt2) wd_7_8 wd_7_6 wd_7_7 wd_6_9 ⟨by decide, by decide⟩ (nn := 2) (by decide) (As := [.int j, .int (nI (sN i))]) rfl rfl (Nat.le_of_ble_eq_true rfl) (by decide) (by decide) ⟨by decide, by decide⟩ dJ1_charAt_3b067_3 ?_
  refine g_aload_n (i := 0) F dJ1_charAt_3b067_6 rfl rfl ?_
  refine g_iload_n (i := 1) F dJ1_charAt_3b067_7 rfl rfl ?_
  refine g_sbl F hi h1 dJ1_charAt_3b067_8 ?_
  refine g_sipush F dJ1_charAt_3b067_9 (v := 255) (by decide) ?_
  refine g_iand F dJ1_charAt_3b067_12 ?_
  refine g_i2c F dJ1_charAt_3b067_13 ?_
  rw [(sF_c i hi _ hlt).1]
  exact g_iret F hr9 (sF_c i hi _ hlt).2 hl9 hv.symm rfl (by decide) (by decide) dJ1_charAt_3b067_14
theorem cJ_charAt (G0 : Gl s0 D ev) {i : Nat} {j v : Int32} (hi : i < 13) (h : rd (sF i) (sN i) j = some v) : CT l s0 D ev yJ0_charAt_5068e cJ0_charAt_5068e 2 (some .char) 3 0 0 [.ref (ev (30 + i)), .int j] ws (QI s0 D ev v ws) := by
  refine ct_of G0 (by decide) (Nat.le_of_ble_eq_true rfl) ?_
  intro p9 e9 s9 m9 args9 below9 meth9 c9 F hr9 hl9 hin9 hargs9 hts9
  have hc : narrow .char (.int v) = .int v := by
    obtain ⟨h1, hv⟩ := rd_at h
    rw [hv]; exact (sF_c i hi _ (Nat.not_le.mp fun q => h1 (Or.inr q))).2
  refine g_lv (lv' := [(0, .ref (ev (30 + i))), (1, .int j)]) ⟨rfl, rfl, trivial⟩ ?_
  refine g_aload_n (i := 0) F dJ0_charAt_5068e_0 rfl rfl ?_
  refine g_callStr F (mcR := 0) (msR := 0) hi rfl (cJ_isLatin1 G0 hi) wd_7_1 wd_6_22 wd_6_23 wd_7_0 wd_6_9 (nn := 0) (by decide) (As := []) rfl rfl (Nat.le_of_ble_eq_true rfl) (by decide) (by decide) ⟨by decide, by decide⟩ dJ0_charAt_5068e_1 ?_
  refine g_if_eq (dc := inferInstance) (tgt := 16) F dJ0_charAt_5068e_4 (by decide) yes_if (fun q _ => absurd q (by decide)) (fun _ _ => ?_)
  refine g_aload_n (i := 0) F dJ0_charAt_5068e_7 rfl rfl ?_
  refine g_sval F hi wd_6_11 dJ0_charAt_5068e_8 ?_
  refine g_iload_n (i := 1) F dJ0_charAt_5068e_11 rfl rfl ?_
  refine g_callSI F (mcR := 0) (msR := 0) (cJ_lat G0 hi h) wd_7_5 wd_7_2 wd_7_3 wd_7_4 ⟨by decide, by decide⟩ (nn := 2) (by decide) (As := [.ref (ev (50 + i)), .int j]) rfl rfl (Nat.le_of_ble_eq_true rfl) (by decide) (by decide) ⟨by decide, by decide⟩ dJ0_charAt_5068e_12 ?_
  exact g_iret F hr9 hc hl9 rfl rfl (by decide) (by decide) dJ0_charAt_5068e_15
end G9
/-- Arrays.fill over a row -/
def fillN (g : Nat → Int32) (n : Nat) (v : Int32) : Nat → Int32 := fun j => if j < n then v else g j
theorem fillN_step (g : Nat → Int32) (k : Nat) (v : Int32) : upd (fillN g k v) k v = fillN g (k + 1) v := by
  funext j
  unfold upd fillN
  by_cases h : j = k
  · subst h; simp
  · simp only [if_neg h]
    by_cases h2 : j < k
    · rw [if_pos h2, if_pos (by omega)]
    · rw [if_neg h2, if_neg (by omega)]
theorem cJ_fillR {l : Launch} {s0 : State} {D : va_G} {ev : Nat → Nat} {ws : List va_E} (G0 : Gl s0 D ev) {i n : Nat} {g : Nat → Int32} {v : Int32} (hid : ws[i]? = some (.inl (ev 1, n, .inl g))) (hn : n < 1000) : CT l s0 D ev yJ7_fill_53178 cJ7_fill_53178 4 none 0 0 0 [.ref (ev 0 + i), .int v] ws (QV s0 D ev (ws.set i (.inl (ev 1, n, .inl (fillN g n v))))) := by
  refine ct_of G0 (by decide) (Nat.le_of_ble_eq_true rfl) ?_
  intro p9 e9 s9 m9 args9 below9 meth9 c9 F hr9 hl9 hin9 hargs9 hts9
  have hlt : i < ws.length := (List.getElem?_eq_some_iff.mp hid).1
  have L : ∀ (d k : Nat), d + k = n → GJ p9 l e9 (rg 0 0 0) s9 m9 args9 below9 meth9 c9 (MQ below9 (QV s0 D ev (ws.set i (.inl (ev 1, n, .inl (fillN g n v))))) args9 s9 0 0 (frA ev)) s0 D ev 4 0 0 5 [(0, .ref (ev 0 + i)), (1, .int v), (2, .int (nI k)), (3, .int (nI n))] [] (ws.set i (.inl (ev 1, n, .inl (fillN g k v)))) := by
    intro d
    induction d with
    | zero =>
      intro k hk
      have hkn : k = n := by omega
      subst hkn
      refine g_iload_n (i := 2) F dJ7_fill_53178_5 rfl rfl ?_
      refine g_iload_n (i := 3) F dJ7_fill_53178_6 rfl rfl ?_
      refine g_icmp_ge (dc := inferInstance) (tgt := 20) F dJ7_fill_53178_7 (by decide) yes_if (fun _ _ => ?_) (fun q _ => absurd (nI_le (Nat.le_refl k) (by omega)) q)
      exact g_vret F hr9 hl9 rfl (by decide) (by decide) dJ7_fill_53178_20
    | succ d ih =>
      intro k hk
      refine g_iload_n (i := 2) F dJ7_fill_53178_5 rfl rfl ?_
      refine g_iload_n (i := 3) F dJ7_fill_53178_6 rfl rfl ?_
      refine g_icmp_ge (dc := inferInstance) (tgt := 20) F dJ7_fill_53178_7 (by decide) yes_if (fun q _ => absurd q (nI_ge (by omega) (by omega))) (fun _ _ => ?_)
      refine g_aload_n (i := 0) F dJ7_fill_53178_10 rfl rfl ?_
      refine g_iload_n (i := 2) F dJ7_fill_53178_11 rfl rfl ?_
      refine g_iload_n (i := 1) F dJ7_fill_53178_12 rfl rfl ?_
      refine g_iast F (List.getElem?_set_self hlt) (vp_in_nI (show k < n by omega) (by omega)) dJ7_fill_53178_13 ?_
      rw [List.set_set, nI_clamp (by omega), fillN_step]
      refine g_iinc (i := 2) (v := nI (k + 1)) (lv' := [(2, .int (nI (k + 1))), (0, .ref (ev 0 + i)), (1, .int v), (3, .int (nI n))]) F dJ7_fill_53178_14 rfl (by rw [nI_succ]; rfl) (by decide) rfl ?_
      refine g_goto (tgt := 5) F dJ7_fill_53178_17 (by decide) ?_
      exact g_lv (lv' := [(0, .ref (ev 0 + i)), (1, .int v), (2, .int (nI (k + 1))), (3, .int (nI n))]) ⟨rfl, rfl, rfl, rfl, trivial⟩ (ih (k + 1) (by omega))
  refine g_lv (lv' := [(0, .ref (ev 0 + i)), (1, .int v)]) ⟨rfl, rfl, trivial⟩ ?_
  refine g_iconst F dJ7_fill_53178_0 (v := 0) (by decide) ?_
  refine g_istore_n (i := 2) (lv' := [(2, .int 0), (0, .ref (ev 0 + i)), (1, .int v)]) F dJ7_fill_53178_1 rfl (by decide) rfl ?_
  refine g_aload_n (i := 0) F dJ7_fill_53178_2 rfl rfl ?_
  refine g_alen F hid dJ7_fill_53178_3 ?_
  refine g_istore_n (i := 3) (lv' := [(3, .int (nI n)), (2, .int 0), (0, .ref (ev 0 + i)), (1, .int v)]) F dJ7_fill_53178_4 rfl (by decide) rfl ?_
  have h0 : fillN g 0 v = g := by funext j; simp [fillN]
  have hs : ws = ws.set i (.inl (ev 1, n, .inl (fillN g 0 v))) := by
    rw [h0]
    apply List.ext_getElem?
    intro j
    by_cases hj : i = j
    · subst hj; rw [List.getElem?_set_self hlt, hid]
    · rw [List.getElem?_set_ne hj]
  have L0 := L n 0 (by omega)
  rw [← hs] at L0
  exact g_lv (lv' := [(0, .ref (ev 0 + i)), (1, .int v), (2, .int (nI 0)), (3, .int (nI n))]) ⟨rfl, rfl, rfl, rfl, trivial⟩ L0
def xF (X : XW) (i n : Nat) (v : Int32) : XW := xG X i (fillN (X.2.1 i) n v)
theorem cJ_fill {l : Launch} {s0 : State} {D : va_G} {ev : Nat → Nat} (G0 : Gl s0 D ev) {X : XW} {M : MW} {nb i n : Nat} {v : Int32} (hk : kd i = 11) (hn : ln i = n) (hb : n < 1000) : CT l s0 D ev yJ7_fill_53178 cJ7_fill_53178 4 none 0 0 0 [.ref (ev 0 + i), .int v] (cells ev X M nb) (QV s0 D ev (cells ev (xF X i n v) M nb)) := by
  subst hn
  have h := cJ_fillR (l := l) (v := v) G0 (cells_at (X := X) (M := M) (nb := nb) (kd_hid hk (by decide)) (xc_11 hk)) hb
  rw [cells_set (X' := xF X i (ln i) v) (M' := M) (by rw [xc_11 hk]; simp [xF, xG]) oth_A] at h
  exact h

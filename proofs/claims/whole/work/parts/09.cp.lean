/-- System.arraycopy between rows of ints; it makes no cell, so the heap's size stays -/
abbrev cpOk (n0 n1 : Nat) (sp dp n : Int32) : Prop := ¬ sp < 0 ∧ ¬ dp < 0 ∧ ¬ n < 0 ∧ sp.toNatClampNeg + n.toNatClampNeg ≤ n0 ∧ dp.toNatClampNeg + n.toNatClampNeg ≤ n1
def xC (X : XW) (i : Nat) (sp : Int32) (j : Nat) (dp n : Int32) : XW := xG X j (va_cpy (X.2.1 i) (X.2.1 j) sp.toNatClampNeg dp.toNatClampNeg n.toNatClampNeg)
def plW (ev : Nat → Nat) (X : XW) (M : MW) (nb : Nat) : va_W := (List.range (TT nb)).map (fun k => (ev 0 + k, xcell ev X M k))
theorem plW_at {ev : Nat → Nat} {X : XW} {M : MW} {nb k : Nat} (h : k < TT nb) : (plW ev X M nb)[k]? = some (ev 0 + k, xcell ev X M k) := by
  unfold plW
  rw [List.getElem?_map, List.getElem?_range h]
  rfl
theorem plW_of {ev : Nat → Nat} {X : XW} {M : MW} {nb k : Nat} {q : Nat × va_E} (h : (plW ev X M nb)[k]? = some q) : k < TT nb ∧ q = (ev 0 + k, xcell ev X M k) := by
  have hk : k < TT nb := by
    have := (List.getElem?_eq_some_iff.mp h).1
    unfold plW at this
    rw [List.length_map, List.length_range] at this
    exact this
  rw [plW_at hk] at h
  exact ⟨hk, (Option.some.inj h).symm⟩
theorem plW_D {ev : Nat → Nat} {X : XW} {M : MW} {nb : Nat} : va_D (frA ev) (plW ev X M nb) := ⟨fun i j p q hi hj hpq => by
    obtain ⟨-, rfl⟩ := plW_of hi
    obtain ⟨-, rfl⟩ := plW_of hj
    have : ev 0 + i = ev 0 + j := hpq
    omega, fun k q hk => by
    obtain ⟨-, rfl⟩ := plW_of hk
    exact Nat.le_add_right _ _⟩
theorem plW_P {D : va_G} {ev : Nat → Nat} {X : XW} {M : MW} {nb z : Nat} {hz H : Heap} (h : Wst D (ev 0) hz (cells ev X M nb) H) : va_P D vwCl (plW ev X M nb) H := fun k q hk => by
  obtain ⟨h1, rfl⟩ := plW_of hk
  exact h.2.2 k _ (cells_at h1 rfl)
section G10
variable {p : Program} {l : Launch} {e : Env} {R : Room} {s : State} {m : MethodId} {args : Array Value} {below : List Frame} {meth : Method} {c : Code} {Q : State → Prop} {s0 : State} {D : va_G} {ev : Nat → Nat} {nL slots pc : Nat} {lv : List (Nat × Value)} {st : List Value} {cc : ByteArray} {own : String} {X : XW} {M : MW} {nb : Nat}
theorem g_acp (F : Fx p s m args c s0 D ev cc nL own) {i j idx n0 n1 : Nat} {sp dp n : Int32} (hw1 : Cond.methodLink own idx arraycopyName ∈ wsL_law) (hw2 : Cond.native arraycopyName ∈ wsL_law) (hw3 : Cond.static arraycopyName ∈ wsL_law) (hw4 : Cond.initialized "java/lang/System" ∈ wsL_law) (hk1 : kd i = 11) (hn1 : ln i = n0) (hk2 : kd j = 11) (hn2 : ln j = n1) (h : cpOk n0 n1 sp dp n) (hf : 1 ≤ R.frames) (hlo : (st.map fun v => v.category).sum + (nativeFrameWords "java/lang/System" "arraycopy" 5 + 11) ≤ R.locals) (hd : decode cc pc = .ok (.invokestatic idx, 3)) (k9 : GJ p l e R s m args below meth c Q s0 D ev nL 0 slots (pc + 3) lv st (cells ev (xC X i sp j dp n) M nb)) : GJ p l e R s m args below meth c Q s0 D ev nL 0 slots pc lv (.int n :: .int dp :: .ref (ev 0 + j) :: .int sp :: .ref (ev 0 + i) :: st) (cells ev X M nb) := by
  intro H locs ls hl hc
  subst hn1 hn2
  have hi : i < TT nb := kd_hid hk1 (by decide)
  have hj : j < TT nb := kd_hid hk2 (by decide)
  intro T0 hT0 X0
  have hsz0 : H.size ≤ s.heap.size := by
    have := X0.same.2.2.1
    have e1 : (T0.setVm s.vm).heap = T0.heap := rfl
    rw [e1, hT0] at this
    exact this
  refine (va_copyi (A := frA ev) F.ex F.co (by rw [F.ml]; exact hl.1.symm) F.ow (F.ts _ hw1) (F.ts _ hw2) (F.ts _ hw3) (F.ts _ hw4) F.K (plW_P (z := 0) hc.1) plW_D (hc.S F) i j 0 0 ((plW_at hi).trans (by rw [xc_11 hk1])) ((plW_at hj).trans (by rw [xc_11 hk2])) rfl rfl rfl h.1 h.2.1 h.2.2.1 h.2.2.2.1 h.2.2.2.2 (fun _ _ => rfl) hf hlo hd (fun H1 locs1 hP1 hD1 hS1 => ?_)) T0 hT0 X0
  intro T hT X9
  have hsz : H1.size ≤ s.heap.size := by
    have := X9.same.2.2.1
    have e1 : (T.setVm s.vm).heap = T.heap := rfl
    rw [e1, hT] at this
    exact this
  have hz0 := hc.1.1
  have hlen : (cells ev (xC X i sp j dp n) M nb).length = (cells ev X M nb).length := by rw [cells_len, cells_len]
  refine k9 H1 locs1 ls hl ⟨⟨by rw [hlen]; have := hS1.1; have := hc.2.1; omega, fun q hq => ?_, fun k en hk => ?_⟩, hS1.1, hS1.2.2⟩ T hT X9
  · exact (hS1.2.1 q (Nat.lt_of_lt_of_le hq F.hi) (Nat.not_le.mpr hq)).trans (F.lo q hq)
  · have hk' : k < TT nb := by
      have := (List.getElem?_eq_some_iff.mp hk).1
      rw [cells_len] at this
      exact this
    rw [cells_at hk' rfl] at hk
    cases hk
    by_cases hkj : j = k
    · subst hkj
      have h1 := hP1 j _ (List.getElem?_set_self (by unfold plW; rw [List.length_map, List.length_range]; exact hj))
      have e1 : xcell ev (xC X i sp j dp n) M j = .inl (ev 1, ln j, .inl (va_cpy (X.2.1 i) (X.2.1 j) sp.toNatClampNeg dp.toNatClampNeg n.toNatClampNeg)) := by rw [xc_11 hk2]; simp [xC, xG]
      rw [e1]
      exact h1
    · have e1 : xcell ev (xC X i sp j dp n) M k = xcell ev X M k := oth_A k (fun q => hkj q.symm)
      rw [e1]
      exact hP1 k _ ((List.getElem?_set_ne hkj).trans (plW_at hk'))
-- BOAT
theorem g_putF_1_0 (F : Fx p s m args c s0 D ev cc nL own) {i idx cls : Nat} {v : Int32} (hini : meth.name = "<init>") (ho : RX1 = own) (hk : kd i = 1) (hi : i < TT nb) (hw : Cond.fieldLink own idx "AnchorThatDrags$Boat" "kind" "I" ∈ wsL_law) (hd : decode cc pc = .ok (.putfield idx, 3)) (k9 : GJ p l e R s m args below meth c Q s0 D ev nL cls slots (pc + 3) lv st (cells ev (xI X i 0 v) M nb)) : GJ p l e R s m args below meth c Q s0 D ev nL cls slots pc lv (.int v :: .ref (ev 0 + i) :: st) (cells ev X M nb) := g_putF F hini (ty := .int) tyX1 tyX1_ok nmX1 (cells_at hi (xc_1 hk)) (ci := 1) rfl inlX1 (k := 0) (by decide) hw rfl rfl ho rfl rfl rfl (Nat.le_of_ble_eq_true rfl) hd (by
  rw [cells_set (X' := xI X i 0 v) (M' := M) (by rw [xc_1 hk]; simp [xI, va_up]) oth_I]
  exact k9)
theorem g_putF_1_1 (F : Fx p s m args c s0 D ev cc nL own) {i idx cls : Nat} {v : Int32} (hini : meth.name = "<init>") (ho : RX1 = own) (hk : kd i = 1) (hi : i < TT nb) (hw : Cond.fieldLink own idx "AnchorThatDrags$Boat" "area" "I" ∈ wsL_law) (hd : decode cc pc = .ok (.putfield idx, 3)) (k9 : GJ p l e R s m args below meth c Q s0 D ev nL cls slots (pc + 3) lv st (cells ev (xI X i 1 v) M nb)) : GJ p l e R s m args below meth c Q s0 D ev nL cls slots pc lv (.int v :: .ref (ev 0 + i) :: st) (cells ev X M nb) := g_putF F hini (ty := .int) tyX1 tyX1_ok nmX1 (cells_at hi (xc_1 hk)) (ci := 1) rfl inlX1 (k := 1) (by decide) hw rfl rfl ho rfl rfl rfl (Nat.le_of_ble_eq_true rfl) hd (by
  rw [cells_set (X' := xI X i 1 v) (M' := M) (by rw [xc_1 hk]; simp [xI, va_up]) oth_I]
  exact k9)
theorem g_putF_1_2 (F : Fx p s m args c s0 D ev cc nL own) {i idx cls : Nat} {v : Int32} (hini : meth.name = "<init>") (ho : RX1 = own) (hk : kd i = 1) (hi : i < TT nb) (hw : Cond.fieldLink own idx "AnchorThatDrags$Boat" "heavy" "I" ∈ wsL_law) (hd : decode cc pc = .ok (.putfield idx, 3)) (k9 : GJ p l e R s m args below meth c Q s0 D ev nL cls slots (pc + 3) lv st (cells ev (xI X i 2 v) M nb)) : GJ p l e R s m args below meth c Q s0 D ev nL cls slots pc lv (.int v :: .ref (ev 0 + i) :: st) (cells ev X M nb) := g_putF F hini (ty := .int) tyX1 tyX1_ok nmX1 (cells_at hi (xc_1 hk)) (ci := 1) rfl inlX1 (k := 2) (by decide) hw rfl rfl ho rfl rfl rfl (Nat.le_of_ble_eq_true rfl) hd (by
  rw [cells_set (X' := xI X i 2 v) (M' := M) (by rw [xc_1 hk]; simp [xI, va_up]) oth_I]
  exact k9)
theorem g_putF_1_3 (F : Fx p s m args c s0 D ev cc nL own) {i idx cls : Nat} {v : Int32} (hini : meth.name = "<init>") (ho : RX1 = own) (hk : kd i = 1) (hi : i < TT nb) (hw : Cond.fieldLink own idx "AnchorThatDrags$Boat" "more" "I" ∈ wsL_law) (hd : decode cc pc = .ok (.putfield idx, 3)) (k9 : GJ p l e R s m args below meth c Q s0 D ev nL cls slots (pc + 3) lv st (cells ev (xI X i 3 v) M nb)) : GJ p l e R s m args below meth c Q s0 D ev nL cls slots pc lv (.int v :: .ref (ev 0 + i) :: st) (cells ev X M nb) := g_putF F hini (ty := .int) tyX1 tyX1_ok nmX1 (cells_at hi (xc_1 hk)) (ci := 1) rfl inlX1 (k := 3) (by decide) hw rfl rfl ho rfl rfl rfl (Nat.le_of_ble_eq_true rfl) hd (by
  rw [cells_set (X' := xI X i 3 v) (M' := M) (by rw [xc_1 hk]; simp [xI, va_up]) oth_I]
  exact k9)
end G10
def xB (X : XW) (b : Nat) (k w c o : Int32) : XW := xI (xI (xI (xI (xI (xI X b 0 k) b 1 (w / 100)) b 2 (jrem (w / 10) 10)) b 3 (jrem w 10)) b 4 c) b 5 o
theorem c_X1_init {l : Launch} {s0 : State} {D : va_G} {ev : Nat → Nat} (G0 : Gl s0 D ev) {X : XW} {M : MW} {nb b : Nat} (hb : NS ≤ b ∧ b < TT nb) {k w c o : Int32} : CT l s0 D ev yX1_init cX1_init 5 none 1 0 0 [.ref (ev 0 + b), .int k, .int w, .int c, .int o] (cells ev X M nb) (QV s0 D ev (cells ev (xB X b k w c o) M nb)) := by
  refine ct_of G0 (by decide) (Nat.le_of_ble_eq_true rfl) ?_
  intro p9 e9 s9 m9 args9 below9 meth9 c9 F hr9 hl9 hin9 hargs9 hts9
  refine g_lv (lv' := [(0, .ref (ev 0 + b)), (1, .int k), (2, .int w), (3, .int c), (4, .int o)]) ⟨rfl, rfl, rfl, rfl, rfl, trivial⟩ ?_
  refine g_aload_n (i := 0) F dX1_init_0 rfl rfl ?_
  refine g_obj F wd_22_3 wd_1_10 wd_1_11 (by decide) (Nat.le_of_ble_eq_true rfl) (by decide) dX1_init_1 ?_
  refine g_aload_n (i := 0) F dX1_init_4 rfl rfl ?_
  refine g_iload_n (i := 1) F dX1_init_5 rfl rfl ?_
  refine g_putF_1_0 F hin9 rfl (kd_b hb) hb.2 wd_22_4 dX1_init_6 ?_
  refine g_aload_n (i := 0) F dX1_init_9 rfl rfl ?_
  refine g_iload_n (i := 2) F dX1_init_10 rfl rfl ?_
  refine g_bipush F dX1_init_11 (v := 100) (by decide) ?_
  refine g_idiv F dX1_init_13 (by decide) ?_
  refine g_putF_1_1 F hin9 rfl (kd_b hb) hb.2 wd_22_5 dX1_init_14 ?_
  refine g_aload_n (i := 0) F dX1_init_17 rfl rfl ?_
  refine g_iload_n (i := 2) F dX1_init_18 rfl rfl ?_
  refine g_bipush F dX1_init_19 (v := 10) (by decide) ?_
  refine g_idiv F dX1_init_21 (by decide) ?_
  refine g_bipush F dX1_init_22 (v := 10) (by decide) ?_
  refine g_irem F dX1_init_24 (by decide) ?_
  refine g_putF_1_2 F hin9 rfl (kd_b hb) hb.2 wd_22_6 dX1_init_25 ?_
  refine g_aload_n (i := 0) F dX1_init_28 rfl rfl ?_
  refine g_iload_n (i := 2) F dX1_init_29 rfl rfl ?_
  refine g_bipush F dX1_init_30 (v := 10) (by decide) ?_
  refine g_irem F dX1_init_32 (by decide) ?_
  refine g_putF_1_3 F hin9 rfl (kd_b hb) hb.2 wd_22_7 dX1_init_33 ?_
  refine g_aload_n (i := 0) F dX1_init_36 rfl rfl ?_
  refine g_iload_n (i := 3) F dX1_init_37 rfl rfl ?_
  refine g_put_1_4 F (kd_b hb) hb.2 wd_22_8 dX1_init_38 ?_
  refine g_aload_n (i := 0) F dX1_init_41 rfl rfl ?_
  refine g_iload (i := 4) F dX1_init_42 rfl ?_
  refine g_put_1_5 F (kd_b hb) hb.2 wd_22_9 dX1_init_44 ?_
  exact g_vret F hr9 hl9 rfl (by decide) (by decide) dX1_init_47


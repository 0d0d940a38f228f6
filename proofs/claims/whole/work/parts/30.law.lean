/-! the law -/
def np {β : Type} : Nat → β → (Nat → β) → β
  | 0, a, _ => a
  | n + 1, _, k => k n
theorem np_at {β : Type} {n : Nat} {k : Nat → Option β} {o : β} (h : np n none k = some o) : ∃ m, n = m + 1 ∧ k m = some o := by
  cases n with
  | zero => cases h
  | succ m => exact ⟨m, rfl, h⟩
section G30
variable {p : Program} {l : Launch} {e : Env} {R : Room} {s : State} {m : MethodId} {args : Array Value} {below : List Frame} {meth : Method} {c : Code} {Q : State → Prop} {s0 : State} {D : va_G} {ev : Nat → Nat} {nL cells slots pc : Nat} {lv lv' : List (Nat × Value)} {st : List Value} {ws : List va_E} {cc : ByteArray} {own : String}
theorem g_sldr (F : Fx p s m args c s0 D ev cc nL own) {b L : Nat} {xs : Nat → Int32} {i v : Int32} (hX : va_X b L xs s s.heap) (hb : b < ev 0) (h : rd xs L i = some v) (hd : decode cc pc = .ok (.iaload, 1)) (k9 : GJ p l e R s m args below meth c Q s0 D ev nL cells slots (pc + 1) lv (.int v :: st) ws) : GJ p l e R s m args below meth c Q s0 D ev nL cells slots pc lv (.int i :: .ref b :: st) ws := by
  obtain ⟨h1, rfl⟩ := rd_at h
  exact g_sld F hX hb h1 hd k9
theorem g_callWI (F : Fx p s m args c s0 D ev cc nL own) {y : MethodName} {cc2 : ByteArray} {ret : Option FieldType} {n2 h2 mc2 ms2 idx nn : Nat} {As stk : List Value} {r : Int32} {ws1 : List va_E} {id ci : Nat} {fs : List Value} {q : vw_C} {C : String} (hid : ws[id]? = some (.inr (ci, fs))) (hc : vwCl[ci]? = some q) (hq : q.1 = C) (hy : y.cls = C) (hM : CT l s0 D ev y cc2 n2 ret h2 mc2 ms2 (.ref (ev 0 + id) :: As) ws (QI s0 D ev r ws1)) (w0 : Cond.code y cc2 n2 ret ∈ wsL_law) (w1 : Cond.methodLink own idx y ∈ wsL_law) (w2 : Cond.instanceMethod y ∈ wsL_law) (w3 : Cond.selects C y y ∈ wsL_law) (w4 : Cond.initialized C ∈ wsL_law) (hmh : y.cls ≠ "java/lang/invoke/MethodHandle" ∧ y.cls ≠ "java/lang/invoke/VarHandle") (hnp : (parseMethodDescriptor y.desc).map (fun d => d.parameters.length) = some nn) (hAs : As.length = nn) (hst : stk = As.reverse ++ .ref (ev 0 + id) :: st) (hcat : (st.map fun v => v.category).sum ≤ 8) (hR1 : h2 + 1 ≤ R.frames) (hR2 : 8 + (n2 + 11) + 40 * h2 ≤ R.locals) (hf : cells + mc2 ≤ R.cells ∧ slots + ms2 ≤ R.slots) (hd : decode cc pc = .ok (.invokevirtual idx, 3)) (k9 : GJ p l e R s m args below meth c Q s0 D ev nL (cells + mc2) (slots + ms2) (pc + 3) lv (.int r :: st) ws1) : GJ p l e R s m args below meth c Q s0 D ev nL cells slots pc lv stk ws := by
  intro H locs ls hl h
  subst hst
  refine va_calli (va_runV (As := As) (rest := st) ⟨F.ex, F.co, F.ml, F.ow, F.ts⟩ hM (cwV nn F.ts (gi_v w0 w1 w2 w3 w4) rfl rfl rfl ⟨hy, hmh.1, hmh.2, hnp⟩ ⟨hR1, hR2⟩) ⟨wr_blind, by subst hq; exact va_recv F.K (h.1.P1 hid) (q0 := 0) hc rfl, fun U hU hW => ⟨rfl, h.wr F hU hW⟩⟩ rfl hAs hl.1 rfl (lv_room hcat) hd hf) (h.S F) (fun q _ hq => hq) (fun q hq => hq) (fun r' u t H1 locs1 ht hvm hw hB hz hk hS => ?_)
  have hw : r' = r := hw
  subst hw
  exact k9 H1 locs1 ls hl (h.back ht hB hz hS)
theorem g_callWL (F : Fx p s m args c s0 D ev cc nL own) {y : MethodName} {cc2 : ByteArray} {ret : Option FieldType} {n2 h2 mc2 ms2 idx nn : Nat} {As stk : List Value} {r : Int64} {ws1 : List va_E} {id ci : Nat} {fs : List Value} {q : vw_C} {C : String} (hid : ws[id]? = some (.inr (ci, fs))) (hc : vwCl[ci]? = some q) (hq : q.1 = C) (hy : y.cls = C) (hM : CT l s0 D ev y cc2 n2 ret h2 mc2 ms2 (.ref (ev 0 + id) :: As) ws (QL s0 D ev r ws1)) (w0 : Cond.code y cc2 n2 ret ∈ wsL_law) (w1 : Cond.methodLink own idx y ∈ wsL_law) (w2 : Cond.instanceMethod y ∈ wsL_law) (w3 : Cond.selects C y y ∈ wsL_law) (w4 : Cond.initialized C ∈ wsL_law) (hmh : y.cls ≠ "java/lang/invoke/MethodHandle" ∧ y.cls ≠ "java/lang/invoke/VarHandle") (hnp : (parseMethodDescriptor y.desc).map (fun d => d.parameters.length) = some nn) (hAs : As.length = nn) (hst : stk = As.reverse ++ .ref (ev 0 + id) :: st) (hcat : (st.map fun v => v.category).sum ≤ 8) (hR1 : h2 + 1 ≤ R.frames) (hR2 : 8 + (n2 + 11) + 40 * h2 ≤ R.locals) (hf : cells + mc2 ≤ R.cells ∧ slots + ms2 ≤ R.slots) (hd : decode cc pc = .ok (.invokevirtual idx, 3)) (k9 : GJ p l e R s m args below meth c Q s0 D ev nL (cells + mc2) (slots + ms2) (pc + 3) lv (.long r :: st) ws1) : GJ p l e R s m args below meth c Q s0 D ev nL cells slots pc lv stk ws := by
  intro H locs ls hl h
  subst hst
  refine va_calll (va_runV (As := As) (rest := st) ⟨F.ex, F.co, F.ml, F.ow, F.ts⟩ hM (cwV nn F.ts (gi_v w0 w1 w2 w3 w4) rfl rfl rfl ⟨hy, hmh.1, hmh.2, hnp⟩ ⟨hR1, hR2⟩) ⟨wr_blind, by subst hq; exact va_recv F.K (h.1.P1 hid) (q0 := 0) hc rfl, fun U hU hW => ⟨rfl, h.wr F hU hW⟩⟩ rfl hAs hl.1 rfl (lv_room hcat) hd hf) (h.S F) (fun q _ hq => hq) (fun q hq => hq) (fun r' u t H1 locs1 ht hvm hw hB hz hk hS => ?_)
  have hw : r' = r := hw
  subst hw
  exact k9 H1 locs1 ls hl (h.back ht hB hz hS)
theorem g_callWi (F : Fx p s m args c s0 D ev cc nL own) {y : MethodName} {cc2 : ByteArray} {n2 h2 mc2 ms2 idx id nn : Nat} {As stk : List Value} {ws1 : List va_E} (hin : y.name = "<init>") (hM : CT l s0 D ev y cc2 n2 none h2 mc2 ms2 (.ref (ev 0 + id) :: As) ws (QV s0 D ev ws1)) (w0 : Cond.code y cc2 n2 none ∈ wsL_law) (w1 : Cond.methodLink own idx y ∈ wsL_law) (w2 : Cond.instanceMethod y ∈ wsL_law) (w4 : Cond.initialized y.cls ∈ wsL_law) (hmh : y.cls ≠ "java/lang/invoke/MethodHandle" ∧ y.cls ≠ "java/lang/invoke/VarHandle") (hnp : (parseMethodDescriptor y.desc).map (fun d => d.parameters.length) = some nn) (hAs : As.length = nn) (hst : stk = As.reverse ++ .ref (ev 0 + id) :: st) (hcat : (st.map fun v => v.category).sum ≤ 8) (hR1 : h2 + 1 ≤ R.frames) (hR2 : 8 + (n2 + 11) + 40 * h2 ≤ R.locals) (hf : cells + mc2 ≤ R.cells ∧ slots + ms2 ≤ R.slots) (hd : decode cc pc = .ok (.invokespecial idx, 3)) (k9 : GJ p l e R s m args below meth c Q s0 D ev nL (cells + mc2) (slots + ms2) (pc + 3) lv st ws1) : GJ p l e R s m args below meth c Q s0 D ev nL cells slots pc lv stk ws := by
  intro H locs ls hl h
  subst hst
  refine va_callv (va_runI (As := As) (rest := st) ⟨F.ex, F.co, F.ml, F.ow, F.ts⟩ hM (cwI nn F.ts (gi_c w0) rfl rfl rfl (F.ts _ w4) (F.ts _ w1) (F.ts _ w2) hin ⟨hmh.1, hmh.2, hnp⟩ ⟨hR1, hR2⟩) ⟨wr_blind, fun U hU hW => ⟨rfl, h.wr F hU hW⟩⟩ rfl hAs hl.1 rfl (lv_room hcat) hd hf) (h.S F) (fun q _ hq => hq) (fun q hq => hq) (fun u t H1 locs1 ht hvm hw hB hz hk hS => ?_)
  exact k9 H1 locs1 ls hl (h.back ht hB hz hS)
end G30
/-! THE CLAIM OUT OF ONE WALK OF THE LAW'S BODY. Your part is whole_start (and what it stands on); all else here is the same for every law, but numbers. -/
def R_law : String := "AnchorThatDragsLaw"
def lw_P (b : Addr) (xs : List Int32) (args : Array Value) (s : State) : Prop := args = #[.ref b] ∧ s.IntsAt b xs ∧ xs.length ≤ 3584 ∧ (Jvm.Cond.and given_1 narrow_1).before args s = true
def lw_Q (_ : Array Value) (s : State) (o : Outcome) (t : State) : Prop := o = .returned (some (.int 1)) ∧ Framed s o t [] 600000 7302250
def lw_Z (below : List Frame) (a : Array Value) (s : State) : State → Prop := fun t => ∃ o, t.status = .running ∧ Ended t below o ∧ lw_Q a s o t
/-- the law's own end, with 1 on the stack, nothing written that was there before, its room as the claim has it -/
theorem lw_ret {p : Program} {l : Launch} {e : Env} {s : State} {m : MethodId} {below : List Frame} {meth : Method} {c : Code} {b : Nat} (hx : p.tables.exec = Jvm.exec) (hb : c.code = code) (hr : meth.sig.returnType = ret) (hlocks : meth.locks = false) {pc : Nat} {H : Heap} {ls : Array Slot} (hdg : decode code pc = .ok (.ireturn, 1)) : W p l e room_1 s m #[Value.ref b] below meth c H [] 600000 7302250 (lw_Z below #[Value.ref b] s) (F0 m pc ls [.int 1]) := by
  intro T hT X
  obtain ⟨fs, hret, hrun, hended, hW, hframe⟩ := X.leave (v := some (.int 1)) (hlocks := hlocks) (fun h => by rw [hr] at h; cases h)
  have hmeth' : T.vm.method? m = some meth := X.method'
  refine ⟨T.setFrames fs, ?_, .returned (some (.int 1)), hrun, hended, rfl, ⟨_, rfl⟩, hW, hframe⟩
  jvm_step X.here [X.here.top, hx, hb, hdg, hmeth', hr, ret, narrow_b1]
  (try refine ⟨rfl, ?_⟩); (try refine ⟨rfl, ?_⟩)
  first | (intro acts; rw [hret _ acts rfl rfl rfl]) | rw [hret _ _ rfl rfl rfl]
  exact Steps.refl _
/-- what holds at the law's entry: the machine, the code, the tables' words (any of lw_tbl by 'hts w (by decide +kernel)'), the script of L ints xs at the cell b, what the Statement gives of the start (any of its parts by flat_of_before) -/
def lw_At (p : Program) (s : State) (m : MethodId) (meth : Method) (c : Code) (b L : Nat) (xs : Nat → Int32) : Prop :=
  p.tables.exec = Jvm.exec ∧ c.code = code ∧ meth.sig.returnType = ret ∧ c.maxLocals = 4 ∧ s.vm.findClass R_law = some m.cls ∧ (∀ w ∈ lw_tbl, w.before #[Value.ref b] s = true) ∧ va_X b L xs s s.heap ∧ b < s.heap.size ∧ meth.locks = false ∧ (Jvm.Cond.and given_1 narrow_1).before #[Value.ref b] s = true

theorem g_law1 {p : Program} {l : Launch} {e : Env} {m : MethodId} {below : List Frame} {meth : Method} {c : Code} {b0 : Nat} {s0 : State} {D : va_G} {ev : Nat → Nat} {nL cells slots pc : Nat} {lv : List (Nat × Value)} {ws : List va_E} {own : String} (F : Fx p s0 m #[Value.ref b0] c s0 D ev code nL own) (hb : c.code = code) (hr : meth.sig.returnType = ret) (hlocks : meth.locks = false) {v : Int32} (hv : v = 1) (h1 : cells ≤ 600000) (h2 : slots ≤ 7302250) (hd : decode code pc = .ok (.ireturn, 1)) : GJ p l e room_1 s0 m #[Value.ref b0] below meth c (lw_Z below #[Value.ref b0] s0) s0 D ev nL cells slots pc lv [.int v] ws := by
  subst hv
  intro H locs ls hl h
  refine W.widen h1 h2 ?_
  refine va_forget (fun q hq => ?_) (lw_ret F.ex hb hr hlocks hd)
  have := h.2.2 q hq
  rw [F.gl.1] at this
  exact this
def fL_law_l18 (xs : Nat → Int32) (L9 : Nat) (K18 : XW → MW → Nat → Int32 → Option Int32) (X : XW) (M : MW) (nb : Nat) (l3 : Int32) : Option Int32 :=
  if ((Int32.ofNat L9) - (7 : Int32)) < l3 then some (1 : Int32)
  else (rd xs L9 l3).bind fun v1 =>
  bd (v1 &&& (63 : Int32)) fun v3 =>
  if v3 = (0 : Int32) then (rd xs L9 (l3 + (1 : Int32))).bind fun v52 =>
  (rd xs L9 (l3 + (2 : Int32))).bind fun v54 =>
  (rd xs L9 (l3 + (3 : Int32))).bind fun v56 =>
  bd2 (fX9_sound X v52 v54 v56) fun v59 X58 =>
  (rd xs L9 (l3 + (1 : Int32))).bind fun v61 =>
  (rd xs L9 (l3 + (2 : Int32))).bind fun v63 =>
  (rd xs L9 (l3 + (3 : Int32))).bind fun v65 =>
  bd2 (fX10_sound M v61 v63 v65) fun v68 M67 =>
  if v59 = v68 then K18 X58 M67 nb (l3 + (7 : Int32))
  else some (0 : Int32)
  else if v3 = (1 : Int32) then (rd xs L9 (l3 + (1 : Int32))).bind fun v71 =>
  (rd xs L9 (l3 + (2 : Int32))).bind fun v73 =>
  (rd xs L9 (l3 + (3 : Int32))).bind fun v75 =>
  (rd xs L9 (l3 + (4 : Int32))).bind fun v77 =>
  bd2 (fX9_chart X v71 v73 v75 v77) fun v80 X79 =>
  (rd xs L9 (l3 + (1 : Int32))).bind fun v82 =>
  (rd xs L9 (l3 + (2 : Int32))).bind fun v84 =>
  (rd xs L9 (l3 + (3 : Int32))).bind fun v86 =>
  (rd xs L9 (l3 + (4 : Int32))).bind fun v88 =>
  bd2 (fX10_chart M v82 v84 v86 v88) fun v91 M90 =>
  if v80 = v91 then K18 X79 M90 nb (l3 + (7 : Int32))
  else some (0 : Int32)
  else if v3 = (2 : Int32) then (rd xs L9 (l3 + (1 : Int32))).bind fun v94 =>
  (rd xs L9 (l3 + (2 : Int32))).bind fun v96 =>
  (rd xs L9 (l3 + (3 : Int32))).bind fun v98 =>
  bd2 (fX9_blow X v94 v96 v98) fun v101 X100 =>
  (rd xs L9 (l3 + (1 : Int32))).bind fun v103 =>
  (rd xs L9 (l3 + (2 : Int32))).bind fun v105 =>
  (rd xs L9 (l3 + (3 : Int32))).bind fun v107 =>
  bd2 (fX10_blow M v103 v105 v107) fun v110 M109 =>
  if v101 = v110 then K18 X100 M109 nb (l3 + (7 : Int32))
  else some (0 : Int32)
  else if v3 = (3 : Int32) then (rd xs L9 (l3 + (1 : Int32))).bind fun v113 =>
  (rd xs L9 (l3 + (2 : Int32))).bind fun v115 =>
  (fX9_told X v113 v115).bind fun v117 =>
  (rd xs L9 (l3 + (1 : Int32))).bind fun v119 =>
  (rd xs L9 (l3 + (2 : Int32))).bind fun v121 =>
  (fX10_told M v119 v121).bind fun v123 =>
  if v117 = v123 then K18 X M nb (l3 + (7 : Int32))
  else some (0 : Int32)
  else if v3 = (4 : Int32) then (rd xs L9 (l3 + (1 : Int32))).bind fun v126 =>
  (rd xs L9 (l3 + (1 : Int32))).bind fun v130 =>
  if (fX9_count X v126) = (fX10_count M v130) then K18 X M nb (l3 + (7 : Int32))
  else some (0 : Int32)
  else if v3 = (5 : Int32) then (rd xs L9 (l3 + (1 : Int32))).bind fun v135 =>
  (rd xs L9 (l3 + (2 : Int32))).bind fun v137 =>
  (rd xs L9 (l3 + (3 : Int32))).bind fun v139 =>
  (rd xs L9 (l3 + (4 : Int32))).bind fun v141 =>
  (rd xs L9 (l3 + (5 : Int32))).bind fun v143 =>
  (rd xs L9 (l3 + (6 : Int32))).bind fun v145 =>
  bd2 (fX9_feed X v135 v137 v139 v141 v143 v145) fun v148 X147 =>
  (rd xs L9 (l3 + (1 : Int32))).bind fun v150 =>
  (rd xs L9 (l3 + (2 : Int32))).bind fun v152 =>
  (rd xs L9 (l3 + (3 : Int32))).bind fun v154 =>
  (rd xs L9 (l3 + (4 : Int32))).bind fun v156 =>
  (rd xs L9 (l3 + (5 : Int32))).bind fun v158 =>
  (rd xs L9 (l3 + (6 : Int32))).bind fun v160 =>
  bd2 (fX10_feed M v150 v152 v154 v156 v158 v160) fun v163 M162 =>
  if v148 = v163 then K18 X147 M162 nb (l3 + (7 : Int32))
  else some (0 : Int32)
  else if v3 = (6 : Int32) then bd2 (fX9_text X) fun v167 X166 =>
  bd2 (fX10_text M) fun v170 M169 =>
  if v167 = v170 then K18 X166 M169 nb (l3 + (7 : Int32))
  else some (0 : Int32)
  else if v3 = (7 : Int32) then (rd xs L9 (l3 + (1 : Int32))).bind fun v173 =>
  bd2 (fX9_force X v173) fun v176 X175 =>
  (rd xs L9 (l3 + (1 : Int32))).bind fun v178 =>
  bd2 (fX10_force M v178) fun v181 M180 =>
  if v176 = v181 then K18 X175 M180 nb (l3 + (7 : Int32))
  else some (0 : Int32)
  else if v3 = (8 : Int32) then (rd xs L9 (l3 + (1 : Int32))).bind fun v184 =>
  (rd xs L9 (l3 + (2 : Int32))).bind fun v186 =>
  (rd xs L9 (l3 + (3 : Int32))).bind fun v188 =>
  (rd xs L9 (l3 + (4 : Int32))).bind fun v190 =>
  bd2 (fX9_asks X v184 v186 v188 v190) fun v193 X192 =>
  (rd xs L9 (l3 + (1 : Int32))).bind fun v195 =>
  (rd xs L9 (l3 + (2 : Int32))).bind fun v197 =>
  (rd xs L9 (l3 + (3 : Int32))).bind fun v199 =>
  (rd xs L9 (l3 + (4 : Int32))).bind fun v201 =>
  bd2 (fX10_asks M v195 v197 v199 v201) fun v204 M203 =>
  if v193 = v204 then K18 X192 M203 nb (l3 + (7 : Int32))
  else some (0 : Int32)
  else if v3 = (9 : Int32) then (rd xs L9 (l3 + (1 : Int32))).bind fun v207 =>
  (rd xs L9 (l3 + (2 : Int32))).bind fun v209 =>
  (rd xs L9 (l3 + (3 : Int32))).bind fun v211 =>
  (rd xs L9 (l3 + (4 : Int32))).bind fun v213 =>
  bd3 (fX9_boat X (nb + 1) v207 v209 v211 v213) fun v216 X215 n218 =>
  np n218 none fun n219 =>
  (rd xs L9 (l3 + (1 : Int32))).bind fun v221 =>
  (rd xs L9 (l3 + (2 : Int32))).bind fun v223 =>
  (rd xs L9 (l3 + (3 : Int32))).bind fun v225 =>
  (rd xs L9 (l3 + (4 : Int32))).bind fun v227 =>
  bd2 (fX10_boat M v221 v223 v225 v227) fun v230 M229 =>
  if v216 = v230 then K18 X215 M229 n219 (l3 + (7 : Int32))
  else some (0 : Int32)
  else if v3 = (10 : Int32) then (rd xs L9 (l3 + (1 : Int32))).bind fun v233 =>
  (rd xs L9 (l3 + (2 : Int32))).bind fun v235 =>
  (rd xs L9 (l3 + (3 : Int32))).bind fun v237 =>
  bd2 (fX9_let X (nb + 1) v233 v235 v237) fun v240 X239 =>
  (rd xs L9 (l3 + (1 : Int32))).bind fun v242 =>
  (rd xs L9 (l3 + (2 : Int32))).bind fun v244 =>
  (rd xs L9 (l3 + (3 : Int32))).bind fun v246 =>
  bd2 (fX10_let M v242 v244 v246) fun v249 M248 =>
  if v240 = v249 then K18 X239 M248 nb (l3 + (7 : Int32))
  else some (0 : Int32)
  else if v3 = (11 : Int32) then (rd xs L9 (l3 + (1 : Int32))).bind fun v252 =>
  (rd xs L9 (l3 + (2 : Int32))).bind fun v254 =>
  (fX9_boatTold X (nb + 1) v252 v254).bind fun v256 =>
  (rd xs L9 (l3 + (1 : Int32))).bind fun v258 =>
  (rd xs L9 (l3 + (2 : Int32))).bind fun v260 =>
  (fX10_boatTold M v258 v260).bind fun v262 =>
  if v256 = v262 then K18 X M nb (l3 + (7 : Int32))
  else some (0 : Int32)
  else if v3 = (12 : Int32) then (rd xs L9 (l3 + (1 : Int32))).bind fun v265 =>
  (rd xs L9 (l3 + (2 : Int32))).bind fun v267 =>
  (rd xs L9 (l3 + (3 : Int32))).bind fun v269 =>
  bd2 (fX9_hold X (nb + 1) v265 v267 v269) fun v272 X271 =>
  (rd xs L9 (l3 + (1 : Int32))).bind fun v274 =>
  (rd xs L9 (l3 + (2 : Int32))).bind fun v276 =>
  (rd xs L9 (l3 + (3 : Int32))).bind fun v278 =>
  bd2 (fX10_hold M v274 v276 v278) fun v281 M280 =>
  if v272 = v281 then K18 X271 M280 nb (l3 + (7 : Int32))
  else some (0 : Int32)
  else if v3 = (13 : Int32) then (rd xs L9 (l3 + (1 : Int32))).bind fun v284 =>
  (rd xs L9 (l3 + (2 : Int32))).bind fun v286 =>
  (rd xs L9 (l3 + (3 : Int32))).bind fun v288 =>
  bd2 (fX9_night X (nb + 1) v284 v286 v288) fun v291 X290 =>
  (rd xs L9 (l3 + (1 : Int32))).bind fun v293 =>
  (rd xs L9 (l3 + (2 : Int32))).bind fun v295 =>
  (rd xs L9 (l3 + (3 : Int32))).bind fun v297 =>
  bd2 (fX10_night M v293 v295 v297) fun v300 M299 =>
  if v291 = v300 then K18 X290 M299 nb (l3 + (7 : Int32))
  else some (0 : Int32)
  else if v3 = (14 : Int32) then (rd xs L9 (l3 + (1 : Int32))).bind fun v303 =>
  (rd xs L9 (l3 + (2 : Int32))).bind fun v305 =>
  bd2 (fX9_fleet X (nb + 1) v303 v305) fun v308 X307 =>
  (rd xs L9 (l3 + (1 : Int32))).bind fun v310 =>
  (rd xs L9 (l3 + (2 : Int32))).bind fun v312 =>
  bd2 (fX10_fleet M v310 v312) fun v315 M314 =>
  if v308 = v315 then K18 X307 M314 nb (l3 + (7 : Int32))
  else some (0 : Int32)
  else if v3 = (15 : Int32) then (rd xs L9 (l3 + (1 : Int32))).bind fun v318 =>
  (rd xs L9 (l3 + (2 : Int32))).bind fun v320 =>
  (rd xs L9 (l3 + (3 : Int32))).bind fun v322 =>
  bd2 (fX9_hit X (nb + 1) v318 v320 v322) fun v325 X324 =>
  (rd xs L9 (l3 + (1 : Int32))).bind fun v327 =>
  (rd xs L9 (l3 + (2 : Int32))).bind fun v329 =>
  (rd xs L9 (l3 + (3 : Int32))).bind fun v331 =>
  bd2 (fX10_hit M v327 v329 v331) fun v334 M333 =>
  if v325 = v334 then K18 X324 M333 nb (l3 + (7 : Int32))
  else some (0 : Int32)
  else if v3 = (16 : Int32) then (rd xs L9 (l3 + (1 : Int32))).bind fun v337 =>
  bd2 (fX9_wake X (nb + 1) v337) fun v340 X339 =>
  (rd xs L9 (l3 + (1 : Int32))).bind fun v342 =>
  bd2 (fX10_wake M v342) fun v345 M344 =>
  if v340 = v345 then K18 X339 M344 nb (l3 + (7 : Int32))
  else some (0 : Int32)
  else if v3 = (17 : Int32) then (rd xs L9 (l3 + (1 : Int32))).bind fun v348 =>
  bd2 (fX9_goOn X (nb + 1) v348) fun v351 X350 =>
  (rd xs L9 (l3 + (1 : Int32))).bind fun v353 =>
  bd2 (fX10_goOn M v353) fun v356 M355 =>
  if v351 = v356 then K18 X350 M355 nb (l3 + (7 : Int32))
  else some (0 : Int32)
  else if v3 = (18 : Int32) then (rd xs L9 (l3 + (1 : Int32))).bind fun v359 =>
  (rd xs L9 (l3 + (2 : Int32))).bind fun v361 =>
  bd2 (fX9_veer X (nb + 1) v359 v361) fun v364 X363 =>
  (rd xs L9 (l3 + (1 : Int32))).bind fun v366 =>
  (rd xs L9 (l3 + (2 : Int32))).bind fun v368 =>
  bd2 (fX10_veer M v366 v368) fun v371 M370 =>
  if v364 = v371 then K18 X363 M370 nb (l3 + (7 : Int32))
  else some (0 : Int32)
  else if v3 = (19 : Int32) then (rd xs L9 (l3 + (1 : Int32))).bind fun v374 =>
  (rd xs L9 (l3 + (2 : Int32))).bind fun v376 =>
  (rd xs L9 (l3 + (3 : Int32))).bind fun v378 =>
  bd2 (fX9_drop X (nb + 1) v374 v376 v378) fun v381 X380 =>
  (rd xs L9 (l3 + (1 : Int32))).bind fun v383 =>
  (rd xs L9 (l3 + (2 : Int32))).bind fun v385 =>
  (rd xs L9 (l3 + (3 : Int32))).bind fun v387 =>
  bd2 (fX10_drop M v383 v385 v387) fun v390 M389 =>
  if v381 = v390 then K18 X380 M389 nb (l3 + (7 : Int32))
  else some (0 : Int32)
  else if v3 = (20 : Int32) then (rd xs L9 (l3 + (1 : Int32))).bind fun v393 =>
  (rd xs L9 (l3 + (2 : Int32))).bind fun v395 =>
  (fX9_rings X (nb + 1) v393 v395).bind fun v397 =>
  (rd xs L9 (l3 + (1 : Int32))).bind fun v399 =>
  (rd xs L9 (l3 + (2 : Int32))).bind fun v401 =>
  (fX10_rings M v399 v401).bind fun v403 =>
  if v397 = v403 then K18 X M nb (l3 + (7 : Int32))
  else some (0 : Int32)
  else if v3 = (21 : Int32) then (fX9_late X (nb + 1)).bind fun v406 =>
  (fX10_late M).bind fun v408 =>
  if v406 = v408 then K18 X M nb (l3 + (7 : Int32))
  else some (0 : Int32)
  else if v3 = (22 : Int32) then (rd xs L9 (l3 + (1 : Int32))).bind fun v411 =>
  (rd xs L9 (l3 + (2 : Int32))).bind fun v413 =>
  (rd xs L9 (l3 + (3 : Int32))).bind fun v415 =>
  bd2 (fX9_alarm X (nb + 1) v411 v413 v415) fun v418 X417 =>
  (rd xs L9 (l3 + (1 : Int32))).bind fun v420 =>
  (rd xs L9 (l3 + (2 : Int32))).bind fun v422 =>
  (rd xs L9 (l3 + (3 : Int32))).bind fun v424 =>
  bd2 (fX10_alarm M v420 v422 v424) fun v427 M426 =>
  if v418 = v427 then K18 X417 M426 nb (l3 + (7 : Int32))
  else some (0 : Int32)
  else if v3 = (23 : Int32) then (rd xs L9 (l3 + (1 : Int32))).bind fun v430 =>
  (rd xs L9 (l3 + (2 : Int32))).bind fun v432 =>
  (rd xs L9 (l3 + (3 : Int32))).bind fun v434 =>
  bd2 (fX9_size X (nb + 1) v430 v432 v434) fun v437 X436 =>
  (rd xs L9 (l3 + (1 : Int32))).bind fun v439 =>
  (rd xs L9 (l3 + (2 : Int32))).bind fun v441 =>
  (rd xs L9 (l3 + (3 : Int32))).bind fun v443 =>
  bd2 (fX10_size_ M v439 v441 v443) fun v446 M445 =>
  if v437 = v446 then K18 X436 M445 nb (l3 + (7 : Int32))
  else some (0 : Int32)
  else if v3 = (24 : Int32) then (rd xs L9 (l3 + (1 : Int32))).bind fun v449 =>
  (rd xs L9 (l3 + (2 : Int32))).bind fun v451 =>
  (rd xs L9 (l3 + (3 : Int32))).bind fun v453 =>
  (rd xs L9 (l3 + (1 : Int32))).bind fun v457 =>
  (rd xs L9 (l3 + (2 : Int32))).bind fun v459 =>
  (rd xs L9 (l3 + (3 : Int32))).bind fun v461 =>
  if (fX9_line v449 v451 v453) = (fX10_line v457 v459 v461) then K18 X M nb (l3 + (7 : Int32))
  else some (0 : Int32)
  else if v3 = (25 : Int32) then (rd xs L9 (l3 + (1 : Int32))).bind fun v466 =>
  (rd xs L9 (l3 + (2 : Int32))).bind fun v468 =>
  (rd xs L9 (l3 + (3 : Int32))).bind fun v470 =>
  (rd xs L9 (l3 + (4 : Int32))).bind fun v472 =>
  bd2 (fX9_marks X (nb + 1) v466 v468 v470 v472) fun v475 X474 =>
  (rd xs L9 (l3 + (1 : Int32))).bind fun v477 =>
  (rd xs L9 (l3 + (2 : Int32))).bind fun v479 =>
  (rd xs L9 (l3 + (3 : Int32))).bind fun v481 =>
  (rd xs L9 (l3 + (4 : Int32))).bind fun v483 =>
  bd2 (fX10_marks M v477 v479 v481 v483) fun v486 M485 =>
  if v475 = v486 then K18 X474 M485 nb (l3 + (7 : Int32))
  else some (0 : Int32)
  else if v3 = (26 : Int32) then (rd xs L9 (l3 + (1 : Int32))).bind fun v489 =>
  (rd xs L9 (l3 + (2 : Int32))).bind fun v491 =>
  (rd xs L9 (l3 + (3 : Int32))).bind fun v493 =>
  bd2 (fX9_next X (nb + 1) v489 v491 v493) fun v496 X495 =>
  (rd xs L9 (l3 + (1 : Int32))).bind fun v498 =>
  (rd xs L9 (l3 + (2 : Int32))).bind fun v500 =>
  (rd xs L9 (l3 + (3 : Int32))).bind fun v502 =>
  bd2 (fX10_next_ M v498 v500 v502) fun v505 M504 =>
  if v496 = v505 then K18 X495 M504 nb (l3 + (7 : Int32))
  else some (0 : Int32)
  else if v3 = (27 : Int32) then (rd xs L9 (l3 + (1 : Int32))).bind fun v508 =>
  (rd xs L9 (l3 + (2 : Int32))).bind fun v510 =>
  (rd xs L9 (l3 + (3 : Int32))).bind fun v512 =>
  (rd xs L9 (l3 + (4 : Int32))).bind fun v514 =>
  bd2 (fX9_two X (nb + 1) v508 v510 v512 v514) fun v517 X516 =>
  (rd xs L9 (l3 + (1 : Int32))).bind fun v519 =>
  (rd xs L9 (l3 + (2 : Int32))).bind fun v521 =>
  (rd xs L9 (l3 + (3 : Int32))).bind fun v523 =>
  (rd xs L9 (l3 + (4 : Int32))).bind fun v525 =>
  bd2 (fX10_two_ M v519 v521 v523 v525) fun v528 M527 =>
  if v517 = v528 then K18 X516 M527 nb (l3 + (7 : Int32))
  else some (0 : Int32)
  else if v3 = (28 : Int32) then (rd xs L9 (l3 + (1 : Int32))).bind fun v531 =>
  (rd xs L9 (l3 + (2 : Int32))).bind fun v533 =>
  bd2 (fX9_angle X (nb + 1) v531 v533) fun v536 X535 =>
  (rd xs L9 (l3 + (1 : Int32))).bind fun v538 =>
  (rd xs L9 (l3 + (2 : Int32))).bind fun v540 =>
  bd2 (fX10_angle M v538 v540) fun v543 M542 =>
  if v536 = v543 then K18 X535 M542 nb (l3 + (7 : Int32))
  else some (0 : Int32)
  else if v3 = (29 : Int32) then (rd xs L9 (l3 + (1 : Int32))).bind fun v546 =>
  (rd xs L9 (l3 + (2 : Int32))).bind fun v548 =>
  bd2 (fX9_turns X (nb + 1) v546 v548) fun v551 X550 =>
  (rd xs L9 (l3 + (1 : Int32))).bind fun v553 =>
  (rd xs L9 (l3 + (2 : Int32))).bind fun v555 =>
  bd2 (fX10_turns M v553 v555) fun v558 M557 =>
  if (lg_cmp v551 v558) = 0 then K18 X550 M557 nb (l3 + (7 : Int32))
  else some (0 : Int32)
  else if v3 = (30 : Int32) then (rd xs L9 (l3 + (1 : Int32))).bind fun v561 =>
  (rd xs L9 (l3 + (2 : Int32))).bind fun v563 =>
  (rd xs L9 (l3 + (3 : Int32))).bind fun v565 =>
  (rd xs L9 (l3 + (4 : Int32))).bind fun v567 =>
  bd2 (fX9_trial X v561 v563 v565 v567) fun v570 X569 =>
  (rd xs L9 (l3 + (1 : Int32))).bind fun v572 =>
  (rd xs L9 (l3 + (2 : Int32))).bind fun v574 =>
  (rd xs L9 (l3 + (3 : Int32))).bind fun v576 =>
  (rd xs L9 (l3 + (4 : Int32))).bind fun v578 =>
  bd2 (fX10_trial M v572 v574 v576 v578) fun v581 M580 =>
  if v570 = v581 then K18 X569 M580 nb (l3 + (7 : Int32))
  else some (0 : Int32)
  else if v3 = (31 : Int32) then (rd xs L9 (l3 + (1 : Int32))).bind fun v584 =>
  (rd xs L9 (l3 + (2 : Int32))).bind fun v586 =>
  (rd xs L9 (l3 + (3 : Int32))).bind fun v588 =>
  (fX9_rate X v584 v586 v588).bind fun v590 =>
  (rd xs L9 (l3 + (1 : Int32))).bind fun v592 =>
  (rd xs L9 (l3 + (2 : Int32))).bind fun v594 =>
  (rd xs L9 (l3 + (3 : Int32))).bind fun v596 =>
  (fX10_rate M v592 v594 v596).bind fun v598 =>
  if (lg_cmp v590 v598) = 0 then K18 X M nb (l3 + (7 : Int32))
  else some (0 : Int32)
  else if v3 = (32 : Int32) then (rd xs L9 (l3 + (1 : Int32))).bind fun v601 =>
  (fX9_form X v601).bind fun v603 =>
  (rd xs L9 (l3 + (1 : Int32))).bind fun v605 =>
  (fX10_form M v605).bind fun v607 =>
  if v603 = v607 then K18 X M nb (l3 + (7 : Int32))
  else some (0 : Int32)
  else if v3 = (33 : Int32) then (fX9_joined X).bind fun v610 =>
  (fX10_joined M).bind fun v612 =>
  if v610 = v612 then K18 X M nb (l3 + (7 : Int32))
  else some (0 : Int32)
  else if v3 = (34 : Int32) then (rd xs L9 (l3 + (1 : Int32))).bind fun v615 =>
  (rd xs L9 (l3 + (2 : Int32))).bind fun v617 =>
  bd2 (fX9_judge X (nb + 1) v615 v617) fun v620 X619 =>
  (rd xs L9 (l3 + (1 : Int32))).bind fun v622 =>
  (rd xs L9 (l3 + (2 : Int32))).bind fun v624 =>
  bd2 (fX10_judge M v622 v624) fun v627 M626 =>
  if v620 = v627 then K18 X619 M626 nb (l3 + (7 : Int32))
  else some (0 : Int32)
  else if v3 = (35 : Int32) then (rd xs L9 (l3 + (1 : Int32))).bind fun v630 =>
  bd2 (fX9_which X (nb + 1) v630) fun v633 X632 =>
  (rd xs L9 (l3 + (1 : Int32))).bind fun v635 =>
  bd2 (fX10_which M v635) fun v638 M637 =>
  if v633 = v638 then K18 X632 M637 nb (l3 + (7 : Int32))
  else some (0 : Int32)
  else if v3 = (36 : Int32) then (rd xs L9 (l3 + (1 : Int32))).bind fun v641 =>
  (rd xs L9 (l3 + (2 : Int32))).bind fun v643 =>
  bd2 (fX9_laws X (nb + 1) v641 v643) fun v646 X645 =>
  (rd xs L9 (l3 + (1 : Int32))).bind fun v648 =>
  (rd xs L9 (l3 + (2 : Int32))).bind fun v650 =>
  bd2 (fX10_laws M v648 v650) fun v653 M652 =>
  if v646 = v653 then K18 X645 M652 nb (l3 + (7 : Int32))
  else some (0 : Int32)
  else if v3 = (37 : Int32) then (rd xs L9 (l3 + (1 : Int32))).bind fun v656 =>
  (rd xs L9 (l3 + (2 : Int32))).bind fun v658 =>
  (rd xs L9 (l3 + (3 : Int32))).bind fun v660 =>
  bd2 (fX9_film X (nb + 1) v656 v658 v660) fun v663 X662 =>
  (rd xs L9 (l3 + (1 : Int32))).bind fun v665 =>
  (rd xs L9 (l3 + (2 : Int32))).bind fun v667 =>
  (rd xs L9 (l3 + (3 : Int32))).bind fun v669 =>
  bd2 (fX10_film M v665 v667 v669) fun v672 M671 =>
  if v663 = v672 then K18 X662 M671 nb (l3 + (7 : Int32))
  else some (0 : Int32)
  else if v3 = (38 : Int32) then (rd xs L9 (l3 + (1 : Int32))).bind fun v675 =>
  (rd xs L9 (l3 + (2 : Int32))).bind fun v677 =>
  (rd xs L9 (l3 + (3 : Int32))).bind fun v679 =>
  (rd xs L9 (l3 + (4 : Int32))).bind fun v681 =>
  bd2 (fX9_drawn X (nb + 1) v675 v677 v679 v681) fun v684 X683 =>
  (rd xs L9 (l3 + (1 : Int32))).bind fun v686 =>
  (rd xs L9 (l3 + (2 : Int32))).bind fun v688 =>
  (rd xs L9 (l3 + (3 : Int32))).bind fun v690 =>
  (rd xs L9 (l3 + (4 : Int32))).bind fun v692 =>
  bd2 (fX10_drawn M v686 v688 v690 v692) fun v695 M694 =>
  if v684 = v695 then K18 X683 M694 nb (l3 + (7 : Int32))
  else some (0 : Int32)
  else if v3 = (39 : Int32) then (rd xs L9 (l3 + (1 : Int32))).bind fun v698 =>
  (rd xs L9 (l3 + (2 : Int32))).bind fun v700 =>
  (rd xs L9 (l3 + (3 : Int32))).bind fun v702 =>
  (rd xs L9 (l3 + (4 : Int32))).bind fun v704 =>
  bd2 (fX9_chance X (nb + 1) v698 v700 v702 v704) fun v707 X706 =>
  (rd xs L9 (l3 + (1 : Int32))).bind fun v709 =>
  (rd xs L9 (l3 + (2 : Int32))).bind fun v711 =>
  (rd xs L9 (l3 + (3 : Int32))).bind fun v713 =>
  (rd xs L9 (l3 + (4 : Int32))).bind fun v715 =>
  bd2 (fX10_chance M v709 v711 v713 v715) fun v718 M717 =>
  if (lg_cmp v707 v718) = 0 then K18 X706 M717 nb (l3 + (7 : Int32))
  else some (0 : Int32)
  else if v3 = (40 : Int32) then bd2 (fX9_image X (nb + 1)) fun v722 X721 =>
  bd2 (fX10_image M) fun v725 M724 =>
  if v722 = v725 then K18 X721 M724 nb (l3 + (7 : Int32))
  else some (0 : Int32)
  else if v3 = (41 : Int32) then bd2 (fX9_back X (nb + 1)) fun v729 X728 =>
  bd2 (fX10_back M) fun v732 M731 =>
  if v729 = v732 then K18 X728 M731 nb (l3 + (7 : Int32))
  else some (0 : Int32)
  else if v3 = (42 : Int32) then (rd xs L9 (l3 + (1 : Int32))).bind fun v735 =>
  (rd xs L9 (l3 + (2 : Int32))).bind fun v737 =>
  (rd xs L9 (l3 + (3 : Int32))).bind fun v739 =>
  bd2 (fX9_sheet X v735 v737 v739) fun v742 X741 =>
  (rd xs L9 (l3 + (1 : Int32))).bind fun v744 =>
  (rd xs L9 (l3 + (2 : Int32))).bind fun v746 =>
  (rd xs L9 (l3 + (3 : Int32))).bind fun v748 =>
  bd2 (fX10_sheet M v744 v746 v748) fun v751 M750 =>
  if v742 = v751 then K18 X741 M750 nb (l3 + (7 : Int32))
  else some (0 : Int32)
  else if v3 = (43 : Int32) then (rd xs L9 (l3 + (1 : Int32))).bind fun v754 =>
  (rd xs L9 (l3 + (2 : Int32))).bind fun v756 =>
  (rd xs L9 (l3 + (3 : Int32))).bind fun v758 =>
  bd2 (fX9_cell X v754 v756 v758) fun v761 X760 =>
  (rd xs L9 (l3 + (1 : Int32))).bind fun v763 =>
  (rd xs L9 (l3 + (2 : Int32))).bind fun v765 =>
  (rd xs L9 (l3 + (3 : Int32))).bind fun v767 =>
  bd2 (fX10_cell M v763 v765 v767) fun v770 M769 =>
  if v761 = v770 then K18 X760 M769 nb (l3 + (7 : Int32))
  else some (0 : Int32)
  else if v3 = (44 : Int32) then (rd xs L9 (l3 + (1 : Int32))).bind fun v773 =>
  (rd xs L9 (l3 + (2 : Int32))).bind fun v775 =>
  (rd xs L9 (l3 + (3 : Int32))).bind fun v777 =>
  (rd xs L9 (l3 + (4 : Int32))).bind fun v779 =>
  (rd xs L9 (l3 + (5 : Int32))).bind fun v781 =>
  bd2 (fX9_copy X v773 v775 v777 v779 v781) fun v784 X783 =>
  (rd xs L9 (l3 + (1 : Int32))).bind fun v786 =>
  (rd xs L9 (l3 + (2 : Int32))).bind fun v788 =>
  (rd xs L9 (l3 + (3 : Int32))).bind fun v790 =>
  (rd xs L9 (l3 + (4 : Int32))).bind fun v792 =>
  (rd xs L9 (l3 + (5 : Int32))).bind fun v794 =>
  bd2 (fX10_copy M v786 v788 v790 v792 v794) fun v797 M796 =>
  if v784 = v797 then K18 X783 M796 nb (l3 + (7 : Int32))
  else some (0 : Int32)
  else if v3 = (45 : Int32) then (rd xs L9 (l3 + (1 : Int32))).bind fun v800 =>
  (rd xs L9 (l3 + (2 : Int32))).bind fun v802 =>
  (rd xs L9 (l3 + (3 : Int32))).bind fun v804 =>
  (rd xs L9 (l3 + (4 : Int32))).bind fun v806 =>
  bd3 (fX9_boatsBy X (nb + 1) v800 v802 v804 v806) fun v809 X808 n811 =>
  np n811 none fun n812 =>
  (rd xs L9 (l3 + (1 : Int32))).bind fun v814 =>
  (rd xs L9 (l3 + (2 : Int32))).bind fun v816 =>
  (rd xs L9 (l3 + (3 : Int32))).bind fun v818 =>
  (rd xs L9 (l3 + (4 : Int32))).bind fun v820 =>
  bd2 (fX10_boatsBy M v814 v816 v818 v820) fun v823 M822 =>
  if v809 = v823 then K18 X808 M822 n812 (l3 + (7 : Int32))
  else some (0 : Int32)
  else if v3 = (46 : Int32) then (rd xs L9 (l3 + (1 : Int32))).bind fun v826 =>
  (rd xs L9 (l3 + (2 : Int32))).bind fun v828 =>
  (fX9_taken X (nb + 1) v826 v828).bind fun v830 =>
  (rd xs L9 (l3 + (1 : Int32))).bind fun v832 =>
  (rd xs L9 (l3 + (2 : Int32))).bind fun v834 =>
  (fX10_taken M v832 v834).bind fun v836 =>
  if v830 = v836 then K18 X M nb (l3 + (7 : Int32))
  else some (0 : Int32)
  else K18 X M nb (l3 + (7 : Int32))
set_option maxRecDepth 100000 in
set_option maxHeartbeats 16000000 in
theorem law_loop {p9 : Program} {l : Launch} {e9 : Env} {m9 : MethodId} {below9 : List Frame} {meth9 : Method} {c9 : Code} {b0 L9 : Nat} {xs : Nat → Int32} {s0 : State} {D : va_G} {ev : Nat → Nat} (G0 : Gl s0 D ev) (F : Fx p9 s0 m9 #[Value.ref b0] c9 s0 D ev code 4 R_law) (hb9 : c9.code = code) (hr9 : meth9.sig.returnType = ret) (hl9 : meth9.locks = false) (hX9 : va_X b0 L9 xs s0 s0.heap) (hb0 : b0 < ev 0) : ∀ (N18 : Nat) (cl9 sl9 : Nat) (X : XW) (M : MW) (nb : Nat) (l3 : Int32), cl9 + 7 * N18 ≤ 600000 → sl9 + 42 * N18 ≤ 7302250 → lo4 (fL_law_l18 xs L9) N18 X M nb l3 = some 1 → GJ p9 l e9 room_1 s0 m9 #[Value.ref b0] below9 meth9 c9 (lw_Z below9 #[Value.ref b0] s0) s0 D ev 4 cl9 sl9 18 [(0, .ref b0), (1, .ref (ev 0 + 0)), (2, .ref (ev 0 + 65)), (3, .int l3)] ([]) (cells ev X M (nb + 1)) := by
  have L18 : ∀  (N18 : Nat) (cl9 sl9 : Nat) (X : XW) (M : MW) (nb : Nat) (l3 : Int32), cl9 + 7 * N18 ≤ 600000 → sl9 + 42 * N18 ≤ 7302250 → lo4 (fL_law_l18 xs L9) N18 X M nb l3 = some 1 → GJ p9 l e9 room_1 s0 m9 #[Value.ref b0] below9 meth9 c9 (lw_Z below9 #[Value.ref b0] s0) s0 D ev 4 cl9 sl9 18 [(0, .ref b0), (1, .ref (ev 0 + 0)), (2, .ref (ev 0 + 65)), (3, .int l3)] ([]) (cells ev X M (nb + 1)) := by
    intro  N18
    induction N18 with
    | zero => intro cl9 sl9 X M nb l3 hc9 hs9 h; cases h
    | succ N18 ih18 =>
      intro cl9 sl9 X M nb l3 hc9 hs9 h
      change fL_law_l18 xs L9 (lo4 (fL_law_l18 xs L9) N18) X M nb l3 = some 1 at h
      rw [fL_law_l18] at h
      refine g_iload_n (i := 3) F dL_law_18 rfl rfl ?_
      refine g_aload_n (i := 0) F dL_law_19 rfl rfl ?_
      refine g_slen F hX9 hb0 dL_law_20 ?_
      refine g_bipush F dL_law_21 (v := 7) (by decide) ?_
      refine g_isub F dL_law_23 ?_
      refine g_icmp_gt (tgt := 2038) F dL_law_24 (by decide) h (fun a839 h => ?_) (fun a839 h => ?_)
      · refine g_iconst F dL_law_2038 (v := 1) (by decide) ?_
        have hv9 := Option.some.inj h
        exact g_law1 F hb9 hr9 hl9 hv9 (by omega) (by omega) dL_law_2039
      · refine g_aload_n (i := 0) F dL_law_27 rfl rfl ?_
        refine g_iload_n (i := 3) F dL_law_28 rfl rfl ?_
        obtain ⟨v1, e2, h⟩ := bind_at h
        refine g_sldr F hX9 hb0 e2 dL_law_29 ?_
        refine g_bipush F dL_law_30 (v := 63) (by decide) ?_
        refine g_iand F dL_law_32 ?_
        refine g_topi F h (fun v3 e4 h => ?_)
        refine ite_at h (fun a5 h => ?_) (fun a5 h => ?_)
        · refine g_tsw (k := 0) (off := 203) (tgt := 236) F a5 dL_law_33 (by decide) (by decide) (by decide) (by decide) ?_
          refine g_aload_n (i := 1) F dL_law_236 rfl rfl ?_
          refine g_aload_n (i := 0) F dL_law_237 rfl rfl ?_
          refine g_iload_n (i := 3) F dL_law_238 rfl rfl ?_
          refine g_iconst F dL_law_239 (v := 1) (by decide) ?_
          refine g_iadd F dL_law_240 ?_
          obtain ⟨v52, e53, h⟩ := bind_at h
          refine g_sldr F hX9 hb0 e53 dL_law_241 ?_
          refine g_aload_n (i := 0) F dL_law_242 rfl rfl ?_
          refine g_iload_n (i := 3) F dL_law_243 rfl rfl ?_
          refine g_iconst F dL_law_244 (v := 2) (by decide) ?_
          refine g_iadd F dL_law_245 ?_
          obtain ⟨v54, e55, h⟩ := bind_at h
          refine g_sldr F hX9 hb0 e55 dL_law_246 ?_
          refine g_aload_n (i := 0) F dL_law_247 rfl rfl ?_
          refine g_iload_n (i := 3) F dL_law_248 rfl rfl ?_
          refine g_iconst F dL_law_249 (v := 3) (by decide) ?_
          refine g_iadd F dL_law_250 ?_
          obtain ⟨v56, e57, h⟩ := bind_at h
          refine g_sldr F hX9 hb0 e57 dL_law_251 ?_
          obtain ⟨v59, X58, e60, h⟩ := bd2_at h
          refine g_callWI F (id := 0) (cells_at (kd_lit (i := 0) (by decide)) (xc_9 rfl)) (ci := 9) rfl rfl rfl (c_X9_sound G0 e60) wd_15_15 wd_15_12 wd_15_13 wd_15_14 wd_1_2 ⟨by decide, by decide⟩ (nn := 3) (by decide) (As := [.int v52, .int v54, .int v56]) rfl rfl (Nat.le_of_ble_eq_true rfl) (by decide) (by decide) ⟨by show _ ≤ 600000; omega, by show _ ≤ 7302250; omega⟩ dL_law_252 ?_
          refine g_aload_n (i := 2) F dL_law_255 rfl rfl ?_
          refine g_aload_n (i := 0) F dL_law_256 rfl rfl ?_
          refine g_iload_n (i := 3) F dL_law_257 rfl rfl ?_
          refine g_iconst F dL_law_258 (v := 1) (by decide) ?_
          refine g_iadd F dL_law_259 ?_
          obtain ⟨v61, e62, h⟩ := bind_at h
          refine g_sldr F hX9 hb0 e62 dL_law_260 ?_
          refine g_aload_n (i := 0) F dL_law_261 rfl rfl ?_
          refine g_iload_n (i := 3) F dL_law_262 rfl rfl ?_
          refine g_iconst F dL_law_263 (v := 2) (by decide) ?_
          refine g_iadd F dL_law_264 ?_
          obtain ⟨v63, e64, h⟩ := bind_at h
          refine g_sldr F hX9 hb0 e64 dL_law_265 ?_
          refine g_aload_n (i := 0) F dL_law_266 rfl rfl ?_
          refine g_iload_n (i := 3) F dL_law_267 rfl rfl ?_
          refine g_iconst F dL_law_268 (v := 3) (by decide) ?_
          refine g_iadd F dL_law_269 ?_
          obtain ⟨v65, e66, h⟩ := bind_at h
          refine g_sldr F hX9 hb0 e66 dL_law_270 ?_
          obtain ⟨v68, M67, e69, h⟩ := bd2_at h
          refine g_callWI F (id := 65) (cells_at (kd_hidM (show kd 65 = 10 from rfl) (by decide)) (xc_10 rfl)) (ci := 10) rfl rfl rfl (c_X10_sound G0 e69) wd_16_4 wd_16_1 wd_16_2 wd_16_3 wd_1_5 ⟨by decide, by decide⟩ (nn := 3) (by decide) (As := [.int v61, .int v63, .int v65]) rfl rfl (Nat.le_of_ble_eq_true rfl) (by decide) (by decide) ⟨by show _ ≤ 600000; omega, by show _ ≤ 7302250; omega⟩ dL_law_271 ?_
          refine g_icmp_eq (tgt := 2032) F dL_law_274 (by decide) h (fun a70 h => ?_) (fun a70 h => ?_)
          · refine g_iinc (i := 3) (v := (l3 + (7 : Int32))) (lv' := [(3, .int (l3 + (7 : Int32))), (0, .ref b0), (1, .ref (ev 0 + 0)), (2, .ref (ev 0 + 65))]) F dL_law_2032 rfl rfl (by decide) rfl ?_
            refine g_goto (tgt := 18) F dL_law_2035 (by decide) ?_
            refine g_lv (lv' := [(0, .ref b0), (1, .ref (ev 0 + 0)), (2, .ref (ev 0 + 65)), (3, .int (l3 + (7 : Int32)))]) ⟨rfl, rfl, rfl, rfl, trivial⟩ ?_
            exact ih18 _ _ _ _ _ _ (by omega) (by omega) h
          · refine g_iconst F dL_law_277 (v := 0) (by decide) ?_
            have hv9 := Option.some.inj h
            exact g_law1 F hb9 hr9 hl9 hv9 (by omega) (by omega) dL_law_278
        · refine ite_at h (fun a6 h => ?_) (fun a6 h => ?_)
          · refine g_tsw (k := 1) (off := 246) (tgt := 279) F a6 dL_law_33 (by decide) (by decide) (by decide) (by decide) ?_
            refine g_aload_n (i := 1) F dL_law_279 rfl rfl ?_
            refine g_aload_n (i := 0) F dL_law_280 rfl rfl ?_
            refine g_iload_n (i := 3) F dL_law_281 rfl rfl ?_
            refine g_iconst F dL_law_282 (v := 1) (by decide) ?_
            refine g_iadd F dL_law_283 ?_
            obtain ⟨v71, e72, h⟩ := bind_at h
            refine g_sldr F hX9 hb0 e72 dL_law_284 ?_
            refine g_aload_n (i := 0) F dL_law_285 rfl rfl ?_
            refine g_iload_n (i := 3) F dL_law_286 rfl rfl ?_
            refine g_iconst F dL_law_287 (v := 2) (by decide) ?_
            refine g_iadd F dL_law_288 ?_
            obtain ⟨v73, e74, h⟩ := bind_at h
            refine g_sldr F hX9 hb0 e74 dL_law_289 ?_
            refine g_aload_n (i := 0) F dL_law_290 rfl rfl ?_
            refine g_iload_n (i := 3) F dL_law_291 rfl rfl ?_
            refine g_iconst F dL_law_292 (v := 3) (by decide) ?_
            refine g_iadd F dL_law_293 ?_
            obtain ⟨v75, e76, h⟩ := bind_at h
            refine g_sldr F hX9 hb0 e76 dL_law_294 ?_
            refine g_aload_n (i := 0) F dL_law_295 rfl rfl ?_
            refine g_iload_n (i := 3) F dL_law_296 rfl rfl ?_
            refine g_iconst F dL_law_297 (v := 4) (by decide) ?_
            refine g_iadd F dL_law_298 ?_
            obtain ⟨v77, e78, h⟩ := bind_at h
            refine g_sldr F hX9 hb0 e78 dL_law_299 ?_
            obtain ⟨v80, X79, e81, h⟩ := bd2_at h
            refine g_callWI F (id := 0) (cells_at (kd_lit (i := 0) (by decide)) (xc_9 rfl)) (ci := 9) rfl rfl rfl (c_X9_chart G0 e81) wd_16_18 wd_16_15 wd_16_16 wd_16_17 wd_1_2 ⟨by decide, by decide⟩ (nn := 4) (by decide) (As := [.int v71, .int v73, .int v75, .int v77]) rfl rfl (Nat.le_of_ble_eq_true rfl) (by decide) (by decide) ⟨by show _ ≤ 600000; omega, by show _ ≤ 7302250; omega⟩ dL_law_300 ?_
            refine g_aload_n (i := 2) F dL_law_303 rfl rfl ?_
            refine g_aload_n (i := 0) F dL_law_304 rfl rfl ?_
            refine g_iload_n (i := 3) F dL_law_305 rfl rfl ?_
            refine g_iconst F dL_law_306 (v := 1) (by decide) ?_
            refine g_iadd F dL_law_307 ?_
            obtain ⟨v82, e83, h⟩ := bind_at h
            refine g_sldr F hX9 hb0 e83 dL_law_308 ?_
            refine g_aload_n (i := 0) F dL_law_309 rfl rfl ?_
            refine g_iload_n (i := 3) F dL_law_310 rfl rfl ?_
            refine g_iconst F dL_law_311 (v := 2) (by decide) ?_
            refine g_iadd F dL_law_312 ?_
            obtain ⟨v84, e85, h⟩ := bind_at h
            refine g_sldr F hX9 hb0 e85 dL_law_313 ?_
            refine g_aload_n (i := 0) F dL_law_314 rfl rfl ?_
            refine g_iload_n (i := 3) F dL_law_315 rfl rfl ?_
            refine g_iconst F dL_law_316 (v := 3) (by decide) ?_
            refine g_iadd F dL_law_317 ?_
            obtain ⟨v86, e87, h⟩ := bind_at h
            refine g_sldr F hX9 hb0 e87 dL_law_318 ?_
            refine g_aload_n (i := 0) F dL_law_319 rfl rfl ?_
            refine g_iload_n (i := 3) F dL_law_320 rfl rfl ?_
            refine g_iconst F dL_law_321 (v := 4) (by decide) ?_
            refine g_iadd F dL_law_322 ?_
            obtain ⟨v88, e89, h⟩ := bind_at h
            refine g_sldr F hX9 hb0 e89 dL_law_323 ?_
            obtain ⟨v91, M90, e92, h⟩ := bd2_at h
            refine g_callWI F (id := 65) (cells_at (kd_hidM (show kd 65 = 10 from rfl) (by decide)) (xc_10 rfl)) (ci := 10) rfl rfl rfl (c_X10_chart G0 e92) wd_17_2 wd_16_23 wd_17_0 wd_17_1 wd_1_5 ⟨by decide, by decide⟩ (nn := 4) (by decide) (As := [.int v82, .int v84, .int v86, .int v88]) rfl rfl (Nat.le_of_ble_eq_true rfl) (by decide) (by decide) ⟨by show _ ≤ 600000; omega, by show _ ≤ 7302250; omega⟩ dL_law_324 ?_
            refine g_icmp_eq (tgt := 2032) F dL_law_327 (by decide) h (fun a93 h => ?_) (fun a93 h => ?_)
            · refine g_iinc (i := 3) (v := (l3 + (7 : Int32))) (lv' := [(3, .int (l3 + (7 : Int32))), (0, .ref b0), (1, .ref (ev 0 + 0)), (2, .ref (ev 0 + 65))]) F dL_law_2032 rfl rfl (by decide) rfl ?_
              refine g_goto (tgt := 18) F dL_law_2035 (by decide) ?_
              refine g_lv (lv' := [(0, .ref b0), (1, .ref (ev 0 + 0)), (2, .ref (ev 0 + 65)), (3, .int (l3 + (7 : Int32)))]) ⟨rfl, rfl, rfl, rfl, trivial⟩ ?_
              exact ih18 _ _ _ _ _ _ (by omega) (by omega) h
            · refine g_iconst F dL_law_330 (v := 0) (by decide) ?_
              have hv9 := Option.some.inj h
              exact g_law1 F hb9 hr9 hl9 hv9 (by omega) (by omega) dL_law_331
          · refine ite_at h (fun a7 h => ?_) (fun a7 h => ?_)
            · refine g_tsw (k := 2) (off := 299) (tgt := 332) F a7 dL_law_33 (by decide) (by decide) (by decide) (by decide) ?_
              refine g_aload_n (i := 1) F dL_law_332 rfl rfl ?_
              refine g_aload_n (i := 0) F dL_law_333 rfl rfl ?_
              refine g_iload_n (i := 3) F dL_law_334 rfl rfl ?_
              refine g_iconst F dL_law_335 (v := 1) (by decide) ?_
              refine g_iadd F dL_law_336 ?_
              obtain ⟨v94, e95, h⟩ := bind_at h
              refine g_sldr F hX9 hb0 e95 dL_law_337 ?_
              refine g_aload_n (i := 0) F dL_law_338 rfl rfl ?_
              refine g_iload_n (i := 3) F dL_law_339 rfl rfl ?_
              refine g_iconst F dL_law_340 (v := 2) (by decide) ?_
              refine g_iadd F dL_law_341 ?_
              obtain ⟨v96, e97, h⟩ := bind_at h
              refine g_sldr F hX9 hb0 e97 dL_law_342 ?_
              refine g_aload_n (i := 0) F dL_law_343 rfl rfl ?_
              refine g_iload_n (i := 3) F dL_law_344 rfl rfl ?_
              refine g_iconst F dL_law_345 (v := 3) (by decide) ?_
              refine g_iadd F dL_law_346 ?_
              obtain ⟨v98, e99, h⟩ := bind_at h
              refine g_sldr F hX9 hb0 e99 dL_law_347 ?_
              obtain ⟨v101, X100, e102, h⟩ := bd2_at h
              refine g_callWI F (id := 0) (cells_at (kd_lit (i := 0) (by decide)) (xc_9 rfl)) (ci := 9) rfl rfl rfl (c_X9_blow G0 e102) wd_17_6 wd_17_3 wd_17_4 wd_17_5 wd_1_2 ⟨by decide, by decide⟩ (nn := 3) (by decide) (As := [.int v94, .int v96, .int v98]) rfl rfl (Nat.le_of_ble_eq_true rfl) (by decide) (by decide) ⟨by show _ ≤ 600000; omega, by show _ ≤ 7302250; omega⟩ dL_law_348 ?_
              refine g_aload_n (i := 2) F dL_law_351 rfl rfl ?_
              refine g_aload_n (i := 0) F dL_law_352 rfl rfl ?_
              refine g_iload_n (i := 3) F dL_law_353 rfl rfl ?_
              refine g_iconst F dL_law_354 (v := 1) (by decide) ?_
              refine g_iadd F dL_law_355 ?_
              obtain ⟨v103, e104, h⟩ := bind_at h
              refine g_sldr F hX9 hb0 e104 dL_law_356 ?_
              refine g_aload_n (i := 0) F dL_law_357 rfl rfl ?_
              refine g_iload_n (i := 3) F dL_law_358 rfl rfl ?_
              refine g_iconst F dL_law_359 (v := 2) (by decide) ?_
              refine g_iadd F dL_law_360 ?_
              obtain ⟨v105, e106, h⟩ := bind_at h
              refine g_sldr F hX9 hb0 e106 dL_law_361 ?_
              refine g_aload_n (i := 0) F dL_law_362 rfl rfl ?_
              refine g_iload_n (i := 3) F dL_law_363 rfl rfl ?_
              refine g_iconst F dL_law_364 (v := 3) (by decide) ?_
              refine g_iadd F dL_law_365 ?_
              obtain ⟨v107, e108, h⟩ := bind_at h
              refine g_sldr F hX9 hb0 e108 dL_law_366 ?_
              obtain ⟨v110, M109, e111, h⟩ := bd2_at h
              refine g_callWI F (id := 65) (cells_at (kd_hidM (show kd 65 = 10 from rfl) (by decide)) (xc_10 rfl)) (ci := 10) rfl rfl rfl (c_X10_blow G0 e111) wd_17_20 wd_17_17 wd_17_18 wd_17_19 wd_1_5 ⟨by decide, by decide⟩ (nn := 3) (by decide) (As := [.int v103, .int v105, .int v107]) rfl rfl (Nat.le_of_ble_eq_true rfl) (by decide) (by decide) ⟨by show _ ≤ 600000; omega, by show _ ≤ 7302250; omega⟩ dL_law_367 ?_
              refine g_icmp_eq (tgt := 2032) F dL_law_370 (by decide) h (fun a112 h => ?_) (fun a112 h => ?_)
              · refine g_iinc (i := 3) (v := (l3 + (7 : Int32))) (lv' := [(3, .int (l3 + (7 : Int32))), (0, .ref b0), (1, .ref (ev 0 + 0)), (2, .ref (ev 0 + 65))]) F dL_law_2032 rfl rfl (by decide) rfl ?_
                refine g_goto (tgt := 18) F dL_law_2035 (by decide) ?_
                refine g_lv (lv' := [(0, .ref b0), (1, .ref (ev 0 + 0)), (2, .ref (ev 0 + 65)), (3, .int (l3 + (7 : Int32)))]) ⟨rfl, rfl, rfl, rfl, trivial⟩ ?_
                exact ih18 _ _ _ _ _ _ (by omega) (by omega) h
              · refine g_iconst F dL_law_373 (v := 0) (by decide) ?_
                have hv9 := Option.some.inj h
                exact g_law1 F hb9 hr9 hl9 hv9 (by omega) (by omega) dL_law_374
            · refine ite_at h (fun a8 h => ?_) (fun a8 h => ?_)
              · refine g_tsw (k := 3) (off := 342) (tgt := 375) F a8 dL_law_33 (by decide) (by decide) (by decide) (by decide) ?_
                refine g_aload_n (i := 1) F dL_law_375 rfl rfl ?_
                refine g_aload_n (i := 0) F dL_law_376 rfl rfl ?_
                refine g_iload_n (i := 3) F dL_law_377 rfl rfl ?_
                refine g_iconst F dL_law_378 (v := 1) (by decide) ?_
                refine g_iadd F dL_law_379 ?_
                obtain ⟨v113, e114, h⟩ := bind_at h
                refine g_sldr F hX9 hb0 e114 dL_law_380 ?_
                refine g_aload_n (i := 0) F dL_law_381 rfl rfl ?_
                refine g_iload_n (i := 3) F dL_law_382 rfl rfl ?_
                refine g_iconst F dL_law_383 (v := 2) (by decide) ?_
                refine g_iadd F dL_law_384 ?_
                obtain ⟨v115, e116, h⟩ := bind_at h
                refine g_sldr F hX9 hb0 e116 dL_law_385 ?_
                obtain ⟨v117, e118, h⟩ := bind_at h
                refine g_callWI F (id := 0) (cells_at (kd_lit (i := 0) (by decide)) (xc_9 rfl)) (ci := 9) rfl rfl rfl (c_X9_told G0 e118) wd_18_3 wd_18_0 wd_18_1 wd_18_2 wd_1_2 ⟨by decide, by decide⟩ (nn := 2) (by decide) (As := [.int v113, .int v115]) rfl rfl (Nat.le_of_ble_eq_true rfl) (by decide) (by decide) ⟨by show _ ≤ 600000; omega, by show _ ≤ 7302250; omega⟩ dL_law_386 ?_
                refine g_aload_n (i := 2) F dL_law_389 rfl rfl ?_
                refine g_aload_n (i := 0) F dL_law_390 rfl rfl ?_
                refine g_iload_n (i := 3) F dL_law_391 rfl rfl ?_
                refine g_iconst F dL_law_392 (v := 1) (by decide) ?_
                refine g_iadd F dL_law_393 ?_
                obtain ⟨v119, e120, h⟩ := bind_at h
                refine g_sldr F hX9 hb0 e120 dL_law_394 ?_
                refine g_aload_n (i := 0) F dL_law_395 rfl rfl ?_
                refine g_iload_n (i := 3) F dL_law_396 rfl rfl ?_
                refine g_iconst F dL_law_397 (v := 2) (by decide) ?_
                refine g_iadd F dL_law_398 ?_
                obtain ⟨v121, e122, h⟩ := bind_at h
                refine g_sldr F hX9 hb0 e122 dL_law_399 ?_
                obtain ⟨v123, e124, h⟩ := bind_at h
                refine g_callWI F (id := 65) (cells_at (kd_hidM (show kd 65 = 10 from rfl) (by decide)) (xc_10 rfl)) (ci := 10) rfl rfl rfl (c_X10_told G0 e124) wd_18_7 wd_18_4 wd_18_5 wd_18_6 wd_1_5 ⟨by decide, by decide⟩ (nn := 2) (by decide) (As := [.int v119, .int v121]) rfl rfl (Nat.le_of_ble_eq_true rfl) (by decide) (by decide) ⟨by show _ ≤ 600000; omega, by show _ ≤ 7302250; omega⟩ dL_law_400 ?_
                refine g_icmp_eq (tgt := 2032) F dL_law_403 (by decide) h (fun a125 h => ?_) (fun a125 h => ?_)
                · refine g_iinc (i := 3) (v := (l3 + (7 : Int32))) (lv' := [(3, .int (l3 + (7 : Int32))), (0, .ref b0), (1, .ref (ev 0 + 0)), (2, .ref (ev 0 + 65))]) F dL_law_2032 rfl rfl (by decide) rfl ?_
                  refine g_goto (tgt := 18) F dL_law_2035 (by decide) ?_
                  refine g_lv (lv' := [(0, .ref b0), (1, .ref (ev 0 + 0)), (2, .ref (ev 0 + 65)), (3, .int (l3 + (7 : Int32)))]) ⟨rfl, rfl, rfl, rfl, trivial⟩ ?_
                  exact ih18 _ _ _ _ _ _ (by omega) (by omega) h
                · refine g_iconst F dL_law_406 (v := 0) (by decide) ?_
                  have hv9 := Option.some.inj h
                  exact g_law1 F hb9 hr9 hl9 hv9 (by omega) (by omega) dL_law_407
              · refine ite_at h (fun a9 h => ?_) (fun a9 h => ?_)
                · refine g_tsw (k := 4) (off := 375) (tgt := 408) F a9 dL_law_33 (by decide) (by decide) (by decide) (by decide) ?_
                  refine g_aload_n (i := 1) F dL_law_408 rfl rfl ?_
                  refine g_aload_n (i := 0) F dL_law_409 rfl rfl ?_
                  refine g_iload_n (i := 3) F dL_law_410 rfl rfl ?_
                  refine g_iconst F dL_law_411 (v := 1) (by decide) ?_
                  refine g_iadd F dL_law_412 ?_
                  obtain ⟨v126, e127, h⟩ := bind_at h
                  refine g_sldr F hX9 hb0 e127 dL_law_413 ?_
                  refine g_callWI F (id := 0) (cells_at (kd_lit (i := 0) (by decide)) (xc_9 rfl)) (ci := 9) rfl rfl rfl (c_X9_count G0 (X := X) (M := M) (nb := (nb + 1)) rfl) wd_18_11 wd_18_8 wd_18_9 wd_18_10 wd_1_2 ⟨by decide, by decide⟩ (nn := 1) (by decide) (As := [.int v126]) rfl rfl (Nat.le_of_ble_eq_true rfl) (by decide) (by decide) ⟨by show _ ≤ 600000; omega, by show _ ≤ 7302250; omega⟩ dL_law_414 ?_
                  refine g_aload_n (i := 2) F dL_law_417 rfl rfl ?_
                  refine g_aload_n (i := 0) F dL_law_418 rfl rfl ?_
                  refine g_iload_n (i := 3) F dL_law_419 rfl rfl ?_
                  refine g_iconst F dL_law_420 (v := 1) (by decide) ?_
                  refine g_iadd F dL_law_421 ?_
                  obtain ⟨v130, e131, h⟩ := bind_at h
                  refine g_sldr F hX9 hb0 e131 dL_law_422 ?_
                  refine g_callWI F (id := 65) (cells_at (kd_hidM (show kd 65 = 10 from rfl) (by decide)) (xc_10 rfl)) (ci := 10) rfl rfl rfl (c_X10_count G0 (X := X) (M := M) (nb := nb) rfl) wd_18_16 wd_18_13 wd_18_14 wd_18_15 wd_1_5 ⟨by decide, by decide⟩ (nn := 1) (by decide) (As := [.int v130]) rfl rfl (Nat.le_of_ble_eq_true rfl) (by decide) (by decide) ⟨by show _ ≤ 600000; omega, by show _ ≤ 7302250; omega⟩ dL_law_423 ?_
                  refine g_icmp_eq (tgt := 2032) F dL_law_426 (by decide) h (fun a134 h => ?_) (fun a134 h => ?_)
                  · refine g_iinc (i := 3) (v := (l3 + (7 : Int32))) (lv' := [(3, .int (l3 + (7 : Int32))), (0, .ref b0), (1, .ref (ev 0 + 0)), (2, .ref (ev 0 + 65))]) F dL_law_2032 rfl rfl (by decide) rfl ?_
                    refine g_goto (tgt := 18) F dL_law_2035 (by decide) ?_
                    refine g_lv (lv' := [(0, .ref b0), (1, .ref (ev 0 + 0)), (2, .ref (ev 0 + 65)), (3, .int (l3 + (7 : Int32)))]) ⟨rfl, rfl, rfl, rfl, trivial⟩ ?_
                    exact ih18 _ _ _ _ _ _ (by omega) (by omega) h
                  · refine g_iconst F dL_law_429 (v := 0) (by decide) ?_
                    have hv9 := Option.some.inj h
                    exact g_law1 F hb9 hr9 hl9 hv9 (by omega) (by omega) dL_law_430
                · refine ite_at h (fun a10 h => ?_) (fun a10 h => ?_)
                  · refine g_tsw (k := 5) (off := 398) (tgt := 431) F a10 dL_law_33 (by decide) (by decide) (by decide) (by decide) ?_
                    refine g_aload_n (i := 1) F dL_law_431 rfl rfl ?_
                    refine g_aload_n (i := 0) F dL_law_432 rfl rfl ?_
                    refine g_iload_n (i := 3) F dL_law_433 rfl rfl ?_
                    refine g_iconst F dL_law_434 (v := 1) (by decide) ?_
                    refine g_iadd F dL_law_435 ?_
                    obtain ⟨v135, e136, h⟩ := bind_at h
                    refine g_sldr F hX9 hb0 e136 dL_law_436 ?_
                    refine g_aload_n (i := 0) F dL_law_437 rfl rfl ?_
                    refine g_iload_n (i := 3) F dL_law_438 rfl rfl ?_
                    refine g_iconst F dL_law_439 (v := 2) (by decide) ?_
                    refine g_iadd F dL_law_440 ?_
                    obtain ⟨v137, e138, h⟩ := bind_at h
                    refine g_sldr F hX9 hb0 e138 dL_law_441 ?_
                    refine g_aload_n (i := 0) F dL_law_442 rfl rfl ?_
                    refine g_iload_n (i := 3) F dL_law_443 rfl rfl ?_
                    refine g_iconst F dL_law_444 (v := 3) (by decide) ?_
                    refine g_iadd F dL_law_445 ?_
                    obtain ⟨v139, e140, h⟩ := bind_at h
                    refine g_sldr F hX9 hb0 e140 dL_law_446 ?_
                    refine g_aload_n (i := 0) F dL_law_447 rfl rfl ?_
                    refine g_iload_n (i := 3) F dL_law_448 rfl rfl ?_
                    refine g_iconst F dL_law_449 (v := 4) (by decide) ?_
                    refine g_iadd F dL_law_450 ?_
                    obtain ⟨v141, e142, h⟩ := bind_at h
                    refine g_sldr F hX9 hb0 e142 dL_law_451 ?_
                    refine g_aload_n (i := 0) F dL_law_452 rfl rfl ?_
                    refine g_iload_n (i := 3) F dL_law_453 rfl rfl ?_
                    refine g_iconst F dL_law_454 (v := 5) (by decide) ?_
                    refine g_iadd F dL_law_455 ?_
                    obtain ⟨v143, e144, h⟩ := bind_at h
                    refine g_sldr F hX9 hb0 e144 dL_law_456 ?_
                    refine g_aload_n (i := 0) F dL_law_457 rfl rfl ?_
                    refine g_iload_n (i := 3) F dL_law_458 rfl rfl ?_
                    refine g_bipush F dL_law_459 (v := 6) (by decide) ?_
                    refine g_iadd F dL_law_461 ?_
                    obtain ⟨v145, e146, h⟩ := bind_at h
                    refine g_sldr F hX9 hb0 e146 dL_law_462 ?_
                    obtain ⟨v148, X147, e149, h⟩ := bd2_at h
                    refine g_callWI F (id := 0) (cells_at (kd_lit (i := 0) (by decide)) (xc_9 rfl)) (ci := 9) rfl rfl rfl (c_X9_feed G0 e149) wd_18_23 wd_18_20 wd_18_21 wd_18_22 wd_1_2 ⟨by decide, by decide⟩ (nn := 6) (by decide) (As := [.int v135, .int v137, .int v139, .int v141, .int v143, .int v145]) rfl rfl (Nat.le_of_ble_eq_true rfl) (by decide) (by decide) ⟨by show _ ≤ 600000; omega, by show _ ≤ 7302250; omega⟩ dL_law_463 ?_
                    refine g_aload_n (i := 2) F dL_law_466 rfl rfl ?_
                    refine g_aload_n (i := 0) F dL_law_467 rfl rfl ?_
                    refine g_iload_n (i := 3) F dL_law_468 rfl rfl ?_
                    refine g_iconst F dL_law_469 (v := 1) (by decide) ?_
                    refine g_iadd F dL_law_470 ?_
                    obtain ⟨v150, e151, h⟩ := bind_at h
                    refine g_sldr F hX9 hb0 e151 dL_law_471 ?_
                    refine g_aload_n (i := 0) F dL_law_472 rfl rfl ?_
                    refine g_iload_n (i := 3) F dL_law_473 rfl rfl ?_
                    refine g_iconst F dL_law_474 (v := 2) (by decide) ?_
                    refine g_iadd F dL_law_475 ?_
                    obtain ⟨v152, e153, h⟩ := bind_at h
                    refine g_sldr F hX9 hb0 e153 dL_law_476 ?_
                    refine g_aload_n (i := 0) F dL_law_477 rfl rfl ?_
                    refine g_iload_n (i := 3) F dL_law_478 rfl rfl ?_
                    refine g_iconst F dL_law_479 (v := 3) (by decide) ?_
                    refine g_iadd F dL_law_480 ?_
                    obtain ⟨v154, e155, h⟩ := bind_at h
                    refine g_sldr F hX9 hb0 e155 dL_law_481 ?_
                    refine g_aload_n (i := 0) F dL_law_482 rfl rfl ?_
                    refine g_iload_n (i := 3) F dL_law_483 rfl rfl ?_
                    refine g_iconst F dL_law_484 (v := 4) (by decide) ?_
                    refine g_iadd F dL_law_485 ?_
                    obtain ⟨v156, e157, h⟩ := bind_at h
                    refine g_sldr F hX9 hb0 e157 dL_law_486 ?_
                    refine g_aload_n (i := 0) F dL_law_487 rfl rfl ?_
                    refine g_iload_n (i := 3) F dL_law_488 rfl rfl ?_
                    refine g_iconst F dL_law_489 (v := 5) (by decide) ?_
                    refine g_iadd F dL_law_490 ?_
                    obtain ⟨v158, e159, h⟩ := bind_at h
                    refine g_sldr F hX9 hb0 e159 dL_law_491 ?_
                    refine g_aload_n (i := 0) F dL_law_492 rfl rfl ?_
                    refine g_iload_n (i := 3) F dL_law_493 rfl rfl ?_
                    refine g_bipush F dL_law_494 (v := 6) (by decide) ?_
                    refine g_iadd F dL_law_496 ?_
                    obtain ⟨v160, e161, h⟩ := bind_at h
                    refine g_sldr F hX9 hb0 e161 dL_law_497 ?_
                    obtain ⟨v163, M162, e164, h⟩ := bd2_at h
                    refine g_callWI F (id := 65) (cells_at (kd_hidM (show kd 65 = 10 from rfl) (by decide)) (xc_10 rfl)) (ci := 10) rfl rfl rfl (c_X10_feed G0 e164) wd_19_6 wd_19_3 wd_19_4 wd_19_5 wd_1_5 ⟨by decide, by decide⟩ (nn := 6) (by decide) (As := [.int v150, .int v152, .int v154, .int v156, .int v158, .int v160]) rfl rfl (Nat.le_of_ble_eq_true rfl) (by decide) (by decide) ⟨by show _ ≤ 600000; omega, by show _ ≤ 7302250; omega⟩ dL_law_498 ?_
                    refine g_icmp_eq (tgt := 2032) F dL_law_501 (by decide) h (fun a165 h => ?_) (fun a165 h => ?_)
                    · refine g_iinc (i := 3) (v := (l3 + (7 : Int32))) (lv' := [(3, .int (l3 + (7 : Int32))), (0, .ref b0), (1, .ref (ev 0 + 0)), (2, .ref (ev 0 + 65))]) F dL_law_2032 rfl rfl (by decide) rfl ?_
                      refine g_goto (tgt := 18) F dL_law_2035 (by decide) ?_
                      refine g_lv (lv' := [(0, .ref b0), (1, .ref (ev 0 + 0)), (2, .ref (ev 0 + 65)), (3, .int (l3 + (7 : Int32)))]) ⟨rfl, rfl, rfl, rfl, trivial⟩ ?_
                      exact ih18 _ _ _ _ _ _ (by omega) (by omega) h
                    · refine g_iconst F dL_law_504 (v := 0) (by decide) ?_
                      have hv9 := Option.some.inj h
                      exact g_law1 F hb9 hr9 hl9 hv9 (by omega) (by omega) dL_law_505
                  · refine ite_at h (fun a11 h => ?_) (fun a11 h => ?_)
                    · refine g_tsw (k := 6) (off := 473) (tgt := 506) F a11 dL_law_33 (by decide) (by decide) (by decide) (by decide) ?_
                      refine g_aload_n (i := 1) F dL_law_506 rfl rfl ?_
                      obtain ⟨v167, X166, e168, h⟩ := bd2_at h
                      refine g_callWI F (id := 0) (cells_at (kd_lit (i := 0) (by decide)) (xc_9 rfl)) (ci := 9) rfl rfl rfl (c_X9_text G0 e168) wd_19_13 wd_19_10 wd_19_11 wd_19_12 wd_1_2 ⟨by decide, by decide⟩ (nn := 0) (by decide) (As := []) rfl rfl (Nat.le_of_ble_eq_true rfl) (by decide) (by decide) ⟨by show _ ≤ 600000; omega, by show _ ≤ 7302250; omega⟩ dL_law_507 ?_
                      refine g_aload_n (i := 2) F dL_law_510 rfl rfl ?_
                      obtain ⟨v170, M169, e171, h⟩ := bd2_at h
                      refine g_callWI F (id := 65) (cells_at (kd_hidM (show kd 65 = 10 from rfl) (by decide)) (xc_10 rfl)) (ci := 10) rfl rfl rfl (c_X10_text G0 e171) wd_13_8 wd_19_14 wd_13_6 wd_13_7 wd_1_5 ⟨by decide, by decide⟩ (nn := 0) (by decide) (As := []) rfl rfl (Nat.le_of_ble_eq_true rfl) (by decide) (by decide) ⟨by show _ ≤ 600000; omega, by show _ ≤ 7302250; omega⟩ dL_law_511 ?_
                      refine g_icmp_eq (tgt := 2032) F dL_law_514 (by decide) h (fun a172 h => ?_) (fun a172 h => ?_)
                      · refine g_iinc (i := 3) (v := (l3 + (7 : Int32))) (lv' := [(3, .int (l3 + (7 : Int32))), (0, .ref b0), (1, .ref (ev 0 + 0)), (2, .ref (ev 0 + 65))]) F dL_law_2032 rfl rfl (by decide) rfl ?_
                        refine g_goto (tgt := 18) F dL_law_2035 (by decide) ?_
                        refine g_lv (lv' := [(0, .ref b0), (1, .ref (ev 0 + 0)), (2, .ref (ev 0 + 65)), (3, .int (l3 + (7 : Int32)))]) ⟨rfl, rfl, rfl, rfl, trivial⟩ ?_
                        exact ih18 _ _ _ _ _ _ (by omega) (by omega) h
                      · refine g_iconst F dL_law_517 (v := 0) (by decide) ?_
                        have hv9 := Option.some.inj h
                        exact g_law1 F hb9 hr9 hl9 hv9 (by omega) (by omega) dL_law_518
                    · refine ite_at h (fun a12 h => ?_) (fun a12 h => ?_)
                      · refine g_tsw (k := 7) (off := 486) (tgt := 519) F a12 dL_law_33 (by decide) (by decide) (by decide) (by decide) ?_
                        refine g_aload_n (i := 1) F dL_law_519 rfl rfl ?_
                        refine g_aload_n (i := 0) F dL_law_520 rfl rfl ?_
                        refine g_iload_n (i := 3) F dL_law_521 rfl rfl ?_
                        refine g_iconst F dL_law_522 (v := 1) (by decide) ?_
                        refine g_iadd F dL_law_523 ?_
                        obtain ⟨v173, e174, h⟩ := bind_at h
                        refine g_sldr F hX9 hb0 e174 dL_law_524 ?_
                        obtain ⟨v176, X175, e177, h⟩ := bd2_at h
                        refine g_callWI F (id := 0) (cells_at (kd_lit (i := 0) (by decide)) (xc_9 rfl)) (ci := 9) rfl rfl rfl (c_X9_force G0 e177) wd_19_18 wd_19_15 wd_19_16 wd_19_17 wd_1_2 ⟨by decide, by decide⟩ (nn := 1) (by decide) (As := [.int v173]) rfl rfl (Nat.le_of_ble_eq_true rfl) (by decide) (by decide) ⟨by show _ ≤ 600000; omega, by show _ ≤ 7302250; omega⟩ dL_law_525 ?_
                        refine g_aload_n (i := 2) F dL_law_528 rfl rfl ?_
                        refine g_aload_n (i := 0) F dL_law_529 rfl rfl ?_
                        refine g_iload_n (i := 3) F dL_law_530 rfl rfl ?_
                        refine g_iconst F dL_law_531 (v := 1) (by decide) ?_
                        refine g_iadd F dL_law_532 ?_
                        obtain ⟨v178, e179, h⟩ := bind_at h
                        refine g_sldr F hX9 hb0 e179 dL_law_533 ?_
                        obtain ⟨v181, M180, e182, h⟩ := bd2_at h
                        refine g_callWI F (id := 65) (cells_at (kd_hidM (show kd 65 = 10 from rfl) (by decide)) (xc_10 rfl)) (ci := 10) rfl rfl rfl (c_X10_force G0 e182) wd_20_2 wd_19_23 wd_20_0 wd_20_1 wd_1_5 ⟨by decide, by decide⟩ (nn := 1) (by decide) (As := [.int v178]) rfl rfl (Nat.le_of_ble_eq_true rfl) (by decide) (by decide) ⟨by show _ ≤ 600000; omega, by show _ ≤ 7302250; omega⟩ dL_law_534 ?_
                        refine g_icmp_eq (tgt := 2032) F dL_law_537 (by decide) h (fun a183 h => ?_) (fun a183 h => ?_)
                        · refine g_iinc (i := 3) (v := (l3 + (7 : Int32))) (lv' := [(3, .int (l3 + (7 : Int32))), (0, .ref b0), (1, .ref (ev 0 + 0)), (2, .ref (ev 0 + 65))]) F dL_law_2032 rfl rfl (by decide) rfl ?_
                          refine g_goto (tgt := 18) F dL_law_2035 (by decide) ?_
                          refine g_lv (lv' := [(0, .ref b0), (1, .ref (ev 0 + 0)), (2, .ref (ev 0 + 65)), (3, .int (l3 + (7 : Int32)))]) ⟨rfl, rfl, rfl, rfl, trivial⟩ ?_
                          exact ih18 _ _ _ _ _ _ (by omega) (by omega) h
                        · refine g_iconst F dL_law_540 (v := 0) (by decide) ?_
                          have hv9 := Option.some.inj h
                          exact g_law1 F hb9 hr9 hl9 hv9 (by omega) (by omega) dL_law_541
                      · refine ite_at h (fun a13 h => ?_) (fun a13 h => ?_)
                        · refine g_tsw (k := 8) (off := 509) (tgt := 542) F a13 dL_law_33 (by decide) (by decide) (by decide) (by decide) ?_
                          refine g_aload_n (i := 1) F dL_law_542 rfl rfl ?_
                          refine g_aload_n (i := 0) F dL_law_543 rfl rfl ?_
                          refine g_iload_n (i := 3) F dL_law_544 rfl rfl ?_
                          refine g_iconst F dL_law_545 (v := 1) (by decide) ?_
                          refine g_iadd F dL_law_546 ?_
                          obtain ⟨v184, e185, h⟩ := bind_at h
                          refine g_sldr F hX9 hb0 e185 dL_law_547 ?_
                          refine g_aload_n (i := 0) F dL_law_548 rfl rfl ?_
                          refine g_iload_n (i := 3) F dL_law_549 rfl rfl ?_
                          refine g_iconst F dL_law_550 (v := 2) (by decide) ?_
                          refine g_iadd F dL_law_551 ?_
                          obtain ⟨v186, e187, h⟩ := bind_at h
                          refine g_sldr F hX9 hb0 e187 dL_law_552 ?_
                          refine g_aload_n (i := 0) F dL_law_553 rfl rfl ?_
                          refine g_iload_n (i := 3) F dL_law_554 rfl rfl ?_
                          refine g_iconst F dL_law_555 (v := 3) (by decide) ?_
                          refine g_iadd F dL_law_556 ?_
                          obtain ⟨v188, e189, h⟩ := bind_at h
                          refine g_sldr F hX9 hb0 e189 dL_law_557 ?_
                          refine g_aload_n (i := 0) F dL_law_558 rfl rfl ?_
                          refine g_iload_n (i := 3) F dL_law_559 rfl rfl ?_
                          refine g_iconst F dL_law_560 (v := 4) (by decide) ?_
                          refine g_iadd F dL_law_561 ?_
                          obtain ⟨v190, e191, h⟩ := bind_at h
                          refine g_sldr F hX9 hb0 e191 dL_law_562 ?_
                          obtain ⟨v193, X192, e194, h⟩ := bd2_at h
                          refine g_callWI F (id := 0) (cells_at (kd_lit (i := 0) (by decide)) (xc_9 rfl)) (ci := 9) rfl rfl rfl (c_X9_asks G0 e194) wd_20_6 wd_20_3 wd_20_4 wd_20_5 wd_1_2 ⟨by decide, by decide⟩ (nn := 4) (by decide) (As := [.int v184, .int v186, .int v188, .int v190]) rfl rfl (Nat.le_of_ble_eq_true rfl) (by decide) (by decide) ⟨by show _ ≤ 600000; omega, by show _ ≤ 7302250; omega⟩ dL_law_563 ?_
                          refine g_aload_n (i := 2) F dL_law_566 rfl rfl ?_
                          refine g_aload_n (i := 0) F dL_law_567 rfl rfl ?_
                          refine g_iload_n (i := 3) F dL_law_568 rfl rfl ?_
                          refine g_iconst F dL_law_569 (v := 1) (by decide) ?_
                          refine g_iadd F dL_law_570 ?_
                          obtain ⟨v195, e196, h⟩ := bind_at h
                          refine g_sldr F hX9 hb0 e196 dL_law_571 ?_
                          refine g_aload_n (i := 0) F dL_law_572 rfl rfl ?_
                          refine g_iload_n (i := 3) F dL_law_573 rfl rfl ?_
                          refine g_iconst F dL_law_574 (v := 2) (by decide) ?_
                          refine g_iadd F dL_law_575 ?_
                          obtain ⟨v197, e198, h⟩ := bind_at h
                          refine g_sldr F hX9 hb0 e198 dL_law_576 ?_
                          refine g_aload_n (i := 0) F dL_law_577 rfl rfl ?_
                          refine g_iload_n (i := 3) F dL_law_578 rfl rfl ?_
                          refine g_iconst F dL_law_579 (v := 3) (by decide) ?_
                          refine g_iadd F dL_law_580 ?_
                          obtain ⟨v199, e200, h⟩ := bind_at h
                          refine g_sldr F hX9 hb0 e200 dL_law_581 ?_
                          refine g_aload_n (i := 0) F dL_law_582 rfl rfl ?_
                          refine g_iload_n (i := 3) F dL_law_583 rfl rfl ?_
                          refine g_iconst F dL_law_584 (v := 4) (by decide) ?_
                          refine g_iadd F dL_law_585 ?_
                          obtain ⟨v201, e202, h⟩ := bind_at h
                          refine g_sldr F hX9 hb0 e202 dL_law_586 ?_
                          obtain ⟨v204, M203, e205, h⟩ := bd2_at h
                          refine g_callWI F (id := 65) (cells_at (kd_hidM (show kd 65 = 10 from rfl) (by decide)) (xc_10 rfl)) (ci := 10) rfl rfl rfl (c_X10_asks G0 e205) wd_21_3 wd_21_0 wd_21_1 wd_21_2 wd_1_5 ⟨by decide, by decide⟩ (nn := 4) (by decide) (As := [.int v195, .int v197, .int v199, .int v201]) rfl rfl (Nat.le_of_ble_eq_true rfl) (by decide) (by decide) ⟨by show _ ≤ 600000; omega, by show _ ≤ 7302250; omega⟩ dL_law_587 ?_
                          refine g_icmp_eq (tgt := 2032) F dL_law_590 (by decide) h (fun a206 h => ?_) (fun a206 h => ?_)
                          · refine g_iinc (i := 3) (v := (l3 + (7 : Int32))) (lv' := [(3, .int (l3 + (7 : Int32))), (0, .ref b0), (1, .ref (ev 0 + 0)), (2, .ref (ev 0 + 65))]) F dL_law_2032 rfl rfl (by decide) rfl ?_
                            refine g_goto (tgt := 18) F dL_law_2035 (by decide) ?_
                            refine g_lv (lv' := [(0, .ref b0), (1, .ref (ev 0 + 0)), (2, .ref (ev 0 + 65)), (3, .int (l3 + (7 : Int32)))]) ⟨rfl, rfl, rfl, rfl, trivial⟩ ?_
                            exact ih18 _ _ _ _ _ _ (by omega) (by omega) h
                          · refine g_iconst F dL_law_593 (v := 0) (by decide) ?_
                            have hv9 := Option.some.inj h
                            exact g_law1 F hb9 hr9 hl9 hv9 (by omega) (by omega) dL_law_594
                        · refine ite_at h (fun a14 h => ?_) (fun a14 h => ?_)
                          · refine g_tsw (k := 9) (off := 562) (tgt := 595) F a14 dL_law_33 (by decide) (by decide) (by decide) (by decide) ?_
                            refine g_aload_n (i := 1) F dL_law_595 rfl rfl ?_
                            refine g_aload_n (i := 0) F dL_law_596 rfl rfl ?_
                            refine g_iload_n (i := 3) F dL_law_597 rfl rfl ?_
                            refine g_iconst F dL_law_598 (v := 1) (by decide) ?_
                            refine g_iadd F dL_law_599 ?_
                            obtain ⟨v207, e208, h⟩ := bind_at h
                            refine g_sldr F hX9 hb0 e208 dL_law_600 ?_
                            refine g_aload_n (i := 0) F dL_law_601 rfl rfl ?_
                            refine g_iload_n (i := 3) F dL_law_602 rfl rfl ?_
                            refine g_iconst F dL_law_603 (v := 2) (by decide) ?_
                            refine g_iadd F dL_law_604 ?_
                            obtain ⟨v209, e210, h⟩ := bind_at h
                            refine g_sldr F hX9 hb0 e210 dL_law_605 ?_
                            refine g_aload_n (i := 0) F dL_law_606 rfl rfl ?_
                            refine g_iload_n (i := 3) F dL_law_607 rfl rfl ?_
                            refine g_iconst F dL_law_608 (v := 3) (by decide) ?_
                            refine g_iadd F dL_law_609 ?_
                            obtain ⟨v211, e212, h⟩ := bind_at h
                            refine g_sldr F hX9 hb0 e212 dL_law_610 ?_
                            refine g_aload_n (i := 0) F dL_law_611 rfl rfl ?_
                            refine g_iload_n (i := 3) F dL_law_612 rfl rfl ?_
                            refine g_iconst F dL_law_613 (v := 4) (by decide) ?_
                            refine g_iadd F dL_law_614 ?_
                            obtain ⟨v213, e214, h⟩ := bind_at h
                            refine g_sldr F hX9 hb0 e214 dL_law_615 ?_
                            obtain ⟨v216, X215, n218, e217, h⟩ := bd3_at h
                            obtain ⟨n219, e220, h⟩ := np_at h
                            refine g_callWI F (id := 0) (cells_at (kd_lit (i := 0) (by decide)) (xc_9 rfl)) (ci := 9) rfl rfl rfl (c_X9_boat G0 e217) wd_21_21 wd_21_18 wd_21_19 wd_21_20 wd_1_2 ⟨by decide, by decide⟩ (nn := 4) (by decide) (As := [.int v207, .int v209, .int v211, .int v213]) rfl rfl (Nat.le_of_ble_eq_true rfl) (by decide) (by decide) ⟨by show _ ≤ 600000; omega, by show _ ≤ 7302250; omega⟩ dL_law_616 ?_
                            rw [e220]
                            refine g_aload_n (i := 2) F dL_law_619 rfl rfl ?_
                            refine g_aload_n (i := 0) F dL_law_620 rfl rfl ?_
                            refine g_iload_n (i := 3) F dL_law_621 rfl rfl ?_
                            refine g_iconst F dL_law_622 (v := 1) (by decide) ?_
                            refine g_iadd F dL_law_623 ?_
                            obtain ⟨v221, e222, h⟩ := bind_at h
                            refine g_sldr F hX9 hb0 e222 dL_law_624 ?_
                            refine g_aload_n (i := 0) F dL_law_625 rfl rfl ?_
                            refine g_iload_n (i := 3) F dL_law_626 rfl rfl ?_
                            refine g_iconst F dL_law_627 (v := 2) (by decide) ?_
                            refine g_iadd F dL_law_628 ?_
                            obtain ⟨v223, e224, h⟩ := bind_at h
                            refine g_sldr F hX9 hb0 e224 dL_law_629 ?_
                            refine g_aload_n (i := 0) F dL_law_630 rfl rfl ?_
                            refine g_iload_n (i := 3) F dL_law_631 rfl rfl ?_
                            refine g_iconst F dL_law_632 (v := 3) (by decide) ?_
                            refine g_iadd F dL_law_633 ?_
                            obtain ⟨v225, e226, h⟩ := bind_at h
                            refine g_sldr F hX9 hb0 e226 dL_law_634 ?_
                            refine g_aload_n (i := 0) F dL_law_635 rfl rfl ?_
                            refine g_iload_n (i := 3) F dL_law_636 rfl rfl ?_
                            refine g_iconst F dL_law_637 (v := 4) (by decide) ?_
                            refine g_iadd F dL_law_638 ?_
                            obtain ⟨v227, e228, h⟩ := bind_at h
                            refine g_sldr F hX9 hb0 e228 dL_law_639 ?_
                            obtain ⟨v230, M229, e231, h⟩ := bd2_at h
                            refine g_callWI F (id := 65) (cells_at (kd_hidM (show kd 65 = 10 from rfl) (by decide)) (xc_10 rfl)) (ci := 10) rfl rfl rfl (c_X10_boat G0 e231) wd_22_13 wd_22_10 wd_22_11 wd_22_12 wd_1_5 ⟨by decide, by decide⟩ (nn := 4) (by decide) (As := [.int v221, .int v223, .int v225, .int v227]) rfl rfl (Nat.le_of_ble_eq_true rfl) (by decide) (by decide) ⟨by show _ ≤ 600000; omega, by show _ ≤ 7302250; omega⟩ dL_law_640 ?_
                            refine g_icmp_eq (tgt := 2032) F dL_law_643 (by decide) h (fun a232 h => ?_) (fun a232 h => ?_)
                            · refine g_iinc (i := 3) (v := (l3 + (7 : Int32))) (lv' := [(3, .int (l3 + (7 : Int32))), (0, .ref b0), (1, .ref (ev 0 + 0)), (2, .ref (ev 0 + 65))]) F dL_law_2032 rfl rfl (by decide) rfl ?_
                              refine g_goto (tgt := 18) F dL_law_2035 (by decide) ?_
                              refine g_lv (lv' := [(0, .ref b0), (1, .ref (ev 0 + 0)), (2, .ref (ev 0 + 65)), (3, .int (l3 + (7 : Int32)))]) ⟨rfl, rfl, rfl, rfl, trivial⟩ ?_
                              exact ih18 _ _ _ _ _ _ (by omega) (by omega) h
                            · refine g_iconst F dL_law_646 (v := 0) (by decide) ?_
                              have hv9 := Option.some.inj h
                              exact g_law1 F hb9 hr9 hl9 hv9 (by omega) (by omega) dL_law_647
                          · refine ite_at h (fun a15 h => ?_) (fun a15 h => ?_)
                            · refine g_tsw (k := 10) (off := 615) (tgt := 648) F a15 dL_law_33 (by decide) (by decide) (by decide) (by decide) ?_
                              refine g_aload_n (i := 1) F dL_law_648 rfl rfl ?_
                              refine g_aload_n (i := 0) F dL_law_649 rfl rfl ?_
                              refine g_iload_n (i := 3) F dL_law_650 rfl rfl ?_
                              refine g_iconst F dL_law_651 (v := 1) (by decide) ?_
                              refine g_iadd F dL_law_652 ?_
                              obtain ⟨v233, e234, h⟩ := bind_at h
                              refine g_sldr F hX9 hb0 e234 dL_law_653 ?_
                              refine g_aload_n (i := 0) F dL_law_654 rfl rfl ?_
                              refine g_iload_n (i := 3) F dL_law_655 rfl rfl ?_
                              refine g_iconst F dL_law_656 (v := 2) (by decide) ?_
                              refine g_iadd F dL_law_657 ?_
                              obtain ⟨v235, e236, h⟩ := bind_at h
                              refine g_sldr F hX9 hb0 e236 dL_law_658 ?_
                              refine g_aload_n (i := 0) F dL_law_659 rfl rfl ?_
                              refine g_iload_n (i := 3) F dL_law_660 rfl rfl ?_
                              refine g_iconst F dL_law_661 (v := 3) (by decide) ?_
                              refine g_iadd F dL_law_662 ?_
                              obtain ⟨v237, e238, h⟩ := bind_at h
                              refine g_sldr F hX9 hb0 e238 dL_law_663 ?_
                              obtain ⟨v240, X239, e241, h⟩ := bd2_at h
                              refine g_callWI F (id := 0) (cells_at (kd_lit (i := 0) (by decide)) (xc_9 rfl)) (ci := 9) rfl rfl rfl (c_X9_let G0 e241) wd_22_17 wd_22_14 wd_22_15 wd_22_16 wd_1_2 ⟨by decide, by decide⟩ (nn := 3) (by decide) (As := [.int v233, .int v235, .int v237]) rfl rfl (Nat.le_of_ble_eq_true rfl) (by decide) (by decide) ⟨by show _ ≤ 600000; omega, by show _ ≤ 7302250; omega⟩ dL_law_664 ?_
                              refine g_aload_n (i := 2) F dL_law_667 rfl rfl ?_
                              refine g_aload_n (i := 0) F dL_law_668 rfl rfl ?_
                              refine g_iload_n (i := 3) F dL_law_669 rfl rfl ?_
                              refine g_iconst F dL_law_670 (v := 1) (by decide) ?_
                              refine g_iadd F dL_law_671 ?_
                              obtain ⟨v242, e243, h⟩ := bind_at h
                              refine g_sldr F hX9 hb0 e243 dL_law_672 ?_
                              refine g_aload_n (i := 0) F dL_law_673 rfl rfl ?_
                              refine g_iload_n (i := 3) F dL_law_674 rfl rfl ?_
                              refine g_iconst F dL_law_675 (v := 2) (by decide) ?_
                              refine g_iadd F dL_law_676 ?_
                              obtain ⟨v244, e245, h⟩ := bind_at h
                              refine g_sldr F hX9 hb0 e245 dL_law_677 ?_
                              refine g_aload_n (i := 0) F dL_law_678 rfl rfl ?_
                              refine g_iload_n (i := 3) F dL_law_679 rfl rfl ?_
                              refine g_iconst F dL_law_680 (v := 3) (by decide) ?_
                              refine g_iadd F dL_law_681 ?_
                              obtain ⟨v246, e247, h⟩ := bind_at h
                              refine g_sldr F hX9 hb0 e247 dL_law_682 ?_
                              obtain ⟨v249, M248, e250, h⟩ := bd2_at h
                              refine g_callWI F (id := 65) (cells_at (kd_hidM (show kd 65 = 10 from rfl) (by decide)) (xc_10 rfl)) (ci := 10) rfl rfl rfl (c_X10_let G0 e250) wd_23_3 wd_23_0 wd_23_1 wd_23_2 wd_1_5 ⟨by decide, by decide⟩ (nn := 3) (by decide) (As := [.int v242, .int v244, .int v246]) rfl rfl (Nat.le_of_ble_eq_true rfl) (by decide) (by decide) ⟨by show _ ≤ 600000; omega, by show _ ≤ 7302250; omega⟩ dL_law_683 ?_
                              refine g_icmp_eq (tgt := 2032) F dL_law_686 (by decide) h (fun a251 h => ?_) (fun a251 h => ?_)
                              · refine g_iinc (i := 3) (v := (l3 + (7 : Int32))) (lv' := [(3, .int (l3 + (7 : Int32))), (0, .ref b0), (1, .ref (ev 0 + 0)), (2, .ref (ev 0 + 65))]) F dL_law_2032 rfl rfl (by decide) rfl ?_
                                refine g_goto (tgt := 18) F dL_law_2035 (by decide) ?_
                                refine g_lv (lv' := [(0, .ref b0), (1, .ref (ev 0 + 0)), (2, .ref (ev 0 + 65)), (3, .int (l3 + (7 : Int32)))]) ⟨rfl, rfl, rfl, rfl, trivial⟩ ?_
                                exact ih18 _ _ _ _ _ _ (by omega) (by omega) h
                              · refine g_iconst F dL_law_689 (v := 0) (by decide) ?_
                                have hv9 := Option.some.inj h
                                exact g_law1 F hb9 hr9 hl9 hv9 (by omega) (by omega) dL_law_690
                            · refine ite_at h (fun a16 h => ?_) (fun a16 h => ?_)
                              · refine g_tsw (k := 11) (off := 658) (tgt := 691) F a16 dL_law_33 (by decide) (by decide) (by decide) (by decide) ?_
                                refine g_aload_n (i := 1) F dL_law_691 rfl rfl ?_
                                refine g_aload_n (i := 0) F dL_law_692 rfl rfl ?_
                                refine g_iload_n (i := 3) F dL_law_693 rfl rfl ?_
                                refine g_iconst F dL_law_694 (v := 1) (by decide) ?_
                                refine g_iadd F dL_law_695 ?_
                                obtain ⟨v252, e253, h⟩ := bind_at h
                                refine g_sldr F hX9 hb0 e253 dL_law_696 ?_
                                refine g_aload_n (i := 0) F dL_law_697 rfl rfl ?_
                                refine g_iload_n (i := 3) F dL_law_698 rfl rfl ?_
                                refine g_iconst F dL_law_699 (v := 2) (by decide) ?_
                                refine g_iadd F dL_law_700 ?_
                                obtain ⟨v254, e255, h⟩ := bind_at h
                                refine g_sldr F hX9 hb0 e255 dL_law_701 ?_
                                obtain ⟨v256, e257, h⟩ := bind_at h
                                refine g_callWI F (id := 0) (cells_at (kd_lit (i := 0) (by decide)) (xc_9 rfl)) (ci := 9) rfl rfl rfl (c_X9_boatTold G0 e257) wd_23_11 wd_23_8 wd_23_9 wd_23_10 wd_1_2 ⟨by decide, by decide⟩ (nn := 2) (by decide) (As := [.int v252, .int v254]) rfl rfl (Nat.le_of_ble_eq_true rfl) (by decide) (by decide) ⟨by show _ ≤ 600000; omega, by show _ ≤ 7302250; omega⟩ dL_law_702 ?_
                                refine g_aload_n (i := 2) F dL_law_705 rfl rfl ?_
                                refine g_aload_n (i := 0) F dL_law_706 rfl rfl ?_
                                refine g_iload_n (i := 3) F dL_law_707 rfl rfl ?_
                                refine g_iconst F dL_law_708 (v := 1) (by decide) ?_
                                refine g_iadd F dL_law_709 ?_
                                obtain ⟨v258, e259, h⟩ := bind_at h
                                refine g_sldr F hX9 hb0 e259 dL_law_710 ?_
                                refine g_aload_n (i := 0) F dL_law_711 rfl rfl ?_
                                refine g_iload_n (i := 3) F dL_law_712 rfl rfl ?_
                                refine g_iconst F dL_law_713 (v := 2) (by decide) ?_
                                refine g_iadd F dL_law_714 ?_
                                obtain ⟨v260, e261, h⟩ := bind_at h
                                refine g_sldr F hX9 hb0 e261 dL_law_715 ?_
                                obtain ⟨v262, e263, h⟩ := bind_at h
                                refine g_callWI F (id := 65) (cells_at (kd_hidM (show kd 65 = 10 from rfl) (by decide)) (xc_10 rfl)) (ci := 10) rfl rfl rfl (c_X10_boatTold G0 e263) wd_23_19 wd_23_16 wd_23_17 wd_23_18 wd_1_5 ⟨by decide, by decide⟩ (nn := 2) (by decide) (As := [.int v258, .int v260]) rfl rfl (Nat.le_of_ble_eq_true rfl) (by decide) (by decide) ⟨by show _ ≤ 600000; omega, by show _ ≤ 7302250; omega⟩ dL_law_716 ?_
                                refine g_icmp_eq (tgt := 2032) F dL_law_719 (by decide) h (fun a264 h => ?_) (fun a264 h => ?_)
                                · refine g_iinc (i := 3) (v := (l3 + (7 : Int32))) (lv' := [(3, .int (l3 + (7 : Int32))), (0, .ref b0), (1, .ref (ev 0 + 0)), (2, .ref (ev 0 + 65))]) F dL_law_2032 rfl rfl (by decide) rfl ?_
                                  refine g_goto (tgt := 18) F dL_law_2035 (by decide) ?_
                                  refine g_lv (lv' := [(0, .ref b0), (1, .ref (ev 0 + 0)), (2, .ref (ev 0 + 65)), (3, .int (l3 + (7 : Int32)))]) ⟨rfl, rfl, rfl, rfl, trivial⟩ ?_
                                  exact ih18 _ _ _ _ _ _ (by omega) (by omega) h
                                · refine g_iconst F dL_law_722 (v := 0) (by decide) ?_
                                  have hv9 := Option.some.inj h
                                  exact g_law1 F hb9 hr9 hl9 hv9 (by omega) (by omega) dL_law_723
                              · refine ite_at h (fun a17 h => ?_) (fun a17 h => ?_)
                                · refine g_tsw (k := 12) (off := 691) (tgt := 724) F a17 dL_law_33 (by decide) (by decide) (by decide) (by decide) ?_
                                  refine g_aload_n (i := 1) F dL_law_724 rfl rfl ?_
                                  refine g_aload_n (i := 0) F dL_law_725 rfl rfl ?_
                                  refine g_iload_n (i := 3) F dL_law_726 rfl rfl ?_
                                  refine g_iconst F dL_law_727 (v := 1) (by decide) ?_
                                  refine g_iadd F dL_law_728 ?_
                                  obtain ⟨v265, e266, h⟩ := bind_at h
                                  refine g_sldr F hX9 hb0 e266 dL_law_729 ?_
                                  refine g_aload_n (i := 0) F dL_law_730 rfl rfl ?_
                                  refine g_iload_n (i := 3) F dL_law_731 rfl rfl ?_
                                  refine g_iconst F dL_law_732 (v := 2) (by decide) ?_
                                  refine g_iadd F dL_law_733 ?_
                                  obtain ⟨v267, e268, h⟩ := bind_at h
                                  refine g_sldr F hX9 hb0 e268 dL_law_734 ?_
                                  refine g_aload_n (i := 0) F dL_law_735 rfl rfl ?_
                                  refine g_iload_n (i := 3) F dL_law_736 rfl rfl ?_
                                  refine g_iconst F dL_law_737 (v := 3) (by decide) ?_
                                  refine g_iadd F dL_law_738 ?_
                                  obtain ⟨v269, e270, h⟩ := bind_at h
                                  refine g_sldr F hX9 hb0 e270 dL_law_739 ?_
                                  obtain ⟨v272, X271, e273, h⟩ := bd2_at h
                                  refine g_callWI F (id := 0) (cells_at (kd_lit (i := 0) (by decide)) (xc_9 rfl)) (ci := 9) rfl rfl rfl (c_X9_hold G0 e273) wd_23_23 wd_23_20 wd_23_21 wd_23_22 wd_1_2 ⟨by decide, by decide⟩ (nn := 3) (by decide) (As := [.int v265, .int v267, .int v269]) rfl rfl (Nat.le_of_ble_eq_true rfl) (by decide) (by decide) ⟨by show _ ≤ 600000; omega, by show _ ≤ 7302250; omega⟩ dL_law_740 ?_
                                  refine g_aload_n (i := 2) F dL_law_743 rfl rfl ?_
                                  refine g_aload_n (i := 0) F dL_law_744 rfl rfl ?_
                                  refine g_iload_n (i := 3) F dL_law_745 rfl rfl ?_
                                  refine g_iconst F dL_law_746 (v := 1) (by decide) ?_
                                  refine g_iadd F dL_law_747 ?_
                                  obtain ⟨v274, e275, h⟩ := bind_at h
                                  refine g_sldr F hX9 hb0 e275 dL_law_748 ?_
                                  refine g_aload_n (i := 0) F dL_law_749 rfl rfl ?_
                                  refine g_iload_n (i := 3) F dL_law_750 rfl rfl ?_
                                  refine g_iconst F dL_law_751 (v := 2) (by decide) ?_
                                  refine g_iadd F dL_law_752 ?_
                                  obtain ⟨v276, e277, h⟩ := bind_at h
                                  refine g_sldr F hX9 hb0 e277 dL_law_753 ?_
                                  refine g_aload_n (i := 0) F dL_law_754 rfl rfl ?_
                                  refine g_iload_n (i := 3) F dL_law_755 rfl rfl ?_
                                  refine g_iconst F dL_law_756 (v := 3) (by decide) ?_
                                  refine g_iadd F dL_law_757 ?_
                                  obtain ⟨v278, e279, h⟩ := bind_at h
                                  refine g_sldr F hX9 hb0 e279 dL_law_758 ?_
                                  obtain ⟨v281, M280, e282, h⟩ := bd2_at h
                                  refine g_callWI F (id := 65) (cells_at (kd_hidM (show kd 65 = 10 from rfl) (by decide)) (xc_10 rfl)) (ci := 10) rfl rfl rfl (c_X10_hold G0 e282) wd_25_19 wd_25_16 wd_25_17 wd_25_18 wd_1_5 ⟨by decide, by decide⟩ (nn := 3) (by decide) (As := [.int v274, .int v276, .int v278]) rfl rfl (Nat.le_of_ble_eq_true rfl) (by decide) (by decide) ⟨by show _ ≤ 600000; omega, by show _ ≤ 7302250; omega⟩ dL_law_759 ?_
                                  refine g_icmp_eq (tgt := 2032) F dL_law_762 (by decide) h (fun a283 h => ?_) (fun a283 h => ?_)
                                  · refine g_iinc (i := 3) (v := (l3 + (7 : Int32))) (lv' := [(3, .int (l3 + (7 : Int32))), (0, .ref b0), (1, .ref (ev 0 + 0)), (2, .ref (ev 0 + 65))]) F dL_law_2032 rfl rfl (by decide) rfl ?_
                                    refine g_goto (tgt := 18) F dL_law_2035 (by decide) ?_
                                    refine g_lv (lv' := [(0, .ref b0), (1, .ref (ev 0 + 0)), (2, .ref (ev 0 + 65)), (3, .int (l3 + (7 : Int32)))]) ⟨rfl, rfl, rfl, rfl, trivial⟩ ?_
                                    exact ih18 _ _ _ _ _ _ (by omega) (by omega) h
                                  · refine g_iconst F dL_law_765 (v := 0) (by decide) ?_
                                    have hv9 := Option.some.inj h
                                    exact g_law1 F hb9 hr9 hl9 hv9 (by omega) (by omega) dL_law_766
                                · refine ite_at h (fun a18 h => ?_) (fun a18 h => ?_)
                                  · refine g_tsw (k := 13) (off := 734) (tgt := 767) F a18 dL_law_33 (by decide) (by decide) (by decide) (by decide) ?_
                                    refine g_aload_n (i := 1) F dL_law_767 rfl rfl ?_
                                    refine g_aload_n (i := 0) F dL_law_768 rfl rfl ?_
                                    refine g_iload_n (i := 3) F dL_law_769 rfl rfl ?_
                                    refine g_iconst F dL_law_770 (v := 1) (by decide) ?_
                                    refine g_iadd F dL_law_771 ?_
                                    obtain ⟨v284, e285, h⟩ := bind_at h
                                    refine g_sldr F hX9 hb0 e285 dL_law_772 ?_
                                    refine g_aload_n (i := 0) F dL_law_773 rfl rfl ?_
                                    refine g_iload_n (i := 3) F dL_law_774 rfl rfl ?_
                                    refine g_iconst F dL_law_775 (v := 2) (by decide) ?_
                                    refine g_iadd F dL_law_776 ?_
                                    obtain ⟨v286, e287, h⟩ := bind_at h
                                    refine g_sldr F hX9 hb0 e287 dL_law_777 ?_
                                    refine g_aload_n (i := 0) F dL_law_778 rfl rfl ?_
                                    refine g_iload_n (i := 3) F dL_law_779 rfl rfl ?_
                                    refine g_iconst F dL_law_780 (v := 3) (by decide) ?_
                                    refine g_iadd F dL_law_781 ?_
                                    obtain ⟨v288, e289, h⟩ := bind_at h
                                    refine g_sldr F hX9 hb0 e289 dL_law_782 ?_
                                    obtain ⟨v291, X290, e292, h⟩ := bd2_at h
                                    refine g_callWI F (id := 0) (cells_at (kd_lit (i := 0) (by decide)) (xc_9 rfl)) (ci := 9) rfl rfl rfl (c_X9_night G0 e292) wd_27_0 wd_26_21 wd_26_22 wd_26_23 wd_1_2 ⟨by decide, by decide⟩ (nn := 3) (by decide) (As := [.int v284, .int v286, .int v288]) rfl rfl (Nat.le_of_ble_eq_true rfl) (by decide) (by decide) ⟨by show _ ≤ 600000; omega, by show _ ≤ 7302250; omega⟩ dL_law_783 ?_
                                    refine g_aload_n (i := 2) F dL_law_786 rfl rfl ?_
                                    refine g_aload_n (i := 0) F dL_law_787 rfl rfl ?_
                                    refine g_iload_n (i := 3) F dL_law_788 rfl rfl ?_
                                    refine g_iconst F dL_law_789 (v := 1) (by decide) ?_
                                    refine g_iadd F dL_law_790 ?_
                                    obtain ⟨v293, e294, h⟩ := bind_at h
                                    refine g_sldr F hX9 hb0 e294 dL_law_791 ?_
                                    refine g_aload_n (i := 0) F dL_law_792 rfl rfl ?_
                                    refine g_iload_n (i := 3) F dL_law_793 rfl rfl ?_
                                    refine g_iconst F dL_law_794 (v := 2) (by decide) ?_
                                    refine g_iadd F dL_law_795 ?_
                                    obtain ⟨v295, e296, h⟩ := bind_at h
                                    refine g_sldr F hX9 hb0 e296 dL_law_796 ?_
                                    refine g_aload_n (i := 0) F dL_law_797 rfl rfl ?_
                                    refine g_iload_n (i := 3) F dL_law_798 rfl rfl ?_
                                    refine g_iconst F dL_law_799 (v := 3) (by decide) ?_
                                    refine g_iadd F dL_law_800 ?_
                                    obtain ⟨v297, e298, h⟩ := bind_at h
                                    refine g_sldr F hX9 hb0 e298 dL_law_801 ?_
                                    obtain ⟨v300, M299, e301, h⟩ := bd2_at h
                                    refine g_callWI F (id := 65) (cells_at (kd_hidM (show kd 65 = 10 from rfl) (by decide)) (xc_10 rfl)) (ci := 10) rfl rfl rfl (c_X10_night G0 e301) wd_29_13 wd_29_10 wd_29_11 wd_29_12 wd_1_5 ⟨by decide, by decide⟩ (nn := 3) (by decide) (As := [.int v293, .int v295, .int v297]) rfl rfl (Nat.le_of_ble_eq_true rfl) (by decide) (by decide) ⟨by show _ ≤ 600000; omega, by show _ ≤ 7302250; omega⟩ dL_law_802 ?_
                                    refine g_icmp_eq (tgt := 2032) F dL_law_805 (by decide) h (fun a302 h => ?_) (fun a302 h => ?_)
                                    · refine g_iinc (i := 3) (v := (l3 + (7 : Int32))) (lv' := [(3, .int (l3 + (7 : Int32))), (0, .ref b0), (1, .ref (ev 0 + 0)), (2, .ref (ev 0 + 65))]) F dL_law_2032 rfl rfl (by decide) rfl ?_
                                      refine g_goto (tgt := 18) F dL_law_2035 (by decide) ?_
                                      refine g_lv (lv' := [(0, .ref b0), (1, .ref (ev 0 + 0)), (2, .ref (ev 0 + 65)), (3, .int (l3 + (7 : Int32)))]) ⟨rfl, rfl, rfl, rfl, trivial⟩ ?_
                                      exact ih18 _ _ _ _ _ _ (by omega) (by omega) h
                                    · refine g_iconst F dL_law_808 (v := 0) (by decide) ?_
                                      have hv9 := Option.some.inj h
                                      exact g_law1 F hb9 hr9 hl9 hv9 (by omega) (by omega) dL_law_809
                                  · refine ite_at h (fun a19 h => ?_) (fun a19 h => ?_)
                                    · refine g_tsw (k := 14) (off := 777) (tgt := 810) F a19 dL_law_33 (by decide) (by decide) (by decide) (by decide) ?_
                                      refine g_aload_n (i := 1) F dL_law_810 rfl rfl ?_
                                      refine g_aload_n (i := 0) F dL_law_811 rfl rfl ?_
                                      refine g_iload_n (i := 3) F dL_law_812 rfl rfl ?_
                                      refine g_iconst F dL_law_813 (v := 1) (by decide) ?_
                                      refine g_iadd F dL_law_814 ?_
                                      obtain ⟨v303, e304, h⟩ := bind_at h
                                      refine g_sldr F hX9 hb0 e304 dL_law_815 ?_
                                      refine g_aload_n (i := 0) F dL_law_816 rfl rfl ?_
                                      refine g_iload_n (i := 3) F dL_law_817 rfl rfl ?_
                                      refine g_iconst F dL_law_818 (v := 2) (by decide) ?_
                                      refine g_iadd F dL_law_819 ?_
                                      obtain ⟨v305, e306, h⟩ := bind_at h
                                      refine g_sldr F hX9 hb0 e306 dL_law_820 ?_
                                      obtain ⟨v308, X307, e309, h⟩ := bd2_at h
                                      refine g_callWI F (id := 0) (cells_at (kd_lit (i := 0) (by decide)) (xc_9 rfl)) (ci := 9) rfl rfl rfl (c_X9_fleet G0 e309) wd_31_8 wd_31_5 wd_31_6 wd_31_7 wd_1_2 ⟨by decide, by decide⟩ (nn := 2) (by decide) (As := [.int v303, .int v305]) rfl rfl (Nat.le_of_ble_eq_true rfl) (by decide) (by decide) ⟨by show _ ≤ 600000; omega, by show _ ≤ 7302250; omega⟩ dL_law_821 ?_
                                      refine g_aload_n (i := 2) F dL_law_824 rfl rfl ?_
                                      refine g_aload_n (i := 0) F dL_law_825 rfl rfl ?_
                                      refine g_iload_n (i := 3) F dL_law_826 rfl rfl ?_
                                      refine g_iconst F dL_law_827 (v := 1) (by decide) ?_
                                      refine g_iadd F dL_law_828 ?_
                                      obtain ⟨v310, e311, h⟩ := bind_at h
                                      refine g_sldr F hX9 hb0 e311 dL_law_829 ?_
                                      refine g_aload_n (i := 0) F dL_law_830 rfl rfl ?_
                                      refine g_iload_n (i := 3) F dL_law_831 rfl rfl ?_
                                      refine g_iconst F dL_law_832 (v := 2) (by decide) ?_
                                      refine g_iadd F dL_law_833 ?_
                                      obtain ⟨v312, e313, h⟩ := bind_at h
                                      refine g_sldr F hX9 hb0 e313 dL_law_834 ?_
                                      obtain ⟨v315, M314, e316, h⟩ := bd2_at h
                                      refine g_callWI F (id := 65) (cells_at (kd_hidM (show kd 65 = 10 from rfl) (by decide)) (xc_10 rfl)) (ci := 10) rfl rfl rfl (c_X10_fleet G0 e316) wd_32_9 wd_32_6 wd_32_7 wd_32_8 wd_1_5 ⟨by decide, by decide⟩ (nn := 2) (by decide) (As := [.int v310, .int v312]) rfl rfl (Nat.le_of_ble_eq_true rfl) (by decide) (by decide) ⟨by show _ ≤ 600000; omega, by show _ ≤ 7302250; omega⟩ dL_law_835 ?_
                                      refine g_icmp_eq (tgt := 2032) F dL_law_838 (by decide) h (fun a317 h => ?_) (fun a317 h => ?_)
                                      · refine g_iinc (i := 3) (v := (l3 + (7 : Int32))) (lv' := [(3, .int (l3 + (7 : Int32))), (0, .ref b0), (1, .ref (ev 0 + 0)), (2, .ref (ev 0 + 65))]) F dL_law_2032 rfl rfl (by decide) rfl ?_
                                        refine g_goto (tgt := 18) F dL_law_2035 (by decide) ?_
                                        refine g_lv (lv' := [(0, .ref b0), (1, .ref (ev 0 + 0)), (2, .ref (ev 0 + 65)), (3, .int (l3 + (7 : Int32)))]) ⟨rfl, rfl, rfl, rfl, trivial⟩ ?_
                                        exact ih18 _ _ _ _ _ _ (by omega) (by omega) h
                                      · refine g_iconst F dL_law_841 (v := 0) (by decide) ?_
                                        have hv9 := Option.some.inj h
                                        exact g_law1 F hb9 hr9 hl9 hv9 (by omega) (by omega) dL_law_842
                                    · refine ite_at h (fun a20 h => ?_) (fun a20 h => ?_)
                                      · refine g_tsw (k := 15) (off := 810) (tgt := 843) F a20 dL_law_33 (by decide) (by decide) (by decide) (by decide) ?_
                                        refine g_aload_n (i := 1) F dL_law_843 rfl rfl ?_
                                        refine g_aload_n (i := 0) F dL_law_844 rfl rfl ?_
                                        refine g_iload_n (i := 3) F dL_law_845 rfl rfl ?_
                                        refine g_iconst F dL_law_846 (v := 1) (by decide) ?_
                                        refine g_iadd F dL_law_847 ?_
                                        obtain ⟨v318, e319, h⟩ := bind_at h
                                        refine g_sldr F hX9 hb0 e319 dL_law_848 ?_
                                        refine g_aload_n (i := 0) F dL_law_849 rfl rfl ?_
                                        refine g_iload_n (i := 3) F dL_law_850 rfl rfl ?_
                                        refine g_iconst F dL_law_851 (v := 2) (by decide) ?_
                                        refine g_iadd F dL_law_852 ?_
                                        obtain ⟨v320, e321, h⟩ := bind_at h
                                        refine g_sldr F hX9 hb0 e321 dL_law_853 ?_
                                        refine g_aload_n (i := 0) F dL_law_854 rfl rfl ?_
                                        refine g_iload_n (i := 3) F dL_law_855 rfl rfl ?_
                                        refine g_iconst F dL_law_856 (v := 3) (by decide) ?_
                                        refine g_iadd F dL_law_857 ?_
                                        obtain ⟨v322, e323, h⟩ := bind_at h
                                        refine g_sldr F hX9 hb0 e323 dL_law_858 ?_
                                        obtain ⟨v325, X324, e326, h⟩ := bd2_at h
                                        refine g_callWI F (id := 0) (cells_at (kd_lit (i := 0) (by decide)) (xc_9 rfl)) (ci := 9) rfl rfl rfl (c_X9_hit G0 e326) wd_32_13 wd_32_10 wd_32_11 wd_32_12 wd_1_2 ⟨by decide, by decide⟩ (nn := 3) (by decide) (As := [.int v318, .int v320, .int v322]) rfl rfl (Nat.le_of_ble_eq_true rfl) (by decide) (by decide) ⟨by show _ ≤ 600000; omega, by show _ ≤ 7302250; omega⟩ dL_law_859 ?_
                                        refine g_aload_n (i := 2) F dL_law_862 rfl rfl ?_
                                        refine g_aload_n (i := 0) F dL_law_863 rfl rfl ?_
                                        refine g_iload_n (i := 3) F dL_law_864 rfl rfl ?_
                                        refine g_iconst F dL_law_865 (v := 1) (by decide) ?_
                                        refine g_iadd F dL_law_866 ?_
                                        obtain ⟨v327, e328, h⟩ := bind_at h
                                        refine g_sldr F hX9 hb0 e328 dL_law_867 ?_
                                        refine g_aload_n (i := 0) F dL_law_868 rfl rfl ?_
                                        refine g_iload_n (i := 3) F dL_law_869 rfl rfl ?_
                                        refine g_iconst F dL_law_870 (v := 2) (by decide) ?_
                                        refine g_iadd F dL_law_871 ?_
                                        obtain ⟨v329, e330, h⟩ := bind_at h
                                        refine g_sldr F hX9 hb0 e330 dL_law_872 ?_
                                        refine g_aload_n (i := 0) F dL_law_873 rfl rfl ?_
                                        refine g_iload_n (i := 3) F dL_law_874 rfl rfl ?_
                                        refine g_iconst F dL_law_875 (v := 3) (by decide) ?_
                                        refine g_iadd F dL_law_876 ?_
                                        obtain ⟨v331, e332, h⟩ := bind_at h
                                        refine g_sldr F hX9 hb0 e332 dL_law_877 ?_
                                        obtain ⟨v334, M333, e335, h⟩ := bd2_at h
                                        refine g_callWI F (id := 65) (cells_at (kd_hidM (show kd 65 = 10 from rfl) (by decide)) (xc_10 rfl)) (ci := 10) rfl rfl rfl (c_X10_hit G0 e335) wd_32_17 wd_32_14 wd_32_15 wd_32_16 wd_1_5 ⟨by decide, by decide⟩ (nn := 3) (by decide) (As := [.int v327, .int v329, .int v331]) rfl rfl (Nat.le_of_ble_eq_true rfl) (by decide) (by decide) ⟨by show _ ≤ 600000; omega, by show _ ≤ 7302250; omega⟩ dL_law_878 ?_
                                        refine g_icmp_eq (tgt := 2032) F dL_law_881 (by decide) h (fun a336 h => ?_) (fun a336 h => ?_)
                                        · refine g_iinc (i := 3) (v := (l3 + (7 : Int32))) (lv' := [(3, .int (l3 + (7 : Int32))), (0, .ref b0), (1, .ref (ev 0 + 0)), (2, .ref (ev 0 + 65))]) F dL_law_2032 rfl rfl (by decide) rfl ?_
                                          refine g_goto (tgt := 18) F dL_law_2035 (by decide) ?_
                                          refine g_lv (lv' := [(0, .ref b0), (1, .ref (ev 0 + 0)), (2, .ref (ev 0 + 65)), (3, .int (l3 + (7 : Int32)))]) ⟨rfl, rfl, rfl, rfl, trivial⟩ ?_
                                          exact ih18 _ _ _ _ _ _ (by omega) (by omega) h
                                        · refine g_iconst F dL_law_884 (v := 0) (by decide) ?_
                                          have hv9 := Option.some.inj h
                                          exact g_law1 F hb9 hr9 hl9 hv9 (by omega) (by omega) dL_law_885
                                      · refine ite_at h (fun a21 h => ?_) (fun a21 h => ?_)
                                        · refine g_tsw (k := 16) (off := 853) (tgt := 886) F a21 dL_law_33 (by decide) (by decide) (by decide) (by decide) ?_
                                          refine g_aload_n (i := 1) F dL_law_886 rfl rfl ?_
                                          refine g_aload_n (i := 0) F dL_law_887 rfl rfl ?_
                                          refine g_iload_n (i := 3) F dL_law_888 rfl rfl ?_
                                          refine g_iconst F dL_law_889 (v := 1) (by decide) ?_
                                          refine g_iadd F dL_law_890 ?_
                                          obtain ⟨v337, e338, h⟩ := bind_at h
                                          refine g_sldr F hX9 hb0 e338 dL_law_891 ?_
                                          obtain ⟨v340, X339, e341, h⟩ := bd2_at h
                                          refine g_callWI F (id := 0) (cells_at (kd_lit (i := 0) (by decide)) (xc_9 rfl)) (ci := 9) rfl rfl rfl (c_X9_wake G0 e341) wd_32_21 wd_32_18 wd_32_19 wd_32_20 wd_1_2 ⟨by decide, by decide⟩ (nn := 1) (by decide) (As := [.int v337]) rfl rfl (Nat.le_of_ble_eq_true rfl) (by decide) (by decide) ⟨by show _ ≤ 600000; omega, by show _ ≤ 7302250; omega⟩ dL_law_892 ?_
                                          refine g_aload_n (i := 2) F dL_law_895 rfl rfl ?_
                                          refine g_aload_n (i := 0) F dL_law_896 rfl rfl ?_
                                          refine g_iload_n (i := 3) F dL_law_897 rfl rfl ?_
                                          refine g_iconst F dL_law_898 (v := 1) (by decide) ?_
                                          refine g_iadd F dL_law_899 ?_
                                          obtain ⟨v342, e343, h⟩ := bind_at h
                                          refine g_sldr F hX9 hb0 e343 dL_law_900 ?_
                                          obtain ⟨v345, M344, e346, h⟩ := bd2_at h
                                          refine g_callWI F (id := 65) (cells_at (kd_hidM (show kd 65 = 10 from rfl) (by decide)) (xc_10 rfl)) (ci := 10) rfl rfl rfl (c_X10_wake G0 e346) wd_33_1 wd_32_22 wd_32_23 wd_33_0 wd_1_5 ⟨by decide, by decide⟩ (nn := 1) (by decide) (As := [.int v342]) rfl rfl (Nat.le_of_ble_eq_true rfl) (by decide) (by decide) ⟨by show _ ≤ 600000; omega, by show _ ≤ 7302250; omega⟩ dL_law_901 ?_
                                          refine g_icmp_eq (tgt := 2032) F dL_law_904 (by decide) h (fun a347 h => ?_) (fun a347 h => ?_)
                                          · refine g_iinc (i := 3) (v := (l3 + (7 : Int32))) (lv' := [(3, .int (l3 + (7 : Int32))), (0, .ref b0), (1, .ref (ev 0 + 0)), (2, .ref (ev 0 + 65))]) F dL_law_2032 rfl rfl (by decide) rfl ?_
                                            refine g_goto (tgt := 18) F dL_law_2035 (by decide) ?_
                                            refine g_lv (lv' := [(0, .ref b0), (1, .ref (ev 0 + 0)), (2, .ref (ev 0 + 65)), (3, .int (l3 + (7 : Int32)))]) ⟨rfl, rfl, rfl, rfl, trivial⟩ ?_
                                            exact ih18 _ _ _ _ _ _ (by omega) (by omega) h
                                          · refine g_iconst F dL_law_907 (v := 0) (by decide) ?_
                                            have hv9 := Option.some.inj h
                                            exact g_law1 F hb9 hr9 hl9 hv9 (by omega) (by omega) dL_law_908
                                        · refine ite_at h (fun a22 h => ?_) (fun a22 h => ?_)
                                          · refine g_tsw (k := 17) (off := 876) (tgt := 909) F a22 dL_law_33 (by decide) (by decide) (by decide) (by decide) ?_
                                            refine g_aload_n (i := 1) F dL_law_909 rfl rfl ?_
                                            refine g_aload_n (i := 0) F dL_law_910 rfl rfl ?_
                                            refine g_iload_n (i := 3) F dL_law_911 rfl rfl ?_
                                            refine g_iconst F dL_law_912 (v := 1) (by decide) ?_
                                            refine g_iadd F dL_law_913 ?_
                                            obtain ⟨v348, e349, h⟩ := bind_at h
                                            refine g_sldr F hX9 hb0 e349 dL_law_914 ?_
                                            obtain ⟨v351, X350, e352, h⟩ := bd2_at h
                                            refine g_callWI F (id := 0) (cells_at (kd_lit (i := 0) (by decide)) (xc_9 rfl)) (ci := 9) rfl rfl rfl (c_X9_goOn G0 e352) wd_33_5 wd_33_2 wd_33_3 wd_33_4 wd_1_2 ⟨by decide, by decide⟩ (nn := 1) (by decide) (As := [.int v348]) rfl rfl (Nat.le_of_ble_eq_true rfl) (by decide) (by decide) ⟨by show _ ≤ 600000; omega, by show _ ≤ 7302250; omega⟩ dL_law_915 ?_
                                            refine g_aload_n (i := 2) F dL_law_918 rfl rfl ?_
                                            refine g_aload_n (i := 0) F dL_law_919 rfl rfl ?_
                                            refine g_iload_n (i := 3) F dL_law_920 rfl rfl ?_
                                            refine g_iconst F dL_law_921 (v := 1) (by decide) ?_
                                            refine g_iadd F dL_law_922 ?_
                                            obtain ⟨v353, e354, h⟩ := bind_at h
                                            refine g_sldr F hX9 hb0 e354 dL_law_923 ?_
                                            obtain ⟨v356, M355, e357, h⟩ := bd2_at h
                                            refine g_callWI F (id := 65) (cells_at (kd_hidM (show kd 65 = 10 from rfl) (by decide)) (xc_10 rfl)) (ci := 10) rfl rfl rfl (c_X10_goOn G0 e357) wd_33_9 wd_33_6 wd_33_7 wd_33_8 wd_1_5 ⟨by decide, by decide⟩ (nn := 1) (by decide) (As := [.int v353]) rfl rfl (Nat.le_of_ble_eq_true rfl) (by decide) (by decide) ⟨by show _ ≤ 600000; omega, by show _ ≤ 7302250; omega⟩ dL_law_924 ?_
                                            refine g_icmp_eq (tgt := 2032) F dL_law_927 (by decide) h (fun a358 h => ?_) (fun a358 h => ?_)
                                            · refine g_iinc (i := 3) (v := (l3 + (7 : Int32))) (lv' := [(3, .int (l3 + (7 : Int32))), (0, .ref b0), (1, .ref (ev 0 + 0)), (2, .ref (ev 0 + 65))]) F dL_law_2032 rfl rfl (by decide) rfl ?_
                                              refine g_goto (tgt := 18) F dL_law_2035 (by decide) ?_
                                              refine g_lv (lv' := [(0, .ref b0), (1, .ref (ev 0 + 0)), (2, .ref (ev 0 + 65)), (3, .int (l3 + (7 : Int32)))]) ⟨rfl, rfl, rfl, rfl, trivial⟩ ?_
                                              exact ih18 _ _ _ _ _ _ (by omega) (by omega) h
                                            · refine g_iconst F dL_law_930 (v := 0) (by decide) ?_
                                              have hv9 := Option.some.inj h
                                              exact g_law1 F hb9 hr9 hl9 hv9 (by omega) (by omega) dL_law_931
                                          · refine ite_at h (fun a23 h => ?_) (fun a23 h => ?_)
                                            · refine g_tsw (k := 18) (off := 899) (tgt := 932) F a23 dL_law_33 (by decide) (by decide) (by decide) (by decide) ?_
                                              refine g_aload_n (i := 1) F dL_law_932 rfl rfl ?_
                                              refine g_aload_n (i := 0) F dL_law_933 rfl rfl ?_
                                              refine g_iload_n (i := 3) F dL_law_934 rfl rfl ?_
                                              refine g_iconst F dL_law_935 (v := 1) (by decide) ?_
                                              refine g_iadd F dL_law_936 ?_
                                              obtain ⟨v359, e360, h⟩ := bind_at h
                                              refine g_sldr F hX9 hb0 e360 dL_law_937 ?_
                                              refine g_aload_n (i := 0) F dL_law_938 rfl rfl ?_
                                              refine g_iload_n (i := 3) F dL_law_939 rfl rfl ?_
                                              refine g_iconst F dL_law_940 (v := 2) (by decide) ?_
                                              refine g_iadd F dL_law_941 ?_
                                              obtain ⟨v361, e362, h⟩ := bind_at h
                                              refine g_sldr F hX9 hb0 e362 dL_law_942 ?_
                                              obtain ⟨v364, X363, e365, h⟩ := bd2_at h
                                              refine g_callWI F (id := 0) (cells_at (kd_lit (i := 0) (by decide)) (xc_9 rfl)) (ci := 9) rfl rfl rfl (c_X9_veer G0 e365) wd_33_13 wd_33_10 wd_33_11 wd_33_12 wd_1_2 ⟨by decide, by decide⟩ (nn := 2) (by decide) (As := [.int v359, .int v361]) rfl rfl (Nat.le_of_ble_eq_true rfl) (by decide) (by decide) ⟨by show _ ≤ 600000; omega, by show _ ≤ 7302250; omega⟩ dL_law_943 ?_
                                              refine g_aload_n (i := 2) F dL_law_946 rfl rfl ?_
                                              refine g_aload_n (i := 0) F dL_law_947 rfl rfl ?_
                                              refine g_iload_n (i := 3) F dL_law_948 rfl rfl ?_
                                              refine g_iconst F dL_law_949 (v := 1) (by decide) ?_
                                              refine g_iadd F dL_law_950 ?_
                                              obtain ⟨v366, e367, h⟩ := bind_at h
                                              refine g_sldr F hX9 hb0 e367 dL_law_951 ?_
                                              refine g_aload_n (i := 0) F dL_law_952 rfl rfl ?_
                                              refine g_iload_n (i := 3) F dL_law_953 rfl rfl ?_
                                              refine g_iconst F dL_law_954 (v := 2) (by decide) ?_
                                              refine g_iadd F dL_law_955 ?_
                                              obtain ⟨v368, e369, h⟩ := bind_at h
                                              refine g_sldr F hX9 hb0 e369 dL_law_956 ?_
                                              obtain ⟨v371, M370, e372, h⟩ := bd2_at h
                                              refine g_callWI F (id := 65) (cells_at (kd_hidM (show kd 65 = 10 from rfl) (by decide)) (xc_10 rfl)) (ci := 10) rfl rfl rfl (c_X10_veer G0 e372) wd_33_22 wd_33_19 wd_33_20 wd_33_21 wd_1_5 ⟨by decide, by decide⟩ (nn := 2) (by decide) (As := [.int v366, .int v368]) rfl rfl (Nat.le_of_ble_eq_true rfl) (by decide) (by decide) ⟨by show _ ≤ 600000; omega, by show _ ≤ 7302250; omega⟩ dL_law_957 ?_
                                              refine g_icmp_eq (tgt := 2032) F dL_law_960 (by decide) h (fun a373 h => ?_) (fun a373 h => ?_)
                                              · refine g_iinc (i := 3) (v := (l3 + (7 : Int32))) (lv' := [(3, .int (l3 + (7 : Int32))), (0, .ref b0), (1, .ref (ev 0 + 0)), (2, .ref (ev 0 + 65))]) F dL_law_2032 rfl rfl (by decide) rfl ?_
                                                refine g_goto (tgt := 18) F dL_law_2035 (by decide) ?_
                                                refine g_lv (lv' := [(0, .ref b0), (1, .ref (ev 0 + 0)), (2, .ref (ev 0 + 65)), (3, .int (l3 + (7 : Int32)))]) ⟨rfl, rfl, rfl, rfl, trivial⟩ ?_
                                                exact ih18 _ _ _ _ _ _ (by omega) (by omega) h
                                              · refine g_iconst F dL_law_963 (v := 0) (by decide) ?_
                                                have hv9 := Option.some.inj h
                                                exact g_law1 F hb9 hr9 hl9 hv9 (by omega) (by omega) dL_law_964
                                            · refine ite_at h (fun a24 h => ?_) (fun a24 h => ?_)
                                              · refine g_tsw (k := 19) (off := 932) (tgt := 965) F a24 dL_law_33 (by decide) (by decide) (by decide) (by decide) ?_
                                                refine g_aload_n (i := 1) F dL_law_965 rfl rfl ?_
                                                refine g_aload_n (i := 0) F dL_law_966 rfl rfl ?_
                                                refine g_iload_n (i := 3) F dL_law_967 rfl rfl ?_
                                                refine g_iconst F dL_law_968 (v := 1) (by decide) ?_
                                                refine g_iadd F dL_law_969 ?_
                                                obtain ⟨v374, e375, h⟩ := bind_at h
                                                refine g_sldr F hX9 hb0 e375 dL_law_970 ?_
                                                refine g_aload_n (i := 0) F dL_law_971 rfl rfl ?_
                                                refine g_iload_n (i := 3) F dL_law_972 rfl rfl ?_
                                                refine g_iconst F dL_law_973 (v := 2) (by decide) ?_
                                                refine g_iadd F dL_law_974 ?_
                                                obtain ⟨v376, e377, h⟩ := bind_at h
                                                refine g_sldr F hX9 hb0 e377 dL_law_975 ?_
                                                refine g_aload_n (i := 0) F dL_law_976 rfl rfl ?_
                                                refine g_iload_n (i := 3) F dL_law_977 rfl rfl ?_
                                                refine g_iconst F dL_law_978 (v := 3) (by decide) ?_
                                                refine g_iadd F dL_law_979 ?_
                                                obtain ⟨v378, e379, h⟩ := bind_at h
                                                refine g_sldr F hX9 hb0 e379 dL_law_980 ?_
                                                obtain ⟨v381, X380, e382, h⟩ := bd2_at h
                                                refine g_callWI F (id := 0) (cells_at (kd_lit (i := 0) (by decide)) (xc_9 rfl)) (ci := 9) rfl rfl rfl (c_X9_drop G0 e382) wd_34_2 wd_33_23 wd_34_0 wd_34_1 wd_1_2 ⟨by decide, by decide⟩ (nn := 3) (by decide) (As := [.int v374, .int v376, .int v378]) rfl rfl (Nat.le_of_ble_eq_true rfl) (by decide) (by decide) ⟨by show _ ≤ 600000; omega, by show _ ≤ 7302250; omega⟩ dL_law_981 ?_
                                                refine g_aload_n (i := 2) F dL_law_984 rfl rfl ?_
                                                refine g_aload_n (i := 0) F dL_law_985 rfl rfl ?_
                                                refine g_iload_n (i := 3) F dL_law_986 rfl rfl ?_
                                                refine g_iconst F dL_law_987 (v := 1) (by decide) ?_
                                                refine g_iadd F dL_law_988 ?_
                                                obtain ⟨v383, e384, h⟩ := bind_at h
                                                refine g_sldr F hX9 hb0 e384 dL_law_989 ?_
                                                refine g_aload_n (i := 0) F dL_law_990 rfl rfl ?_
                                                refine g_iload_n (i := 3) F dL_law_991 rfl rfl ?_
                                                refine g_iconst F dL_law_992 (v := 2) (by decide) ?_
                                                refine g_iadd F dL_law_993 ?_
                                                obtain ⟨v385, e386, h⟩ := bind_at h
                                                refine g_sldr F hX9 hb0 e386 dL_law_994 ?_
                                                refine g_aload_n (i := 0) F dL_law_995 rfl rfl ?_
                                                refine g_iload_n (i := 3) F dL_law_996 rfl rfl ?_
                                                refine g_iconst F dL_law_997 (v := 3) (by decide) ?_
                                                refine g_iadd F dL_law_998 ?_
                                                obtain ⟨v387, e388, h⟩ := bind_at h
                                                refine g_sldr F hX9 hb0 e388 dL_law_999 ?_
                                                obtain ⟨v390, M389, e391, h⟩ := bd2_at h
                                                refine g_callWI F (id := 65) (cells_at (kd_hidM (show kd 65 = 10 from rfl) (by decide)) (xc_10 rfl)) (ci := 10) rfl rfl rfl (c_X10_drop G0 e391) wd_34_12 wd_34_9 wd_34_10 wd_34_11 wd_1_5 ⟨by decide, by decide⟩ (nn := 3) (by decide) (As := [.int v383, .int v385, .int v387]) rfl rfl (Nat.le_of_ble_eq_true rfl) (by decide) (by decide) ⟨by show _ ≤ 600000; omega, by show _ ≤ 7302250; omega⟩ dL_law_1000 ?_
                                                refine g_icmp_eq (tgt := 2032) F dL_law_1003 (by decide) h (fun a392 h => ?_) (fun a392 h => ?_)
                                                · refine g_iinc (i := 3) (v := (l3 + (7 : Int32))) (lv' := [(3, .int (l3 + (7 : Int32))), (0, .ref b0), (1, .ref (ev 0 + 0)), (2, .ref (ev 0 + 65))]) F dL_law_2032 rfl rfl (by decide) rfl ?_
                                                  refine g_goto (tgt := 18) F dL_law_2035 (by decide) ?_
                                                  refine g_lv (lv' := [(0, .ref b0), (1, .ref (ev 0 + 0)), (2, .ref (ev 0 + 65)), (3, .int (l3 + (7 : Int32)))]) ⟨rfl, rfl, rfl, rfl, trivial⟩ ?_
                                                  exact ih18 _ _ _ _ _ _ (by omega) (by omega) h
                                                · refine g_iconst F dL_law_1006 (v := 0) (by decide) ?_
                                                  have hv9 := Option.some.inj h
                                                  exact g_law1 F hb9 hr9 hl9 hv9 (by omega) (by omega) dL_law_1007
                                              · refine ite_at h (fun a25 h => ?_) (fun a25 h => ?_)
                                                · refine g_tsw (k := 20) (off := 975) (tgt := 1008) F a25 dL_law_33 (by decide) (by decide) (by decide) (by decide) ?_
                                                  refine g_aload_n (i := 1) F dL_law_1008 rfl rfl ?_
                                                  refine g_aload_n (i := 0) F dL_law_1009 rfl rfl ?_
                                                  refine g_iload_n (i := 3) F dL_law_1010 rfl rfl ?_
                                                  refine g_iconst F dL_law_1011 (v := 1) (by decide) ?_
                                                  refine g_iadd F dL_law_1012 ?_
                                                  obtain ⟨v393, e394, h⟩ := bind_at h
                                                  refine g_sldr F hX9 hb0 e394 dL_law_1013 ?_
                                                  refine g_aload_n (i := 0) F dL_law_1014 rfl rfl ?_
                                                  refine g_iload_n (i := 3) F dL_law_1015 rfl rfl ?_
                                                  refine g_iconst F dL_law_1016 (v := 2) (by decide) ?_
                                                  refine g_iadd F dL_law_1017 ?_
                                                  obtain ⟨v395, e396, h⟩ := bind_at h
                                                  refine g_sldr F hX9 hb0 e396 dL_law_1018 ?_
                                                  obtain ⟨v397, e398, h⟩ := bind_at h
                                                  refine g_callWI F (id := 0) (cells_at (kd_lit (i := 0) (by decide)) (xc_9 rfl)) (ci := 9) rfl rfl rfl (c_X9_rings G0 e398) wd_34_20 wd_34_17 wd_34_18 wd_34_19 wd_1_2 ⟨by decide, by decide⟩ (nn := 2) (by decide) (As := [.int v393, .int v395]) rfl rfl (Nat.le_of_ble_eq_true rfl) (by decide) (by decide) ⟨by show _ ≤ 600000; omega, by show _ ≤ 7302250; omega⟩ dL_law_1019 ?_
                                                  refine g_aload_n (i := 2) F dL_law_1022 rfl rfl ?_
                                                  refine g_aload_n (i := 0) F dL_law_1023 rfl rfl ?_
                                                  refine g_iload_n (i := 3) F dL_law_1024 rfl rfl ?_
                                                  refine g_iconst F dL_law_1025 (v := 1) (by decide) ?_
                                                  refine g_iadd F dL_law_1026 ?_
                                                  obtain ⟨v399, e400, h⟩ := bind_at h
                                                  refine g_sldr F hX9 hb0 e400 dL_law_1027 ?_
                                                  refine g_aload_n (i := 0) F dL_law_1028 rfl rfl ?_
                                                  refine g_iload_n (i := 3) F dL_law_1029 rfl rfl ?_
                                                  refine g_iconst F dL_law_1030 (v := 2) (by decide) ?_
                                                  refine g_iadd F dL_law_1031 ?_
                                                  obtain ⟨v401, e402, h⟩ := bind_at h
                                                  refine g_sldr F hX9 hb0 e402 dL_law_1032 ?_
                                                  obtain ⟨v403, e404, h⟩ := bind_at h
                                                  refine g_callWI F (id := 65) (cells_at (kd_hidM (show kd 65 = 10 from rfl) (by decide)) (xc_10 rfl)) (ci := 10) rfl rfl rfl (c_X10_rings G0 e404) wd_35_4 wd_35_1 wd_35_2 wd_35_3 wd_1_5 ⟨by decide, by decide⟩ (nn := 2) (by decide) (As := [.int v399, .int v401]) rfl rfl (Nat.le_of_ble_eq_true rfl) (by decide) (by decide) ⟨by show _ ≤ 600000; omega, by show _ ≤ 7302250; omega⟩ dL_law_1033 ?_
                                                  refine g_icmp_eq (tgt := 2032) F dL_law_1036 (by decide) h (fun a405 h => ?_) (fun a405 h => ?_)
                                                  · refine g_iinc (i := 3) (v := (l3 + (7 : Int32))) (lv' := [(3, .int (l3 + (7 : Int32))), (0, .ref b0), (1, .ref (ev 0 + 0)), (2, .ref (ev 0 + 65))]) F dL_law_2032 rfl rfl (by decide) rfl ?_
                                                    refine g_goto (tgt := 18) F dL_law_2035 (by decide) ?_
                                                    refine g_lv (lv' := [(0, .ref b0), (1, .ref (ev 0 + 0)), (2, .ref (ev 0 + 65)), (3, .int (l3 + (7 : Int32)))]) ⟨rfl, rfl, rfl, rfl, trivial⟩ ?_
                                                    exact ih18 _ _ _ _ _ _ (by omega) (by omega) h
                                                  · refine g_iconst F dL_law_1039 (v := 0) (by decide) ?_
                                                    have hv9 := Option.some.inj h
                                                    exact g_law1 F hb9 hr9 hl9 hv9 (by omega) (by omega) dL_law_1040
                                                · refine ite_at h (fun a26 h => ?_) (fun a26 h => ?_)
                                                  · refine g_tsw (k := 21) (off := 1008) (tgt := 1041) F a26 dL_law_33 (by decide) (by decide) (by decide) (by decide) ?_
                                                    refine g_aload_n (i := 1) F dL_law_1041 rfl rfl ?_
                                                    obtain ⟨v406, e407, h⟩ := bind_at h
                                                    refine g_callWI F (id := 0) (cells_at (kd_lit (i := 0) (by decide)) (xc_9 rfl)) (ci := 9) rfl rfl rfl (c_X9_late G0 e407) wd_35_12 wd_35_9 wd_35_10 wd_35_11 wd_1_2 ⟨by decide, by decide⟩ (nn := 0) (by decide) (As := []) rfl rfl (Nat.le_of_ble_eq_true rfl) (by decide) (by decide) ⟨by show _ ≤ 600000; omega, by show _ ≤ 7302250; omega⟩ dL_law_1042 ?_
                                                    refine g_aload_n (i := 2) F dL_law_1045 rfl rfl ?_
                                                    obtain ⟨v408, e409, h⟩ := bind_at h
                                                    refine g_callWI F (id := 65) (cells_at (kd_hidM (show kd 65 = 10 from rfl) (by decide)) (xc_10 rfl)) (ci := 10) rfl rfl rfl (c_X10_late G0 e409) wd_35_16 wd_35_13 wd_35_14 wd_35_15 wd_1_5 ⟨by decide, by decide⟩ (nn := 0) (by decide) (As := []) rfl rfl (Nat.le_of_ble_eq_true rfl) (by decide) (by decide) ⟨by show _ ≤ 600000; omega, by show _ ≤ 7302250; omega⟩ dL_law_1046 ?_
                                                    refine g_icmp_eq (tgt := 2032) F dL_law_1049 (by decide) h (fun a410 h => ?_) (fun a410 h => ?_)
                                                    · refine g_iinc (i := 3) (v := (l3 + (7 : Int32))) (lv' := [(3, .int (l3 + (7 : Int32))), (0, .ref b0), (1, .ref (ev 0 + 0)), (2, .ref (ev 0 + 65))]) F dL_law_2032 rfl rfl (by decide) rfl ?_
                                                      refine g_goto (tgt := 18) F dL_law_2035 (by decide) ?_
                                                      refine g_lv (lv' := [(0, .ref b0), (1, .ref (ev 0 + 0)), (2, .ref (ev 0 + 65)), (3, .int (l3 + (7 : Int32)))]) ⟨rfl, rfl, rfl, rfl, trivial⟩ ?_
                                                      exact ih18 _ _ _ _ _ _ (by omega) (by omega) h
                                                    · refine g_iconst F dL_law_1052 (v := 0) (by decide) ?_
                                                      have hv9 := Option.some.inj h
                                                      exact g_law1 F hb9 hr9 hl9 hv9 (by omega) (by omega) dL_law_1053
                                                  · refine ite_at h (fun a27 h => ?_) (fun a27 h => ?_)
                                                    · refine g_tsw (k := 22) (off := 1021) (tgt := 1054) F a27 dL_law_33 (by decide) (by decide) (by decide) (by decide) ?_
                                                      refine g_aload_n (i := 1) F dL_law_1054 rfl rfl ?_
                                                      refine g_aload_n (i := 0) F dL_law_1055 rfl rfl ?_
                                                      refine g_iload_n (i := 3) F dL_law_1056 rfl rfl ?_
                                                      refine g_iconst F dL_law_1057 (v := 1) (by decide) ?_
                                                      refine g_iadd F dL_law_1058 ?_
                                                      obtain ⟨v411, e412, h⟩ := bind_at h
                                                      refine g_sldr F hX9 hb0 e412 dL_law_1059 ?_
                                                      refine g_aload_n (i := 0) F dL_law_1060 rfl rfl ?_
                                                      refine g_iload_n (i := 3) F dL_law_1061 rfl rfl ?_
                                                      refine g_iconst F dL_law_1062 (v := 2) (by decide) ?_
                                                      refine g_iadd F dL_law_1063 ?_
                                                      obtain ⟨v413, e414, h⟩ := bind_at h
                                                      refine g_sldr F hX9 hb0 e414 dL_law_1064 ?_
                                                      refine g_aload_n (i := 0) F dL_law_1065 rfl rfl ?_
                                                      refine g_iload_n (i := 3) F dL_law_1066 rfl rfl ?_
                                                      refine g_iconst F dL_law_1067 (v := 3) (by decide) ?_
                                                      refine g_iadd F dL_law_1068 ?_
                                                      obtain ⟨v415, e416, h⟩ := bind_at h
                                                      refine g_sldr F hX9 hb0 e416 dL_law_1069 ?_
                                                      obtain ⟨v418, X417, e419, h⟩ := bd2_at h
                                                      refine g_callWI F (id := 0) (cells_at (kd_lit (i := 0) (by decide)) (xc_9 rfl)) (ci := 9) rfl rfl rfl (c_X9_alarm G0 e419) wd_35_20 wd_35_17 wd_35_18 wd_35_19 wd_1_2 ⟨by decide, by decide⟩ (nn := 3) (by decide) (As := [.int v411, .int v413, .int v415]) rfl rfl (Nat.le_of_ble_eq_true rfl) (by decide) (by decide) ⟨by show _ ≤ 600000; omega, by show _ ≤ 7302250; omega⟩ dL_law_1070 ?_
                                                      refine g_aload_n (i := 2) F dL_law_1073 rfl rfl ?_
                                                      refine g_aload_n (i := 0) F dL_law_1074 rfl rfl ?_
                                                      refine g_iload_n (i := 3) F dL_law_1075 rfl rfl ?_
                                                      refine g_iconst F dL_law_1076 (v := 1) (by decide) ?_
                                                      refine g_iadd F dL_law_1077 ?_
                                                      obtain ⟨v420, e421, h⟩ := bind_at h
                                                      refine g_sldr F hX9 hb0 e421 dL_law_1078 ?_
                                                      refine g_aload_n (i := 0) F dL_law_1079 rfl rfl ?_
                                                      refine g_iload_n (i := 3) F dL_law_1080 rfl rfl ?_
                                                      refine g_iconst F dL_law_1081 (v := 2) (by decide) ?_
                                                      refine g_iadd F dL_law_1082 ?_
                                                      obtain ⟨v422, e423, h⟩ := bind_at h
                                                      refine g_sldr F hX9 hb0 e423 dL_law_1083 ?_
                                                      refine g_aload_n (i := 0) F dL_law_1084 rfl rfl ?_
                                                      refine g_iload_n (i := 3) F dL_law_1085 rfl rfl ?_
                                                      refine g_iconst F dL_law_1086 (v := 3) (by decide) ?_
                                                      refine g_iadd F dL_law_1087 ?_
                                                      obtain ⟨v424, e425, h⟩ := bind_at h
                                                      refine g_sldr F hX9 hb0 e425 dL_law_1088 ?_
                                                      obtain ⟨v427, M426, e428, h⟩ := bd2_at h
                                                      refine g_callWI F (id := 65) (cells_at (kd_hidM (show kd 65 = 10 from rfl) (by decide)) (xc_10 rfl)) (ci := 10) rfl rfl rfl (c_X10_alarm G0 e428) wd_36_8 wd_36_5 wd_36_6 wd_36_7 wd_1_5 ⟨by decide, by decide⟩ (nn := 3) (by decide) (As := [.int v420, .int v422, .int v424]) rfl rfl (Nat.le_of_ble_eq_true rfl) (by decide) (by decide) ⟨by show _ ≤ 600000; omega, by show _ ≤ 7302250; omega⟩ dL_law_1089 ?_
                                                      refine g_icmp_eq (tgt := 2032) F dL_law_1092 (by decide) h (fun a429 h => ?_) (fun a429 h => ?_)
                                                      · refine g_iinc (i := 3) (v := (l3 + (7 : Int32))) (lv' := [(3, .int (l3 + (7 : Int32))), (0, .ref b0), (1, .ref (ev 0 + 0)), (2, .ref (ev 0 + 65))]) F dL_law_2032 rfl rfl (by decide) rfl ?_
                                                        refine g_goto (tgt := 18) F dL_law_2035 (by decide) ?_
                                                        refine g_lv (lv' := [(0, .ref b0), (1, .ref (ev 0 + 0)), (2, .ref (ev 0 + 65)), (3, .int (l3 + (7 : Int32)))]) ⟨rfl, rfl, rfl, rfl, trivial⟩ ?_
                                                        exact ih18 _ _ _ _ _ _ (by omega) (by omega) h
                                                      · refine g_iconst F dL_law_1095 (v := 0) (by decide) ?_
                                                        have hv9 := Option.some.inj h
                                                        exact g_law1 F hb9 hr9 hl9 hv9 (by omega) (by omega) dL_law_1096
                                                    · refine ite_at h (fun a28 h => ?_) (fun a28 h => ?_)
                                                      · refine g_tsw (k := 23) (off := 1064) (tgt := 1097) F a28 dL_law_33 (by decide) (by decide) (by decide) (by decide) ?_
                                                        refine g_aload_n (i := 1) F dL_law_1097 rfl rfl ?_
                                                        refine g_aload_n (i := 0) F dL_law_1098 rfl rfl ?_
                                                        refine g_iload_n (i := 3) F dL_law_1099 rfl rfl ?_
                                                        refine g_iconst F dL_law_1100 (v := 1) (by decide) ?_
                                                        refine g_iadd F dL_law_1101 ?_
                                                        obtain ⟨v430, e431, h⟩ := bind_at h
                                                        refine g_sldr F hX9 hb0 e431 dL_law_1102 ?_
                                                        refine g_aload_n (i := 0) F dL_law_1103 rfl rfl ?_
                                                        refine g_iload_n (i := 3) F dL_law_1104 rfl rfl ?_
                                                        refine g_iconst F dL_law_1105 (v := 2) (by decide) ?_
                                                        refine g_iadd F dL_law_1106 ?_
                                                        obtain ⟨v432, e433, h⟩ := bind_at h
                                                        refine g_sldr F hX9 hb0 e433 dL_law_1107 ?_
                                                        refine g_aload_n (i := 0) F dL_law_1108 rfl rfl ?_
                                                        refine g_iload_n (i := 3) F dL_law_1109 rfl rfl ?_
                                                        refine g_iconst F dL_law_1110 (v := 3) (by decide) ?_
                                                        refine g_iadd F dL_law_1111 ?_
                                                        obtain ⟨v434, e435, h⟩ := bind_at h
                                                        refine g_sldr F hX9 hb0 e435 dL_law_1112 ?_
                                                        obtain ⟨v437, X436, e438, h⟩ := bd2_at h
                                                        refine g_callWI F (id := 0) (cells_at (kd_lit (i := 0) (by decide)) (xc_9 rfl)) (ci := 9) rfl rfl rfl (c_X9_size G0 e438) wd_36_19 wd_36_16 wd_36_17 wd_36_18 wd_1_2 ⟨by decide, by decide⟩ (nn := 3) (by decide) (As := [.int v430, .int v432, .int v434]) rfl rfl (Nat.le_of_ble_eq_true rfl) (by decide) (by decide) ⟨by show _ ≤ 600000; omega, by show _ ≤ 7302250; omega⟩ dL_law_1113 ?_
                                                        refine g_aload_n (i := 2) F dL_law_1116 rfl rfl ?_
                                                        refine g_aload_n (i := 0) F dL_law_1117 rfl rfl ?_
                                                        refine g_iload_n (i := 3) F dL_law_1118 rfl rfl ?_
                                                        refine g_iconst F dL_law_1119 (v := 1) (by decide) ?_
                                                        refine g_iadd F dL_law_1120 ?_
                                                        obtain ⟨v439, e440, h⟩ := bind_at h
                                                        refine g_sldr F hX9 hb0 e440 dL_law_1121 ?_
                                                        refine g_aload_n (i := 0) F dL_law_1122 rfl rfl ?_
                                                        refine g_iload_n (i := 3) F dL_law_1123 rfl rfl ?_
                                                        refine g_iconst F dL_law_1124 (v := 2) (by decide) ?_
                                                        refine g_iadd F dL_law_1125 ?_
                                                        obtain ⟨v441, e442, h⟩ := bind_at h
                                                        refine g_sldr F hX9 hb0 e442 dL_law_1126 ?_
                                                        refine g_aload_n (i := 0) F dL_law_1127 rfl rfl ?_
                                                        refine g_iload_n (i := 3) F dL_law_1128 rfl rfl ?_
                                                        refine g_iconst F dL_law_1129 (v := 3) (by decide) ?_
                                                        refine g_iadd F dL_law_1130 ?_
                                                        obtain ⟨v443, e444, h⟩ := bind_at h
                                                        refine g_sldr F hX9 hb0 e444 dL_law_1131 ?_
                                                        obtain ⟨v446, M445, e447, h⟩ := bd2_at h
                                                        refine g_callWI F (id := 65) (cells_at (kd_hidM (show kd 65 = 10 from rfl) (by decide)) (xc_10 rfl)) (ci := 10) rfl rfl rfl (c_X10_size_ G0 e447) wd_37_3 wd_37_0 wd_37_1 wd_37_2 wd_1_5 ⟨by decide, by decide⟩ (nn := 3) (by decide) (As := [.int v439, .int v441, .int v443]) rfl rfl (Nat.le_of_ble_eq_true rfl) (by decide) (by decide) ⟨by show _ ≤ 600000; omega, by show _ ≤ 7302250; omega⟩ dL_law_1132 ?_
                                                        refine g_icmp_eq (tgt := 2032) F dL_law_1135 (by decide) h (fun a448 h => ?_) (fun a448 h => ?_)
                                                        · refine g_iinc (i := 3) (v := (l3 + (7 : Int32))) (lv' := [(3, .int (l3 + (7 : Int32))), (0, .ref b0), (1, .ref (ev 0 + 0)), (2, .ref (ev 0 + 65))]) F dL_law_2032 rfl rfl (by decide) rfl ?_
                                                          refine g_goto (tgt := 18) F dL_law_2035 (by decide) ?_
                                                          refine g_lv (lv' := [(0, .ref b0), (1, .ref (ev 0 + 0)), (2, .ref (ev 0 + 65)), (3, .int (l3 + (7 : Int32)))]) ⟨rfl, rfl, rfl, rfl, trivial⟩ ?_
                                                          exact ih18 _ _ _ _ _ _ (by omega) (by omega) h
                                                        · refine g_iconst F dL_law_1138 (v := 0) (by decide) ?_
                                                          have hv9 := Option.some.inj h
                                                          exact g_law1 F hb9 hr9 hl9 hv9 (by omega) (by omega) dL_law_1139
                                                      · refine ite_at h (fun a29 h => ?_) (fun a29 h => ?_)
                                                        · refine g_tsw (k := 24) (off := 1107) (tgt := 1140) F a29 dL_law_33 (by decide) (by decide) (by decide) (by decide) ?_
                                                          refine g_aload_n (i := 1) F dL_law_1140 rfl rfl ?_
                                                          refine g_aload_n (i := 0) F dL_law_1141 rfl rfl ?_
                                                          refine g_iload_n (i := 3) F dL_law_1142 rfl rfl ?_
                                                          refine g_iconst F dL_law_1143 (v := 1) (by decide) ?_
                                                          refine g_iadd F dL_law_1144 ?_
                                                          obtain ⟨v449, e450, h⟩ := bind_at h
                                                          refine g_sldr F hX9 hb0 e450 dL_law_1145 ?_
                                                          refine g_aload_n (i := 0) F dL_law_1146 rfl rfl ?_
                                                          refine g_iload_n (i := 3) F dL_law_1147 rfl rfl ?_
                                                          refine g_iconst F dL_law_1148 (v := 2) (by decide) ?_
                                                          refine g_iadd F dL_law_1149 ?_
                                                          obtain ⟨v451, e452, h⟩ := bind_at h
                                                          refine g_sldr F hX9 hb0 e452 dL_law_1150 ?_
                                                          refine g_aload_n (i := 0) F dL_law_1151 rfl rfl ?_
                                                          refine g_iload_n (i := 3) F dL_law_1152 rfl rfl ?_
                                                          refine g_iconst F dL_law_1153 (v := 3) (by decide) ?_
                                                          refine g_iadd F dL_law_1154 ?_
                                                          obtain ⟨v453, e454, h⟩ := bind_at h
                                                          refine g_sldr F hX9 hb0 e454 dL_law_1155 ?_
                                                          refine g_callWI F (id := 0) (cells_at (kd_lit (i := 0) (by decide)) (xc_9 rfl)) (ci := 9) rfl rfl rfl (c_X9_line G0 (X := X) (M := M) (nb := (nb + 1)) rfl) wd_37_7 wd_37_4 wd_37_5 wd_37_6 wd_1_2 ⟨by decide, by decide⟩ (nn := 3) (by decide) (As := [.int v449, .int v451, .int v453]) rfl rfl (Nat.le_of_ble_eq_true rfl) (by decide) (by decide) ⟨by show _ ≤ 600000; omega, by show _ ≤ 7302250; omega⟩ dL_law_1156 ?_
                                                          refine g_aload_n (i := 2) F dL_law_1159 rfl rfl ?_
                                                          refine g_aload_n (i := 0) F dL_law_1160 rfl rfl ?_
                                                          refine g_iload_n (i := 3) F dL_law_1161 rfl rfl ?_
                                                          refine g_iconst F dL_law_1162 (v := 1) (by decide) ?_
                                                          refine g_iadd F dL_law_1163 ?_
                                                          obtain ⟨v457, e458, h⟩ := bind_at h
                                                          refine g_sldr F hX9 hb0 e458 dL_law_1164 ?_
                                                          refine g_aload_n (i := 0) F dL_law_1165 rfl rfl ?_
                                                          refine g_iload_n (i := 3) F dL_law_1166 rfl rfl ?_
                                                          refine g_iconst F dL_law_1167 (v := 2) (by decide) ?_
                                                          refine g_iadd F dL_law_1168 ?_
                                                          obtain ⟨v459, e460, h⟩ := bind_at h
                                                          refine g_sldr F hX9 hb0 e460 dL_law_1169 ?_
                                                          refine g_aload_n (i := 0) F dL_law_1170 rfl rfl ?_
                                                          refine g_iload_n (i := 3) F dL_law_1171 rfl rfl ?_
                                                          refine g_iconst F dL_law_1172 (v := 3) (by decide) ?_
                                                          refine g_iadd F dL_law_1173 ?_
                                                          obtain ⟨v461, e462, h⟩ := bind_at h
                                                          refine g_sldr F hX9 hb0 e462 dL_law_1174 ?_
                                                          refine g_callWI F (id := 65) (cells_at (kd_hidM (show kd 65 = 10 from rfl) (by decide)) (xc_10 rfl)) (ci := 10) rfl rfl rfl (c_X10_line G0 (X := X) (M := M) (nb := nb) rfl) wd_37_15 wd_37_12 wd_37_13 wd_37_14 wd_1_5 ⟨by decide, by decide⟩ (nn := 3) (by decide) (As := [.int v457, .int v459, .int v461]) rfl rfl (Nat.le_of_ble_eq_true rfl) (by decide) (by decide) ⟨by show _ ≤ 600000; omega, by show _ ≤ 7302250; omega⟩ dL_law_1175 ?_
                                                          refine g_icmp_eq (tgt := 2032) F dL_law_1178 (by decide) h (fun a465 h => ?_) (fun a465 h => ?_)
                                                          · refine g_iinc (i := 3) (v := (l3 + (7 : Int32))) (lv' := [(3, .int (l3 + (7 : Int32))), (0, .ref b0), (1, .ref (ev 0 + 0)), (2, .ref (ev 0 + 65))]) F dL_law_2032 rfl rfl (by decide) rfl ?_
                                                            refine g_goto (tgt := 18) F dL_law_2035 (by decide) ?_
                                                            refine g_lv (lv' := [(0, .ref b0), (1, .ref (ev 0 + 0)), (2, .ref (ev 0 + 65)), (3, .int (l3 + (7 : Int32)))]) ⟨rfl, rfl, rfl, rfl, trivial⟩ ?_
                                                            exact ih18 _ _ _ _ _ _ (by omega) (by omega) h
                                                          · refine g_iconst F dL_law_1181 (v := 0) (by decide) ?_
                                                            have hv9 := Option.some.inj h
                                                            exact g_law1 F hb9 hr9 hl9 hv9 (by omega) (by omega) dL_law_1182
                                                        · refine ite_at h (fun a30 h => ?_) (fun a30 h => ?_)
                                                          · refine g_tsw (k := 25) (off := 1150) (tgt := 1183) F a30 dL_law_33 (by decide) (by decide) (by decide) (by decide) ?_
                                                            refine g_aload_n (i := 1) F dL_law_1183 rfl rfl ?_
                                                            refine g_aload_n (i := 0) F dL_law_1184 rfl rfl ?_
                                                            refine g_iload_n (i := 3) F dL_law_1185 rfl rfl ?_
                                                            refine g_iconst F dL_law_1186 (v := 1) (by decide) ?_
                                                            refine g_iadd F dL_law_1187 ?_
                                                            obtain ⟨v466, e467, h⟩ := bind_at h
                                                            refine g_sldr F hX9 hb0 e467 dL_law_1188 ?_
                                                            refine g_aload_n (i := 0) F dL_law_1189 rfl rfl ?_
                                                            refine g_iload_n (i := 3) F dL_law_1190 rfl rfl ?_
                                                            refine g_iconst F dL_law_1191 (v := 2) (by decide) ?_
                                                            refine g_iadd F dL_law_1192 ?_
                                                            obtain ⟨v468, e469, h⟩ := bind_at h
                                                            refine g_sldr F hX9 hb0 e469 dL_law_1193 ?_
                                                            refine g_aload_n (i := 0) F dL_law_1194 rfl rfl ?_
                                                            refine g_iload_n (i := 3) F dL_law_1195 rfl rfl ?_
                                                            refine g_iconst F dL_law_1196 (v := 3) (by decide) ?_
                                                            refine g_iadd F dL_law_1197 ?_
                                                            obtain ⟨v470, e471, h⟩ := bind_at h
                                                            refine g_sldr F hX9 hb0 e471 dL_law_1198 ?_
                                                            refine g_aload_n (i := 0) F dL_law_1199 rfl rfl ?_
                                                            refine g_iload_n (i := 3) F dL_law_1200 rfl rfl ?_
                                                            refine g_iconst F dL_law_1201 (v := 4) (by decide) ?_
                                                            refine g_iadd F dL_law_1202 ?_
                                                            obtain ⟨v472, e473, h⟩ := bind_at h
                                                            refine g_sldr F hX9 hb0 e473 dL_law_1203 ?_
                                                            obtain ⟨v475, X474, e476, h⟩ := bd2_at h
                                                            refine g_callWI F (id := 0) (cells_at (kd_lit (i := 0) (by decide)) (xc_9 rfl)) (ci := 9) rfl rfl rfl (c_X9_marks G0 e476) wd_37_23 wd_37_20 wd_37_21 wd_37_22 wd_1_2 ⟨by decide, by decide⟩ (nn := 4) (by decide) (As := [.int v466, .int v468, .int v470, .int v472]) rfl rfl (Nat.le_of_ble_eq_true rfl) (by decide) (by decide) ⟨by show _ ≤ 600000; omega, by show _ ≤ 7302250; omega⟩ dL_law_1204 ?_
                                                            refine g_aload_n (i := 2) F dL_law_1207 rfl rfl ?_
                                                            refine g_aload_n (i := 0) F dL_law_1208 rfl rfl ?_
                                                            refine g_iload_n (i := 3) F dL_law_1209 rfl rfl ?_
                                                            refine g_iconst F dL_law_1210 (v := 1) (by decide) ?_
                                                            refine g_iadd F dL_law_1211 ?_
                                                            obtain ⟨v477, e478, h⟩ := bind_at h
                                                            refine g_sldr F hX9 hb0 e478 dL_law_1212 ?_
                                                            refine g_aload_n (i := 0) F dL_law_1213 rfl rfl ?_
                                                            refine g_iload_n (i := 3) F dL_law_1214 rfl rfl ?_
                                                            refine g_iconst F dL_law_1215 (v := 2) (by decide) ?_
                                                            refine g_iadd F dL_law_1216 ?_
                                                            obtain ⟨v479, e480, h⟩ := bind_at h
                                                            refine g_sldr F hX9 hb0 e480 dL_law_1217 ?_
                                                            refine g_aload_n (i := 0) F dL_law_1218 rfl rfl ?_
                                                            refine g_iload_n (i := 3) F dL_law_1219 rfl rfl ?_
                                                            refine g_iconst F dL_law_1220 (v := 3) (by decide) ?_
                                                            refine g_iadd F dL_law_1221 ?_
                                                            obtain ⟨v481, e482, h⟩ := bind_at h
                                                            refine g_sldr F hX9 hb0 e482 dL_law_1222 ?_
                                                            refine g_aload_n (i := 0) F dL_law_1223 rfl rfl ?_
                                                            refine g_iload_n (i := 3) F dL_law_1224 rfl rfl ?_
                                                            refine g_iconst F dL_law_1225 (v := 4) (by decide) ?_
                                                            refine g_iadd F dL_law_1226 ?_
                                                            obtain ⟨v483, e484, h⟩ := bind_at h
                                                            refine g_sldr F hX9 hb0 e484 dL_law_1227 ?_
                                                            obtain ⟨v486, M485, e487, h⟩ := bd2_at h
                                                            refine g_callWI F (id := 65) (cells_at (kd_hidM (show kd 65 = 10 from rfl) (by decide)) (xc_10 rfl)) (ci := 10) rfl rfl rfl (c_X10_marks G0 e487) wd_38_4 wd_38_1 wd_38_2 wd_38_3 wd_1_5 ⟨by decide, by decide⟩ (nn := 4) (by decide) (As := [.int v477, .int v479, .int v481, .int v483]) rfl rfl (Nat.le_of_ble_eq_true rfl) (by decide) (by decide) ⟨by show _ ≤ 600000; omega, by show _ ≤ 7302250; omega⟩ dL_law_1228 ?_
                                                            refine g_icmp_eq (tgt := 2032) F dL_law_1231 (by decide) h (fun a488 h => ?_) (fun a488 h => ?_)
                                                            · refine g_iinc (i := 3) (v := (l3 + (7 : Int32))) (lv' := [(3, .int (l3 + (7 : Int32))), (0, .ref b0), (1, .ref (ev 0 + 0)), (2, .ref (ev 0 + 65))]) F dL_law_2032 rfl rfl (by decide) rfl ?_
                                                              refine g_goto (tgt := 18) F dL_law_2035 (by decide) ?_
                                                              refine g_lv (lv' := [(0, .ref b0), (1, .ref (ev 0 + 0)), (2, .ref (ev 0 + 65)), (3, .int (l3 + (7 : Int32)))]) ⟨rfl, rfl, rfl, rfl, trivial⟩ ?_
                                                              exact ih18 _ _ _ _ _ _ (by omega) (by omega) h
                                                            · refine g_iconst F dL_law_1234 (v := 0) (by decide) ?_
                                                              have hv9 := Option.some.inj h
                                                              exact g_law1 F hb9 hr9 hl9 hv9 (by omega) (by omega) dL_law_1235
                                                          · refine ite_at h (fun a31 h => ?_) (fun a31 h => ?_)
                                                            · refine g_tsw (k := 26) (off := 1203) (tgt := 1236) F a31 dL_law_33 (by decide) (by decide) (by decide) (by decide) ?_
                                                              refine g_aload_n (i := 1) F dL_law_1236 rfl rfl ?_
                                                              refine g_aload_n (i := 0) F dL_law_1237 rfl rfl ?_
                                                              refine g_iload_n (i := 3) F dL_law_1238 rfl rfl ?_
                                                              refine g_iconst F dL_law_1239 (v := 1) (by decide) ?_
                                                              refine g_iadd F dL_law_1240 ?_
                                                              obtain ⟨v489, e490, h⟩ := bind_at h
                                                              refine g_sldr F hX9 hb0 e490 dL_law_1241 ?_
                                                              refine g_aload_n (i := 0) F dL_law_1242 rfl rfl ?_
                                                              refine g_iload_n (i := 3) F dL_law_1243 rfl rfl ?_
                                                              refine g_iconst F dL_law_1244 (v := 2) (by decide) ?_
                                                              refine g_iadd F dL_law_1245 ?_
                                                              obtain ⟨v491, e492, h⟩ := bind_at h
                                                              refine g_sldr F hX9 hb0 e492 dL_law_1246 ?_
                                                              refine g_aload_n (i := 0) F dL_law_1247 rfl rfl ?_
                                                              refine g_iload_n (i := 3) F dL_law_1248 rfl rfl ?_
                                                              refine g_iconst F dL_law_1249 (v := 3) (by decide) ?_
                                                              refine g_iadd F dL_law_1250 ?_
                                                              obtain ⟨v493, e494, h⟩ := bind_at h
                                                              refine g_sldr F hX9 hb0 e494 dL_law_1251 ?_
                                                              obtain ⟨v496, X495, e497, h⟩ := bd2_at h
                                                              refine g_callWI F (id := 0) (cells_at (kd_lit (i := 0) (by decide)) (xc_9 rfl)) (ci := 9) rfl rfl rfl (c_X9_next G0 e497) wd_38_8 wd_38_5 wd_38_6 wd_38_7 wd_1_2 ⟨by decide, by decide⟩ (nn := 3) (by decide) (As := [.int v489, .int v491, .int v493]) rfl rfl (Nat.le_of_ble_eq_true rfl) (by decide) (by decide) ⟨by show _ ≤ 600000; omega, by show _ ≤ 7302250; omega⟩ dL_law_1252 ?_
                                                              refine g_aload_n (i := 2) F dL_law_1255 rfl rfl ?_
                                                              refine g_aload_n (i := 0) F dL_law_1256 rfl rfl ?_
                                                              refine g_iload_n (i := 3) F dL_law_1257 rfl rfl ?_
                                                              refine g_iconst F dL_law_1258 (v := 1) (by decide) ?_
                                                              refine g_iadd F dL_law_1259 ?_
                                                              obtain ⟨v498, e499, h⟩ := bind_at h
                                                              refine g_sldr F hX9 hb0 e499 dL_law_1260 ?_
                                                              refine g_aload_n (i := 0) F dL_law_1261 rfl rfl ?_
                                                              refine g_iload_n (i := 3) F dL_law_1262 rfl rfl ?_
                                                              refine g_iconst F dL_law_1263 (v := 2) (by decide) ?_
                                                              refine g_iadd F dL_law_1264 ?_
                                                              obtain ⟨v500, e501, h⟩ := bind_at h
                                                              refine g_sldr F hX9 hb0 e501 dL_law_1265 ?_
                                                              refine g_aload_n (i := 0) F dL_law_1266 rfl rfl ?_
                                                              refine g_iload_n (i := 3) F dL_law_1267 rfl rfl ?_
                                                              refine g_iconst F dL_law_1268 (v := 3) (by decide) ?_
                                                              refine g_iadd F dL_law_1269 ?_
                                                              obtain ⟨v502, e503, h⟩ := bind_at h
                                                              refine g_sldr F hX9 hb0 e503 dL_law_1270 ?_
                                                              obtain ⟨v505, M504, e506, h⟩ := bd2_at h
                                                              refine g_callWI F (id := 65) (cells_at (kd_hidM (show kd 65 = 10 from rfl) (by decide)) (xc_10 rfl)) (ci := 10) rfl rfl rfl (c_X10_next_ G0 e506) wd_38_22 wd_38_19 wd_38_20 wd_38_21 wd_1_5 ⟨by decide, by decide⟩ (nn := 3) (by decide) (As := [.int v498, .int v500, .int v502]) rfl rfl (Nat.le_of_ble_eq_true rfl) (by decide) (by decide) ⟨by show _ ≤ 600000; omega, by show _ ≤ 7302250; omega⟩ dL_law_1271 ?_
                                                              refine g_icmp_eq (tgt := 2032) F dL_law_1274 (by decide) h (fun a507 h => ?_) (fun a507 h => ?_)
                                                              · refine g_iinc (i := 3) (v := (l3 + (7 : Int32))) (lv' := [(3, .int (l3 + (7 : Int32))), (0, .ref b0), (1, .ref (ev 0 + 0)), (2, .ref (ev 0 + 65))]) F dL_law_2032 rfl rfl (by decide) rfl ?_
                                                                refine g_goto (tgt := 18) F dL_law_2035 (by decide) ?_
                                                                refine g_lv (lv' := [(0, .ref b0), (1, .ref (ev 0 + 0)), (2, .ref (ev 0 + 65)), (3, .int (l3 + (7 : Int32)))]) ⟨rfl, rfl, rfl, rfl, trivial⟩ ?_
                                                                exact ih18 _ _ _ _ _ _ (by omega) (by omega) h
                                                              · refine g_iconst F dL_law_1277 (v := 0) (by decide) ?_
                                                                have hv9 := Option.some.inj h
                                                                exact g_law1 F hb9 hr9 hl9 hv9 (by omega) (by omega) dL_law_1278
                                                            · refine ite_at h (fun a32 h => ?_) (fun a32 h => ?_)
                                                              · refine g_tsw (k := 27) (off := 1246) (tgt := 1279) F a32 dL_law_33 (by decide) (by decide) (by decide) (by decide) ?_
                                                                refine g_aload_n (i := 1) F dL_law_1279 rfl rfl ?_
                                                                refine g_aload_n (i := 0) F dL_law_1280 rfl rfl ?_
                                                                refine g_iload_n (i := 3) F dL_law_1281 rfl rfl ?_
                                                                refine g_iconst F dL_law_1282 (v := 1) (by decide) ?_
                                                                refine g_iadd F dL_law_1283 ?_
                                                                obtain ⟨v508, e509, h⟩ := bind_at h
                                                                refine g_sldr F hX9 hb0 e509 dL_law_1284 ?_
                                                                refine g_aload_n (i := 0) F dL_law_1285 rfl rfl ?_
                                                                refine g_iload_n (i := 3) F dL_law_1286 rfl rfl ?_
                                                                refine g_iconst F dL_law_1287 (v := 2) (by decide) ?_
                                                                refine g_iadd F dL_law_1288 ?_
                                                                obtain ⟨v510, e511, h⟩ := bind_at h
                                                                refine g_sldr F hX9 hb0 e511 dL_law_1289 ?_
                                                                refine g_aload_n (i := 0) F dL_law_1290 rfl rfl ?_
                                                                refine g_iload_n (i := 3) F dL_law_1291 rfl rfl ?_
                                                                refine g_iconst F dL_law_1292 (v := 3) (by decide) ?_
                                                                refine g_iadd F dL_law_1293 ?_
                                                                obtain ⟨v512, e513, h⟩ := bind_at h
                                                                refine g_sldr F hX9 hb0 e513 dL_law_1294 ?_
                                                                refine g_aload_n (i := 0) F dL_law_1295 rfl rfl ?_
                                                                refine g_iload_n (i := 3) F dL_law_1296 rfl rfl ?_
                                                                refine g_iconst F dL_law_1297 (v := 4) (by decide) ?_
                                                                refine g_iadd F dL_law_1298 ?_
                                                                obtain ⟨v514, e515, h⟩ := bind_at h
                                                                refine g_sldr F hX9 hb0 e515 dL_law_1299 ?_
                                                                obtain ⟨v517, X516, e518, h⟩ := bd2_at h
                                                                refine g_callWI F (id := 0) (cells_at (kd_lit (i := 0) (by decide)) (xc_9 rfl)) (ci := 9) rfl rfl rfl (c_X9_two G0 e518) wd_39_10 wd_39_7 wd_39_8 wd_39_9 wd_1_2 ⟨by decide, by decide⟩ (nn := 4) (by decide) (As := [.int v508, .int v510, .int v512, .int v514]) rfl rfl (Nat.le_of_ble_eq_true rfl) (by decide) (by decide) ⟨by show _ ≤ 600000; omega, by show _ ≤ 7302250; omega⟩ dL_law_1300 ?_
                                                                refine g_aload_n (i := 2) F dL_law_1303 rfl rfl ?_
                                                                refine g_aload_n (i := 0) F dL_law_1304 rfl rfl ?_
                                                                refine g_iload_n (i := 3) F dL_law_1305 rfl rfl ?_
                                                                refine g_iconst F dL_law_1306 (v := 1) (by decide) ?_
                                                                refine g_iadd F dL_law_1307 ?_
                                                                obtain ⟨v519, e520, h⟩ := bind_at h
                                                                refine g_sldr F hX9 hb0 e520 dL_law_1308 ?_
                                                                refine g_aload_n (i := 0) F dL_law_1309 rfl rfl ?_
                                                                refine g_iload_n (i := 3) F dL_law_1310 rfl rfl ?_
                                                                refine g_iconst F dL_law_1311 (v := 2) (by decide) ?_
                                                                refine g_iadd F dL_law_1312 ?_
                                                                obtain ⟨v521, e522, h⟩ := bind_at h
                                                                refine g_sldr F hX9 hb0 e522 dL_law_1313 ?_
                                                                refine g_aload_n (i := 0) F dL_law_1314 rfl rfl ?_
                                                                refine g_iload_n (i := 3) F dL_law_1315 rfl rfl ?_
                                                                refine g_iconst F dL_law_1316 (v := 3) (by decide) ?_
                                                                refine g_iadd F dL_law_1317 ?_
                                                                obtain ⟨v523, e524, h⟩ := bind_at h
                                                                refine g_sldr F hX9 hb0 e524 dL_law_1318 ?_
                                                                refine g_aload_n (i := 0) F dL_law_1319 rfl rfl ?_
                                                                refine g_iload_n (i := 3) F dL_law_1320 rfl rfl ?_
                                                                refine g_iconst F dL_law_1321 (v := 4) (by decide) ?_
                                                                refine g_iadd F dL_law_1322 ?_
                                                                obtain ⟨v525, e526, h⟩ := bind_at h
                                                                refine g_sldr F hX9 hb0 e526 dL_law_1323 ?_
                                                                obtain ⟨v528, M527, e529, h⟩ := bd2_at h
                                                                refine g_callWI F (id := 65) (cells_at (kd_hidM (show kd 65 = 10 from rfl) (by decide)) (xc_10 rfl)) (ci := 10) rfl rfl rfl (c_X10_two_ G0 e529) wd_39_23 wd_39_20 wd_39_21 wd_39_22 wd_1_5 ⟨by decide, by decide⟩ (nn := 4) (by decide) (As := [.int v519, .int v521, .int v523, .int v525]) rfl rfl (Nat.le_of_ble_eq_true rfl) (by decide) (by decide) ⟨by show _ ≤ 600000; omega, by show _ ≤ 7302250; omega⟩ dL_law_1324 ?_
                                                                refine g_icmp_eq (tgt := 2032) F dL_law_1327 (by decide) h (fun a530 h => ?_) (fun a530 h => ?_)
                                                                · refine g_iinc (i := 3) (v := (l3 + (7 : Int32))) (lv' := [(3, .int (l3 + (7 : Int32))), (0, .ref b0), (1, .ref (ev 0 + 0)), (2, .ref (ev 0 + 65))]) F dL_law_2032 rfl rfl (by decide) rfl ?_
                                                                  refine g_goto (tgt := 18) F dL_law_2035 (by decide) ?_
                                                                  refine g_lv (lv' := [(0, .ref b0), (1, .ref (ev 0 + 0)), (2, .ref (ev 0 + 65)), (3, .int (l3 + (7 : Int32)))]) ⟨rfl, rfl, rfl, rfl, trivial⟩ ?_
                                                                  exact ih18 _ _ _ _ _ _ (by omega) (by omega) h
                                                                · refine g_iconst F dL_law_1330 (v := 0) (by decide) ?_
                                                                  have hv9 := Option.some.inj h
                                                                  exact g_law1 F hb9 hr9 hl9 hv9 (by omega) (by omega) dL_law_1331
                                                              · refine ite_at h (fun a33 h => ?_) (fun a33 h => ?_)
                                                                · refine g_tsw (k := 28) (off := 1299) (tgt := 1332) F a33 dL_law_33 (by decide) (by decide) (by decide) (by decide) ?_
                                                                  refine g_aload_n (i := 1) F dL_law_1332 rfl rfl ?_
                                                                  refine g_aload_n (i := 0) F dL_law_1333 rfl rfl ?_
                                                                  refine g_iload_n (i := 3) F dL_law_1334 rfl rfl ?_
                                                                  refine g_iconst F dL_law_1335 (v := 1) (by decide) ?_
                                                                  refine g_iadd F dL_law_1336 ?_
                                                                  obtain ⟨v531, e532, h⟩ := bind_at h
                                                                  refine g_sldr F hX9 hb0 e532 dL_law_1337 ?_
                                                                  refine g_aload_n (i := 0) F dL_law_1338 rfl rfl ?_
                                                                  refine g_iload_n (i := 3) F dL_law_1339 rfl rfl ?_
                                                                  refine g_iconst F dL_law_1340 (v := 2) (by decide) ?_
                                                                  refine g_iadd F dL_law_1341 ?_
                                                                  obtain ⟨v533, e534, h⟩ := bind_at h
                                                                  refine g_sldr F hX9 hb0 e534 dL_law_1342 ?_
                                                                  obtain ⟨v536, X535, e537, h⟩ := bd2_at h
                                                                  refine g_callWI F (id := 0) (cells_at (kd_lit (i := 0) (by decide)) (xc_9 rfl)) (ci := 9) rfl rfl rfl (c_X9_angle G0 e537) wd_40_11 wd_40_8 wd_40_9 wd_40_10 wd_1_2 ⟨by decide, by decide⟩ (nn := 2) (by decide) (As := [.int v531, .int v533]) rfl rfl (Nat.le_of_ble_eq_true rfl) (by decide) (by decide) ⟨by show _ ≤ 600000; omega, by show _ ≤ 7302250; omega⟩ dL_law_1343 ?_
                                                                  refine g_aload_n (i := 2) F dL_law_1346 rfl rfl ?_
                                                                  refine g_aload_n (i := 0) F dL_law_1347 rfl rfl ?_
                                                                  refine g_iload_n (i := 3) F dL_law_1348 rfl rfl ?_
                                                                  refine g_iconst F dL_law_1349 (v := 1) (by decide) ?_
                                                                  refine g_iadd F dL_law_1350 ?_
                                                                  obtain ⟨v538, e539, h⟩ := bind_at h
                                                                  refine g_sldr F hX9 hb0 e539 dL_law_1351 ?_
                                                                  refine g_aload_n (i := 0) F dL_law_1352 rfl rfl ?_
                                                                  refine g_iload_n (i := 3) F dL_law_1353 rfl rfl ?_
                                                                  refine g_iconst F dL_law_1354 (v := 2) (by decide) ?_
                                                                  refine g_iadd F dL_law_1355 ?_
                                                                  obtain ⟨v540, e541, h⟩ := bind_at h
                                                                  refine g_sldr F hX9 hb0 e541 dL_law_1356 ?_
                                                                  obtain ⟨v543, M542, e544, h⟩ := bd2_at h
                                                                  refine g_callWI F (id := 65) (cells_at (kd_hidM (show kd 65 = 10 from rfl) (by decide)) (xc_10 rfl)) (ci := 10) rfl rfl rfl (c_X10_angle G0 e544) wd_40_19 wd_40_16 wd_40_17 wd_40_18 wd_1_5 ⟨by decide, by decide⟩ (nn := 2) (by decide) (As := [.int v538, .int v540]) rfl rfl (Nat.le_of_ble_eq_true rfl) (by decide) (by decide) ⟨by show _ ≤ 600000; omega, by show _ ≤ 7302250; omega⟩ dL_law_1357 ?_
                                                                  refine g_icmp_eq (tgt := 2032) F dL_law_1360 (by decide) h (fun a545 h => ?_) (fun a545 h => ?_)
                                                                  · refine g_iinc (i := 3) (v := (l3 + (7 : Int32))) (lv' := [(3, .int (l3 + (7 : Int32))), (0, .ref b0), (1, .ref (ev 0 + 0)), (2, .ref (ev 0 + 65))]) F dL_law_2032 rfl rfl (by decide) rfl ?_
                                                                    refine g_goto (tgt := 18) F dL_law_2035 (by decide) ?_
                                                                    refine g_lv (lv' := [(0, .ref b0), (1, .ref (ev 0 + 0)), (2, .ref (ev 0 + 65)), (3, .int (l3 + (7 : Int32)))]) ⟨rfl, rfl, rfl, rfl, trivial⟩ ?_
                                                                    exact ih18 _ _ _ _ _ _ (by omega) (by omega) h
                                                                  · refine g_iconst F dL_law_1363 (v := 0) (by decide) ?_
                                                                    have hv9 := Option.some.inj h
                                                                    exact g_law1 F hb9 hr9 hl9 hv9 (by omega) (by omega) dL_law_1364
                                                                · refine ite_at h (fun a34 h => ?_) (fun a34 h => ?_)
                                                                  · refine g_tsw (k := 29) (off := 1332) (tgt := 1365) F a34 dL_law_33 (by decide) (by decide) (by decide) (by decide) ?_
                                                                    refine g_aload_n (i := 1) F dL_law_1365 rfl rfl ?_
                                                                    refine g_aload_n (i := 0) F dL_law_1366 rfl rfl ?_
                                                                    refine g_iload_n (i := 3) F dL_law_1367 rfl rfl ?_
                                                                    refine g_iconst F dL_law_1368 (v := 1) (by decide) ?_
                                                                    refine g_iadd F dL_law_1369 ?_
                                                                    obtain ⟨v546, e547, h⟩ := bind_at h
                                                                    refine g_sldr F hX9 hb0 e547 dL_law_1370 ?_
                                                                    refine g_aload_n (i := 0) F dL_law_1371 rfl rfl ?_
                                                                    refine g_iload_n (i := 3) F dL_law_1372 rfl rfl ?_
                                                                    refine g_iconst F dL_law_1373 (v := 2) (by decide) ?_
                                                                    refine g_iadd F dL_law_1374 ?_
                                                                    obtain ⟨v548, e549, h⟩ := bind_at h
                                                                    refine g_sldr F hX9 hb0 e549 dL_law_1375 ?_
                                                                    obtain ⟨v551, X550, e552, h⟩ := bd2_at h
                                                                    refine g_callWL F (id := 0) (cells_at (kd_lit (i := 0) (by decide)) (xc_9 rfl)) (ci := 9) rfl rfl rfl (c_X9_turns G0 e552) wd_40_23 wd_40_20 wd_40_21 wd_40_22 wd_1_2 ⟨by decide, by decide⟩ (nn := 2) (by decide) (As := [.int v546, .int v548]) rfl rfl (Nat.le_of_ble_eq_true rfl) (by decide) (by decide) ⟨by show _ ≤ 600000; omega, by show _ ≤ 7302250; omega⟩ dL_law_1376 ?_
                                                                    refine g_aload_n (i := 2) F dL_law_1379 rfl rfl ?_
                                                                    refine g_aload_n (i := 0) F dL_law_1380 rfl rfl ?_
                                                                    refine g_iload_n (i := 3) F dL_law_1381 rfl rfl ?_
                                                                    refine g_iconst F dL_law_1382 (v := 1) (by decide) ?_
                                                                    refine g_iadd F dL_law_1383 ?_
                                                                    obtain ⟨v553, e554, h⟩ := bind_at h
                                                                    refine g_sldr F hX9 hb0 e554 dL_law_1384 ?_
                                                                    refine g_aload_n (i := 0) F dL_law_1385 rfl rfl ?_
                                                                    refine g_iload_n (i := 3) F dL_law_1386 rfl rfl ?_
                                                                    refine g_iconst F dL_law_1387 (v := 2) (by decide) ?_
                                                                    refine g_iadd F dL_law_1388 ?_
                                                                    obtain ⟨v555, e556, h⟩ := bind_at h
                                                                    refine g_sldr F hX9 hb0 e556 dL_law_1389 ?_
                                                                    obtain ⟨v558, M557, e559, h⟩ := bd2_at h
                                                                    refine g_callWL F (id := 65) (cells_at (kd_hidM (show kd 65 = 10 from rfl) (by decide)) (xc_10 rfl)) (ci := 10) rfl rfl rfl (c_X10_turns G0 e559) wd_41_12 wd_41_9 wd_41_10 wd_41_11 wd_1_5 ⟨by decide, by decide⟩ (nn := 2) (by decide) (As := [.int v553, .int v555]) rfl rfl (Nat.le_of_ble_eq_true rfl) (by decide) (by decide) ⟨by show _ ≤ 600000; omega, by show _ ≤ 7302250; omega⟩ dL_law_1390 ?_
                                                                    refine g_lcmp F dL_law_1393 ?_
                                                                    refine g_if_eq (tgt := 2032) F dL_law_1394 (by decide) h (fun a560 h => ?_) (fun a560 h => ?_)
                                                                    · refine g_iinc (i := 3) (v := (l3 + (7 : Int32))) (lv' := [(3, .int (l3 + (7 : Int32))), (0, .ref b0), (1, .ref (ev 0 + 0)), (2, .ref (ev 0 + 65))]) F dL_law_2032 rfl rfl (by decide) rfl ?_
                                                                      refine g_goto (tgt := 18) F dL_law_2035 (by decide) ?_
                                                                      refine g_lv (lv' := [(0, .ref b0), (1, .ref (ev 0 + 0)), (2, .ref (ev 0 + 65)), (3, .int (l3 + (7 : Int32)))]) ⟨rfl, rfl, rfl, rfl, trivial⟩ ?_
                                                                      exact ih18 _ _ _ _ _ _ (by omega) (by omega) h
                                                                    · refine g_iconst F dL_law_1397 (v := 0) (by decide) ?_
                                                                      have hv9 := Option.some.inj h
                                                                      exact g_law1 F hb9 hr9 hl9 hv9 (by omega) (by omega) dL_law_1398
                                                                  · refine ite_at h (fun a35 h => ?_) (fun a35 h => ?_)
                                                                    · refine g_tsw (k := 30) (off := 1366) (tgt := 1399) F a35 dL_law_33 (by decide) (by decide) (by decide) (by decide) ?_
                                                                      refine g_aload_n (i := 1) F dL_law_1399 rfl rfl ?_
                                                                      refine g_aload_n (i := 0) F dL_law_1400 rfl rfl ?_
                                                                      refine g_iload_n (i := 3) F dL_law_1401 rfl rfl ?_
                                                                      refine g_iconst F dL_law_1402 (v := 1) (by decide) ?_
                                                                      refine g_iadd F dL_law_1403 ?_
                                                                      obtain ⟨v561, e562, h⟩ := bind_at h
                                                                      refine g_sldr F hX9 hb0 e562 dL_law_1404 ?_
                                                                      refine g_aload_n (i := 0) F dL_law_1405 rfl rfl ?_
                                                                      refine g_iload_n (i := 3) F dL_law_1406 rfl rfl ?_
                                                                      refine g_iconst F dL_law_1407 (v := 2) (by decide) ?_
                                                                      refine g_iadd F dL_law_1408 ?_
                                                                      obtain ⟨v563, e564, h⟩ := bind_at h
                                                                      refine g_sldr F hX9 hb0 e564 dL_law_1409 ?_
                                                                      refine g_aload_n (i := 0) F dL_law_1410 rfl rfl ?_
                                                                      refine g_iload_n (i := 3) F dL_law_1411 rfl rfl ?_
                                                                      refine g_iconst F dL_law_1412 (v := 3) (by decide) ?_
                                                                      refine g_iadd F dL_law_1413 ?_
                                                                      obtain ⟨v565, e566, h⟩ := bind_at h
                                                                      refine g_sldr F hX9 hb0 e566 dL_law_1414 ?_
                                                                      refine g_aload_n (i := 0) F dL_law_1415 rfl rfl ?_
                                                                      refine g_iload_n (i := 3) F dL_law_1416 rfl rfl ?_
                                                                      refine g_iconst F dL_law_1417 (v := 4) (by decide) ?_
                                                                      refine g_iadd F dL_law_1418 ?_
                                                                      obtain ⟨v567, e568, h⟩ := bind_at h
                                                                      refine g_sldr F hX9 hb0 e568 dL_law_1419 ?_
                                                                      obtain ⟨v570, X569, e571, h⟩ := bd2_at h
                                                                      refine g_callWI F (id := 0) (cells_at (kd_lit (i := 0) (by decide)) (xc_9 rfl)) (ci := 9) rfl rfl rfl (c_X9_trial G0 e571) wd_41_20 wd_41_17 wd_41_18 wd_41_19 wd_1_2 ⟨by decide, by decide⟩ (nn := 4) (by decide) (As := [.int v561, .int v563, .int v565, .int v567]) rfl rfl (Nat.le_of_ble_eq_true rfl) (by decide) (by decide) ⟨by show _ ≤ 600000; omega, by show _ ≤ 7302250; omega⟩ dL_law_1420 ?_
                                                                      refine g_aload_n (i := 2) F dL_law_1423 rfl rfl ?_
                                                                      refine g_aload_n (i := 0) F dL_law_1424 rfl rfl ?_
                                                                      refine g_iload_n (i := 3) F dL_law_1425 rfl rfl ?_
                                                                      refine g_iconst F dL_law_1426 (v := 1) (by decide) ?_
                                                                      refine g_iadd F dL_law_1427 ?_
                                                                      obtain ⟨v572, e573, h⟩ := bind_at h
                                                                      refine g_sldr F hX9 hb0 e573 dL_law_1428 ?_
                                                                      refine g_aload_n (i := 0) F dL_law_1429 rfl rfl ?_
                                                                      refine g_iload_n (i := 3) F dL_law_1430 rfl rfl ?_
                                                                      refine g_iconst F dL_law_1431 (v := 2) (by decide) ?_
                                                                      refine g_iadd F dL_law_1432 ?_
                                                                      obtain ⟨v574, e575, h⟩ := bind_at h
                                                                      refine g_sldr F hX9 hb0 e575 dL_law_1433 ?_
                                                                      refine g_aload_n (i := 0) F dL_law_1434 rfl rfl ?_
                                                                      refine g_iload_n (i := 3) F dL_law_1435 rfl rfl ?_
                                                                      refine g_iconst F dL_law_1436 (v := 3) (by decide) ?_
                                                                      refine g_iadd F dL_law_1437 ?_
                                                                      obtain ⟨v576, e577, h⟩ := bind_at h
                                                                      refine g_sldr F hX9 hb0 e577 dL_law_1438 ?_
                                                                      refine g_aload_n (i := 0) F dL_law_1439 rfl rfl ?_
                                                                      refine g_iload_n (i := 3) F dL_law_1440 rfl rfl ?_
                                                                      refine g_iconst F dL_law_1441 (v := 4) (by decide) ?_
                                                                      refine g_iadd F dL_law_1442 ?_
                                                                      obtain ⟨v578, e579, h⟩ := bind_at h
                                                                      refine g_sldr F hX9 hb0 e579 dL_law_1443 ?_
                                                                      obtain ⟨v581, M580, e582, h⟩ := bd2_at h
                                                                      refine g_callWI F (id := 65) (cells_at (kd_hidM (show kd 65 = 10 from rfl) (by decide)) (xc_10 rfl)) (ci := 10) rfl rfl rfl (c_X10_trial G0 e582) wd_42_5 wd_42_2 wd_42_3 wd_42_4 wd_1_5 ⟨by decide, by decide⟩ (nn := 4) (by decide) (As := [.int v572, .int v574, .int v576, .int v578]) rfl rfl (Nat.le_of_ble_eq_true rfl) (by decide) (by decide) ⟨by show _ ≤ 600000; omega, by show _ ≤ 7302250; omega⟩ dL_law_1444 ?_
                                                                      refine g_icmp_eq (tgt := 2032) F dL_law_1447 (by decide) h (fun a583 h => ?_) (fun a583 h => ?_)
                                                                      · refine g_iinc (i := 3) (v := (l3 + (7 : Int32))) (lv' := [(3, .int (l3 + (7 : Int32))), (0, .ref b0), (1, .ref (ev 0 + 0)), (2, .ref (ev 0 + 65))]) F dL_law_2032 rfl rfl (by decide) rfl ?_
                                                                        refine g_goto (tgt := 18) F dL_law_2035 (by decide) ?_
                                                                        refine g_lv (lv' := [(0, .ref b0), (1, .ref (ev 0 + 0)), (2, .ref (ev 0 + 65)), (3, .int (l3 + (7 : Int32)))]) ⟨rfl, rfl, rfl, rfl, trivial⟩ ?_
                                                                        exact ih18 _ _ _ _ _ _ (by omega) (by omega) h
                                                                      · refine g_iconst F dL_law_1450 (v := 0) (by decide) ?_
                                                                        have hv9 := Option.some.inj h
                                                                        exact g_law1 F hb9 hr9 hl9 hv9 (by omega) (by omega) dL_law_1451
                                                                    · refine ite_at h (fun a36 h => ?_) (fun a36 h => ?_)
                                                                      · refine g_tsw (k := 31) (off := 1419) (tgt := 1452) F a36 dL_law_33 (by decide) (by decide) (by decide) (by decide) ?_
                                                                        refine g_aload_n (i := 1) F dL_law_1452 rfl rfl ?_
                                                                        refine g_aload_n (i := 0) F dL_law_1453 rfl rfl ?_
                                                                        refine g_iload_n (i := 3) F dL_law_1454 rfl rfl ?_
                                                                        refine g_iconst F dL_law_1455 (v := 1) (by decide) ?_
                                                                        refine g_iadd F dL_law_1456 ?_
                                                                        obtain ⟨v584, e585, h⟩ := bind_at h
                                                                        refine g_sldr F hX9 hb0 e585 dL_law_1457 ?_
                                                                        refine g_aload_n (i := 0) F dL_law_1458 rfl rfl ?_
                                                                        refine g_iload_n (i := 3) F dL_law_1459 rfl rfl ?_
                                                                        refine g_iconst F dL_law_1460 (v := 2) (by decide) ?_
                                                                        refine g_iadd F dL_law_1461 ?_
                                                                        obtain ⟨v586, e587, h⟩ := bind_at h
                                                                        refine g_sldr F hX9 hb0 e587 dL_law_1462 ?_
                                                                        refine g_aload_n (i := 0) F dL_law_1463 rfl rfl ?_
                                                                        refine g_iload_n (i := 3) F dL_law_1464 rfl rfl ?_
                                                                        refine g_iconst F dL_law_1465 (v := 3) (by decide) ?_
                                                                        refine g_iadd F dL_law_1466 ?_
                                                                        obtain ⟨v588, e589, h⟩ := bind_at h
                                                                        refine g_sldr F hX9 hb0 e589 dL_law_1467 ?_
                                                                        obtain ⟨v590, e591, h⟩ := bind_at h
                                                                        refine g_callWL F (id := 0) (cells_at (kd_lit (i := 0) (by decide)) (xc_9 rfl)) (ci := 9) rfl rfl rfl (c_X9_rate G0 e591) wd_42_12 wd_42_9 wd_42_10 wd_42_11 wd_1_2 ⟨by decide, by decide⟩ (nn := 3) (by decide) (As := [.int v584, .int v586, .int v588]) rfl rfl (Nat.le_of_ble_eq_true rfl) (by decide) (by decide) ⟨by show _ ≤ 600000; omega, by show _ ≤ 7302250; omega⟩ dL_law_1468 ?_
                                                                        refine g_aload_n (i := 2) F dL_law_1471 rfl rfl ?_
                                                                        refine g_aload_n (i := 0) F dL_law_1472 rfl rfl ?_
                                                                        refine g_iload_n (i := 3) F dL_law_1473 rfl rfl ?_
                                                                        refine g_iconst F dL_law_1474 (v := 1) (by decide) ?_
                                                                        refine g_iadd F dL_law_1475 ?_
                                                                        obtain ⟨v592, e593, h⟩ := bind_at h
                                                                        refine g_sldr F hX9 hb0 e593 dL_law_1476 ?_
                                                                        refine g_aload_n (i := 0) F dL_law_1477 rfl rfl ?_
                                                                        refine g_iload_n (i := 3) F dL_law_1478 rfl rfl ?_
                                                                        refine g_iconst F dL_law_1479 (v := 2) (by decide) ?_
                                                                        refine g_iadd F dL_law_1480 ?_
                                                                        obtain ⟨v594, e595, h⟩ := bind_at h
                                                                        refine g_sldr F hX9 hb0 e595 dL_law_1481 ?_
                                                                        refine g_aload_n (i := 0) F dL_law_1482 rfl rfl ?_
                                                                        refine g_iload_n (i := 3) F dL_law_1483 rfl rfl ?_
                                                                        refine g_iconst F dL_law_1484 (v := 3) (by decide) ?_
                                                                        refine g_iadd F dL_law_1485 ?_
                                                                        obtain ⟨v596, e597, h⟩ := bind_at h
                                                                        refine g_sldr F hX9 hb0 e597 dL_law_1486 ?_
                                                                        obtain ⟨v598, e599, h⟩ := bind_at h
                                                                        refine g_callWL F (id := 65) (cells_at (kd_hidM (show kd 65 = 10 from rfl) (by decide)) (xc_10 rfl)) (ci := 10) rfl rfl rfl (c_X10_rate G0 e599) wd_43_3 wd_43_0 wd_43_1 wd_43_2 wd_1_5 ⟨by decide, by decide⟩ (nn := 3) (by decide) (As := [.int v592, .int v594, .int v596]) rfl rfl (Nat.le_of_ble_eq_true rfl) (by decide) (by decide) ⟨by show _ ≤ 600000; omega, by show _ ≤ 7302250; omega⟩ dL_law_1487 ?_
                                                                        refine g_lcmp F dL_law_1490 ?_
                                                                        refine g_if_eq (tgt := 2032) F dL_law_1491 (by decide) h (fun a600 h => ?_) (fun a600 h => ?_)
                                                                        · refine g_iinc (i := 3) (v := (l3 + (7 : Int32))) (lv' := [(3, .int (l3 + (7 : Int32))), (0, .ref b0), (1, .ref (ev 0 + 0)), (2, .ref (ev 0 + 65))]) F dL_law_2032 rfl rfl (by decide) rfl ?_
                                                                          refine g_goto (tgt := 18) F dL_law_2035 (by decide) ?_
                                                                          refine g_lv (lv' := [(0, .ref b0), (1, .ref (ev 0 + 0)), (2, .ref (ev 0 + 65)), (3, .int (l3 + (7 : Int32)))]) ⟨rfl, rfl, rfl, rfl, trivial⟩ ?_
                                                                          exact ih18 _ _ _ _ _ _ (by omega) (by omega) h
                                                                        · refine g_iconst F dL_law_1494 (v := 0) (by decide) ?_
                                                                          have hv9 := Option.some.inj h
                                                                          exact g_law1 F hb9 hr9 hl9 hv9 (by omega) (by omega) dL_law_1495
                                                                      · refine ite_at h (fun a37 h => ?_) (fun a37 h => ?_)
                                                                        · refine g_tsw (k := 32) (off := 1463) (tgt := 1496) F a37 dL_law_33 (by decide) (by decide) (by decide) (by decide) ?_
                                                                          refine g_aload_n (i := 1) F dL_law_1496 rfl rfl ?_
                                                                          refine g_aload_n (i := 0) F dL_law_1497 rfl rfl ?_
                                                                          refine g_iload_n (i := 3) F dL_law_1498 rfl rfl ?_
                                                                          refine g_iconst F dL_law_1499 (v := 1) (by decide) ?_
                                                                          refine g_iadd F dL_law_1500 ?_
                                                                          obtain ⟨v601, e602, h⟩ := bind_at h
                                                                          refine g_sldr F hX9 hb0 e602 dL_law_1501 ?_
                                                                          obtain ⟨v603, e604, h⟩ := bind_at h
                                                                          refine g_callWI F (id := 0) (cells_at (kd_lit (i := 0) (by decide)) (xc_9 rfl)) (ci := 9) rfl rfl rfl (c_X9_form G0 e604) wd_43_11 wd_43_8 wd_43_9 wd_43_10 wd_1_2 ⟨by decide, by decide⟩ (nn := 1) (by decide) (As := [.int v601]) rfl rfl (Nat.le_of_ble_eq_true rfl) (by decide) (by decide) ⟨by show _ ≤ 600000; omega, by show _ ≤ 7302250; omega⟩ dL_law_1502 ?_
                                                                          refine g_aload_n (i := 2) F dL_law_1505 rfl rfl ?_
                                                                          refine g_aload_n (i := 0) F dL_law_1506 rfl rfl ?_
                                                                          refine g_iload_n (i := 3) F dL_law_1507 rfl rfl ?_
                                                                          refine g_iconst F dL_law_1508 (v := 1) (by decide) ?_
                                                                          refine g_iadd F dL_law_1509 ?_
                                                                          obtain ⟨v605, e606, h⟩ := bind_at h
                                                                          refine g_sldr F hX9 hb0 e606 dL_law_1510 ?_
                                                                          obtain ⟨v607, e608, h⟩ := bind_at h
                                                                          refine g_callWI F (id := 65) (cells_at (kd_hidM (show kd 65 = 10 from rfl) (by decide)) (xc_10 rfl)) (ci := 10) rfl rfl rfl (c_X10_form G0 e608) wd_43_21 wd_43_18 wd_43_19 wd_43_20 wd_1_5 ⟨by decide, by decide⟩ (nn := 1) (by decide) (As := [.int v605]) rfl rfl (Nat.le_of_ble_eq_true rfl) (by decide) (by decide) ⟨by show _ ≤ 600000; omega, by show _ ≤ 7302250; omega⟩ dL_law_1511 ?_
                                                                          refine g_icmp_eq (tgt := 2032) F dL_law_1514 (by decide) h (fun a609 h => ?_) (fun a609 h => ?_)
                                                                          · refine g_iinc (i := 3) (v := (l3 + (7 : Int32))) (lv' := [(3, .int (l3 + (7 : Int32))), (0, .ref b0), (1, .ref (ev 0 + 0)), (2, .ref (ev 0 + 65))]) F dL_law_2032 rfl rfl (by decide) rfl ?_
                                                                            refine g_goto (tgt := 18) F dL_law_2035 (by decide) ?_
                                                                            refine g_lv (lv' := [(0, .ref b0), (1, .ref (ev 0 + 0)), (2, .ref (ev 0 + 65)), (3, .int (l3 + (7 : Int32)))]) ⟨rfl, rfl, rfl, rfl, trivial⟩ ?_
                                                                            exact ih18 _ _ _ _ _ _ (by omega) (by omega) h
                                                                          · refine g_iconst F dL_law_1517 (v := 0) (by decide) ?_
                                                                            have hv9 := Option.some.inj h
                                                                            exact g_law1 F hb9 hr9 hl9 hv9 (by omega) (by omega) dL_law_1518
                                                                        · refine ite_at h (fun a38 h => ?_) (fun a38 h => ?_)
                                                                          · refine g_tsw (k := 33) (off := 1486) (tgt := 1519) F a38 dL_law_33 (by decide) (by decide) (by decide) (by decide) ?_
                                                                            refine g_aload_n (i := 1) F dL_law_1519 rfl rfl ?_
                                                                            obtain ⟨v610, e611, h⟩ := bind_at h
                                                                            refine g_callWI F (id := 0) (cells_at (kd_lit (i := 0) (by decide)) (xc_9 rfl)) (ci := 9) rfl rfl rfl (c_X9_joined G0 e611) wd_44_5 wd_44_2 wd_44_3 wd_44_4 wd_1_2 ⟨by decide, by decide⟩ (nn := 0) (by decide) (As := []) rfl rfl (Nat.le_of_ble_eq_true rfl) (by decide) (by decide) ⟨by show _ ≤ 600000; omega, by show _ ≤ 7302250; omega⟩ dL_law_1520 ?_
                                                                            refine g_aload_n (i := 2) F dL_law_1523 rfl rfl ?_
                                                                            obtain ⟨v612, e613, h⟩ := bind_at h
                                                                            refine g_callWI F (id := 65) (cells_at (kd_hidM (show kd 65 = 10 from rfl) (by decide)) (xc_10 rfl)) (ci := 10) rfl rfl rfl (c_X10_joined G0 e613) wd_44_14 wd_44_11 wd_44_12 wd_44_13 wd_1_5 ⟨by decide, by decide⟩ (nn := 0) (by decide) (As := []) rfl rfl (Nat.le_of_ble_eq_true rfl) (by decide) (by decide) ⟨by show _ ≤ 600000; omega, by show _ ≤ 7302250; omega⟩ dL_law_1524 ?_
                                                                            refine g_icmp_eq (tgt := 2032) F dL_law_1527 (by decide) h (fun a614 h => ?_) (fun a614 h => ?_)
                                                                            · refine g_iinc (i := 3) (v := (l3 + (7 : Int32))) (lv' := [(3, .int (l3 + (7 : Int32))), (0, .ref b0), (1, .ref (ev 0 + 0)), (2, .ref (ev 0 + 65))]) F dL_law_2032 rfl rfl (by decide) rfl ?_
                                                                              refine g_goto (tgt := 18) F dL_law_2035 (by decide) ?_
                                                                              refine g_lv (lv' := [(0, .ref b0), (1, .ref (ev 0 + 0)), (2, .ref (ev 0 + 65)), (3, .int (l3 + (7 : Int32)))]) ⟨rfl, rfl, rfl, rfl, trivial⟩ ?_
                                                                              exact ih18 _ _ _ _ _ _ (by omega) (by omega) h
                                                                            · refine g_iconst F dL_law_1530 (v := 0) (by decide) ?_
                                                                              have hv9 := Option.some.inj h
                                                                              exact g_law1 F hb9 hr9 hl9 hv9 (by omega) (by omega) dL_law_1531
                                                                          · refine ite_at h (fun a39 h => ?_) (fun a39 h => ?_)
                                                                            · refine g_tsw (k := 34) (off := 1499) (tgt := 1532) F a39 dL_law_33 (by decide) (by decide) (by decide) (by decide) ?_
                                                                              refine g_aload_n (i := 1) F dL_law_1532 rfl rfl ?_
                                                                              refine g_aload_n (i := 0) F dL_law_1533 rfl rfl ?_
                                                                              refine g_iload_n (i := 3) F dL_law_1534 rfl rfl ?_
                                                                              refine g_iconst F dL_law_1535 (v := 1) (by decide) ?_
                                                                              refine g_iadd F dL_law_1536 ?_
                                                                              obtain ⟨v615, e616, h⟩ := bind_at h
                                                                              refine g_sldr F hX9 hb0 e616 dL_law_1537 ?_
                                                                              refine g_aload_n (i := 0) F dL_law_1538 rfl rfl ?_
                                                                              refine g_iload_n (i := 3) F dL_law_1539 rfl rfl ?_
                                                                              refine g_iconst F dL_law_1540 (v := 2) (by decide) ?_
                                                                              refine g_iadd F dL_law_1541 ?_
                                                                              obtain ⟨v617, e618, h⟩ := bind_at h
                                                                              refine g_sldr F hX9 hb0 e618 dL_law_1542 ?_
                                                                              obtain ⟨v620, X619, e621, h⟩ := bd2_at h
                                                                              refine g_callWI F (id := 0) (cells_at (kd_lit (i := 0) (by decide)) (xc_9 rfl)) (ci := 9) rfl rfl rfl (c_X9_judge G0 e621) wd_44_22 wd_44_19 wd_44_20 wd_44_21 wd_1_2 ⟨by decide, by decide⟩ (nn := 2) (by decide) (As := [.int v615, .int v617]) rfl rfl (Nat.le_of_ble_eq_true rfl) (by decide) (by decide) ⟨by show _ ≤ 600000; omega, by show _ ≤ 7302250; omega⟩ dL_law_1543 ?_
                                                                              refine g_aload_n (i := 2) F dL_law_1546 rfl rfl ?_
                                                                              refine g_aload_n (i := 0) F dL_law_1547 rfl rfl ?_
                                                                              refine g_iload_n (i := 3) F dL_law_1548 rfl rfl ?_
                                                                              refine g_iconst F dL_law_1549 (v := 1) (by decide) ?_
                                                                              refine g_iadd F dL_law_1550 ?_
                                                                              obtain ⟨v622, e623, h⟩ := bind_at h
                                                                              refine g_sldr F hX9 hb0 e623 dL_law_1551 ?_
                                                                              refine g_aload_n (i := 0) F dL_law_1552 rfl rfl ?_
                                                                              refine g_iload_n (i := 3) F dL_law_1553 rfl rfl ?_
                                                                              refine g_iconst F dL_law_1554 (v := 2) (by decide) ?_
                                                                              refine g_iadd F dL_law_1555 ?_
                                                                              obtain ⟨v624, e625, h⟩ := bind_at h
                                                                              refine g_sldr F hX9 hb0 e625 dL_law_1556 ?_
                                                                              obtain ⟨v627, M626, e628, h⟩ := bd2_at h
                                                                              refine g_callWI F (id := 65) (cells_at (kd_hidM (show kd 65 = 10 from rfl) (by decide)) (xc_10 rfl)) (ci := 10) rfl rfl rfl (c_X10_judge G0 e628) wd_45_20 wd_45_17 wd_45_18 wd_45_19 wd_1_5 ⟨by decide, by decide⟩ (nn := 2) (by decide) (As := [.int v622, .int v624]) rfl rfl (Nat.le_of_ble_eq_true rfl) (by decide) (by decide) ⟨by show _ ≤ 600000; omega, by show _ ≤ 7302250; omega⟩ dL_law_1557 ?_
                                                                              refine g_icmp_eq (tgt := 2032) F dL_law_1560 (by decide) h (fun a629 h => ?_) (fun a629 h => ?_)
                                                                              · refine g_iinc (i := 3) (v := (l3 + (7 : Int32))) (lv' := [(3, .int (l3 + (7 : Int32))), (0, .ref b0), (1, .ref (ev 0 + 0)), (2, .ref (ev 0 + 65))]) F dL_law_2032 rfl rfl (by decide) rfl ?_
                                                                                refine g_goto (tgt := 18) F dL_law_2035 (by decide) ?_
                                                                                refine g_lv (lv' := [(0, .ref b0), (1, .ref (ev 0 + 0)), (2, .ref (ev 0 + 65)), (3, .int (l3 + (7 : Int32)))]) ⟨rfl, rfl, rfl, rfl, trivial⟩ ?_
                                                                                exact ih18 _ _ _ _ _ _ (by omega) (by omega) h
                                                                              · refine g_iconst F dL_law_1563 (v := 0) (by decide) ?_
                                                                                have hv9 := Option.some.inj h
                                                                                exact g_law1 F hb9 hr9 hl9 hv9 (by omega) (by omega) dL_law_1564
                                                                            · refine ite_at h (fun a40 h => ?_) (fun a40 h => ?_)
                                                                              · refine g_tsw (k := 35) (off := 1532) (tgt := 1565) F a40 dL_law_33 (by decide) (by decide) (by decide) (by decide) ?_
                                                                                refine g_aload_n (i := 1) F dL_law_1565 rfl rfl ?_
                                                                                refine g_aload_n (i := 0) F dL_law_1566 rfl rfl ?_
                                                                                refine g_iload_n (i := 3) F dL_law_1567 rfl rfl ?_
                                                                                refine g_iconst F dL_law_1568 (v := 1) (by decide) ?_
                                                                                refine g_iadd F dL_law_1569 ?_
                                                                                obtain ⟨v630, e631, h⟩ := bind_at h
                                                                                refine g_sldr F hX9 hb0 e631 dL_law_1570 ?_
                                                                                obtain ⟨v633, X632, e634, h⟩ := bd2_at h
                                                                                refine g_callWI F (id := 0) (cells_at (kd_lit (i := 0) (by decide)) (xc_9 rfl)) (ci := 9) rfl rfl rfl (c_X9_which G0 e634) wd_46_8 wd_46_5 wd_46_6 wd_46_7 wd_1_2 ⟨by decide, by decide⟩ (nn := 1) (by decide) (As := [.int v630]) rfl rfl (Nat.le_of_ble_eq_true rfl) (by decide) (by decide) ⟨by show _ ≤ 600000; omega, by show _ ≤ 7302250; omega⟩ dL_law_1571 ?_
                                                                                refine g_aload_n (i := 2) F dL_law_1574 rfl rfl ?_
                                                                                refine g_aload_n (i := 0) F dL_law_1575 rfl rfl ?_
                                                                                refine g_iload_n (i := 3) F dL_law_1576 rfl rfl ?_
                                                                                refine g_iconst F dL_law_1577 (v := 1) (by decide) ?_
                                                                                refine g_iadd F dL_law_1578 ?_
                                                                                obtain ⟨v635, e636, h⟩ := bind_at h
                                                                                refine g_sldr F hX9 hb0 e636 dL_law_1579 ?_
                                                                                obtain ⟨v638, M637, e639, h⟩ := bd2_at h
                                                                                refine g_callWI F (id := 65) (cells_at (kd_hidM (show kd 65 = 10 from rfl) (by decide)) (xc_10 rfl)) (ci := 10) rfl rfl rfl (c_X10_which G0 e639) wd_46_12 wd_46_9 wd_46_10 wd_46_11 wd_1_5 ⟨by decide, by decide⟩ (nn := 1) (by decide) (As := [.int v635]) rfl rfl (Nat.le_of_ble_eq_true rfl) (by decide) (by decide) ⟨by show _ ≤ 600000; omega, by show _ ≤ 7302250; omega⟩ dL_law_1580 ?_
                                                                                refine g_icmp_eq (tgt := 2032) F dL_law_1583 (by decide) h (fun a640 h => ?_) (fun a640 h => ?_)
                                                                                · refine g_iinc (i := 3) (v := (l3 + (7 : Int32))) (lv' := [(3, .int (l3 + (7 : Int32))), (0, .ref b0), (1, .ref (ev 0 + 0)), (2, .ref (ev 0 + 65))]) F dL_law_2032 rfl rfl (by decide) rfl ?_
                                                                                  refine g_goto (tgt := 18) F dL_law_2035 (by decide) ?_
                                                                                  refine g_lv (lv' := [(0, .ref b0), (1, .ref (ev 0 + 0)), (2, .ref (ev 0 + 65)), (3, .int (l3 + (7 : Int32)))]) ⟨rfl, rfl, rfl, rfl, trivial⟩ ?_
                                                                                  exact ih18 _ _ _ _ _ _ (by omega) (by omega) h
                                                                                · refine g_iconst F dL_law_1586 (v := 0) (by decide) ?_
                                                                                  have hv9 := Option.some.inj h
                                                                                  exact g_law1 F hb9 hr9 hl9 hv9 (by omega) (by omega) dL_law_1587
                                                                              · refine ite_at h (fun a41 h => ?_) (fun a41 h => ?_)
                                                                                · refine g_tsw (k := 36) (off := 1555) (tgt := 1588) F a41 dL_law_33 (by decide) (by decide) (by decide) (by decide) ?_
                                                                                  refine g_aload_n (i := 1) F dL_law_1588 rfl rfl ?_
                                                                                  refine g_aload_n (i := 0) F dL_law_1589 rfl rfl ?_
                                                                                  refine g_iload_n (i := 3) F dL_law_1590 rfl rfl ?_
                                                                                  refine g_iconst F dL_law_1591 (v := 1) (by decide) ?_
                                                                                  refine g_iadd F dL_law_1592 ?_
                                                                                  obtain ⟨v641, e642, h⟩ := bind_at h
                                                                                  refine g_sldr F hX9 hb0 e642 dL_law_1593 ?_
                                                                                  refine g_aload_n (i := 0) F dL_law_1594 rfl rfl ?_
                                                                                  refine g_iload_n (i := 3) F dL_law_1595 rfl rfl ?_
                                                                                  refine g_iconst F dL_law_1596 (v := 2) (by decide) ?_
                                                                                  refine g_iadd F dL_law_1597 ?_
                                                                                  obtain ⟨v643, e644, h⟩ := bind_at h
                                                                                  refine g_sldr F hX9 hb0 e644 dL_law_1598 ?_
                                                                                  obtain ⟨v646, X645, e647, h⟩ := bd2_at h
                                                                                  refine g_callWI F (id := 0) (cells_at (kd_lit (i := 0) (by decide)) (xc_9 rfl)) (ci := 9) rfl rfl rfl (c_X9_laws G0 e647) wd_46_16 wd_46_13 wd_46_14 wd_46_15 wd_1_2 ⟨by decide, by decide⟩ (nn := 2) (by decide) (As := [.int v641, .int v643]) rfl rfl (Nat.le_of_ble_eq_true rfl) (by decide) (by decide) ⟨by show _ ≤ 600000; omega, by show _ ≤ 7302250; omega⟩ dL_law_1599 ?_
                                                                                  refine g_aload_n (i := 2) F dL_law_1602 rfl rfl ?_
                                                                                  refine g_aload_n (i := 0) F dL_law_1603 rfl rfl ?_
                                                                                  refine g_iload_n (i := 3) F dL_law_1604 rfl rfl ?_
                                                                                  refine g_iconst F dL_law_1605 (v := 1) (by decide) ?_
                                                                                  refine g_iadd F dL_law_1606 ?_
                                                                                  obtain ⟨v648, e649, h⟩ := bind_at h
                                                                                  refine g_sldr F hX9 hb0 e649 dL_law_1607 ?_
                                                                                  refine g_aload_n (i := 0) F dL_law_1608 rfl rfl ?_
                                                                                  refine g_iload_n (i := 3) F dL_law_1609 rfl rfl ?_
                                                                                  refine g_iconst F dL_law_1610 (v := 2) (by decide) ?_
                                                                                  refine g_iadd F dL_law_1611 ?_
                                                                                  obtain ⟨v650, e651, h⟩ := bind_at h
                                                                                  refine g_sldr F hX9 hb0 e651 dL_law_1612 ?_
                                                                                  obtain ⟨v653, M652, e654, h⟩ := bd2_at h
                                                                                  refine g_callWI F (id := 65) (cells_at (kd_hidM (show kd 65 = 10 from rfl) (by decide)) (xc_10 rfl)) (ci := 10) rfl rfl rfl (c_X10_laws G0 e654) wd_46_20 wd_46_17 wd_46_18 wd_46_19 wd_1_5 ⟨by decide, by decide⟩ (nn := 2) (by decide) (As := [.int v648, .int v650]) rfl rfl (Nat.le_of_ble_eq_true rfl) (by decide) (by decide) ⟨by show _ ≤ 600000; omega, by show _ ≤ 7302250; omega⟩ dL_law_1613 ?_
                                                                                  refine g_icmp_eq (tgt := 2032) F dL_law_1616 (by decide) h (fun a655 h => ?_) (fun a655 h => ?_)
                                                                                  · refine g_iinc (i := 3) (v := (l3 + (7 : Int32))) (lv' := [(3, .int (l3 + (7 : Int32))), (0, .ref b0), (1, .ref (ev 0 + 0)), (2, .ref (ev 0 + 65))]) F dL_law_2032 rfl rfl (by decide) rfl ?_
                                                                                    refine g_goto (tgt := 18) F dL_law_2035 (by decide) ?_
                                                                                    refine g_lv (lv' := [(0, .ref b0), (1, .ref (ev 0 + 0)), (2, .ref (ev 0 + 65)), (3, .int (l3 + (7 : Int32)))]) ⟨rfl, rfl, rfl, rfl, trivial⟩ ?_
                                                                                    exact ih18 _ _ _ _ _ _ (by omega) (by omega) h
                                                                                  · refine g_iconst F dL_law_1619 (v := 0) (by decide) ?_
                                                                                    have hv9 := Option.some.inj h
                                                                                    exact g_law1 F hb9 hr9 hl9 hv9 (by omega) (by omega) dL_law_1620
                                                                                · refine ite_at h (fun a42 h => ?_) (fun a42 h => ?_)
                                                                                  · refine g_tsw (k := 37) (off := 1588) (tgt := 1621) F a42 dL_law_33 (by decide) (by decide) (by decide) (by decide) ?_
                                                                                    refine g_aload_n (i := 1) F dL_law_1621 rfl rfl ?_
                                                                                    refine g_aload_n (i := 0) F dL_law_1622 rfl rfl ?_
                                                                                    refine g_iload_n (i := 3) F dL_law_1623 rfl rfl ?_
                                                                                    refine g_iconst F dL_law_1624 (v := 1) (by decide) ?_
                                                                                    refine g_iadd F dL_law_1625 ?_
                                                                                    obtain ⟨v656, e657, h⟩ := bind_at h
                                                                                    refine g_sldr F hX9 hb0 e657 dL_law_1626 ?_
                                                                                    refine g_aload_n (i := 0) F dL_law_1627 rfl rfl ?_
                                                                                    refine g_iload_n (i := 3) F dL_law_1628 rfl rfl ?_
                                                                                    refine g_iconst F dL_law_1629 (v := 2) (by decide) ?_
                                                                                    refine g_iadd F dL_law_1630 ?_
                                                                                    obtain ⟨v658, e659, h⟩ := bind_at h
                                                                                    refine g_sldr F hX9 hb0 e659 dL_law_1631 ?_
                                                                                    refine g_aload_n (i := 0) F dL_law_1632 rfl rfl ?_
                                                                                    refine g_iload_n (i := 3) F dL_law_1633 rfl rfl ?_
                                                                                    refine g_iconst F dL_law_1634 (v := 3) (by decide) ?_
                                                                                    refine g_iadd F dL_law_1635 ?_
                                                                                    obtain ⟨v660, e661, h⟩ := bind_at h
                                                                                    refine g_sldr F hX9 hb0 e661 dL_law_1636 ?_
                                                                                    obtain ⟨v663, X662, e664, h⟩ := bd2_at h
                                                                                    refine g_callWI F (id := 0) (cells_at (kd_lit (i := 0) (by decide)) (xc_9 rfl)) (ci := 9) rfl rfl rfl (c_X9_film G0 e664) wd_47_0 wd_46_21 wd_46_22 wd_46_23 wd_1_2 ⟨by decide, by decide⟩ (nn := 3) (by decide) (As := [.int v656, .int v658, .int v660]) rfl rfl (Nat.le_of_ble_eq_true rfl) (by decide) (by decide) ⟨by show _ ≤ 600000; omega, by show _ ≤ 7302250; omega⟩ dL_law_1637 ?_
                                                                                    refine g_aload_n (i := 2) F dL_law_1640 rfl rfl ?_
                                                                                    refine g_aload_n (i := 0) F dL_law_1641 rfl rfl ?_
                                                                                    refine g_iload_n (i := 3) F dL_law_1642 rfl rfl ?_
                                                                                    refine g_iconst F dL_law_1643 (v := 1) (by decide) ?_
                                                                                    refine g_iadd F dL_law_1644 ?_
                                                                                    obtain ⟨v665, e666, h⟩ := bind_at h
                                                                                    refine g_sldr F hX9 hb0 e666 dL_law_1645 ?_
                                                                                    refine g_aload_n (i := 0) F dL_law_1646 rfl rfl ?_
                                                                                    refine g_iload_n (i := 3) F dL_law_1647 rfl rfl ?_
                                                                                    refine g_iconst F dL_law_1648 (v := 2) (by decide) ?_
                                                                                    refine g_iadd F dL_law_1649 ?_
                                                                                    obtain ⟨v667, e668, h⟩ := bind_at h
                                                                                    refine g_sldr F hX9 hb0 e668 dL_law_1650 ?_
                                                                                    refine g_aload_n (i := 0) F dL_law_1651 rfl rfl ?_
                                                                                    refine g_iload_n (i := 3) F dL_law_1652 rfl rfl ?_
                                                                                    refine g_iconst F dL_law_1653 (v := 3) (by decide) ?_
                                                                                    refine g_iadd F dL_law_1654 ?_
                                                                                    obtain ⟨v669, e670, h⟩ := bind_at h
                                                                                    refine g_sldr F hX9 hb0 e670 dL_law_1655 ?_
                                                                                    obtain ⟨v672, M671, e673, h⟩ := bd2_at h
                                                                                    refine g_callWI F (id := 65) (cells_at (kd_hidM (show kd 65 = 10 from rfl) (by decide)) (xc_10 rfl)) (ci := 10) rfl rfl rfl (c_X10_film G0 e673) wd_47_15 wd_47_12 wd_47_13 wd_47_14 wd_1_5 ⟨by decide, by decide⟩ (nn := 3) (by decide) (As := [.int v665, .int v667, .int v669]) rfl rfl (Nat.le_of_ble_eq_true rfl) (by decide) (by decide) ⟨by show _ ≤ 600000; omega, by show _ ≤ 7302250; omega⟩ dL_law_1656 ?_
                                                                                    refine g_icmp_eq (tgt := 2032) F dL_law_1659 (by decide) h (fun a674 h => ?_) (fun a674 h => ?_)
                                                                                    · refine g_iinc (i := 3) (v := (l3 + (7 : Int32))) (lv' := [(3, .int (l3 + (7 : Int32))), (0, .ref b0), (1, .ref (ev 0 + 0)), (2, .ref (ev 0 + 65))]) F dL_law_2032 rfl rfl (by decide) rfl ?_
                                                                                      refine g_goto (tgt := 18) F dL_law_2035 (by decide) ?_
                                                                                      refine g_lv (lv' := [(0, .ref b0), (1, .ref (ev 0 + 0)), (2, .ref (ev 0 + 65)), (3, .int (l3 + (7 : Int32)))]) ⟨rfl, rfl, rfl, rfl, trivial⟩ ?_
                                                                                      exact ih18 _ _ _ _ _ _ (by omega) (by omega) h
                                                                                    · refine g_iconst F dL_law_1662 (v := 0) (by decide) ?_
                                                                                      have hv9 := Option.some.inj h
                                                                                      exact g_law1 F hb9 hr9 hl9 hv9 (by omega) (by omega) dL_law_1663
                                                                                  · refine ite_at h (fun a43 h => ?_) (fun a43 h => ?_)
                                                                                    · refine g_tsw (k := 38) (off := 1631) (tgt := 1664) F a43 dL_law_33 (by decide) (by decide) (by decide) (by decide) ?_
                                                                                      refine g_aload_n (i := 1) F dL_law_1664 rfl rfl ?_
                                                                                      refine g_aload_n (i := 0) F dL_law_1665 rfl rfl ?_
                                                                                      refine g_iload_n (i := 3) F dL_law_1666 rfl rfl ?_
                                                                                      refine g_iconst F dL_law_1667 (v := 1) (by decide) ?_
                                                                                      refine g_iadd F dL_law_1668 ?_
                                                                                      obtain ⟨v675, e676, h⟩ := bind_at h
                                                                                      refine g_sldr F hX9 hb0 e676 dL_law_1669 ?_
                                                                                      refine g_aload_n (i := 0) F dL_law_1670 rfl rfl ?_
                                                                                      refine g_iload_n (i := 3) F dL_law_1671 rfl rfl ?_
                                                                                      refine g_iconst F dL_law_1672 (v := 2) (by decide) ?_
                                                                                      refine g_iadd F dL_law_1673 ?_
                                                                                      obtain ⟨v677, e678, h⟩ := bind_at h
                                                                                      refine g_sldr F hX9 hb0 e678 dL_law_1674 ?_
                                                                                      refine g_aload_n (i := 0) F dL_law_1675 rfl rfl ?_
                                                                                      refine g_iload_n (i := 3) F dL_law_1676 rfl rfl ?_
                                                                                      refine g_iconst F dL_law_1677 (v := 3) (by decide) ?_
                                                                                      refine g_iadd F dL_law_1678 ?_
                                                                                      obtain ⟨v679, e680, h⟩ := bind_at h
                                                                                      refine g_sldr F hX9 hb0 e680 dL_law_1679 ?_
                                                                                      refine g_aload_n (i := 0) F dL_law_1680 rfl rfl ?_
                                                                                      refine g_iload_n (i := 3) F dL_law_1681 rfl rfl ?_
                                                                                      refine g_iconst F dL_law_1682 (v := 4) (by decide) ?_
                                                                                      refine g_iadd F dL_law_1683 ?_
                                                                                      obtain ⟨v681, e682, h⟩ := bind_at h
                                                                                      refine g_sldr F hX9 hb0 e682 dL_law_1684 ?_
                                                                                      obtain ⟨v684, X683, e685, h⟩ := bd2_at h
                                                                                      refine g_callWI F (id := 0) (cells_at (kd_lit (i := 0) (by decide)) (xc_9 rfl)) (ci := 9) rfl rfl rfl (c_X9_drawn G0 e685) wd_47_19 wd_47_16 wd_47_17 wd_47_18 wd_1_2 ⟨by decide, by decide⟩ (nn := 4) (by decide) (As := [.int v675, .int v677, .int v679, .int v681]) rfl rfl (Nat.le_of_ble_eq_true rfl) (by decide) (by decide) ⟨by show _ ≤ 600000; omega, by show _ ≤ 7302250; omega⟩ dL_law_1685 ?_
                                                                                      refine g_aload_n (i := 2) F dL_law_1688 rfl rfl ?_
                                                                                      refine g_aload_n (i := 0) F dL_law_1689 rfl rfl ?_
                                                                                      refine g_iload_n (i := 3) F dL_law_1690 rfl rfl ?_
                                                                                      refine g_iconst F dL_law_1691 (v := 1) (by decide) ?_
                                                                                      refine g_iadd F dL_law_1692 ?_
                                                                                      obtain ⟨v686, e687, h⟩ := bind_at h
                                                                                      refine g_sldr F hX9 hb0 e687 dL_law_1693 ?_
                                                                                      refine g_aload_n (i := 0) F dL_law_1694 rfl rfl ?_
                                                                                      refine g_iload_n (i := 3) F dL_law_1695 rfl rfl ?_
                                                                                      refine g_iconst F dL_law_1696 (v := 2) (by decide) ?_
                                                                                      refine g_iadd F dL_law_1697 ?_
                                                                                      obtain ⟨v688, e689, h⟩ := bind_at h
                                                                                      refine g_sldr F hX9 hb0 e689 dL_law_1698 ?_
                                                                                      refine g_aload_n (i := 0) F dL_law_1699 rfl rfl ?_
                                                                                      refine g_iload_n (i := 3) F dL_law_1700 rfl rfl ?_
                                                                                      refine g_iconst F dL_law_1701 (v := 3) (by decide) ?_
                                                                                      refine g_iadd F dL_law_1702 ?_
                                                                                      obtain ⟨v690, e691, h⟩ := bind_at h
                                                                                      refine g_sldr F hX9 hb0 e691 dL_law_1703 ?_
                                                                                      refine g_aload_n (i := 0) F dL_law_1704 rfl rfl ?_
                                                                                      refine g_iload_n (i := 3) F dL_law_1705 rfl rfl ?_
                                                                                      refine g_iconst F dL_law_1706 (v := 4) (by decide) ?_
                                                                                      refine g_iadd F dL_law_1707 ?_
                                                                                      obtain ⟨v692, e693, h⟩ := bind_at h
                                                                                      refine g_sldr F hX9 hb0 e693 dL_law_1708 ?_
                                                                                      obtain ⟨v695, M694, e696, h⟩ := bd2_at h
                                                                                      refine g_callWI F (id := 65) (cells_at (kd_hidM (show kd 65 = 10 from rfl) (by decide)) (xc_10 rfl)) (ci := 10) rfl rfl rfl (c_X10_drawn G0 e696) wd_48_10 wd_48_7 wd_48_8 wd_48_9 wd_1_5 ⟨by decide, by decide⟩ (nn := 4) (by decide) (As := [.int v686, .int v688, .int v690, .int v692]) rfl rfl (Nat.le_of_ble_eq_true rfl) (by decide) (by decide) ⟨by show _ ≤ 600000; omega, by show _ ≤ 7302250; omega⟩ dL_law_1709 ?_
                                                                                      refine g_icmp_eq (tgt := 2032) F dL_law_1712 (by decide) h (fun a697 h => ?_) (fun a697 h => ?_)
                                                                                      · refine g_iinc (i := 3) (v := (l3 + (7 : Int32))) (lv' := [(3, .int (l3 + (7 : Int32))), (0, .ref b0), (1, .ref (ev 0 + 0)), (2, .ref (ev 0 + 65))]) F dL_law_2032 rfl rfl (by decide) rfl ?_
                                                                                        refine g_goto (tgt := 18) F dL_law_2035 (by decide) ?_
                                                                                        refine g_lv (lv' := [(0, .ref b0), (1, .ref (ev 0 + 0)), (2, .ref (ev 0 + 65)), (3, .int (l3 + (7 : Int32)))]) ⟨rfl, rfl, rfl, rfl, trivial⟩ ?_
                                                                                        exact ih18 _ _ _ _ _ _ (by omega) (by omega) h
                                                                                      · refine g_iconst F dL_law_1715 (v := 0) (by decide) ?_
                                                                                        have hv9 := Option.some.inj h
                                                                                        exact g_law1 F hb9 hr9 hl9 hv9 (by omega) (by omega) dL_law_1716
                                                                                    · refine ite_at h (fun a44 h => ?_) (fun a44 h => ?_)
                                                                                      · refine g_tsw (k := 39) (off := 1684) (tgt := 1717) F a44 dL_law_33 (by decide) (by decide) (by decide) (by decide) ?_
                                                                                        refine g_aload_n (i := 1) F dL_law_1717 rfl rfl ?_
                                                                                        refine g_aload_n (i := 0) F dL_law_1718 rfl rfl ?_
                                                                                        refine g_iload_n (i := 3) F dL_law_1719 rfl rfl ?_
                                                                                        refine g_iconst F dL_law_1720 (v := 1) (by decide) ?_
                                                                                        refine g_iadd F dL_law_1721 ?_
                                                                                        obtain ⟨v698, e699, h⟩ := bind_at h
                                                                                        refine g_sldr F hX9 hb0 e699 dL_law_1722 ?_
                                                                                        refine g_aload_n (i := 0) F dL_law_1723 rfl rfl ?_
                                                                                        refine g_iload_n (i := 3) F dL_law_1724 rfl rfl ?_
                                                                                        refine g_iconst F dL_law_1725 (v := 2) (by decide) ?_
                                                                                        refine g_iadd F dL_law_1726 ?_
                                                                                        obtain ⟨v700, e701, h⟩ := bind_at h
                                                                                        refine g_sldr F hX9 hb0 e701 dL_law_1727 ?_
                                                                                        refine g_aload_n (i := 0) F dL_law_1728 rfl rfl ?_
                                                                                        refine g_iload_n (i := 3) F dL_law_1729 rfl rfl ?_
                                                                                        refine g_iconst F dL_law_1730 (v := 3) (by decide) ?_
                                                                                        refine g_iadd F dL_law_1731 ?_
                                                                                        obtain ⟨v702, e703, h⟩ := bind_at h
                                                                                        refine g_sldr F hX9 hb0 e703 dL_law_1732 ?_
                                                                                        refine g_aload_n (i := 0) F dL_law_1733 rfl rfl ?_
                                                                                        refine g_iload_n (i := 3) F dL_law_1734 rfl rfl ?_
                                                                                        refine g_iconst F dL_law_1735 (v := 4) (by decide) ?_
                                                                                        refine g_iadd F dL_law_1736 ?_
                                                                                        obtain ⟨v704, e705, h⟩ := bind_at h
                                                                                        refine g_sldr F hX9 hb0 e705 dL_law_1737 ?_
                                                                                        obtain ⟨v707, X706, e708, h⟩ := bd2_at h
                                                                                        refine g_callWL F (id := 0) (cells_at (kd_lit (i := 0) (by decide)) (xc_9 rfl)) (ci := 9) rfl rfl rfl (c_X9_chance G0 e708) wd_48_22 wd_48_19 wd_48_20 wd_48_21 wd_1_2 ⟨by decide, by decide⟩ (nn := 4) (by decide) (As := [.int v698, .int v700, .int v702, .int v704]) rfl rfl (Nat.le_of_ble_eq_true rfl) (by decide) (by decide) ⟨by show _ ≤ 600000; omega, by show _ ≤ 7302250; omega⟩ dL_law_1738 ?_
                                                                                        refine g_aload_n (i := 2) F dL_law_1741 rfl rfl ?_
                                                                                        refine g_aload_n (i := 0) F dL_law_1742 rfl rfl ?_
                                                                                        refine g_iload_n (i := 3) F dL_law_1743 rfl rfl ?_
                                                                                        refine g_iconst F dL_law_1744 (v := 1) (by decide) ?_
                                                                                        refine g_iadd F dL_law_1745 ?_
                                                                                        obtain ⟨v709, e710, h⟩ := bind_at h
                                                                                        refine g_sldr F hX9 hb0 e710 dL_law_1746 ?_
                                                                                        refine g_aload_n (i := 0) F dL_law_1747 rfl rfl ?_
                                                                                        refine g_iload_n (i := 3) F dL_law_1748 rfl rfl ?_
                                                                                        refine g_iconst F dL_law_1749 (v := 2) (by decide) ?_
                                                                                        refine g_iadd F dL_law_1750 ?_
                                                                                        obtain ⟨v711, e712, h⟩ := bind_at h
                                                                                        refine g_sldr F hX9 hb0 e712 dL_law_1751 ?_
                                                                                        refine g_aload_n (i := 0) F dL_law_1752 rfl rfl ?_
                                                                                        refine g_iload_n (i := 3) F dL_law_1753 rfl rfl ?_
                                                                                        refine g_iconst F dL_law_1754 (v := 3) (by decide) ?_
                                                                                        refine g_iadd F dL_law_1755 ?_
                                                                                        obtain ⟨v713, e714, h⟩ := bind_at h
                                                                                        refine g_sldr F hX9 hb0 e714 dL_law_1756 ?_
                                                                                        refine g_aload_n (i := 0) F dL_law_1757 rfl rfl ?_
                                                                                        refine g_iload_n (i := 3) F dL_law_1758 rfl rfl ?_
                                                                                        refine g_iconst F dL_law_1759 (v := 4) (by decide) ?_
                                                                                        refine g_iadd F dL_law_1760 ?_
                                                                                        obtain ⟨v715, e716, h⟩ := bind_at h
                                                                                        refine g_sldr F hX9 hb0 e716 dL_law_1761 ?_
                                                                                        obtain ⟨v718, M717, e719, h⟩ := bd2_at h
                                                                                        refine g_callWL F (id := 65) (cells_at (kd_hidM (show kd 65 = 10 from rfl) (by decide)) (xc_10 rfl)) (ci := 10) rfl rfl rfl (c_X10_chance G0 e719) wd_49_2 wd_48_23 wd_49_0 wd_49_1 wd_1_5 ⟨by decide, by decide⟩ (nn := 4) (by decide) (As := [.int v709, .int v711, .int v713, .int v715]) rfl rfl (Nat.le_of_ble_eq_true rfl) (by decide) (by decide) ⟨by show _ ≤ 600000; omega, by show _ ≤ 7302250; omega⟩ dL_law_1762 ?_
                                                                                        refine g_lcmp F dL_law_1765 ?_
                                                                                        refine g_if_eq (tgt := 2032) F dL_law_1766 (by decide) h (fun a720 h => ?_) (fun a720 h => ?_)
                                                                                        · refine g_iinc (i := 3) (v := (l3 + (7 : Int32))) (lv' := [(3, .int (l3 + (7 : Int32))), (0, .ref b0), (1, .ref (ev 0 + 0)), (2, .ref (ev 0 + 65))]) F dL_law_2032 rfl rfl (by decide) rfl ?_
                                                                                          refine g_goto (tgt := 18) F dL_law_2035 (by decide) ?_
                                                                                          refine g_lv (lv' := [(0, .ref b0), (1, .ref (ev 0 + 0)), (2, .ref (ev 0 + 65)), (3, .int (l3 + (7 : Int32)))]) ⟨rfl, rfl, rfl, rfl, trivial⟩ ?_
                                                                                          exact ih18 _ _ _ _ _ _ (by omega) (by omega) h
                                                                                        · refine g_iconst F dL_law_1769 (v := 0) (by decide) ?_
                                                                                          have hv9 := Option.some.inj h
                                                                                          exact g_law1 F hb9 hr9 hl9 hv9 (by omega) (by omega) dL_law_1770
                                                                                      · refine ite_at h (fun a45 h => ?_) (fun a45 h => ?_)
                                                                                        · refine g_tsw (k := 40) (off := 1738) (tgt := 1771) F a45 dL_law_33 (by decide) (by decide) (by decide) (by decide) ?_
                                                                                          refine g_aload_n (i := 1) F dL_law_1771 rfl rfl ?_
                                                                                          obtain ⟨v722, X721, e723, h⟩ := bd2_at h
                                                                                          refine g_callWI F (id := 0) (cells_at (kd_lit (i := 0) (by decide)) (xc_9 rfl)) (ci := 9) rfl rfl rfl (c_X9_image G0 e723) wd_49_6 wd_49_3 wd_49_4 wd_49_5 wd_1_2 ⟨by decide, by decide⟩ (nn := 0) (by decide) (As := []) rfl rfl (Nat.le_of_ble_eq_true rfl) (by decide) (by decide) ⟨by show _ ≤ 600000; omega, by show _ ≤ 7302250; omega⟩ dL_law_1772 ?_
                                                                                          refine g_aload_n (i := 2) F dL_law_1775 rfl rfl ?_
                                                                                          obtain ⟨v725, M724, e726, h⟩ := bd2_at h
                                                                                          refine g_callWI F (id := 65) (cells_at (kd_hidM (show kd 65 = 10 from rfl) (by decide)) (xc_10 rfl)) (ci := 10) rfl rfl rfl (c_X10_image G0 e726) wd_49_20 wd_49_17 wd_49_18 wd_49_19 wd_1_5 ⟨by decide, by decide⟩ (nn := 0) (by decide) (As := []) rfl rfl (Nat.le_of_ble_eq_true rfl) (by decide) (by decide) ⟨by show _ ≤ 600000; omega, by show _ ≤ 7302250; omega⟩ dL_law_1776 ?_
                                                                                          refine g_icmp_eq (tgt := 2032) F dL_law_1779 (by decide) h (fun a727 h => ?_) (fun a727 h => ?_)
                                                                                          · refine g_iinc (i := 3) (v := (l3 + (7 : Int32))) (lv' := [(3, .int (l3 + (7 : Int32))), (0, .ref b0), (1, .ref (ev 0 + 0)), (2, .ref (ev 0 + 65))]) F dL_law_2032 rfl rfl (by decide) rfl ?_
                                                                                            refine g_goto (tgt := 18) F dL_law_2035 (by decide) ?_
                                                                                            refine g_lv (lv' := [(0, .ref b0), (1, .ref (ev 0 + 0)), (2, .ref (ev 0 + 65)), (3, .int (l3 + (7 : Int32)))]) ⟨rfl, rfl, rfl, rfl, trivial⟩ ?_
                                                                                            exact ih18 _ _ _ _ _ _ (by omega) (by omega) h
                                                                                          · refine g_iconst F dL_law_1782 (v := 0) (by decide) ?_
                                                                                            have hv9 := Option.some.inj h
                                                                                            exact g_law1 F hb9 hr9 hl9 hv9 (by omega) (by omega) dL_law_1783
                                                                                        · refine ite_at h (fun a46 h => ?_) (fun a46 h => ?_)
                                                                                          · refine g_tsw (k := 41) (off := 1751) (tgt := 1784) F a46 dL_law_33 (by decide) (by decide) (by decide) (by decide) ?_
                                                                                            refine g_aload_n (i := 1) F dL_law_1784 rfl rfl ?_
                                                                                            obtain ⟨v729, X728, e730, h⟩ := bd2_at h
                                                                                            refine g_callWI F (id := 0) (cells_at (kd_lit (i := 0) (by decide)) (xc_9 rfl)) (ci := 9) rfl rfl rfl (c_X9_back G0 e730) wd_50_4 wd_50_1 wd_50_2 wd_50_3 wd_1_2 ⟨by decide, by decide⟩ (nn := 0) (by decide) (As := []) rfl rfl (Nat.le_of_ble_eq_true rfl) (by decide) (by decide) ⟨by show _ ≤ 600000; omega, by show _ ≤ 7302250; omega⟩ dL_law_1785 ?_
                                                                                            refine g_aload_n (i := 2) F dL_law_1788 rfl rfl ?_
                                                                                            obtain ⟨v732, M731, e733, h⟩ := bd2_at h
                                                                                            refine g_callWI F (id := 65) (cells_at (kd_hidM (show kd 65 = 10 from rfl) (by decide)) (xc_10 rfl)) (ci := 10) rfl rfl rfl (c_X10_back G0 e733) wd_50_8 wd_50_5 wd_50_6 wd_50_7 wd_1_5 ⟨by decide, by decide⟩ (nn := 0) (by decide) (As := []) rfl rfl (Nat.le_of_ble_eq_true rfl) (by decide) (by decide) ⟨by show _ ≤ 600000; omega, by show _ ≤ 7302250; omega⟩ dL_law_1789 ?_
                                                                                            refine g_icmp_eq (tgt := 2032) F dL_law_1792 (by decide) h (fun a734 h => ?_) (fun a734 h => ?_)
                                                                                            · refine g_iinc (i := 3) (v := (l3 + (7 : Int32))) (lv' := [(3, .int (l3 + (7 : Int32))), (0, .ref b0), (1, .ref (ev 0 + 0)), (2, .ref (ev 0 + 65))]) F dL_law_2032 rfl rfl (by decide) rfl ?_
                                                                                              refine g_goto (tgt := 18) F dL_law_2035 (by decide) ?_
                                                                                              refine g_lv (lv' := [(0, .ref b0), (1, .ref (ev 0 + 0)), (2, .ref (ev 0 + 65)), (3, .int (l3 + (7 : Int32)))]) ⟨rfl, rfl, rfl, rfl, trivial⟩ ?_
                                                                                              exact ih18 _ _ _ _ _ _ (by omega) (by omega) h
                                                                                            · refine g_iconst F dL_law_1795 (v := 0) (by decide) ?_
                                                                                              have hv9 := Option.some.inj h
                                                                                              exact g_law1 F hb9 hr9 hl9 hv9 (by omega) (by omega) dL_law_1796
                                                                                          · refine ite_at h (fun a47 h => ?_) (fun a47 h => ?_)
                                                                                            · refine g_tsw (k := 42) (off := 1764) (tgt := 1797) F a47 dL_law_33 (by decide) (by decide) (by decide) (by decide) ?_
                                                                                              refine g_aload_n (i := 1) F dL_law_1797 rfl rfl ?_
                                                                                              refine g_aload_n (i := 0) F dL_law_1798 rfl rfl ?_
                                                                                              refine g_iload_n (i := 3) F dL_law_1799 rfl rfl ?_
                                                                                              refine g_iconst F dL_law_1800 (v := 1) (by decide) ?_
                                                                                              refine g_iadd F dL_law_1801 ?_
                                                                                              obtain ⟨v735, e736, h⟩ := bind_at h
                                                                                              refine g_sldr F hX9 hb0 e736 dL_law_1802 ?_
                                                                                              refine g_aload_n (i := 0) F dL_law_1803 rfl rfl ?_
                                                                                              refine g_iload_n (i := 3) F dL_law_1804 rfl rfl ?_
                                                                                              refine g_iconst F dL_law_1805 (v := 2) (by decide) ?_
                                                                                              refine g_iadd F dL_law_1806 ?_
                                                                                              obtain ⟨v737, e738, h⟩ := bind_at h
                                                                                              refine g_sldr F hX9 hb0 e738 dL_law_1807 ?_
                                                                                              refine g_aload_n (i := 0) F dL_law_1808 rfl rfl ?_
                                                                                              refine g_iload_n (i := 3) F dL_law_1809 rfl rfl ?_
                                                                                              refine g_iconst F dL_law_1810 (v := 3) (by decide) ?_
                                                                                              refine g_iadd F dL_law_1811 ?_
                                                                                              obtain ⟨v739, e740, h⟩ := bind_at h
                                                                                              refine g_sldr F hX9 hb0 e740 dL_law_1812 ?_
                                                                                              obtain ⟨v742, X741, e743, h⟩ := bd2_at h
                                                                                              refine g_callWI F (id := 0) (cells_at (kd_lit (i := 0) (by decide)) (xc_9 rfl)) (ci := 9) rfl rfl rfl (c_X9_sheet G0 e743) wd_50_12 wd_50_9 wd_50_10 wd_50_11 wd_1_2 ⟨by decide, by decide⟩ (nn := 3) (by decide) (As := [.int v735, .int v737, .int v739]) rfl rfl (Nat.le_of_ble_eq_true rfl) (by decide) (by decide) ⟨by show _ ≤ 600000; omega, by show _ ≤ 7302250; omega⟩ dL_law_1813 ?_
                                                                                              refine g_aload_n (i := 2) F dL_law_1816 rfl rfl ?_
                                                                                              refine g_aload_n (i := 0) F dL_law_1817 rfl rfl ?_
                                                                                              refine g_iload_n (i := 3) F dL_law_1818 rfl rfl ?_
                                                                                              refine g_iconst F dL_law_1819 (v := 1) (by decide) ?_
                                                                                              refine g_iadd F dL_law_1820 ?_
                                                                                              obtain ⟨v744, e745, h⟩ := bind_at h
                                                                                              refine g_sldr F hX9 hb0 e745 dL_law_1821 ?_
                                                                                              refine g_aload_n (i := 0) F dL_law_1822 rfl rfl ?_
                                                                                              refine g_iload_n (i := 3) F dL_law_1823 rfl rfl ?_
                                                                                              refine g_iconst F dL_law_1824 (v := 2) (by decide) ?_
                                                                                              refine g_iadd F dL_law_1825 ?_
                                                                                              obtain ⟨v746, e747, h⟩ := bind_at h
                                                                                              refine g_sldr F hX9 hb0 e747 dL_law_1826 ?_
                                                                                              refine g_aload_n (i := 0) F dL_law_1827 rfl rfl ?_
                                                                                              refine g_iload_n (i := 3) F dL_law_1828 rfl rfl ?_
                                                                                              refine g_iconst F dL_law_1829 (v := 3) (by decide) ?_
                                                                                              refine g_iadd F dL_law_1830 ?_
                                                                                              obtain ⟨v748, e749, h⟩ := bind_at h
                                                                                              refine g_sldr F hX9 hb0 e749 dL_law_1831 ?_
                                                                                              obtain ⟨v751, M750, e752, h⟩ := bd2_at h
                                                                                              refine g_callWI F (id := 65) (cells_at (kd_hidM (show kd 65 = 10 from rfl) (by decide)) (xc_10 rfl)) (ci := 10) rfl rfl rfl (c_X10_sheet G0 e752) wd_50_16 wd_50_13 wd_50_14 wd_50_15 wd_1_5 ⟨by decide, by decide⟩ (nn := 3) (by decide) (As := [.int v744, .int v746, .int v748]) rfl rfl (Nat.le_of_ble_eq_true rfl) (by decide) (by decide) ⟨by show _ ≤ 600000; omega, by show _ ≤ 7302250; omega⟩ dL_law_1832 ?_
                                                                                              refine g_icmp_eq (tgt := 2032) F dL_law_1835 (by decide) h (fun a753 h => ?_) (fun a753 h => ?_)
                                                                                              · refine g_iinc (i := 3) (v := (l3 + (7 : Int32))) (lv' := [(3, .int (l3 + (7 : Int32))), (0, .ref b0), (1, .ref (ev 0 + 0)), (2, .ref (ev 0 + 65))]) F dL_law_2032 rfl rfl (by decide) rfl ?_
                                                                                                refine g_goto (tgt := 18) F dL_law_2035 (by decide) ?_
                                                                                                refine g_lv (lv' := [(0, .ref b0), (1, .ref (ev 0 + 0)), (2, .ref (ev 0 + 65)), (3, .int (l3 + (7 : Int32)))]) ⟨rfl, rfl, rfl, rfl, trivial⟩ ?_
                                                                                                exact ih18 _ _ _ _ _ _ (by omega) (by omega) h
                                                                                              · refine g_iconst F dL_law_1838 (v := 0) (by decide) ?_
                                                                                                have hv9 := Option.some.inj h
                                                                                                exact g_law1 F hb9 hr9 hl9 hv9 (by omega) (by omega) dL_law_1839
                                                                                            · refine ite_at h (fun a48 h => ?_) (fun a48 h => ?_)
                                                                                              · refine g_tsw (k := 43) (off := 1807) (tgt := 1840) F a48 dL_law_33 (by decide) (by decide) (by decide) (by decide) ?_
                                                                                                refine g_aload_n (i := 1) F dL_law_1840 rfl rfl ?_
                                                                                                refine g_aload_n (i := 0) F dL_law_1841 rfl rfl ?_
                                                                                                refine g_iload_n (i := 3) F dL_law_1842 rfl rfl ?_
                                                                                                refine g_iconst F dL_law_1843 (v := 1) (by decide) ?_
                                                                                                refine g_iadd F dL_law_1844 ?_
                                                                                                obtain ⟨v754, e755, h⟩ := bind_at h
                                                                                                refine g_sldr F hX9 hb0 e755 dL_law_1845 ?_
                                                                                                refine g_aload_n (i := 0) F dL_law_1846 rfl rfl ?_
                                                                                                refine g_iload_n (i := 3) F dL_law_1847 rfl rfl ?_
                                                                                                refine g_iconst F dL_law_1848 (v := 2) (by decide) ?_
                                                                                                refine g_iadd F dL_law_1849 ?_
                                                                                                obtain ⟨v756, e757, h⟩ := bind_at h
                                                                                                refine g_sldr F hX9 hb0 e757 dL_law_1850 ?_
                                                                                                refine g_aload_n (i := 0) F dL_law_1851 rfl rfl ?_
                                                                                                refine g_iload_n (i := 3) F dL_law_1852 rfl rfl ?_
                                                                                                refine g_iconst F dL_law_1853 (v := 3) (by decide) ?_
                                                                                                refine g_iadd F dL_law_1854 ?_
                                                                                                obtain ⟨v758, e759, h⟩ := bind_at h
                                                                                                refine g_sldr F hX9 hb0 e759 dL_law_1855 ?_
                                                                                                obtain ⟨v761, X760, e762, h⟩ := bd2_at h
                                                                                                refine g_callWI F (id := 0) (cells_at (kd_lit (i := 0) (by decide)) (xc_9 rfl)) (ci := 9) rfl rfl rfl (c_X9_cell G0 e762) wd_50_20 wd_50_17 wd_50_18 wd_50_19 wd_1_2 ⟨by decide, by decide⟩ (nn := 3) (by decide) (As := [.int v754, .int v756, .int v758]) rfl rfl (Nat.le_of_ble_eq_true rfl) (by decide) (by decide) ⟨by show _ ≤ 600000; omega, by show _ ≤ 7302250; omega⟩ dL_law_1856 ?_
                                                                                                refine g_aload_n (i := 2) F dL_law_1859 rfl rfl ?_
                                                                                                refine g_aload_n (i := 0) F dL_law_1860 rfl rfl ?_
                                                                                                refine g_iload_n (i := 3) F dL_law_1861 rfl rfl ?_
                                                                                                refine g_iconst F dL_law_1862 (v := 1) (by decide) ?_
                                                                                                refine g_iadd F dL_law_1863 ?_
                                                                                                obtain ⟨v763, e764, h⟩ := bind_at h
                                                                                                refine g_sldr F hX9 hb0 e764 dL_law_1864 ?_
                                                                                                refine g_aload_n (i := 0) F dL_law_1865 rfl rfl ?_
                                                                                                refine g_iload_n (i := 3) F dL_law_1866 rfl rfl ?_
                                                                                                refine g_iconst F dL_law_1867 (v := 2) (by decide) ?_
                                                                                                refine g_iadd F dL_law_1868 ?_
                                                                                                obtain ⟨v765, e766, h⟩ := bind_at h
                                                                                                refine g_sldr F hX9 hb0 e766 dL_law_1869 ?_
                                                                                                refine g_aload_n (i := 0) F dL_law_1870 rfl rfl ?_
                                                                                                refine g_iload_n (i := 3) F dL_law_1871 rfl rfl ?_
                                                                                                refine g_iconst F dL_law_1872 (v := 3) (by decide) ?_
                                                                                                refine g_iadd F dL_law_1873 ?_
                                                                                                obtain ⟨v767, e768, h⟩ := bind_at h
                                                                                                refine g_sldr F hX9 hb0 e768 dL_law_1874 ?_
                                                                                                obtain ⟨v770, M769, e771, h⟩ := bd2_at h
                                                                                                refine g_callWI F (id := 65) (cells_at (kd_hidM (show kd 65 = 10 from rfl) (by decide)) (xc_10 rfl)) (ci := 10) rfl rfl rfl (c_X10_cell G0 e771) wd_51_0 wd_50_21 wd_50_22 wd_50_23 wd_1_5 ⟨by decide, by decide⟩ (nn := 3) (by decide) (As := [.int v763, .int v765, .int v767]) rfl rfl (Nat.le_of_ble_eq_true rfl) (by decide) (by decide) ⟨by show _ ≤ 600000; omega, by show _ ≤ 7302250; omega⟩ dL_law_1875 ?_
                                                                                                refine g_icmp_eq (tgt := 2032) F dL_law_1878 (by decide) h (fun a772 h => ?_) (fun a772 h => ?_)
                                                                                                · refine g_iinc (i := 3) (v := (l3 + (7 : Int32))) (lv' := [(3, .int (l3 + (7 : Int32))), (0, .ref b0), (1, .ref (ev 0 + 0)), (2, .ref (ev 0 + 65))]) F dL_law_2032 rfl rfl (by decide) rfl ?_
                                                                                                  refine g_goto (tgt := 18) F dL_law_2035 (by decide) ?_
                                                                                                  refine g_lv (lv' := [(0, .ref b0), (1, .ref (ev 0 + 0)), (2, .ref (ev 0 + 65)), (3, .int (l3 + (7 : Int32)))]) ⟨rfl, rfl, rfl, rfl, trivial⟩ ?_
                                                                                                  exact ih18 _ _ _ _ _ _ (by omega) (by omega) h
                                                                                                · refine g_iconst F dL_law_1881 (v := 0) (by decide) ?_
                                                                                                  have hv9 := Option.some.inj h
                                                                                                  exact g_law1 F hb9 hr9 hl9 hv9 (by omega) (by omega) dL_law_1882
                                                                                              · refine ite_at h (fun a49 h => ?_) (fun a49 h => ?_)
                                                                                                · refine g_tsw (k := 44) (off := 1850) (tgt := 1883) F a49 dL_law_33 (by decide) (by decide) (by decide) (by decide) ?_
                                                                                                  refine g_aload_n (i := 1) F dL_law_1883 rfl rfl ?_
                                                                                                  refine g_aload_n (i := 0) F dL_law_1884 rfl rfl ?_
                                                                                                  refine g_iload_n (i := 3) F dL_law_1885 rfl rfl ?_
                                                                                                  refine g_iconst F dL_law_1886 (v := 1) (by decide) ?_
                                                                                                  refine g_iadd F dL_law_1887 ?_
                                                                                                  obtain ⟨v773, e774, h⟩ := bind_at h
                                                                                                  refine g_sldr F hX9 hb0 e774 dL_law_1888 ?_
                                                                                                  refine g_aload_n (i := 0) F dL_law_1889 rfl rfl ?_
                                                                                                  refine g_iload_n (i := 3) F dL_law_1890 rfl rfl ?_
                                                                                                  refine g_iconst F dL_law_1891 (v := 2) (by decide) ?_
                                                                                                  refine g_iadd F dL_law_1892 ?_
                                                                                                  obtain ⟨v775, e776, h⟩ := bind_at h
                                                                                                  refine g_sldr F hX9 hb0 e776 dL_law_1893 ?_
                                                                                                  refine g_aload_n (i := 0) F dL_law_1894 rfl rfl ?_
                                                                                                  refine g_iload_n (i := 3) F dL_law_1895 rfl rfl ?_
                                                                                                  refine g_iconst F dL_law_1896 (v := 3) (by decide) ?_
                                                                                                  refine g_iadd F dL_law_1897 ?_
                                                                                                  obtain ⟨v777, e778, h⟩ := bind_at h
                                                                                                  refine g_sldr F hX9 hb0 e778 dL_law_1898 ?_
                                                                                                  refine g_aload_n (i := 0) F dL_law_1899 rfl rfl ?_
                                                                                                  refine g_iload_n (i := 3) F dL_law_1900 rfl rfl ?_
                                                                                                  refine g_iconst F dL_law_1901 (v := 4) (by decide) ?_
                                                                                                  refine g_iadd F dL_law_1902 ?_
                                                                                                  obtain ⟨v779, e780, h⟩ := bind_at h
                                                                                                  refine g_sldr F hX9 hb0 e780 dL_law_1903 ?_
                                                                                                  refine g_aload_n (i := 0) F dL_law_1904 rfl rfl ?_
                                                                                                  refine g_iload_n (i := 3) F dL_law_1905 rfl rfl ?_
                                                                                                  refine g_iconst F dL_law_1906 (v := 5) (by decide) ?_
                                                                                                  refine g_iadd F dL_law_1907 ?_
                                                                                                  obtain ⟨v781, e782, h⟩ := bind_at h
                                                                                                  refine g_sldr F hX9 hb0 e782 dL_law_1908 ?_
                                                                                                  obtain ⟨v784, X783, e785, h⟩ := bd2_at h
                                                                                                  refine g_callWI F (id := 0) (cells_at (kd_lit (i := 0) (by decide)) (xc_9 rfl)) (ci := 9) rfl rfl rfl (c_X9_copy G0 e785) wd_51_4 wd_51_1 wd_51_2 wd_51_3 wd_1_2 ⟨by decide, by decide⟩ (nn := 5) (by decide) (As := [.int v773, .int v775, .int v777, .int v779, .int v781]) rfl rfl (Nat.le_of_ble_eq_true rfl) (by decide) (by decide) ⟨by show _ ≤ 600000; omega, by show _ ≤ 7302250; omega⟩ dL_law_1909 ?_
                                                                                                  refine g_aload_n (i := 2) F dL_law_1912 rfl rfl ?_
                                                                                                  refine g_aload_n (i := 0) F dL_law_1913 rfl rfl ?_
                                                                                                  refine g_iload_n (i := 3) F dL_law_1914 rfl rfl ?_
                                                                                                  refine g_iconst F dL_law_1915 (v := 1) (by decide) ?_
                                                                                                  refine g_iadd F dL_law_1916 ?_
                                                                                                  obtain ⟨v786, e787, h⟩ := bind_at h
                                                                                                  refine g_sldr F hX9 hb0 e787 dL_law_1917 ?_
                                                                                                  refine g_aload_n (i := 0) F dL_law_1918 rfl rfl ?_
                                                                                                  refine g_iload_n (i := 3) F dL_law_1919 rfl rfl ?_
                                                                                                  refine g_iconst F dL_law_1920 (v := 2) (by decide) ?_
                                                                                                  refine g_iadd F dL_law_1921 ?_
                                                                                                  obtain ⟨v788, e789, h⟩ := bind_at h
                                                                                                  refine g_sldr F hX9 hb0 e789 dL_law_1922 ?_
                                                                                                  refine g_aload_n (i := 0) F dL_law_1923 rfl rfl ?_
                                                                                                  refine g_iload_n (i := 3) F dL_law_1924 rfl rfl ?_
                                                                                                  refine g_iconst F dL_law_1925 (v := 3) (by decide) ?_
                                                                                                  refine g_iadd F dL_law_1926 ?_
                                                                                                  obtain ⟨v790, e791, h⟩ := bind_at h
                                                                                                  refine g_sldr F hX9 hb0 e791 dL_law_1927 ?_
                                                                                                  refine g_aload_n (i := 0) F dL_law_1928 rfl rfl ?_
                                                                                                  refine g_iload_n (i := 3) F dL_law_1929 rfl rfl ?_
                                                                                                  refine g_iconst F dL_law_1930 (v := 4) (by decide) ?_
                                                                                                  refine g_iadd F dL_law_1931 ?_
                                                                                                  obtain ⟨v792, e793, h⟩ := bind_at h
                                                                                                  refine g_sldr F hX9 hb0 e793 dL_law_1932 ?_
                                                                                                  refine g_aload_n (i := 0) F dL_law_1933 rfl rfl ?_
                                                                                                  refine g_iload_n (i := 3) F dL_law_1934 rfl rfl ?_
                                                                                                  refine g_iconst F dL_law_1935 (v := 5) (by decide) ?_
                                                                                                  refine g_iadd F dL_law_1936 ?_
                                                                                                  obtain ⟨v794, e795, h⟩ := bind_at h
                                                                                                  refine g_sldr F hX9 hb0 e795 dL_law_1937 ?_
                                                                                                  obtain ⟨v797, M796, e798, h⟩ := bd2_at h
                                                                                                  refine g_callWI F (id := 65) (cells_at (kd_hidM (show kd 65 = 10 from rfl) (by decide)) (xc_10 rfl)) (ci := 10) rfl rfl rfl (c_X10_copy G0 e798) wd_51_17 wd_51_14 wd_51_15 wd_51_16 wd_1_5 ⟨by decide, by decide⟩ (nn := 5) (by decide) (As := [.int v786, .int v788, .int v790, .int v792, .int v794]) rfl rfl (Nat.le_of_ble_eq_true rfl) (by decide) (by decide) ⟨by show _ ≤ 600000; omega, by show _ ≤ 7302250; omega⟩ dL_law_1938 ?_
                                                                                                  refine g_icmp_eq (tgt := 2032) F dL_law_1941 (by decide) h (fun a799 h => ?_) (fun a799 h => ?_)
                                                                                                  · refine g_iinc (i := 3) (v := (l3 + (7 : Int32))) (lv' := [(3, .int (l3 + (7 : Int32))), (0, .ref b0), (1, .ref (ev 0 + 0)), (2, .ref (ev 0 + 65))]) F dL_law_2032 rfl rfl (by decide) rfl ?_
                                                                                                    refine g_goto (tgt := 18) F dL_law_2035 (by decide) ?_
                                                                                                    refine g_lv (lv' := [(0, .ref b0), (1, .ref (ev 0 + 0)), (2, .ref (ev 0 + 65)), (3, .int (l3 + (7 : Int32)))]) ⟨rfl, rfl, rfl, rfl, trivial⟩ ?_
                                                                                                    exact ih18 _ _ _ _ _ _ (by omega) (by omega) h
                                                                                                  · refine g_iconst F dL_law_1944 (v := 0) (by decide) ?_
                                                                                                    have hv9 := Option.some.inj h
                                                                                                    exact g_law1 F hb9 hr9 hl9 hv9 (by omega) (by omega) dL_law_1945
                                                                                                · refine ite_at h (fun a50 h => ?_) (fun a50 h => ?_)
                                                                                                  · refine g_tsw (k := 45) (off := 1913) (tgt := 1946) F a50 dL_law_33 (by decide) (by decide) (by decide) (by decide) ?_
                                                                                                    refine g_aload_n (i := 1) F dL_law_1946 rfl rfl ?_
                                                                                                    refine g_aload_n (i := 0) F dL_law_1947 rfl rfl ?_
                                                                                                    refine g_iload_n (i := 3) F dL_law_1948 rfl rfl ?_
                                                                                                    refine g_iconst F dL_law_1949 (v := 1) (by decide) ?_
                                                                                                    refine g_iadd F dL_law_1950 ?_
                                                                                                    obtain ⟨v800, e801, h⟩ := bind_at h
                                                                                                    refine g_sldr F hX9 hb0 e801 dL_law_1951 ?_
                                                                                                    refine g_aload_n (i := 0) F dL_law_1952 rfl rfl ?_
                                                                                                    refine g_iload_n (i := 3) F dL_law_1953 rfl rfl ?_
                                                                                                    refine g_iconst F dL_law_1954 (v := 2) (by decide) ?_
                                                                                                    refine g_iadd F dL_law_1955 ?_
                                                                                                    obtain ⟨v802, e803, h⟩ := bind_at h
                                                                                                    refine g_sldr F hX9 hb0 e803 dL_law_1956 ?_
                                                                                                    refine g_aload_n (i := 0) F dL_law_1957 rfl rfl ?_
                                                                                                    refine g_iload_n (i := 3) F dL_law_1958 rfl rfl ?_
                                                                                                    refine g_iconst F dL_law_1959 (v := 3) (by decide) ?_
                                                                                                    refine g_iadd F dL_law_1960 ?_
                                                                                                    obtain ⟨v804, e805, h⟩ := bind_at h
                                                                                                    refine g_sldr F hX9 hb0 e805 dL_law_1961 ?_
                                                                                                    refine g_aload_n (i := 0) F dL_law_1962 rfl rfl ?_
                                                                                                    refine g_iload_n (i := 3) F dL_law_1963 rfl rfl ?_
                                                                                                    refine g_iconst F dL_law_1964 (v := 4) (by decide) ?_
                                                                                                    refine g_iadd F dL_law_1965 ?_
                                                                                                    obtain ⟨v806, e807, h⟩ := bind_at h
                                                                                                    refine g_sldr F hX9 hb0 e807 dL_law_1966 ?_
                                                                                                    obtain ⟨v809, X808, n811, e810, h⟩ := bd3_at h
                                                                                                    obtain ⟨n812, e813, h⟩ := np_at h
                                                                                                    refine g_callWI F (id := 0) (cells_at (kd_lit (i := 0) (by decide)) (xc_9 rfl)) (ci := 9) rfl rfl rfl (c_X9_boatsBy G0 e810) wd_51_21 wd_51_18 wd_51_19 wd_51_20 wd_1_2 ⟨by decide, by decide⟩ (nn := 4) (by decide) (As := [.int v800, .int v802, .int v804, .int v806]) rfl rfl (Nat.le_of_ble_eq_true rfl) (by decide) (by decide) ⟨by show _ ≤ 600000; omega, by show _ ≤ 7302250; omega⟩ dL_law_1967 ?_
                                                                                                    rw [e813]
                                                                                                    refine g_aload_n (i := 2) F dL_law_1970 rfl rfl ?_
                                                                                                    refine g_aload_n (i := 0) F dL_law_1971 rfl rfl ?_
                                                                                                    refine g_iload_n (i := 3) F dL_law_1972 rfl rfl ?_
                                                                                                    refine g_iconst F dL_law_1973 (v := 1) (by decide) ?_
                                                                                                    refine g_iadd F dL_law_1974 ?_
                                                                                                    obtain ⟨v814, e815, h⟩ := bind_at h
                                                                                                    refine g_sldr F hX9 hb0 e815 dL_law_1975 ?_
                                                                                                    refine g_aload_n (i := 0) F dL_law_1976 rfl rfl ?_
                                                                                                    refine g_iload_n (i := 3) F dL_law_1977 rfl rfl ?_
                                                                                                    refine g_iconst F dL_law_1978 (v := 2) (by decide) ?_
                                                                                                    refine g_iadd F dL_law_1979 ?_
                                                                                                    obtain ⟨v816, e817, h⟩ := bind_at h
                                                                                                    refine g_sldr F hX9 hb0 e817 dL_law_1980 ?_
                                                                                                    refine g_aload_n (i := 0) F dL_law_1981 rfl rfl ?_
                                                                                                    refine g_iload_n (i := 3) F dL_law_1982 rfl rfl ?_
                                                                                                    refine g_iconst F dL_law_1983 (v := 3) (by decide) ?_
                                                                                                    refine g_iadd F dL_law_1984 ?_
                                                                                                    obtain ⟨v818, e819, h⟩ := bind_at h
                                                                                                    refine g_sldr F hX9 hb0 e819 dL_law_1985 ?_
                                                                                                    refine g_aload_n (i := 0) F dL_law_1986 rfl rfl ?_
                                                                                                    refine g_iload_n (i := 3) F dL_law_1987 rfl rfl ?_
                                                                                                    refine g_iconst F dL_law_1988 (v := 4) (by decide) ?_
                                                                                                    refine g_iadd F dL_law_1989 ?_
                                                                                                    obtain ⟨v820, e821, h⟩ := bind_at h
                                                                                                    refine g_sldr F hX9 hb0 e821 dL_law_1990 ?_
                                                                                                    obtain ⟨v823, M822, e824, h⟩ := bd2_at h
                                                                                                    refine g_callWI F (id := 65) (cells_at (kd_hidM (show kd 65 = 10 from rfl) (by decide)) (xc_10 rfl)) (ci := 10) rfl rfl rfl (c_X10_boatsBy G0 e824) wd_52_2 wd_51_23 wd_52_0 wd_52_1 wd_1_5 ⟨by decide, by decide⟩ (nn := 4) (by decide) (As := [.int v814, .int v816, .int v818, .int v820]) rfl rfl (Nat.le_of_ble_eq_true rfl) (by decide) (by decide) ⟨by show _ ≤ 600000; omega, by show _ ≤ 7302250; omega⟩ dL_law_1991 ?_
                                                                                                    refine g_icmp_eq (tgt := 2032) F dL_law_1994 (by decide) h (fun a825 h => ?_) (fun a825 h => ?_)
                                                                                                    · refine g_iinc (i := 3) (v := (l3 + (7 : Int32))) (lv' := [(3, .int (l3 + (7 : Int32))), (0, .ref b0), (1, .ref (ev 0 + 0)), (2, .ref (ev 0 + 65))]) F dL_law_2032 rfl rfl (by decide) rfl ?_
                                                                                                      refine g_goto (tgt := 18) F dL_law_2035 (by decide) ?_
                                                                                                      refine g_lv (lv' := [(0, .ref b0), (1, .ref (ev 0 + 0)), (2, .ref (ev 0 + 65)), (3, .int (l3 + (7 : Int32)))]) ⟨rfl, rfl, rfl, rfl, trivial⟩ ?_
                                                                                                      exact ih18 _ _ _ _ _ _ (by omega) (by omega) h
                                                                                                    · refine g_iconst F dL_law_1997 (v := 0) (by decide) ?_
                                                                                                      have hv9 := Option.some.inj h
                                                                                                      exact g_law1 F hb9 hr9 hl9 hv9 (by omega) (by omega) dL_law_1998
                                                                                                  · refine ite_at h (fun a51 h => ?_) (fun a51 h => ?_)
                                                                                                    · refine g_tsw (k := 46) (off := 1966) (tgt := 1999) F a51 dL_law_33 (by decide) (by decide) (by decide) (by decide) ?_
                                                                                                      refine g_aload_n (i := 1) F dL_law_1999 rfl rfl ?_
                                                                                                      refine g_aload_n (i := 0) F dL_law_2000 rfl rfl ?_
                                                                                                      refine g_iload_n (i := 3) F dL_law_2001 rfl rfl ?_
                                                                                                      refine g_iconst F dL_law_2002 (v := 1) (by decide) ?_
                                                                                                      refine g_iadd F dL_law_2003 ?_
                                                                                                      obtain ⟨v826, e827, h⟩ := bind_at h
                                                                                                      refine g_sldr F hX9 hb0 e827 dL_law_2004 ?_
                                                                                                      refine g_aload_n (i := 0) F dL_law_2005 rfl rfl ?_
                                                                                                      refine g_iload_n (i := 3) F dL_law_2006 rfl rfl ?_
                                                                                                      refine g_iconst F dL_law_2007 (v := 2) (by decide) ?_
                                                                                                      refine g_iadd F dL_law_2008 ?_
                                                                                                      obtain ⟨v828, e829, h⟩ := bind_at h
                                                                                                      refine g_sldr F hX9 hb0 e829 dL_law_2009 ?_
                                                                                                      obtain ⟨v830, e831, h⟩ := bind_at h
                                                                                                      refine g_callWI F (id := 0) (cells_at (kd_lit (i := 0) (by decide)) (xc_9 rfl)) (ci := 9) rfl rfl rfl (c_X9_taken G0 e831) wd_52_7 wd_52_4 wd_52_5 wd_52_6 wd_1_2 ⟨by decide, by decide⟩ (nn := 2) (by decide) (As := [.int v826, .int v828]) rfl rfl (Nat.le_of_ble_eq_true rfl) (by decide) (by decide) ⟨by show _ ≤ 600000; omega, by show _ ≤ 7302250; omega⟩ dL_law_2010 ?_
                                                                                                      refine g_aload_n (i := 2) F dL_law_2013 rfl rfl ?_
                                                                                                      refine g_aload_n (i := 0) F dL_law_2014 rfl rfl ?_
                                                                                                      refine g_iload_n (i := 3) F dL_law_2015 rfl rfl ?_
                                                                                                      refine g_iconst F dL_law_2016 (v := 1) (by decide) ?_
                                                                                                      refine g_iadd F dL_law_2017 ?_
                                                                                                      obtain ⟨v832, e833, h⟩ := bind_at h
                                                                                                      refine g_sldr F hX9 hb0 e833 dL_law_2018 ?_
                                                                                                      refine g_aload_n (i := 0) F dL_law_2019 rfl rfl ?_
                                                                                                      refine g_iload_n (i := 3) F dL_law_2020 rfl rfl ?_
                                                                                                      refine g_iconst F dL_law_2021 (v := 2) (by decide) ?_
                                                                                                      refine g_iadd F dL_law_2022 ?_
                                                                                                      obtain ⟨v834, e835, h⟩ := bind_at h
                                                                                                      refine g_sldr F hX9 hb0 e835 dL_law_2023 ?_
                                                                                                      obtain ⟨v836, e837, h⟩ := bind_at h
                                                                                                      refine g_callWI F (id := 65) (cells_at (kd_hidM (show kd 65 = 10 from rfl) (by decide)) (xc_10 rfl)) (ci := 10) rfl rfl rfl (c_X10_taken G0 e837) wd_52_15 wd_52_12 wd_52_13 wd_52_14 wd_1_5 ⟨by decide, by decide⟩ (nn := 2) (by decide) (As := [.int v832, .int v834]) rfl rfl (Nat.le_of_ble_eq_true rfl) (by decide) (by decide) ⟨by show _ ≤ 600000; omega, by show _ ≤ 7302250; omega⟩ dL_law_2024 ?_
                                                                                                      refine g_icmp_eq (tgt := 2032) F dL_law_2027 (by decide) h (fun a838 h => ?_) (fun a838 h => ?_)
                                                                                                      · refine g_iinc (i := 3) (v := (l3 + (7 : Int32))) (lv' := [(3, .int (l3 + (7 : Int32))), (0, .ref b0), (1, .ref (ev 0 + 0)), (2, .ref (ev 0 + 65))]) F dL_law_2032 rfl rfl (by decide) rfl ?_
                                                                                                        refine g_goto (tgt := 18) F dL_law_2035 (by decide) ?_
                                                                                                        refine g_lv (lv' := [(0, .ref b0), (1, .ref (ev 0 + 0)), (2, .ref (ev 0 + 65)), (3, .int (l3 + (7 : Int32)))]) ⟨rfl, rfl, rfl, rfl, trivial⟩ ?_
                                                                                                        exact ih18 _ _ _ _ _ _ (by omega) (by omega) h
                                                                                                      · refine g_iconst F dL_law_2030 (v := 0) (by decide) ?_
                                                                                                        have hv9 := Option.some.inj h
                                                                                                        exact g_law1 F hb9 hr9 hl9 hv9 (by omega) (by omega) dL_law_2031
                                                                                                    · have q0 : v3.toInt ≠ 0 := fun q => a5 (Int32.toInt_inj.mp (q.trans (by decide)))
                                                                                                      have q1 : v3.toInt ≠ 1 := fun q => a6 (Int32.toInt_inj.mp (q.trans (by decide)))
                                                                                                      have q2 : v3.toInt ≠ 2 := fun q => a7 (Int32.toInt_inj.mp (q.trans (by decide)))
                                                                                                      have q3 : v3.toInt ≠ 3 := fun q => a8 (Int32.toInt_inj.mp (q.trans (by decide)))
                                                                                                      have q4 : v3.toInt ≠ 4 := fun q => a9 (Int32.toInt_inj.mp (q.trans (by decide)))
                                                                                                      have q5 : v3.toInt ≠ 5 := fun q => a10 (Int32.toInt_inj.mp (q.trans (by decide)))
                                                                                                      have q6 : v3.toInt ≠ 6 := fun q => a11 (Int32.toInt_inj.mp (q.trans (by decide)))
                                                                                                      have q7 : v3.toInt ≠ 7 := fun q => a12 (Int32.toInt_inj.mp (q.trans (by decide)))
                                                                                                      have q8 : v3.toInt ≠ 8 := fun q => a13 (Int32.toInt_inj.mp (q.trans (by decide)))
                                                                                                      have q9 : v3.toInt ≠ 9 := fun q => a14 (Int32.toInt_inj.mp (q.trans (by decide)))
                                                                                                      have q10 : v3.toInt ≠ 10 := fun q => a15 (Int32.toInt_inj.mp (q.trans (by decide)))
                                                                                                      have q11 : v3.toInt ≠ 11 := fun q => a16 (Int32.toInt_inj.mp (q.trans (by decide)))
                                                                                                      have q12 : v3.toInt ≠ 12 := fun q => a17 (Int32.toInt_inj.mp (q.trans (by decide)))
                                                                                                      have q13 : v3.toInt ≠ 13 := fun q => a18 (Int32.toInt_inj.mp (q.trans (by decide)))
                                                                                                      have q14 : v3.toInt ≠ 14 := fun q => a19 (Int32.toInt_inj.mp (q.trans (by decide)))
                                                                                                      have q15 : v3.toInt ≠ 15 := fun q => a20 (Int32.toInt_inj.mp (q.trans (by decide)))
                                                                                                      have q16 : v3.toInt ≠ 16 := fun q => a21 (Int32.toInt_inj.mp (q.trans (by decide)))
                                                                                                      have q17 : v3.toInt ≠ 17 := fun q => a22 (Int32.toInt_inj.mp (q.trans (by decide)))
                                                                                                      have q18 : v3.toInt ≠ 18 := fun q => a23 (Int32.toInt_inj.mp (q.trans (by decide)))
                                                                                                      have q19 : v3.toInt ≠ 19 := fun q => a24 (Int32.toInt_inj.mp (q.trans (by decide)))
                                                                                                      have q20 : v3.toInt ≠ 20 := fun q => a25 (Int32.toInt_inj.mp (q.trans (by decide)))
                                                                                                      have q21 : v3.toInt ≠ 21 := fun q => a26 (Int32.toInt_inj.mp (q.trans (by decide)))
                                                                                                      have q22 : v3.toInt ≠ 22 := fun q => a27 (Int32.toInt_inj.mp (q.trans (by decide)))
                                                                                                      have q23 : v3.toInt ≠ 23 := fun q => a28 (Int32.toInt_inj.mp (q.trans (by decide)))
                                                                                                      have q24 : v3.toInt ≠ 24 := fun q => a29 (Int32.toInt_inj.mp (q.trans (by decide)))
                                                                                                      have q25 : v3.toInt ≠ 25 := fun q => a30 (Int32.toInt_inj.mp (q.trans (by decide)))
                                                                                                      have q26 : v3.toInt ≠ 26 := fun q => a31 (Int32.toInt_inj.mp (q.trans (by decide)))
                                                                                                      have q27 : v3.toInt ≠ 27 := fun q => a32 (Int32.toInt_inj.mp (q.trans (by decide)))
                                                                                                      have q28 : v3.toInt ≠ 28 := fun q => a33 (Int32.toInt_inj.mp (q.trans (by decide)))
                                                                                                      have q29 : v3.toInt ≠ 29 := fun q => a34 (Int32.toInt_inj.mp (q.trans (by decide)))
                                                                                                      have q30 : v3.toInt ≠ 30 := fun q => a35 (Int32.toInt_inj.mp (q.trans (by decide)))
                                                                                                      have q31 : v3.toInt ≠ 31 := fun q => a36 (Int32.toInt_inj.mp (q.trans (by decide)))
                                                                                                      have q32 : v3.toInt ≠ 32 := fun q => a37 (Int32.toInt_inj.mp (q.trans (by decide)))
                                                                                                      have q33 : v3.toInt ≠ 33 := fun q => a38 (Int32.toInt_inj.mp (q.trans (by decide)))
                                                                                                      have q34 : v3.toInt ≠ 34 := fun q => a39 (Int32.toInt_inj.mp (q.trans (by decide)))
                                                                                                      have q35 : v3.toInt ≠ 35 := fun q => a40 (Int32.toInt_inj.mp (q.trans (by decide)))
                                                                                                      have q36 : v3.toInt ≠ 36 := fun q => a41 (Int32.toInt_inj.mp (q.trans (by decide)))
                                                                                                      have q37 : v3.toInt ≠ 37 := fun q => a42 (Int32.toInt_inj.mp (q.trans (by decide)))
                                                                                                      have q38 : v3.toInt ≠ 38 := fun q => a43 (Int32.toInt_inj.mp (q.trans (by decide)))
                                                                                                      have q39 : v3.toInt ≠ 39 := fun q => a44 (Int32.toInt_inj.mp (q.trans (by decide)))
                                                                                                      have q40 : v3.toInt ≠ 40 := fun q => a45 (Int32.toInt_inj.mp (q.trans (by decide)))
                                                                                                      have q41 : v3.toInt ≠ 41 := fun q => a46 (Int32.toInt_inj.mp (q.trans (by decide)))
                                                                                                      have q42 : v3.toInt ≠ 42 := fun q => a47 (Int32.toInt_inj.mp (q.trans (by decide)))
                                                                                                      have q43 : v3.toInt ≠ 43 := fun q => a48 (Int32.toInt_inj.mp (q.trans (by decide)))
                                                                                                      have q44 : v3.toInt ≠ 44 := fun q => a49 (Int32.toInt_inj.mp (q.trans (by decide)))
                                                                                                      have q45 : v3.toInt ≠ 45 := fun q => a50 (Int32.toInt_inj.mp (q.trans (by decide)))
                                                                                                      have q46 : v3.toInt ≠ 46 := fun q => a51 (Int32.toInt_inj.mp (q.trans (by decide)))
                                                                                                      refine g_tswd (tgt := 2032) F (by omega) dL_law_33 (by decide) ?_
                                                                                                      refine g_iinc (i := 3) (v := (l3 + (7 : Int32))) (lv' := [(3, .int (l3 + (7 : Int32))), (0, .ref b0), (1, .ref (ev 0 + 0)), (2, .ref (ev 0 + 65))]) F dL_law_2032 rfl rfl (by decide) rfl ?_
                                                                                                      refine g_goto (tgt := 18) F dL_law_2035 (by decide) ?_
                                                                                                      refine g_lv (lv' := [(0, .ref b0), (1, .ref (ev 0 + 0)), (2, .ref (ev 0 + 65)), (3, .int (l3 + (7 : Int32)))]) ⟨rfl, rfl, rfl, rfl, trivial⟩ ?_
                                                                                                      exact ih18 _ _ _ _ _ _ (by omega) (by omega) h
  exact L18

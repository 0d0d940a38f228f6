def lf (l : List Int32) (k : Nat) : Int32 := l.getD k 0
theorem lf_step (l : List Int32) (x : Int32) : upd (lf l) l.length x = lf (l ++ [x]) := by
  funext k
  unfold upd lf
  rw [List.getD_eq_getElem?_getD, List.getD_eq_getElem?_getD]
  by_cases h : k = l.length
  · subst h
    rw [if_pos rfl, List.getElem?_append_right (Nat.le_refl _), Nat.sub_self]
    rfl
  · rw [if_neg h]
    rcases Nat.lt_or_ge k l.length with h1 | h1
    · rw [List.getElem?_append_left h1]
    · rw [List.getElem?_eq_none h1, List.getElem?_eq_none (by rw [List.length_append]; simp only [List.length_cons, List.length_nil]; omega)]
section G21
variable {p : Program} {l : Launch} {e : Env} {R : Room} {s : State} {m : MethodId} {args : Array Value} {below : List Frame} {meth : Method} {c : Code} {Q : State → Prop} {s0 : State} {D : va_G} {ev : Nat → Nat} {nL cls slots pc : Nat} {lv : List (Nat × Value)} {st : List Value} {cc : ByteArray} {own : String} {w : List va_E} {n : Nat}
theorem g_istL (F : Fx p s m args c s0 D ev cc nL own) (hn : w.length = n) {N : Nat} {q : List Int32} {i x : Int32} (hi : i.toNatClampNeg = q.length) (hin : vp_in i N) (hd : decode cc pc = .ok (.iastore, 1)) (k9 : GJ p l e R s m args below meth c Q s0 D ev nL cls slots (pc + 1) lv st (w ++ [.inl (ev 1, N, .inl (lf (q ++ [x])))])) : GJ p l e R s m args below meth c Q s0 D ev nL cls slots pc lv (.int x :: .int i :: .ref (ev 0 + n) :: st) (w ++ [.inl (ev 1, N, .inl (lf q))]) := by
  refine g_iast F (id := n) ((ap_at hn 0).trans rfl) hin hd ?_
  have h := ap_set hn (L := [(.inl (ev 1, N, .inl (lf q)) : va_E)]) 0 (.inl (ev 1, N, .inl (upd (lf q) i.toNatClampNeg x)))
  rw [Nat.add_zero] at h
  rw [h, hi, lf_step]
  exact k9
def lt47 : List Int32 := [0, 1, 1, 1, 0, -1, -1, -1]
set_option maxRecDepth 100000 in
set_option maxHeartbeats 4000000 in
theorem g_lt47 (F : Fx p s m args c s0 D ev cX10_init nL own) (hn : w.length = n) (k9 : GJ p l e R s m args below meth c Q s0 D ev nL cls slots 83 lv (.ref (ev 0 + n) :: st) (w ++ [.inl (ev 1, 8, .inl (lf lt47))])) : GJ p l e R s m args below meth c Q s0 D ev nL cls slots 49 lv (.ref (ev 0 + n) :: st) (w ++ [.inl (ev 1, 8, .inl (lf []))]) := by
  refine g_dup F dX10_init_49 rfl ?_
  refine g_iconst F dX10_init_50 (v := 0) (by decide) ?_
  refine g_iconst F dX10_init_51 (v := 0) (by decide) ?_
  refine g_istL F hn (by decide) (vp_in_iff.mpr (by decide)) dX10_init_52 ?_
  refine g_sw (st' := .ref (ev 0 + n) :: st) (ws' := w ++ [.inl (ev 1, 8, .inl (lf [0]))]) rfl rfl ?_
  refine g_dup F dX10_init_53 rfl ?_
  refine g_iconst F dX10_init_54 (v := 1) (by decide) ?_
  refine g_iconst F dX10_init_55 (v := 1) (by decide) ?_
  refine g_istL F hn (by decide) (vp_in_iff.mpr (by decide)) dX10_init_56 ?_
  refine g_sw (st' := .ref (ev 0 + n) :: st) (ws' := w ++ [.inl (ev 1, 8, .inl (lf [0, 1]))]) rfl rfl ?_
  refine g_dup F dX10_init_57 rfl ?_
  refine g_iconst F dX10_init_58 (v := 2) (by decide) ?_
  refine g_iconst F dX10_init_59 (v := 1) (by decide) ?_
  refine g_istL F hn (by decide) (vp_in_iff.mpr (by decide)) dX10_init_60 ?_
  refine g_sw (st' := .ref (ev 0 + n) :: st) (ws' := w ++ [.inl (ev 1, 8, .inl (lf [0, 1, 1]))]) rfl rfl ?_
  refine g_dup F dX10_init_61 rfl ?_
  refine g_iconst F dX10_init_62 (v := 3) (by decide) ?_
  refine g_iconst F dX10_init_63 (v := 1) (by decide) ?_
  refine g_istL F hn (by decide) (vp_in_iff.mpr (by decide)) dX10_init_64 ?_
  refine g_sw (st' := .ref (ev 0 + n) :: st) (ws' := w ++ [.inl (ev 1, 8, .inl (lf [0, 1, 1, 1]))]) rfl rfl ?_
  refine g_dup F dX10_init_65 rfl ?_
  refine g_iconst F dX10_init_66 (v := 4) (by decide) ?_
  refine g_iconst F dX10_init_67 (v := 0) (by decide) ?_
  refine g_istL F hn (by decide) (vp_in_iff.mpr (by decide)) dX10_init_68 ?_
  refine g_sw (st' := .ref (ev 0 + n) :: st) (ws' := w ++ [.inl (ev 1, 8, .inl (lf [0, 1, 1, 1, 0]))]) rfl rfl ?_
  refine g_dup F dX10_init_69 rfl ?_
  refine g_iconst F dX10_init_70 (v := 5) (by decide) ?_
  refine g_iconst F dX10_init_71 (v := -1) (by decide) ?_
  refine g_istL F hn (by decide) (vp_in_iff.mpr (by decide)) dX10_init_72 ?_
  refine g_sw (st' := .ref (ev 0 + n) :: st) (ws' := w ++ [.inl (ev 1, 8, .inl (lf [0, 1, 1, 1, 0, -1]))]) rfl rfl ?_
  refine g_dup F dX10_init_73 rfl ?_
  refine g_bipush F dX10_init_74 (v := 6) (by decide) ?_
  refine g_iconst F dX10_init_76 (v := -1) (by decide) ?_
  refine g_istL F hn (by decide) (vp_in_iff.mpr (by decide)) dX10_init_77 ?_
  refine g_sw (st' := .ref (ev 0 + n) :: st) (ws' := w ++ [.inl (ev 1, 8, .inl (lf [0, 1, 1, 1, 0, -1, -1]))]) rfl rfl ?_
  refine g_dup F dX10_init_78 rfl ?_
  refine g_bipush F dX10_init_79 (v := 7) (by decide) ?_
  refine g_iconst F dX10_init_81 (v := -1) (by decide) ?_
  refine g_istL F hn (by decide) (vp_in_iff.mpr (by decide)) dX10_init_82 ?_
  refine g_sw (st' := .ref (ev 0 + n) :: st) (ws' := w ++ [.inl (ev 1, 8, .inl (lf [0, 1, 1, 1, 0, -1, -1, -1]))]) rfl rfl ?_
  exact k9
def lt89 : List Int32 := [1, 1, 0, -1, -1, -1, 0, 1]
set_option maxRecDepth 100000 in
set_option maxHeartbeats 4000000 in
theorem g_lt89 (F : Fx p s m args c s0 D ev cX10_init nL own) (hn : w.length = n) (k9 : GJ p l e R s m args below meth c Q s0 D ev nL cls slots 125 lv (.ref (ev 0 + n) :: st) (w ++ [.inl (ev 1, 8, .inl (lf lt89))])) : GJ p l e R s m args below meth c Q s0 D ev nL cls slots 91 lv (.ref (ev 0 + n) :: st) (w ++ [.inl (ev 1, 8, .inl (lf []))]) := by
  refine g_dup F dX10_init_91 rfl ?_
  refine g_iconst F dX10_init_92 (v := 0) (by decide) ?_
  refine g_iconst F dX10_init_93 (v := 1) (by decide) ?_
  refine g_istL F hn (by decide) (vp_in_iff.mpr (by decide)) dX10_init_94 ?_
  refine g_sw (st' := .ref (ev 0 + n) :: st) (ws' := w ++ [.inl (ev 1, 8, .inl (lf [1]))]) rfl rfl ?_
  refine g_dup F dX10_init_95 rfl ?_
  refine g_iconst F dX10_init_96 (v := 1) (by decide) ?_
  refine g_iconst F dX10_init_97 (v := 1) (by decide) ?_
  refine g_istL F hn (by decide) (vp_in_iff.mpr (by decide)) dX10_init_98 ?_
  refine g_sw (st' := .ref (ev 0 + n) :: st) (ws' := w ++ [.inl (ev 1, 8, .inl (lf [1, 1]))]) rfl rfl ?_
  refine g_dup F dX10_init_99 rfl ?_
  refine g_iconst F dX10_init_100 (v := 2) (by decide) ?_
  refine g_iconst F dX10_init_101 (v := 0) (by decide) ?_
  refine g_istL F hn (by decide) (vp_in_iff.mpr (by decide)) dX10_init_102 ?_
  refine g_sw (st' := .ref (ev 0 + n) :: st) (ws' := w ++ [.inl (ev 1, 8, .inl (lf [1, 1, 0]))]) rfl rfl ?_
  refine g_dup F dX10_init_103 rfl ?_
  refine g_iconst F dX10_init_104 (v := 3) (by decide) ?_
  refine g_iconst F dX10_init_105 (v := -1) (by decide) ?_
  refine g_istL F hn (by decide) (vp_in_iff.mpr (by decide)) dX10_init_106 ?_
  refine g_sw (st' := .ref (ev 0 + n) :: st) (ws' := w ++ [.inl (ev 1, 8, .inl (lf [1, 1, 0, -1]))]) rfl rfl ?_
  refine g_dup F dX10_init_107 rfl ?_
  refine g_iconst F dX10_init_108 (v := 4) (by decide) ?_
  refine g_iconst F dX10_init_109 (v := -1) (by decide) ?_
  refine g_istL F hn (by decide) (vp_in_iff.mpr (by decide)) dX10_init_110 ?_
  refine g_sw (st' := .ref (ev 0 + n) :: st) (ws' := w ++ [.inl (ev 1, 8, .inl (lf [1, 1, 0, -1, -1]))]) rfl rfl ?_
  refine g_dup F dX10_init_111 rfl ?_
  refine g_iconst F dX10_init_112 (v := 5) (by decide) ?_
  refine g_iconst F dX10_init_113 (v := -1) (by decide) ?_
  refine g_istL F hn (by decide) (vp_in_iff.mpr (by decide)) dX10_init_114 ?_
  refine g_sw (st' := .ref (ev 0 + n) :: st) (ws' := w ++ [.inl (ev 1, 8, .inl (lf [1, 1, 0, -1, -1, -1]))]) rfl rfl ?_
  refine g_dup F dX10_init_115 rfl ?_
  refine g_bipush F dX10_init_116 (v := 6) (by decide) ?_
  refine g_iconst F dX10_init_118 (v := 0) (by decide) ?_
  refine g_istL F hn (by decide) (vp_in_iff.mpr (by decide)) dX10_init_119 ?_
  refine g_sw (st' := .ref (ev 0 + n) :: st) (ws' := w ++ [.inl (ev 1, 8, .inl (lf [1, 1, 0, -1, -1, -1, 0]))]) rfl rfl ?_
  refine g_dup F dX10_init_120 rfl ?_
  refine g_bipush F dX10_init_121 (v := 7) (by decide) ?_
  refine g_iconst F dX10_init_123 (v := 1) (by decide) ?_
  refine g_istL F hn (by decide) (vp_in_iff.mpr (by decide)) dX10_init_124 ?_
  refine g_sw (st' := .ref (ev 0 + n) :: st) (ws' := w ++ [.inl (ev 1, 8, .inl (lf [1, 1, 0, -1, -1, -1, 0, 1]))]) rfl rfl ?_
  exact k9
def lt252 : List Int32 := [-1, -1, -1, -1]
set_option maxRecDepth 100000 in
set_option maxHeartbeats 4000000 in
theorem g_lt252 (F : Fx p s m args c s0 D ev cX10_init nL own) (hn : w.length = n) (k9 : GJ p l e R s m args below meth c Q s0 D ev nL cls slots 270 lv (.ref (ev 0 + n) :: st) (w ++ [.inl (ev 1, 4, .inl (lf lt252))])) : GJ p l e R s m args below meth c Q s0 D ev nL cls slots 254 lv (.ref (ev 0 + n) :: st) (w ++ [.inl (ev 1, 4, .inl (lf []))]) := by
  refine g_dup F dX10_init_254 rfl ?_
  refine g_iconst F dX10_init_255 (v := 0) (by decide) ?_
  refine g_iconst F dX10_init_256 (v := -1) (by decide) ?_
  refine g_istL F hn (by decide) (vp_in_iff.mpr (by decide)) dX10_init_257 ?_
  refine g_sw (st' := .ref (ev 0 + n) :: st) (ws' := w ++ [.inl (ev 1, 4, .inl (lf [-1]))]) rfl rfl ?_
  refine g_dup F dX10_init_258 rfl ?_
  refine g_iconst F dX10_init_259 (v := 1) (by decide) ?_
  refine g_iconst F dX10_init_260 (v := -1) (by decide) ?_
  refine g_istL F hn (by decide) (vp_in_iff.mpr (by decide)) dX10_init_261 ?_
  refine g_sw (st' := .ref (ev 0 + n) :: st) (ws' := w ++ [.inl (ev 1, 4, .inl (lf [-1, -1]))]) rfl rfl ?_
  refine g_dup F dX10_init_262 rfl ?_
  refine g_iconst F dX10_init_263 (v := 2) (by decide) ?_
  refine g_iconst F dX10_init_264 (v := -1) (by decide) ?_
  refine g_istL F hn (by decide) (vp_in_iff.mpr (by decide)) dX10_init_265 ?_
  refine g_sw (st' := .ref (ev 0 + n) :: st) (ws' := w ++ [.inl (ev 1, 4, .inl (lf [-1, -1, -1]))]) rfl rfl ?_
  refine g_dup F dX10_init_266 rfl ?_
  refine g_iconst F dX10_init_267 (v := 3) (by decide) ?_
  refine g_iconst F dX10_init_268 (v := -1) (by decide) ?_
  refine g_istL F hn (by decide) (vp_in_iff.mpr (by decide)) dX10_init_269 ?_
  refine g_sw (st' := .ref (ev 0 + n) :: st) (ws' := w ++ [.inl (ev 1, 4, .inl (lf [-1, -1, -1, -1]))]) rfl rfl ?_
  exact k9
def lt292 : List Int32 := [112, 117, 108, 108, 32, 119, 105, 110, 100, 32, 42, 32, 97, 114, 101, 97, 32, 59, 32, 104, 111, 108, 100, 32, 54, 48, 32, 43, 32, 104, 101, 97, 118, 121, 32, 42, 32, 49, 48, 32, 45, 32, 98, 101, 100, 32, 42, 32, 50, 48, 32, 59, 32, 106, 101, 114, 107, 32, 119, 105, 110, 100, 32, 45, 32, 111, 117, 116, 32, 59]
set_option maxRecDepth 100000 in
set_option maxHeartbeats 4000000 in
theorem g_lt292 (F : Fx p s m args c s0 D ev cX10_init nL own) (hn : w.length = n) (k9 : GJ p l e R s m args below meth c Q s0 D ev nL cls slots 708 lv (.ref (ev 0 + n) :: st) (w ++ [.inl (ev 1, 70, .inl (lf lt292))])) : GJ p l e R s m args below meth c Q s0 D ev nL cls slots 294 lv (.ref (ev 0 + n) :: st) (w ++ [.inl (ev 1, 70, .inl (lf []))]) := by
  refine g_dup F dX10_init_294 rfl ?_
  refine g_iconst F dX10_init_295 (v := 0) (by decide) ?_
  refine g_bipush F dX10_init_296 (v := 112) (by decide) ?_
  refine g_istL F hn (by decide) (vp_in_iff.mpr (by decide)) dX10_init_298 ?_
  refine g_sw (st' := .ref (ev 0 + n) :: st) (ws' := w ++ [.inl (ev 1, 70, .inl (lf [112]))]) rfl rfl ?_
  refine g_dup F dX10_init_299 rfl ?_
  refine g_iconst F dX10_init_300 (v := 1) (by decide) ?_
  refine g_bipush F dX10_init_301 (v := 117) (by decide) ?_
  refine g_istL F hn (by decide) (vp_in_iff.mpr (by decide)) dX10_init_303 ?_
  refine g_sw (st' := .ref (ev 0 + n) :: st) (ws' := w ++ [.inl (ev 1, 70, .inl (lf [112, 117]))]) rfl rfl ?_
  refine g_dup F dX10_init_304 rfl ?_
  refine g_iconst F dX10_init_305 (v := 2) (by decide) ?_
  refine g_bipush F dX10_init_306 (v := 108) (by decide) ?_
  refine g_istL F hn (by decide) (vp_in_iff.mpr (by decide)) dX10_init_308 ?_
  refine g_sw (st' := .ref (ev 0 + n) :: st) (ws' := w ++ [.inl (ev 1, 70, .inl (lf [112, 117, 108]))]) rfl rfl ?_
  refine g_dup F dX10_init_309 rfl ?_
  refine g_iconst F dX10_init_310 (v := 3) (by decide) ?_
  refine g_bipush F dX10_init_311 (v := 108) (by decide) ?_
  refine g_istL F hn (by decide) (vp_in_iff.mpr (by decide)) dX10_init_313 ?_
  refine g_sw (st' := .ref (ev 0 + n) :: st) (ws' := w ++ [.inl (ev 1, 70, .inl (lf [112, 117, 108, 108]))]) rfl rfl ?_
  refine g_dup F dX10_init_314 rfl ?_
  refine g_iconst F dX10_init_315 (v := 4) (by decide) ?_
  refine g_bipush F dX10_init_316 (v := 32) (by decide) ?_
  refine g_istL F hn (by decide) (vp_in_iff.mpr (by decide)) dX10_init_318 ?_
  refine g_sw (st' := .ref (ev 0 + n) :: st) (ws' := w ++ [.inl (ev 1, 70, .inl (lf [112, 117, 108, 108, 32]))]) rfl rfl ?_
  refine g_dup F dX10_init_319 rfl ?_
  refine g_iconst F dX10_init_320 (v := 5) (by decide) ?_
  refine g_bipush F dX10_init_321 (v := 119) (by decide) ?_
  refine g_istL F hn (by decide) (vp_in_iff.mpr (by decide)) dX10_init_323 ?_
  refine g_sw (st' := .ref (ev 0 + n) :: st) (ws' := w ++ [.inl (ev 1, 70, .inl (lf [112, 117, 108, 108, 32, 119]))]) rfl rfl ?_
  refine g_dup F dX10_init_324 rfl ?_
  refine g_bipush F dX10_init_325 (v := 6) (by decide) ?_
  refine g_bipush F dX10_init_327 (v := 105) (by decide) ?_
  refine g_istL F hn (by decide) (vp_in_iff.mpr (by decide)) dX10_init_329 ?_
  refine g_sw (st' := .ref (ev 0 + n) :: st) (ws' := w ++ [.inl (ev 1, 70, .inl (lf [112, 117, 108, 108, 32, 119, 105]))]) rfl rfl ?_
  refine g_dup F dX10_init_330 rfl ?_
  refine g_bipush F dX10_init_331 (v := 7) (by decide) ?_
  refine g_bipush F dX10_init_333 (v := 110) (by decide) ?_
  refine g_istL F hn (by decide) (vp_in_iff.mpr (by decide)) dX10_init_335 ?_
  refine g_sw (st' := .ref (ev 0 + n) :: st) (ws' := w ++ [.inl (ev 1, 70, .inl (lf [112, 117, 108, 108, 32, 119, 105, 110]))]) rfl rfl ?_
  refine g_dup F dX10_init_336 rfl ?_
  refine g_bipush F dX10_init_337 (v := 8) (by decide) ?_
  refine g_bipush F dX10_init_339 (v := 100) (by decide) ?_
  refine g_istL F hn (by decide) (vp_in_iff.mpr (by decide)) dX10_init_341 ?_
  refine g_sw (st' := .ref (ev 0 + n) :: st) (ws' := w ++ [.inl (ev 1, 70, .inl (lf [112, 117, 108, 108, 32, 119, 105, 110, 100]))]) rfl rfl ?_
  refine g_dup F dX10_init_342 rfl ?_
  refine g_bipush F dX10_init_343 (v := 9) (by decide) ?_
  refine g_bipush F dX10_init_345 (v := 32) (by decide) ?_
  refine g_istL F hn (by decide) (vp_in_iff.mpr (by decide)) dX10_init_347 ?_
  refine g_sw (st' := .ref (ev 0 + n) :: st) (ws' := w ++ [.inl (ev 1, 70, .inl (lf [112, 117, 108, 108, 32, 119, 105, 110, 100, 32]))]) rfl rfl ?_
  refine g_dup F dX10_init_348 rfl ?_
  refine g_bipush F dX10_init_349 (v := 10) (by decide) ?_
  refine g_bipush F dX10_init_351 (v := 42) (by decide) ?_
  refine g_istL F hn (by decide) (vp_in_iff.mpr (by decide)) dX10_init_353 ?_
  refine g_sw (st' := .ref (ev 0 + n) :: st) (ws' := w ++ [.inl (ev 1, 70, .inl (lf [112, 117, 108, 108, 32, 119, 105, 110, 100, 32, 42]))]) rfl rfl ?_
  refine g_dup F dX10_init_354 rfl ?_
  refine g_bipush F dX10_init_355 (v := 11) (by decide) ?_
  refine g_bipush F dX10_init_357 (v := 32) (by decide) ?_
  refine g_istL F hn (by decide) (vp_in_iff.mpr (by decide)) dX10_init_359 ?_
  refine g_sw (st' := .ref (ev 0 + n) :: st) (ws' := w ++ [.inl (ev 1, 70, .inl (lf [112, 117, 108, 108, 32, 119, 105, 110, 100, 32, 42, 32]))]) rfl rfl ?_
  refine g_dup F dX10_init_360 rfl ?_
  refine g_bipush F dX10_init_361 (v := 12) (by decide) ?_
  refine g_bipush F dX10_init_363 (v := 97) (by decide) ?_
  refine g_istL F hn (by decide) (vp_in_iff.mpr (by decide)) dX10_init_365 ?_
  refine g_sw (st' := .ref (ev 0 + n) :: st) (ws' := w ++ [.inl (ev 1, 70, .inl (lf [112, 117, 108, 108, 32, 119, 105, 110, 100, 32, 42, 32, 97]))]) rfl rfl ?_
  refine g_dup F dX10_init_366 rfl ?_
  refine g_bipush F dX10_init_367 (v := 13) (by decide) ?_
  refine g_bipush F dX10_init_369 (v := 114) (by decide) ?_
  refine g_istL F hn (by decide) (vp_in_iff.mpr (by decide)) dX10_init_371 ?_
  refine g_sw (st' := .ref (ev 0 + n) :: st) (ws' := w ++ [.inl (ev 1, 70, .inl (lf [112, 117, 108, 108, 32, 119, 105, 110, 100, 32, 42, 32, 97, 114]))]) rfl rfl ?_
  refine g_dup F dX10_init_372 rfl ?_
  refine g_bipush F dX10_init_373 (v := 14) (by decide) ?_
  refine g_bipush F dX10_init_375 (v := 101) (by decide) ?_
  refine g_istL F hn (by decide) (vp_in_iff.mpr (by decide)) dX10_init_377 ?_
  refine g_sw (st' := .ref (ev 0 + n) :: st) (ws' := w ++ [.inl (ev 1, 70, .inl (lf [112, 117, 108, 108, 32, 119, 105, 110, 100, 32, 42, 32, 97, 114, 101]))]) rfl rfl ?_
  refine g_dup F dX10_init_378 rfl ?_
  refine g_bipush F dX10_init_379 (v := 15) (by decide) ?_
  refine g_bipush F dX10_init_381 (v := 97) (by decide) ?_
  refine g_istL F hn (by decide) (vp_in_iff.mpr (by decide)) dX10_init_383 ?_
  refine g_sw (st' := .ref (ev 0 + n) :: st) (ws' := w ++ [.inl (ev 1, 70, .inl (lf [112, 117, 108, 108, 32, 119, 105, 110, 100, 32, 42, 32, 97, 114, 101, 97]))]) rfl rfl ?_
  refine g_dup F dX10_init_384 rfl ?_
  refine g_bipush F dX10_init_385 (v := 16) (by decide) ?_
  refine g_bipush F dX10_init_387 (v := 32) (by decide) ?_
  refine g_istL F hn (by decide) (vp_in_iff.mpr (by decide)) dX10_init_389 ?_
  refine g_sw (st' := .ref (ev 0 + n) :: st) (ws' := w ++ [.inl (ev 1, 70, .inl (lf [112, 117, 108, 108, 32, 119, 105, 110, 100, 32, 42, 32, 97, 114, 101, 97, 32]))]) rfl rfl ?_
  refine g_dup F dX10_init_390 rfl ?_
  refine g_bipush F dX10_init_391 (v := 17) (by decide) ?_
  refine g_bipush F dX10_init_393 (v := 59) (by decide) ?_
  refine g_istL F hn (by decide) (vp_in_iff.mpr (by decide)) dX10_init_395 ?_
  refine g_sw (st' := .ref (ev 0 + n) :: st) (ws' := w ++ [.inl (ev 1, 70, .inl (lf [112, 117, 108, 108, 32, 119, 105, 110, 100, 32, 42, 32, 97, 114, 101, 97, 32, 59]))]) rfl rfl ?_
  refine g_dup F dX10_init_396 rfl ?_
  refine g_bipush F dX10_init_397 (v := 18) (by decide) ?_
  refine g_bipush F dX10_init_399 (v := 32) (by decide) ?_
  refine g_istL F hn (by decide) (vp_in_iff.mpr (by decide)) dX10_init_401 ?_
  refine g_sw (st' := .ref (ev 0 + n) :: st) (ws' := w ++ [.inl (ev 1, 70, .inl (lf [112, 117, 108, 108, 32, 119, 105, 110, 100, 32, 42, 32, 97, 114, 101, 97, 32, 59, 32]))]) rfl rfl ?_
  refine g_dup F dX10_init_402 rfl ?_
  refine g_bipush F dX10_init_403 (v := 19) (by decide) ?_
  refine g_bipush F dX10_init_405 (v := 104) (by decide) ?_
  refine g_istL F hn (by decide) (vp_in_iff.mpr (by decide)) dX10_init_407 ?_
  refine g_sw (st' := .ref (ev 0 + n) :: st) (ws' := w ++ [.inl (ev 1, 70, .inl (lf [112, 117, 108, 108, 32, 119, 105, 110, 100, 32, 42, 32, 97, 114, 101, 97, 32, 59, 32, 104]))]) rfl rfl ?_
  refine g_dup F dX10_init_408 rfl ?_
  refine g_bipush F dX10_init_409 (v := 20) (by decide) ?_
  refine g_bipush F dX10_init_411 (v := 111) (by decide) ?_
  refine g_istL F hn (by decide) (vp_in_iff.mpr (by decide)) dX10_init_413 ?_
  refine g_sw (st' := .ref (ev 0 + n) :: st) (ws' := w ++ [.inl (ev 1, 70, .inl (lf [112, 117, 108, 108, 32, 119, 105, 110, 100, 32, 42, 32, 97, 114, 101, 97, 32, 59, 32, 104, 111]))]) rfl rfl ?_
  refine g_dup F dX10_init_414 rfl ?_
  refine g_bipush F dX10_init_415 (v := 21) (by decide) ?_
  refine g_bipush F dX10_init_417 (v := 108) (by decide) ?_
  refine g_istL F hn (by decide) (vp_in_iff.mpr (by decide)) dX10_init_419 ?_
  refine g_sw (st' := .ref (ev 0 + n) :: st) (ws' := w ++ [.inl (ev 1, 70, .inl (lf [112, 117, 108, 108, 32, 119, 105, 110, 100, 32, 42, 32, 97, 114, 101, 97, 32, 59, 32, 104, 111, 108]))]) rfl rfl ?_
  refine g_dup F dX10_init_420 rfl ?_
  refine g_bipush F dX10_init_421 (v := 22) (by decide) ?_
  refine g_bipush F dX10_init_423 (v := 100) (by decide) ?_
  refine g_istL F hn (by decide) (vp_in_iff.mpr (by decide)) dX10_init_425 ?_
  refine g_sw (st' := .ref (ev 0 + n) :: st) (ws' := w ++ [.inl (ev 1, 70, .inl (lf [112, 117, 108, 108, 32, 119, 105, 110, 100, 32, 42, 32, 97, 114, 101, 97, 32, 59, 32, 104, 111, 108, 100]))]) rfl rfl ?_
  refine g_dup F dX10_init_426 rfl ?_
  refine g_bipush F dX10_init_427 (v := 23) (by decide) ?_
  refine g_bipush F dX10_init_429 (v := 32) (by decide) ?_
  refine g_istL F hn (by decide) (vp_in_iff.mpr (by decide)) dX10_init_431 ?_
  refine g_sw (st' := .ref (ev 0 + n) :: st) (ws' := w ++ [.inl (ev 1, 70, .inl (lf [112, 117, 108, 108, 32, 119, 105, 110, 100, 32, 42, 32, 97, 114, 101, 97, 32, 59, 32, 104, 111, 108, 100, 32]))]) rfl rfl ?_
  refine g_dup F dX10_init_432 rfl ?_
  refine g_bipush F dX10_init_433 (v := 24) (by decide) ?_
  refine g_bipush F dX10_init_435 (v := 54) (by decide) ?_
  refine g_istL F hn (by decide) (vp_in_iff.mpr (by decide)) dX10_init_437 ?_
  refine g_sw (st' := .ref (ev 0 + n) :: st) (ws' := w ++ [.inl (ev 1, 70, .inl (lf [112, 117, 108, 108, 32, 119, 105, 110, 100, 32, 42, 32, 97, 114, 101, 97, 32, 59, 32, 104, 111, 108, 100, 32, 54]))]) rfl rfl ?_
  refine g_dup F dX10_init_438 rfl ?_
  refine g_bipush F dX10_init_439 (v := 25) (by decide) ?_
  refine g_bipush F dX10_init_441 (v := 48) (by decide) ?_
  refine g_istL F hn (by decide) (vp_in_iff.mpr (by decide)) dX10_init_443 ?_
  refine g_sw (st' := .ref (ev 0 + n) :: st) (ws' := w ++ [.inl (ev 1, 70, .inl (lf [112, 117, 108, 108, 32, 119, 105, 110, 100, 32, 42, 32, 97, 114, 101, 97, 32, 59, 32, 104, 111, 108, 100, 32, 54, 48]))]) rfl rfl ?_
  refine g_dup F dX10_init_444 rfl ?_
  refine g_bipush F dX10_init_445 (v := 26) (by decide) ?_
  refine g_bipush F dX10_init_447 (v := 32) (by decide) ?_
  refine g_istL F hn (by decide) (vp_in_iff.mpr (by decide)) dX10_init_449 ?_
  refine g_sw (st' := .ref (ev 0 + n) :: st) (ws' := w ++ [.inl (ev 1, 70, .inl (lf [112, 117, 108, 108, 32, 119, 105, 110, 100, 32, 42, 32, 97, 114, 101, 97, 32, 59, 32, 104, 111, 108, 100, 32, 54, 48, 32]))]) rfl rfl ?_
  refine g_dup F dX10_init_450 rfl ?_
  refine g_bipush F dX10_init_451 (v := 27) (by decide) ?_
  refine g_bipush F dX10_init_453 (v := 43) (by decide) ?_
  refine g_istL F hn (by decide) (vp_in_iff.mpr (by decide)) dX10_init_455 ?_
  refine g_sw (st' := .ref (ev 0 + n) :: st) (ws' := w ++ [.inl (ev 1, 70, .inl (lf [112, 117, 108, 108, 32, 119, 105, 110, 100, 32, 42, 32, 97, 114, 101, 97, 32, 59, 32, 104, 111, 108, 100, 32, 54, 48, 32, 43]))]) rfl rfl ?_
  refine g_dup F dX10_init_456 rfl ?_
  refine g_bipush F dX10_init_457 (v := 28) (by decide) ?_
  refine g_bipush F dX10_init_459 (v := 32) (by decide) ?_
  refine g_istL F hn (by decide) (vp_in_iff.mpr (by decide)) dX10_init_461 ?_
  refine g_sw (st' := .ref (ev 0 + n) :: st) (ws' := w ++ [.inl (ev 1, 70, .inl (lf [112, 117, 108, 108, 32, 119, 105, 110, 100, 32, 42, 32, 97, 114, 101, 97, 32, 59, 32, 104, 111, 108, 100, 32, 54, 48, 32, 43, 32]))]) rfl rfl ?_
  refine g_dup F dX10_init_462 rfl ?_
  refine g_bipush F dX10_init_463 (v := 29) (by decide) ?_
  refine g_bipush F dX10_init_465 (v := 104) (by decide) ?_
  refine g_istL F hn (by decide) (vp_in_iff.mpr (by decide)) dX10_init_467 ?_
  refine g_sw (st' := .ref (ev 0 + n) :: st) (ws' := w ++ [.inl (ev 1, 70, .inl (lf [112, 117, 108, 108, 32, 119, 105, 110, 100, 32, 42, 32, 97, 114, 101, 97, 32, 59, 32, 104, 111, 108, 100, 32, 54, 48, 32, 43, 32, 104]))]) rfl rfl ?_
  refine g_dup F dX10_init_468 rfl ?_
  refine g_bipush F dX10_init_469 (v := 30) (by decide) ?_
  refine g_bipush F dX10_init_471 (v := 101) (by decide) ?_
  refine g_istL F hn (by decide) (vp_in_iff.mpr (by decide)) dX10_init_473 ?_
  refine g_sw (st' := .ref (ev 0 + n) :: st) (ws' := w ++ [.inl (ev 1, 70, .inl (lf [112, 117, 108, 108, 32, 119, 105, 110, 100, 32, 42, 32, 97, 114, 101, 97, 32, 59, 32, 104, 111, 108, 100, 32, 54, 48, 32, 43, 32, 104, 101]))]) rfl rfl ?_
  refine g_dup F dX10_init_474 rfl ?_
  refine g_bipush F dX10_init_475 (v := 31) (by decide) ?_
  refine g_bipush F dX10_init_477 (v := 97) (by decide) ?_
  refine g_istL F hn (by decide) (vp_in_iff.mpr (by decide)) dX10_init_479 ?_
  refine g_sw (st' := .ref (ev 0 + n) :: st) (ws' := w ++ [.inl (ev 1, 70, .inl (lf [112, 117, 108, 108, 32, 119, 105, 110, 100, 32, 42, 32, 97, 114, 101, 97, 32, 59, 32, 104, 111, 108, 100, 32, 54, 48, 32, 43, 32, 104, 101, 97]))]) rfl rfl ?_
  refine g_dup F dX10_init_480 rfl ?_
  refine g_bipush F dX10_init_481 (v := 32) (by decide) ?_
  refine g_bipush F dX10_init_483 (v := 118) (by decide) ?_
  refine g_istL F hn (by decide) (vp_in_iff.mpr (by decide)) dX10_init_485 ?_
  refine g_sw (st' := .ref (ev 0 + n) :: st) (ws' := w ++ [.inl (ev 1, 70, .inl (lf [112, 117, 108, 108, 32, 119, 105, 110, 100, 32, 42, 32, 97, 114, 101, 97, 32, 59, 32, 104, 111, 108, 100, 32, 54, 48, 32, 43, 32, 104, 101, 97, 118]))]) rfl rfl ?_
  refine g_dup F dX10_init_486 rfl ?_
  refine g_bipush F dX10_init_487 (v := 33) (by decide) ?_
  refine g_bipush F dX10_init_489 (v := 121) (by decide) ?_
  refine g_istL F hn (by decide) (vp_in_iff.mpr (by decide)) dX10_init_491 ?_
  refine g_sw (st' := .ref (ev 0 + n) :: st) (ws' := w ++ [.inl (ev 1, 70, .inl (lf [112, 117, 108, 108, 32, 119, 105, 110, 100, 32, 42, 32, 97, 114, 101, 97, 32, 59, 32, 104, 111, 108, 100, 32, 54, 48, 32, 43, 32, 104, 101, 97, 118, 121]))]) rfl rfl ?_
  refine g_dup F dX10_init_492 rfl ?_
  refine g_bipush F dX10_init_493 (v := 34) (by decide) ?_
  refine g_bipush F dX10_init_495 (v := 32) (by decide) ?_
  refine g_istL F hn (by decide) (vp_in_iff.mpr (by decide)) dX10_init_497 ?_
  refine g_sw (st' := .ref (ev 0 + n) :: st) (ws' := w ++ [.inl (ev 1, 70, .inl (lf [112, 117, 108, 108, 32, 119, 105, 110, 100, 32, 42, 32, 97, 114, 101, 97, 32, 59, 32, 104, 111, 108, 100, 32, 54, 48, 32, 43, 32, 104, 101, 97, 118, 121, 32]))]) rfl rfl ?_
  refine g_dup F dX10_init_498 rfl ?_
  refine g_bipush F dX10_init_499 (v := 35) (by decide) ?_
  refine g_bipush F dX10_init_501 (v := 42) (by decide) ?_
  refine g_istL F hn (by decide) (vp_in_iff.mpr (by decide)) dX10_init_503 ?_
  refine g_sw (st' := .ref (ev 0 + n) :: st) (ws' := w ++ [.inl (ev 1, 70, .inl (lf [112, 117, 108, 108, 32, 119, 105, 110, 100, 32, 42, 32, 97, 114, 101, 97, 32, 59, 32, 104, 111, 108, 100, 32, 54, 48, 32, 43, 32, 104, 101, 97, 118, 121, 32, 42]))]) rfl rfl ?_
  refine g_dup F dX10_init_504 rfl ?_
  refine g_bipush F dX10_init_505 (v := 36) (by decide) ?_
  refine g_bipush F dX10_init_507 (v := 32) (by decide) ?_
  refine g_istL F hn (by decide) (vp_in_iff.mpr (by decide)) dX10_init_509 ?_
  refine g_sw (st' := .ref (ev 0 + n) :: st) (ws' := w ++ [.inl (ev 1, 70, .inl (lf [112, 117, 108, 108, 32, 119, 105, 110, 100, 32, 42, 32, 97, 114, 101, 97, 32, 59, 32, 104, 111, 108, 100, 32, 54, 48, 32, 43, 32, 104, 101, 97, 118, 121, 32, 42, 32]))]) rfl rfl ?_
  refine g_dup F dX10_init_510 rfl ?_
  refine g_bipush F dX10_init_511 (v := 37) (by decide) ?_
  refine g_bipush F dX10_init_513 (v := 49) (by decide) ?_
  refine g_istL F hn (by decide) (vp_in_iff.mpr (by decide)) dX10_init_515 ?_
  refine g_sw (st' := .ref (ev 0 + n) :: st) (ws' := w ++ [.inl (ev 1, 70, .inl (lf [112, 117, 108, 108, 32, 119, 105, 110, 100, 32, 42, 32, 97, 114, 101, 97, 32, 59, 32, 104, 111, 108, 100, 32, 54, 48, 32, 43, 32, 104, 101, 97, 118, 121, 32, 42, 32, 49]))]) rfl rfl ?_
  refine g_dup F dX10_init_516 rfl ?_
  refine g_bipush F dX10_init_517 (v := 38) (by decide) ?_
  refine g_bipush F dX10_init_519 (v := 48) (by decide) ?_
  refine g_istL F hn (by decide) (vp_in_iff.mpr (by decide)) dX10_init_521 ?_
  refine g_sw (st' := .ref (ev 0 + n) :: st) (ws' := w ++ [.inl (ev 1, 70, .inl (lf [112, 117, 108, 108, 32, 119, 105, 110, 100, 32, 42, 32, 97, 114, 101, 97, 32, 59, 32, 104, 111, 108, 100, 32, 54, 48, 32, 43, 32, 104, 101, 97, 118, 121, 32, 42, 32, 49, 48]))]) rfl rfl ?_
  refine g_dup F dX10_init_522 rfl ?_
  refine g_bipush F dX10_init_523 (v := 39) (by decide) ?_
  refine g_bipush F dX10_init_525 (v := 32) (by decide) ?_
  refine g_istL F hn (by decide) (vp_in_iff.mpr (by decide)) dX10_init_527 ?_
  refine g_sw (st' := .ref (ev 0 + n) :: st) (ws' := w ++ [.inl (ev 1, 70, .inl (lf [112, 117, 108, 108, 32, 119, 105, 110, 100, 32, 42, 32, 97, 114, 101, 97, 32, 59, 32, 104, 111, 108, 100, 32, 54, 48, 32, 43, 32, 104, 101, 97, 118, 121, 32, 42, 32, 49, 48, 32]))]) rfl rfl ?_
  refine g_dup F dX10_init_528 rfl ?_
  refine g_bipush F dX10_init_529 (v := 40) (by decide) ?_
  refine g_bipush F dX10_init_531 (v := 45) (by decide) ?_
  refine g_istL F hn (by decide) (vp_in_iff.mpr (by decide)) dX10_init_533 ?_
  refine g_sw (st' := .ref (ev 0 + n) :: st) (ws' := w ++ [.inl (ev 1, 70, .inl (lf [112, 117, 108, 108, 32, 119, 105, 110, 100, 32, 42, 32, 97, 114, 101, 97, 32, 59, 32, 104, 111, 108, 100, 32, 54, 48, 32, 43, 32, 104, 101, 97, 118, 121, 32, 42, 32, 49, 48, 32, 45]))]) rfl rfl ?_
  refine g_dup F dX10_init_534 rfl ?_
  refine g_bipush F dX10_init_535 (v := 41) (by decide) ?_
  refine g_bipush F dX10_init_537 (v := 32) (by decide) ?_
  refine g_istL F hn (by decide) (vp_in_iff.mpr (by decide)) dX10_init_539 ?_
  refine g_sw (st' := .ref (ev 0 + n) :: st) (ws' := w ++ [.inl (ev 1, 70, .inl (lf [112, 117, 108, 108, 32, 119, 105, 110, 100, 32, 42, 32, 97, 114, 101, 97, 32, 59, 32, 104, 111, 108, 100, 32, 54, 48, 32, 43, 32, 104, 101, 97, 118, 121, 32, 42, 32, 49, 48, 32, 45, 32]))]) rfl rfl ?_
  refine g_dup F dX10_init_540 rfl ?_
  refine g_bipush F dX10_init_541 (v := 42) (by decide) ?_
  refine g_bipush F dX10_init_543 (v := 98) (by decide) ?_
  refine g_istL F hn (by decide) (vp_in_iff.mpr (by decide)) dX10_init_545 ?_
  refine g_sw (st' := .ref (ev 0 + n) :: st) (ws' := w ++ [.inl (ev 1, 70, .inl (lf [112, 117, 108, 108, 32, 119, 105, 110, 100, 32, 42, 32, 97, 114, 101, 97, 32, 59, 32, 104, 111, 108, 100, 32, 54, 48, 32, 43, 32, 104, 101, 97, 118, 121, 32, 42, 32, 49, 48, 32, 45, 32, 98]))]) rfl rfl ?_
  refine g_dup F dX10_init_546 rfl ?_
  refine g_bipush F dX10_init_547 (v := 43) (by decide) ?_
  refine g_bipush F dX10_init_549 (v := 101) (by decide) ?_
  refine g_istL F hn (by decide) (vp_in_iff.mpr (by decide)) dX10_init_551 ?_
  refine g_sw (st' := .ref (ev 0 + n) :: st) (ws' := w ++ [.inl (ev 1, 70, .inl (lf [112, 117, 108, 108, 32, 119, 105, 110, 100, 32, 42, 32, 97, 114, 101, 97, 32, 59, 32, 104, 111, 108, 100, 32, 54, 48, 32, 43, 32, 104, 101, 97, 118, 121, 32, 42, 32, 49, 48, 32, 45, 32, 98, 101]))]) rfl rfl ?_
  refine g_dup F dX10_init_552 rfl ?_
  refine g_bipush F dX10_init_553 (v := 44) (by decide) ?_
  refine g_bipush F dX10_init_555 (v := 100) (by decide) ?_
  refine g_istL F hn (by decide) (vp_in_iff.mpr (by decide)) dX10_init_557 ?_
  refine g_sw (st' := .ref (ev 0 + n) :: st) (ws' := w ++ [.inl (ev 1, 70, .inl (lf [112, 117, 108, 108, 32, 119, 105, 110, 100, 32, 42, 32, 97, 114, 101, 97, 32, 59, 32, 104, 111, 108, 100, 32, 54, 48, 32, 43, 32, 104, 101, 97, 118, 121, 32, 42, 32, 49, 48, 32, 45, 32, 98, 101, 100]))]) rfl rfl ?_
  refine g_dup F dX10_init_558 rfl ?_
  refine g_bipush F dX10_init_559 (v := 45) (by decide) ?_
  refine g_bipush F dX10_init_561 (v := 32) (by decide) ?_
  refine g_istL F hn (by decide) (vp_in_iff.mpr (by decide)) dX10_init_563 ?_
  refine g_sw (st' := .ref (ev 0 + n) :: st) (ws' := w ++ [.inl (ev 1, 70, .inl (lf [112, 117, 108, 108, 32, 119, 105, 110, 100, 32, 42, 32, 97, 114, 101, 97, 32, 59, 32, 104, 111, 108, 100, 32, 54, 48, 32, 43, 32, 104, 101, 97, 118, 121, 32, 42, 32, 49, 48, 32, 45, 32, 98, 101, 100, 32]))]) rfl rfl ?_
  refine g_dup F dX10_init_564 rfl ?_
  refine g_bipush F dX10_init_565 (v := 46) (by decide) ?_
  refine g_bipush F dX10_init_567 (v := 42) (by decide) ?_
  refine g_istL F hn (by decide) (vp_in_iff.mpr (by decide)) dX10_init_569 ?_
  refine g_sw (st' := .ref (ev 0 + n) :: st) (ws' := w ++ [.inl (ev 1, 70, .inl (lf [112, 117, 108, 108, 32, 119, 105, 110, 100, 32, 42, 32, 97, 114, 101, 97, 32, 59, 32, 104, 111, 108, 100, 32, 54, 48, 32, 43, 32, 104, 101, 97, 118, 121, 32, 42, 32, 49, 48, 32, 45, 32, 98, 101, 100, 32, 42]))]) rfl rfl ?_
  refine g_dup F dX10_init_570 rfl ?_
  refine g_bipush F dX10_init_571 (v := 47) (by decide) ?_
  refine g_bipush F dX10_init_573 (v := 32) (by decide) ?_
  refine g_istL F hn (by decide) (vp_in_iff.mpr (by decide)) dX10_init_575 ?_
  refine g_sw (st' := .ref (ev 0 + n) :: st) (ws' := w ++ [.inl (ev 1, 70, .inl (lf [112, 117, 108, 108, 32, 119, 105, 110, 100, 32, 42, 32, 97, 114, 101, 97, 32, 59, 32, 104, 111, 108, 100, 32, 54, 48, 32, 43, 32, 104, 101, 97, 118, 121, 32, 42, 32, 49, 48, 32, 45, 32, 98, 101, 100, 32, 42, 32]))]) rfl rfl ?_
  refine g_dup F dX10_init_576 rfl ?_
  refine g_bipush F dX10_init_577 (v := 48) (by decide) ?_
  refine g_bipush F dX10_init_579 (v := 50) (by decide) ?_
  refine g_istL F hn (by decide) (vp_in_iff.mpr (by decide)) dX10_init_581 ?_
  refine g_sw (st' := .ref (ev 0 + n) :: st) (ws' := w ++ [.inl (ev 1, 70, .inl (lf [112, 117, 108, 108, 32, 119, 105, 110, 100, 32, 42, 32, 97, 114, 101, 97, 32, 59, 32, 104, 111, 108, 100, 32, 54, 48, 32, 43, 32, 104, 101, 97, 118, 121, 32, 42, 32, 49, 48, 32, 45, 32, 98, 101, 100, 32, 42, 32, 50]))]) rfl rfl ?_
  refine g_dup F dX10_init_582 rfl ?_
  refine g_bipush F dX10_init_583 (v := 49) (by decide) ?_
  refine g_bipush F dX10_init_585 (v := 48) (by decide) ?_
  refine g_istL F hn (by decide) (vp_in_iff.mpr (by decide)) dX10_init_587 ?_
  refine g_sw (st' := .ref (ev 0 + n) :: st) (ws' := w ++ [.inl (ev 1, 70, .inl (lf [112, 117, 108, 108, 32, 119, 105, 110, 100, 32, 42, 32, 97, 114, 101, 97, 32, 59, 32, 104, 111, 108, 100, 32, 54, 48, 32, 43, 32, 104, 101, 97, 118, 121, 32, 42, 32, 49, 48, 32, 45, 32, 98, 101, 100, 32, 42, 32, 50, 48]))]) rfl rfl ?_
  refine g_dup F dX10_init_588 rfl ?_
  refine g_bipush F dX10_init_589 (v := 50) (by decide) ?_
  refine g_bipush F dX10_init_591 (v := 32) (by decide) ?_
  refine g_istL F hn (by decide) (vp_in_iff.mpr (by decide)) dX10_init_593 ?_
  refine g_sw (st' := .ref (ev 0 + n) :: st) (ws' := w ++ [.inl (ev 1, 70, .inl (lf [112, 117, 108, 108, 32, 119, 105, 110, 100, 32, 42, 32, 97, 114, 101, 97, 32, 59, 32, 104, 111, 108, 100, 32, 54, 48, 32, 43, 32, 104, 101, 97, 118, 121, 32, 42, 32, 49, 48, 32, 45, 32, 98, 101, 100, 32, 42, 32, 50, 48, 32]))]) rfl rfl ?_
  refine g_dup F dX10_init_594 rfl ?_
  refine g_bipush F dX10_init_595 (v := 51) (by decide) ?_
  refine g_bipush F dX10_init_597 (v := 59) (by decide) ?_
  refine g_istL F hn (by decide) (vp_in_iff.mpr (by decide)) dX10_init_599 ?_
  refine g_sw (st' := .ref (ev 0 + n) :: st) (ws' := w ++ [.inl (ev 1, 70, .inl (lf [112, 117, 108, 108, 32, 119, 105, 110, 100, 32, 42, 32, 97, 114, 101, 97, 32, 59, 32, 104, 111, 108, 100, 32, 54, 48, 32, 43, 32, 104, 101, 97, 118, 121, 32, 42, 32, 49, 48, 32, 45, 32, 98, 101, 100, 32, 42, 32, 50, 48, 32, 59]))]) rfl rfl ?_
  refine g_dup F dX10_init_600 rfl ?_
  refine g_bipush F dX10_init_601 (v := 52) (by decide) ?_
  refine g_bipush F dX10_init_603 (v := 32) (by decide) ?_
  refine g_istL F hn (by decide) (vp_in_iff.mpr (by decide)) dX10_init_605 ?_
  refine g_sw (st' := .ref (ev 0 + n) :: st) (ws' := w ++ [.inl (ev 1, 70, .inl (lf [112, 117, 108, 108, 32, 119, 105, 110, 100, 32, 42, 32, 97, 114, 101, 97, 32, 59, 32, 104, 111, 108, 100, 32, 54, 48, 32, 43, 32, 104, 101, 97, 118, 121, 32, 42, 32, 49, 48, 32, 45, 32, 98, 101, 100, 32, 42, 32, 50, 48, 32, 59, 32]))]) rfl rfl ?_
  refine g_dup F dX10_init_606 rfl ?_
  refine g_bipush F dX10_init_607 (v := 53) (by decide) ?_
  refine g_bipush F dX10_init_609 (v := 106) (by decide) ?_
  refine g_istL F hn (by decide) (vp_in_iff.mpr (by decide)) dX10_init_611 ?_
  refine g_sw (st' := .ref (ev 0 + n) :: st) (ws' := w ++ [.inl (ev 1, 70, .inl (lf [112, 117, 108, 108, 32, 119, 105, 110, 100, 32, 42, 32, 97, 114, 101, 97, 32, 59, 32, 104, 111, 108, 100, 32, 54, 48, 32, 43, 32, 104, 101, 97, 118, 121, 32, 42, 32, 49, 48, 32, 45, 32, 98, 101, 100, 32, 42, 32, 50, 48, 32, 59, 32, 106]))]) rfl rfl ?_
  refine g_dup F dX10_init_612 rfl ?_
  refine g_bipush F dX10_init_613 (v := 54) (by decide) ?_
  refine g_bipush F dX10_init_615 (v := 101) (by decide) ?_
  refine g_istL F hn (by decide) (vp_in_iff.mpr (by decide)) dX10_init_617 ?_
  refine g_sw (st' := .ref (ev 0 + n) :: st) (ws' := w ++ [.inl (ev 1, 70, .inl (lf [112, 117, 108, 108, 32, 119, 105, 110, 100, 32, 42, 32, 97, 114, 101, 97, 32, 59, 32, 104, 111, 108, 100, 32, 54, 48, 32, 43, 32, 104, 101, 97, 118, 121, 32, 42, 32, 49, 48, 32, 45, 32, 98, 101, 100, 32, 42, 32, 50, 48, 32, 59, 32, 106, 101]))]) rfl rfl ?_
  refine g_dup F dX10_init_618 rfl ?_
  refine g_bipush F dX10_init_619 (v := 55) (by decide) ?_
  refine g_bipush F dX10_init_621 (v := 114) (by decide) ?_
  refine g_istL F hn (by decide) (vp_in_iff.mpr (by decide)) dX10_init_623 ?_
  refine g_sw (st' := .ref (ev 0 + n) :: st) (ws' := w ++ [.inl (ev 1, 70, .inl (lf [112, 117, 108, 108, 32, 119, 105, 110, 100, 32, 42, 32, 97, 114, 101, 97, 32, 59, 32, 104, 111, 108, 100, 32, 54, 48, 32, 43, 32, 104, 101, 97, 118, 121, 32, 42, 32, 49, 48, 32, 45, 32, 98, 101, 100, 32, 42, 32, 50, 48, 32, 59, 32, 106, 101, 114]))]) rfl rfl ?_
  refine g_dup F dX10_init_624 rfl ?_
  refine g_bipush F dX10_init_625 (v := 56) (by decide) ?_
  refine g_bipush F dX10_init_627 (v := 107) (by decide) ?_
  refine g_istL F hn (by decide) (vp_in_iff.mpr (by decide)) dX10_init_629 ?_
  refine g_sw (st' := .ref (ev 0 + n) :: st) (ws' := w ++ [.inl (ev 1, 70, .inl (lf [112, 117, 108, 108, 32, 119, 105, 110, 100, 32, 42, 32, 97, 114, 101, 97, 32, 59, 32, 104, 111, 108, 100, 32, 54, 48, 32, 43, 32, 104, 101, 97, 118, 121, 32, 42, 32, 49, 48, 32, 45, 32, 98, 101, 100, 32, 42, 32, 50, 48, 32, 59, 32, 106, 101, 114, 107]))]) rfl rfl ?_
  refine g_dup F dX10_init_630 rfl ?_
  refine g_bipush F dX10_init_631 (v := 57) (by decide) ?_
  refine g_bipush F dX10_init_633 (v := 32) (by decide) ?_
  refine g_istL F hn (by decide) (vp_in_iff.mpr (by decide)) dX10_init_635 ?_
  refine g_sw (st' := .ref (ev 0 + n) :: st) (ws' := w ++ [.inl (ev 1, 70, .inl (lf [112, 117, 108, 108, 32, 119, 105, 110, 100, 32, 42, 32, 97, 114, 101, 97, 32, 59, 32, 104, 111, 108, 100, 32, 54, 48, 32, 43, 32, 104, 101, 97, 118, 121, 32, 42, 32, 49, 48, 32, 45, 32, 98, 101, 100, 32, 42, 32, 50, 48, 32, 59, 32, 106, 101, 114, 107, 32]))]) rfl rfl ?_
  refine g_dup F dX10_init_636 rfl ?_
  refine g_bipush F dX10_init_637 (v := 58) (by decide) ?_
  refine g_bipush F dX10_init_639 (v := 119) (by decide) ?_
  refine g_istL F hn (by decide) (vp_in_iff.mpr (by decide)) dX10_init_641 ?_
  refine g_sw (st' := .ref (ev 0 + n) :: st) (ws' := w ++ [.inl (ev 1, 70, .inl (lf [112, 117, 108, 108, 32, 119, 105, 110, 100, 32, 42, 32, 97, 114, 101, 97, 32, 59, 32, 104, 111, 108, 100, 32, 54, 48, 32, 43, 32, 104, 101, 97, 118, 121, 32, 42, 32, 49, 48, 32, 45, 32, 98, 101, 100, 32, 42, 32, 50, 48, 32, 59, 32, 106, 101, 114, 107, 32, 119]))]) rfl rfl ?_
  refine g_dup F dX10_init_642 rfl ?_
  refine g_bipush F dX10_init_643 (v := 59) (by decide) ?_
  refine g_bipush F dX10_init_645 (v := 105) (by decide) ?_
  refine g_istL F hn (by decide) (vp_in_iff.mpr (by decide)) dX10_init_647 ?_
  refine g_sw (st' := .ref (ev 0 + n) :: st) (ws' := w ++ [.inl (ev 1, 70, .inl (lf [112, 117, 108, 108, 32, 119, 105, 110, 100, 32, 42, 32, 97, 114, 101, 97, 32, 59, 32, 104, 111, 108, 100, 32, 54, 48, 32, 43, 32, 104, 101, 97, 118, 121, 32, 42, 32, 49, 48, 32, 45, 32, 98, 101, 100, 32, 42, 32, 50, 48, 32, 59, 32, 106, 101, 114, 107, 32, 119, 105]))]) rfl rfl ?_
  refine g_dup F dX10_init_648 rfl ?_
  refine g_bipush F dX10_init_649 (v := 60) (by decide) ?_
  refine g_bipush F dX10_init_651 (v := 110) (by decide) ?_
  refine g_istL F hn (by decide) (vp_in_iff.mpr (by decide)) dX10_init_653 ?_
  refine g_sw (st' := .ref (ev 0 + n) :: st) (ws' := w ++ [.inl (ev 1, 70, .inl (lf [112, 117, 108, 108, 32, 119, 105, 110, 100, 32, 42, 32, 97, 114, 101, 97, 32, 59, 32, 104, 111, 108, 100, 32, 54, 48, 32, 43, 32, 104, 101, 97, 118, 121, 32, 42, 32, 49, 48, 32, 45, 32, 98, 101, 100, 32, 42, 32, 50, 48, 32, 59, 32, 106, 101, 114, 107, 32, 119, 105, 110]))]) rfl rfl ?_
  refine g_dup F dX10_init_654 rfl ?_
  refine g_bipush F dX10_init_655 (v := 61) (by decide) ?_
  refine g_bipush F dX10_init_657 (v := 100) (by decide) ?_
  refine g_istL F hn (by decide) (vp_in_iff.mpr (by decide)) dX10_init_659 ?_
  refine g_sw (st' := .ref (ev 0 + n) :: st) (ws' := w ++ [.inl (ev 1, 70, .inl (lf [112, 117, 108, 108, 32, 119, 105, 110, 100, 32, 42, 32, 97, 114, 101, 97, 32, 59, 32, 104, 111, 108, 100, 32, 54, 48, 32, 43, 32, 104, 101, 97, 118, 121, 32, 42, 32, 49, 48, 32, 45, 32, 98, 101, 100, 32, 42, 32, 50, 48, 32, 59, 32, 106, 101, 114, 107, 32, 119, 105, 110, 100]))]) rfl rfl ?_
  refine g_dup F dX10_init_660 rfl ?_
  refine g_bipush F dX10_init_661 (v := 62) (by decide) ?_
  refine g_bipush F dX10_init_663 (v := 32) (by decide) ?_
  refine g_istL F hn (by decide) (vp_in_iff.mpr (by decide)) dX10_init_665 ?_
  refine g_sw (st' := .ref (ev 0 + n) :: st) (ws' := w ++ [.inl (ev 1, 70, .inl (lf [112, 117, 108, 108, 32, 119, 105, 110, 100, 32, 42, 32, 97, 114, 101, 97, 32, 59, 32, 104, 111, 108, 100, 32, 54, 48, 32, 43, 32, 104, 101, 97, 118, 121, 32, 42, 32, 49, 48, 32, 45, 32, 98, 101, 100, 32, 42, 32, 50, 48, 32, 59, 32, 106, 101, 114, 107, 32, 119, 105, 110, 100, 32]))]) rfl rfl ?_
  refine g_dup F dX10_init_666 rfl ?_
  refine g_bipush F dX10_init_667 (v := 63) (by decide) ?_
  refine g_bipush F dX10_init_669 (v := 45) (by decide) ?_
  refine g_istL F hn (by decide) (vp_in_iff.mpr (by decide)) dX10_init_671 ?_
  refine g_sw (st' := .ref (ev 0 + n) :: st) (ws' := w ++ [.inl (ev 1, 70, .inl (lf [112, 117, 108, 108, 32, 119, 105, 110, 100, 32, 42, 32, 97, 114, 101, 97, 32, 59, 32, 104, 111, 108, 100, 32, 54, 48, 32, 43, 32, 104, 101, 97, 118, 121, 32, 42, 32, 49, 48, 32, 45, 32, 98, 101, 100, 32, 42, 32, 50, 48, 32, 59, 32, 106, 101, 114, 107, 32, 119, 105, 110, 100, 32, 45]))]) rfl rfl ?_
  refine g_dup F dX10_init_672 rfl ?_
  refine g_bipush F dX10_init_673 (v := 64) (by decide) ?_
  refine g_bipush F dX10_init_675 (v := 32) (by decide) ?_
  refine g_istL F hn (by decide) (vp_in_iff.mpr (by decide)) dX10_init_677 ?_
  refine g_sw (st' := .ref (ev 0 + n) :: st) (ws' := w ++ [.inl (ev 1, 70, .inl (lf [112, 117, 108, 108, 32, 119, 105, 110, 100, 32, 42, 32, 97, 114, 101, 97, 32, 59, 32, 104, 111, 108, 100, 32, 54, 48, 32, 43, 32, 104, 101, 97, 118, 121, 32, 42, 32, 49, 48, 32, 45, 32, 98, 101, 100, 32, 42, 32, 50, 48, 32, 59, 32, 106, 101, 114, 107, 32, 119, 105, 110, 100, 32, 45, 32]))]) rfl rfl ?_
  refine g_dup F dX10_init_678 rfl ?_
  refine g_bipush F dX10_init_679 (v := 65) (by decide) ?_
  refine g_bipush F dX10_init_681 (v := 111) (by decide) ?_
  refine g_istL F hn (by decide) (vp_in_iff.mpr (by decide)) dX10_init_683 ?_
  refine g_sw (st' := .ref (ev 0 + n) :: st) (ws' := w ++ [.inl (ev 1, 70, .inl (lf [112, 117, 108, 108, 32, 119, 105, 110, 100, 32, 42, 32, 97, 114, 101, 97, 32, 59, 32, 104, 111, 108, 100, 32, 54, 48, 32, 43, 32, 104, 101, 97, 118, 121, 32, 42, 32, 49, 48, 32, 45, 32, 98, 101, 100, 32, 42, 32, 50, 48, 32, 59, 32, 106, 101, 114, 107, 32, 119, 105, 110, 100, 32, 45, 32, 111]))]) rfl rfl ?_
  refine g_dup F dX10_init_684 rfl ?_
  refine g_bipush F dX10_init_685 (v := 66) (by decide) ?_
  refine g_bipush F dX10_init_687 (v := 117) (by decide) ?_
  refine g_istL F hn (by decide) (vp_in_iff.mpr (by decide)) dX10_init_689 ?_
  refine g_sw (st' := .ref (ev 0 + n) :: st) (ws' := w ++ [.inl (ev 1, 70, .inl (lf [112, 117, 108, 108, 32, 119, 105, 110, 100, 32, 42, 32, 97, 114, 101, 97, 32, 59, 32, 104, 111, 108, 100, 32, 54, 48, 32, 43, 32, 104, 101, 97, 118, 121, 32, 42, 32, 49, 48, 32, 45, 32, 98, 101, 100, 32, 42, 32, 50, 48, 32, 59, 32, 106, 101, 114, 107, 32, 119, 105, 110, 100, 32, 45, 32, 111, 117]))]) rfl rfl ?_
  refine g_dup F dX10_init_690 rfl ?_
  refine g_bipush F dX10_init_691 (v := 67) (by decide) ?_
  refine g_bipush F dX10_init_693 (v := 116) (by decide) ?_
  refine g_istL F hn (by decide) (vp_in_iff.mpr (by decide)) dX10_init_695 ?_
  refine g_sw (st' := .ref (ev 0 + n) :: st) (ws' := w ++ [.inl (ev 1, 70, .inl (lf [112, 117, 108, 108, 32, 119, 105, 110, 100, 32, 42, 32, 97, 114, 101, 97, 32, 59, 32, 104, 111, 108, 100, 32, 54, 48, 32, 43, 32, 104, 101, 97, 118, 121, 32, 42, 32, 49, 48, 32, 45, 32, 98, 101, 100, 32, 42, 32, 50, 48, 32, 59, 32, 106, 101, 114, 107, 32, 119, 105, 110, 100, 32, 45, 32, 111, 117, 116]))]) rfl rfl ?_
  refine g_dup F dX10_init_696 rfl ?_
  refine g_bipush F dX10_init_697 (v := 68) (by decide) ?_
  refine g_bipush F dX10_init_699 (v := 32) (by decide) ?_
  refine g_istL F hn (by decide) (vp_in_iff.mpr (by decide)) dX10_init_701 ?_
  refine g_sw (st' := .ref (ev 0 + n) :: st) (ws' := w ++ [.inl (ev 1, 70, .inl (lf [112, 117, 108, 108, 32, 119, 105, 110, 100, 32, 42, 32, 97, 114, 101, 97, 32, 59, 32, 104, 111, 108, 100, 32, 54, 48, 32, 43, 32, 104, 101, 97, 118, 121, 32, 42, 32, 49, 48, 32, 45, 32, 98, 101, 100, 32, 42, 32, 50, 48, 32, 59, 32, 106, 101, 114, 107, 32, 119, 105, 110, 100, 32, 45, 32, 111, 117, 116, 32]))]) rfl rfl ?_
  refine g_dup F dX10_init_702 rfl ?_
  refine g_bipush F dX10_init_703 (v := 69) (by decide) ?_
  refine g_bipush F dX10_init_705 (v := 59) (by decide) ?_
  refine g_istL F hn (by decide) (vp_in_iff.mpr (by decide)) dX10_init_707 ?_
  refine g_sw (st' := .ref (ev 0 + n) :: st) (ws' := w ++ [.inl (ev 1, 70, .inl (lf [112, 117, 108, 108, 32, 119, 105, 110, 100, 32, 42, 32, 97, 114, 101, 97, 32, 59, 32, 104, 111, 108, 100, 32, 54, 48, 32, 43, 32, 104, 101, 97, 118, 121, 32, 42, 32, 49, 48, 32, 45, 32, 98, 101, 100, 32, 42, 32, 50, 48, 32, 59, 32, 106, 101, 114, 107, 32, 119, 105, 110, 100, 32, 45, 32, 111, 117, 116, 32, 59]))]) rfl rfl ?_
  exact k9
def lt714 : List Int32 := [112, 117, 108, 108, 32, 32, 32, 32, 104, 111, 108, 100, 32, 32, 32, 32, 106, 101, 114, 107, 32, 32, 32, 32, 119, 105, 110, 100, 32, 32, 32, 32, 97, 114, 101, 97, 32, 32, 32, 32, 100, 101, 101, 112, 32, 32, 32, 32, 111, 117, 116, 32, 32, 32, 32, 32, 98, 101, 100, 32, 32, 32, 32, 32, 104, 101, 97, 118, 121, 32, 32, 32, 111, 114, 32, 32, 32, 32, 32, 32, 97, 110, 100, 32, 32, 32, 32, 32, 110, 111, 116, 32, 32, 32, 32, 32]
set_option maxRecDepth 100000 in
set_option maxHeartbeats 4000000 in
theorem g_lt714 (F : Fx p s m args c s0 D ev cX10_init nL own) (hn : w.length = n) (k9 : GJ p l e R s m args below meth c Q s0 D ev nL cls slots 1286 lv (.ref (ev 0 + n) :: st) (w ++ [.inl (ev 1, 96, .inl (lf lt714))])) : GJ p l e R s m args below meth c Q s0 D ev nL cls slots 716 lv (.ref (ev 0 + n) :: st) (w ++ [.inl (ev 1, 96, .inl (lf []))]) := by
  refine g_dup F dX10_init_716 rfl ?_
  refine g_iconst F dX10_init_717 (v := 0) (by decide) ?_
  refine g_bipush F dX10_init_718 (v := 112) (by decide) ?_
  refine g_istL F hn (by decide) (vp_in_iff.mpr (by decide)) dX10_init_720 ?_
  refine g_sw (st' := .ref (ev 0 + n) :: st) (ws' := w ++ [.inl (ev 1, 96, .inl (lf [112]))]) rfl rfl ?_
  refine g_dup F dX10_init_721 rfl ?_
  refine g_iconst F dX10_init_722 (v := 1) (by decide) ?_
  refine g_bipush F dX10_init_723 (v := 117) (by decide) ?_
  refine g_istL F hn (by decide) (vp_in_iff.mpr (by decide)) dX10_init_725 ?_
  refine g_sw (st' := .ref (ev 0 + n) :: st) (ws' := w ++ [.inl (ev 1, 96, .inl (lf [112, 117]))]) rfl rfl ?_
  refine g_dup F dX10_init_726 rfl ?_
  refine g_iconst F dX10_init_727 (v := 2) (by decide) ?_
  refine g_bipush F dX10_init_728 (v := 108) (by decide) ?_
  refine g_istL F hn (by decide) (vp_in_iff.mpr (by decide)) dX10_init_730 ?_
  refine g_sw (st' := .ref (ev 0 + n) :: st) (ws' := w ++ [.inl (ev 1, 96, .inl (lf [112, 117, 108]))]) rfl rfl ?_
  refine g_dup F dX10_init_731 rfl ?_
  refine g_iconst F dX10_init_732 (v := 3) (by decide) ?_
  refine g_bipush F dX10_init_733 (v := 108) (by decide) ?_
  refine g_istL F hn (by decide) (vp_in_iff.mpr (by decide)) dX10_init_735 ?_
  refine g_sw (st' := .ref (ev 0 + n) :: st) (ws' := w ++ [.inl (ev 1, 96, .inl (lf [112, 117, 108, 108]))]) rfl rfl ?_
  refine g_dup F dX10_init_736 rfl ?_
  refine g_iconst F dX10_init_737 (v := 4) (by decide) ?_
  refine g_bipush F dX10_init_738 (v := 32) (by decide) ?_
  refine g_istL F hn (by decide) (vp_in_iff.mpr (by decide)) dX10_init_740 ?_
  refine g_sw (st' := .ref (ev 0 + n) :: st) (ws' := w ++ [.inl (ev 1, 96, .inl (lf [112, 117, 108, 108, 32]))]) rfl rfl ?_
  refine g_dup F dX10_init_741 rfl ?_
  refine g_iconst F dX10_init_742 (v := 5) (by decide) ?_
  refine g_bipush F dX10_init_743 (v := 32) (by decide) ?_
  refine g_istL F hn (by decide) (vp_in_iff.mpr (by decide)) dX10_init_745 ?_
  refine g_sw (st' := .ref (ev 0 + n) :: st) (ws' := w ++ [.inl (ev 1, 96, .inl (lf [112, 117, 108, 108, 32, 32]))]) rfl rfl ?_
  refine g_dup F dX10_init_746 rfl ?_
  refine g_bipush F dX10_init_747 (v := 6) (by decide) ?_
  refine g_bipush F dX10_init_749 (v := 32) (by decide) ?_
  refine g_istL F hn (by decide) (vp_in_iff.mpr (by decide)) dX10_init_751 ?_
  refine g_sw (st' := .ref (ev 0 + n) :: st) (ws' := w ++ [.inl (ev 1, 96, .inl (lf [112, 117, 108, 108, 32, 32, 32]))]) rfl rfl ?_
  refine g_dup F dX10_init_752 rfl ?_
  refine g_bipush F dX10_init_753 (v := 7) (by decide) ?_
  refine g_bipush F dX10_init_755 (v := 32) (by decide) ?_
  refine g_istL F hn (by decide) (vp_in_iff.mpr (by decide)) dX10_init_757 ?_
  refine g_sw (st' := .ref (ev 0 + n) :: st) (ws' := w ++ [.inl (ev 1, 96, .inl (lf [112, 117, 108, 108, 32, 32, 32, 32]))]) rfl rfl ?_
  refine g_dup F dX10_init_758 rfl ?_
  refine g_bipush F dX10_init_759 (v := 8) (by decide) ?_
  refine g_bipush F dX10_init_761 (v := 104) (by decide) ?_
  refine g_istL F hn (by decide) (vp_in_iff.mpr (by decide)) dX10_init_763 ?_
  refine g_sw (st' := .ref (ev 0 + n) :: st) (ws' := w ++ [.inl (ev 1, 96, .inl (lf [112, 117, 108, 108, 32, 32, 32, 32, 104]))]) rfl rfl ?_
  refine g_dup F dX10_init_764 rfl ?_
  refine g_bipush F dX10_init_765 (v := 9) (by decide) ?_
  refine g_bipush F dX10_init_767 (v := 111) (by decide) ?_
  refine g_istL F hn (by decide) (vp_in_iff.mpr (by decide)) dX10_init_769 ?_
  refine g_sw (st' := .ref (ev 0 + n) :: st) (ws' := w ++ [.inl (ev 1, 96, .inl (lf [112, 117, 108, 108, 32, 32, 32, 32, 104, 111]))]) rfl rfl ?_
  refine g_dup F dX10_init_770 rfl ?_
  refine g_bipush F dX10_init_771 (v := 10) (by decide) ?_
  refine g_bipush F dX10_init_773 (v := 108) (by decide) ?_
  refine g_istL F hn (by decide) (vp_in_iff.mpr (by decide)) dX10_init_775 ?_
  refine g_sw (st' := .ref (ev 0 + n) :: st) (ws' := w ++ [.inl (ev 1, 96, .inl (lf [112, 117, 108, 108, 32, 32, 32, 32, 104, 111, 108]))]) rfl rfl ?_
  refine g_dup F dX10_init_776 rfl ?_
  refine g_bipush F dX10_init_777 (v := 11) (by decide) ?_
  refine g_bipush F dX10_init_779 (v := 100) (by decide) ?_
  refine g_istL F hn (by decide) (vp_in_iff.mpr (by decide)) dX10_init_781 ?_
  refine g_sw (st' := .ref (ev 0 + n) :: st) (ws' := w ++ [.inl (ev 1, 96, .inl (lf [112, 117, 108, 108, 32, 32, 32, 32, 104, 111, 108, 100]))]) rfl rfl ?_
  refine g_dup F dX10_init_782 rfl ?_
  refine g_bipush F dX10_init_783 (v := 12) (by decide) ?_
  refine g_bipush F dX10_init_785 (v := 32) (by decide) ?_
  refine g_istL F hn (by decide) (vp_in_iff.mpr (by decide)) dX10_init_787 ?_
  refine g_sw (st' := .ref (ev 0 + n) :: st) (ws' := w ++ [.inl (ev 1, 96, .inl (lf [112, 117, 108, 108, 32, 32, 32, 32, 104, 111, 108, 100, 32]))]) rfl rfl ?_
  refine g_dup F dX10_init_788 rfl ?_
  refine g_bipush F dX10_init_789 (v := 13) (by decide) ?_
  refine g_bipush F dX10_init_791 (v := 32) (by decide) ?_
  refine g_istL F hn (by decide) (vp_in_iff.mpr (by decide)) dX10_init_793 ?_
  refine g_sw (st' := .ref (ev 0 + n) :: st) (ws' := w ++ [.inl (ev 1, 96, .inl (lf [112, 117, 108, 108, 32, 32, 32, 32, 104, 111, 108, 100, 32, 32]))]) rfl rfl ?_
  refine g_dup F dX10_init_794 rfl ?_
  refine g_bipush F dX10_init_795 (v := 14) (by decide) ?_
  refine g_bipush F dX10_init_797 (v := 32) (by decide) ?_
  refine g_istL F hn (by decide) (vp_in_iff.mpr (by decide)) dX10_init_799 ?_
  refine g_sw (st' := .ref (ev 0 + n) :: st) (ws' := w ++ [.inl (ev 1, 96, .inl (lf [112, 117, 108, 108, 32, 32, 32, 32, 104, 111, 108, 100, 32, 32, 32]))]) rfl rfl ?_
  refine g_dup F dX10_init_800 rfl ?_
  refine g_bipush F dX10_init_801 (v := 15) (by decide) ?_
  refine g_bipush F dX10_init_803 (v := 32) (by decide) ?_
  refine g_istL F hn (by decide) (vp_in_iff.mpr (by decide)) dX10_init_805 ?_
  refine g_sw (st' := .ref (ev 0 + n) :: st) (ws' := w ++ [.inl (ev 1, 96, .inl (lf [112, 117, 108, 108, 32, 32, 32, 32, 104, 111, 108, 100, 32, 32, 32, 32]))]) rfl rfl ?_
  refine g_dup F dX10_init_806 rfl ?_
  refine g_bipush F dX10_init_807 (v := 16) (by decide) ?_
  refine g_bipush F dX10_init_809 (v := 106) (by decide) ?_
  refine g_istL F hn (by decide) (vp_in_iff.mpr (by decide)) dX10_init_811 ?_
  refine g_sw (st' := .ref (ev 0 + n) :: st) (ws' := w ++ [.inl (ev 1, 96, .inl (lf [112, 117, 108, 108, 32, 32, 32, 32, 104, 111, 108, 100, 32, 32, 32, 32, 106]))]) rfl rfl ?_
  refine g_dup F dX10_init_812 rfl ?_
  refine g_bipush F dX10_init_813 (v := 17) (by decide) ?_
  refine g_bipush F dX10_init_815 (v := 101) (by decide) ?_
  refine g_istL F hn (by decide) (vp_in_iff.mpr (by decide)) dX10_init_817 ?_
  refine g_sw (st' := .ref (ev 0 + n) :: st) (ws' := w ++ [.inl (ev 1, 96, .inl (lf [112, 117, 108, 108, 32, 32, 32, 32, 104, 111, 108, 100, 32, 32, 32, 32, 106, 101]))]) rfl rfl ?_
  refine g_dup F dX10_init_818 rfl ?_
  refine g_bipush F dX10_init_819 (v := 18) (by decide) ?_
  refine g_bipush F dX10_init_821 (v := 114) (by decide) ?_
  refine g_istL F hn (by decide) (vp_in_iff.mpr (by decide)) dX10_init_823 ?_
  refine g_sw (st' := .ref (ev 0 + n) :: st) (ws' := w ++ [.inl (ev 1, 96, .inl (lf [112, 117, 108, 108, 32, 32, 32, 32, 104, 111, 108, 100, 32, 32, 32, 32, 106, 101, 114]))]) rfl rfl ?_
  refine g_dup F dX10_init_824 rfl ?_
  refine g_bipush F dX10_init_825 (v := 19) (by decide) ?_
  refine g_bipush F dX10_init_827 (v := 107) (by decide) ?_
  refine g_istL F hn (by decide) (vp_in_iff.mpr (by decide)) dX10_init_829 ?_
  refine g_sw (st' := .ref (ev 0 + n) :: st) (ws' := w ++ [.inl (ev 1, 96, .inl (lf [112, 117, 108, 108, 32, 32, 32, 32, 104, 111, 108, 100, 32, 32, 32, 32, 106, 101, 114, 107]))]) rfl rfl ?_
  refine g_dup F dX10_init_830 rfl ?_
  refine g_bipush F dX10_init_831 (v := 20) (by decide) ?_
  refine g_bipush F dX10_init_833 (v := 32) (by decide) ?_
  refine g_istL F hn (by decide) (vp_in_iff.mpr (by decide)) dX10_init_835 ?_
  refine g_sw (st' := .ref (ev 0 + n) :: st) (ws' := w ++ [.inl (ev 1, 96, .inl (lf [112, 117, 108, 108, 32, 32, 32, 32, 104, 111, 108, 100, 32, 32, 32, 32, 106, 101, 114, 107, 32]))]) rfl rfl ?_
  refine g_dup F dX10_init_836 rfl ?_
  refine g_bipush F dX10_init_837 (v := 21) (by decide) ?_
  refine g_bipush F dX10_init_839 (v := 32) (by decide) ?_
  refine g_istL F hn (by decide) (vp_in_iff.mpr (by decide)) dX10_init_841 ?_
  refine g_sw (st' := .ref (ev 0 + n) :: st) (ws' := w ++ [.inl (ev 1, 96, .inl (lf [112, 117, 108, 108, 32, 32, 32, 32, 104, 111, 108, 100, 32, 32, 32, 32, 106, 101, 114, 107, 32, 32]))]) rfl rfl ?_
  refine g_dup F dX10_init_842 rfl ?_
  refine g_bipush F dX10_init_843 (v := 22) (by decide) ?_
  refine g_bipush F dX10_init_845 (v := 32) (by decide) ?_
  refine g_istL F hn (by decide) (vp_in_iff.mpr (by decide)) dX10_init_847 ?_
  refine g_sw (st' := .ref (ev 0 + n) :: st) (ws' := w ++ [.inl (ev 1, 96, .inl (lf [112, 117, 108, 108, 32, 32, 32, 32, 104, 111, 108, 100, 32, 32, 32, 32, 106, 101, 114, 107, 32, 32, 32]))]) rfl rfl ?_
  refine g_dup F dX10_init_848 rfl ?_
  refine g_bipush F dX10_init_849 (v := 23) (by decide) ?_
  refine g_bipush F dX10_init_851 (v := 32) (by decide) ?_
  refine g_istL F hn (by decide) (vp_in_iff.mpr (by decide)) dX10_init_853 ?_
  refine g_sw (st' := .ref (ev 0 + n) :: st) (ws' := w ++ [.inl (ev 1, 96, .inl (lf [112, 117, 108, 108, 32, 32, 32, 32, 104, 111, 108, 100, 32, 32, 32, 32, 106, 101, 114, 107, 32, 32, 32, 32]))]) rfl rfl ?_
  refine g_dup F dX10_init_854 rfl ?_
  refine g_bipush F dX10_init_855 (v := 24) (by decide) ?_
  refine g_bipush F dX10_init_857 (v := 119) (by decide) ?_
  refine g_istL F hn (by decide) (vp_in_iff.mpr (by decide)) dX10_init_859 ?_
  refine g_sw (st' := .ref (ev 0 + n) :: st) (ws' := w ++ [.inl (ev 1, 96, .inl (lf [112, 117, 108, 108, 32, 32, 32, 32, 104, 111, 108, 100, 32, 32, 32, 32, 106, 101, 114, 107, 32, 32, 32, 32, 119]))]) rfl rfl ?_
  refine g_dup F dX10_init_860 rfl ?_
  refine g_bipush F dX10_init_861 (v := 25) (by decide) ?_
  refine g_bipush F dX10_init_863 (v := 105) (by decide) ?_
  refine g_istL F hn (by decide) (vp_in_iff.mpr (by decide)) dX10_init_865 ?_
  refine g_sw (st' := .ref (ev 0 + n) :: st) (ws' := w ++ [.inl (ev 1, 96, .inl (lf [112, 117, 108, 108, 32, 32, 32, 32, 104, 111, 108, 100, 32, 32, 32, 32, 106, 101, 114, 107, 32, 32, 32, 32, 119, 105]))]) rfl rfl ?_
  refine g_dup F dX10_init_866 rfl ?_
  refine g_bipush F dX10_init_867 (v := 26) (by decide) ?_
  refine g_bipush F dX10_init_869 (v := 110) (by decide) ?_
  refine g_istL F hn (by decide) (vp_in_iff.mpr (by decide)) dX10_init_871 ?_
  refine g_sw (st' := .ref (ev 0 + n) :: st) (ws' := w ++ [.inl (ev 1, 96, .inl (lf [112, 117, 108, 108, 32, 32, 32, 32, 104, 111, 108, 100, 32, 32, 32, 32, 106, 101, 114, 107, 32, 32, 32, 32, 119, 105, 110]))]) rfl rfl ?_
  refine g_dup F dX10_init_872 rfl ?_
  refine g_bipush F dX10_init_873 (v := 27) (by decide) ?_
  refine g_bipush F dX10_init_875 (v := 100) (by decide) ?_
  refine g_istL F hn (by decide) (vp_in_iff.mpr (by decide)) dX10_init_877 ?_
  refine g_sw (st' := .ref (ev 0 + n) :: st) (ws' := w ++ [.inl (ev 1, 96, .inl (lf [112, 117, 108, 108, 32, 32, 32, 32, 104, 111, 108, 100, 32, 32, 32, 32, 106, 101, 114, 107, 32, 32, 32, 32, 119, 105, 110, 100]))]) rfl rfl ?_
  refine g_dup F dX10_init_878 rfl ?_
  refine g_bipush F dX10_init_879 (v := 28) (by decide) ?_
  refine g_bipush F dX10_init_881 (v := 32) (by decide) ?_
  refine g_istL F hn (by decide) (vp_in_iff.mpr (by decide)) dX10_init_883 ?_
  refine g_sw (st' := .ref (ev 0 + n) :: st) (ws' := w ++ [.inl (ev 1, 96, .inl (lf [112, 117, 108, 108, 32, 32, 32, 32, 104, 111, 108, 100, 32, 32, 32, 32, 106, 101, 114, 107, 32, 32, 32, 32, 119, 105, 110, 100, 32]))]) rfl rfl ?_
  refine g_dup F dX10_init_884 rfl ?_
  refine g_bipush F dX10_init_885 (v := 29) (by decide) ?_
  refine g_bipush F dX10_init_887 (v := 32) (by decide) ?_
  refine g_istL F hn (by decide) (vp_in_iff.mpr (by decide)) dX10_init_889 ?_
  refine g_sw (st' := .ref (ev 0 + n) :: st) (ws' := w ++ [.inl (ev 1, 96, .inl (lf [112, 117, 108, 108, 32, 32, 32, 32, 104, 111, 108, 100, 32, 32, 32, 32, 106, 101, 114, 107, 32, 32, 32, 32, 119, 105, 110, 100, 32, 32]))]) rfl rfl ?_
  refine g_dup F dX10_init_890 rfl ?_
  refine g_bipush F dX10_init_891 (v := 30) (by decide) ?_
  refine g_bipush F dX10_init_893 (v := 32) (by decide) ?_
  refine g_istL F hn (by decide) (vp_in_iff.mpr (by decide)) dX10_init_895 ?_
  refine g_sw (st' := .ref (ev 0 + n) :: st) (ws' := w ++ [.inl (ev 1, 96, .inl (lf [112, 117, 108, 108, 32, 32, 32, 32, 104, 111, 108, 100, 32, 32, 32, 32, 106, 101, 114, 107, 32, 32, 32, 32, 119, 105, 110, 100, 32, 32, 32]))]) rfl rfl ?_
  refine g_dup F dX10_init_896 rfl ?_
  refine g_bipush F dX10_init_897 (v := 31) (by decide) ?_
  refine g_bipush F dX10_init_899 (v := 32) (by decide) ?_
  refine g_istL F hn (by decide) (vp_in_iff.mpr (by decide)) dX10_init_901 ?_
  refine g_sw (st' := .ref (ev 0 + n) :: st) (ws' := w ++ [.inl (ev 1, 96, .inl (lf [112, 117, 108, 108, 32, 32, 32, 32, 104, 111, 108, 100, 32, 32, 32, 32, 106, 101, 114, 107, 32, 32, 32, 32, 119, 105, 110, 100, 32, 32, 32, 32]))]) rfl rfl ?_
  refine g_dup F dX10_init_902 rfl ?_
  refine g_bipush F dX10_init_903 (v := 32) (by decide) ?_
  refine g_bipush F dX10_init_905 (v := 97) (by decide) ?_
  refine g_istL F hn (by decide) (vp_in_iff.mpr (by decide)) dX10_init_907 ?_
  refine g_sw (st' := .ref (ev 0 + n) :: st) (ws' := w ++ [.inl (ev 1, 96, .inl (lf [112, 117, 108, 108, 32, 32, 32, 32, 104, 111, 108, 100, 32, 32, 32, 32, 106, 101, 114, 107, 32, 32, 32, 32, 119, 105, 110, 100, 32, 32, 32, 32, 97]))]) rfl rfl ?_
  refine g_dup F dX10_init_908 rfl ?_
  refine g_bipush F dX10_init_909 (v := 33) (by decide) ?_
  refine g_bipush F dX10_init_911 (v := 114) (by decide) ?_
  refine g_istL F hn (by decide) (vp_in_iff.mpr (by decide)) dX10_init_913 ?_
  refine g_sw (st' := .ref (ev 0 + n) :: st) (ws' := w ++ [.inl (ev 1, 96, .inl (lf [112, 117, 108, 108, 32, 32, 32, 32, 104, 111, 108, 100, 32, 32, 32, 32, 106, 101, 114, 107, 32, 32, 32, 32, 119, 105, 110, 100, 32, 32, 32, 32, 97, 114]))]) rfl rfl ?_
  refine g_dup F dX10_init_914 rfl ?_
  refine g_bipush F dX10_init_915 (v := 34) (by decide) ?_
  refine g_bipush F dX10_init_917 (v := 101) (by decide) ?_
  refine g_istL F hn (by decide) (vp_in_iff.mpr (by decide)) dX10_init_919 ?_
  refine g_sw (st' := .ref (ev 0 + n) :: st) (ws' := w ++ [.inl (ev 1, 96, .inl (lf [112, 117, 108, 108, 32, 32, 32, 32, 104, 111, 108, 100, 32, 32, 32, 32, 106, 101, 114, 107, 32, 32, 32, 32, 119, 105, 110, 100, 32, 32, 32, 32, 97, 114, 101]))]) rfl rfl ?_
  refine g_dup F dX10_init_920 rfl ?_
  refine g_bipush F dX10_init_921 (v := 35) (by decide) ?_
  refine g_bipush F dX10_init_923 (v := 97) (by decide) ?_
  refine g_istL F hn (by decide) (vp_in_iff.mpr (by decide)) dX10_init_925 ?_
  refine g_sw (st' := .ref (ev 0 + n) :: st) (ws' := w ++ [.inl (ev 1, 96, .inl (lf [112, 117, 108, 108, 32, 32, 32, 32, 104, 111, 108, 100, 32, 32, 32, 32, 106, 101, 114, 107, 32, 32, 32, 32, 119, 105, 110, 100, 32, 32, 32, 32, 97, 114, 101, 97]))]) rfl rfl ?_
  refine g_dup F dX10_init_926 rfl ?_
  refine g_bipush F dX10_init_927 (v := 36) (by decide) ?_
  refine g_bipush F dX10_init_929 (v := 32) (by decide) ?_
  refine g_istL F hn (by decide) (vp_in_iff.mpr (by decide)) dX10_init_931 ?_
  refine g_sw (st' := .ref (ev 0 + n) :: st) (ws' := w ++ [.inl (ev 1, 96, .inl (lf [112, 117, 108, 108, 32, 32, 32, 32, 104, 111, 108, 100, 32, 32, 32, 32, 106, 101, 114, 107, 32, 32, 32, 32, 119, 105, 110, 100, 32, 32, 32, 32, 97, 114, 101, 97, 32]))]) rfl rfl ?_
  refine g_dup F dX10_init_932 rfl ?_
  refine g_bipush F dX10_init_933 (v := 37) (by decide) ?_
  refine g_bipush F dX10_init_935 (v := 32) (by decide) ?_
  refine g_istL F hn (by decide) (vp_in_iff.mpr (by decide)) dX10_init_937 ?_
  refine g_sw (st' := .ref (ev 0 + n) :: st) (ws' := w ++ [.inl (ev 1, 96, .inl (lf [112, 117, 108, 108, 32, 32, 32, 32, 104, 111, 108, 100, 32, 32, 32, 32, 106, 101, 114, 107, 32, 32, 32, 32, 119, 105, 110, 100, 32, 32, 32, 32, 97, 114, 101, 97, 32, 32]))]) rfl rfl ?_
  refine g_dup F dX10_init_938 rfl ?_
  refine g_bipush F dX10_init_939 (v := 38) (by decide) ?_
  refine g_bipush F dX10_init_941 (v := 32) (by decide) ?_
  refine g_istL F hn (by decide) (vp_in_iff.mpr (by decide)) dX10_init_943 ?_
  refine g_sw (st' := .ref (ev 0 + n) :: st) (ws' := w ++ [.inl (ev 1, 96, .inl (lf [112, 117, 108, 108, 32, 32, 32, 32, 104, 111, 108, 100, 32, 32, 32, 32, 106, 101, 114, 107, 32, 32, 32, 32, 119, 105, 110, 100, 32, 32, 32, 32, 97, 114, 101, 97, 32, 32, 32]))]) rfl rfl ?_
  refine g_dup F dX10_init_944 rfl ?_
  refine g_bipush F dX10_init_945 (v := 39) (by decide) ?_
  refine g_bipush F dX10_init_947 (v := 32) (by decide) ?_
  refine g_istL F hn (by decide) (vp_in_iff.mpr (by decide)) dX10_init_949 ?_
  refine g_sw (st' := .ref (ev 0 + n) :: st) (ws' := w ++ [.inl (ev 1, 96, .inl (lf [112, 117, 108, 108, 32, 32, 32, 32, 104, 111, 108, 100, 32, 32, 32, 32, 106, 101, 114, 107, 32, 32, 32, 32, 119, 105, 110, 100, 32, 32, 32, 32, 97, 114, 101, 97, 32, 32, 32, 32]))]) rfl rfl ?_
  refine g_dup F dX10_init_950 rfl ?_
  refine g_bipush F dX10_init_951 (v := 40) (by decide) ?_
  refine g_bipush F dX10_init_953 (v := 100) (by decide) ?_
  refine g_istL F hn (by decide) (vp_in_iff.mpr (by decide)) dX10_init_955 ?_
  refine g_sw (st' := .ref (ev 0 + n) :: st) (ws' := w ++ [.inl (ev 1, 96, .inl (lf [112, 117, 108, 108, 32, 32, 32, 32, 104, 111, 108, 100, 32, 32, 32, 32, 106, 101, 114, 107, 32, 32, 32, 32, 119, 105, 110, 100, 32, 32, 32, 32, 97, 114, 101, 97, 32, 32, 32, 32, 100]))]) rfl rfl ?_
  refine g_dup F dX10_init_956 rfl ?_
  refine g_bipush F dX10_init_957 (v := 41) (by decide) ?_
  refine g_bipush F dX10_init_959 (v := 101) (by decide) ?_
  refine g_istL F hn (by decide) (vp_in_iff.mpr (by decide)) dX10_init_961 ?_
  refine g_sw (st' := .ref (ev 0 + n) :: st) (ws' := w ++ [.inl (ev 1, 96, .inl (lf [112, 117, 108, 108, 32, 32, 32, 32, 104, 111, 108, 100, 32, 32, 32, 32, 106, 101, 114, 107, 32, 32, 32, 32, 119, 105, 110, 100, 32, 32, 32, 32, 97, 114, 101, 97, 32, 32, 32, 32, 100, 101]))]) rfl rfl ?_
  refine g_dup F dX10_init_962 rfl ?_
  refine g_bipush F dX10_init_963 (v := 42) (by decide) ?_
  refine g_bipush F dX10_init_965 (v := 101) (by decide) ?_
  refine g_istL F hn (by decide) (vp_in_iff.mpr (by decide)) dX10_init_967 ?_
  refine g_sw (st' := .ref (ev 0 + n) :: st) (ws' := w ++ [.inl (ev 1, 96, .inl (lf [112, 117, 108, 108, 32, 32, 32, 32, 104, 111, 108, 100, 32, 32, 32, 32, 106, 101, 114, 107, 32, 32, 32, 32, 119, 105, 110, 100, 32, 32, 32, 32, 97, 114, 101, 97, 32, 32, 32, 32, 100, 101, 101]))]) rfl rfl ?_
  refine g_dup F dX10_init_968 rfl ?_
  refine g_bipush F dX10_init_969 (v := 43) (by decide) ?_
  refine g_bipush F dX10_init_971 (v := 112) (by decide) ?_
  refine g_istL F hn (by decide) (vp_in_iff.mpr (by decide)) dX10_init_973 ?_
  refine g_sw (st' := .ref (ev 0 + n) :: st) (ws' := w ++ [.inl (ev 1, 96, .inl (lf [112, 117, 108, 108, 32, 32, 32, 32, 104, 111, 108, 100, 32, 32, 32, 32, 106, 101, 114, 107, 32, 32, 32, 32, 119, 105, 110, 100, 32, 32, 32, 32, 97, 114, 101, 97, 32, 32, 32, 32, 100, 101, 101, 112]))]) rfl rfl ?_
  refine g_dup F dX10_init_974 rfl ?_
  refine g_bipush F dX10_init_975 (v := 44) (by decide) ?_
  refine g_bipush F dX10_init_977 (v := 32) (by decide) ?_
  refine g_istL F hn (by decide) (vp_in_iff.mpr (by decide)) dX10_init_979 ?_
  refine g_sw (st' := .ref (ev 0 + n) :: st) (ws' := w ++ [.inl (ev 1, 96, .inl (lf [112, 117, 108, 108, 32, 32, 32, 32, 104, 111, 108, 100, 32, 32, 32, 32, 106, 101, 114, 107, 32, 32, 32, 32, 119, 105, 110, 100, 32, 32, 32, 32, 97, 114, 101, 97, 32, 32, 32, 32, 100, 101, 101, 112, 32]))]) rfl rfl ?_
  refine g_dup F dX10_init_980 rfl ?_
  refine g_bipush F dX10_init_981 (v := 45) (by decide) ?_
  refine g_bipush F dX10_init_983 (v := 32) (by decide) ?_
  refine g_istL F hn (by decide) (vp_in_iff.mpr (by decide)) dX10_init_985 ?_
  refine g_sw (st' := .ref (ev 0 + n) :: st) (ws' := w ++ [.inl (ev 1, 96, .inl (lf [112, 117, 108, 108, 32, 32, 32, 32, 104, 111, 108, 100, 32, 32, 32, 32, 106, 101, 114, 107, 32, 32, 32, 32, 119, 105, 110, 100, 32, 32, 32, 32, 97, 114, 101, 97, 32, 32, 32, 32, 100, 101, 101, 112, 32, 32]))]) rfl rfl ?_
  refine g_dup F dX10_init_986 rfl ?_
  refine g_bipush F dX10_init_987 (v := 46) (by decide) ?_
  refine g_bipush F dX10_init_989 (v := 32) (by decide) ?_
  refine g_istL F hn (by decide) (vp_in_iff.mpr (by decide)) dX10_init_991 ?_
  refine g_sw (st' := .ref (ev 0 + n) :: st) (ws' := w ++ [.inl (ev 1, 96, .inl (lf [112, 117, 108, 108, 32, 32, 32, 32, 104, 111, 108, 100, 32, 32, 32, 32, 106, 101, 114, 107, 32, 32, 32, 32, 119, 105, 110, 100, 32, 32, 32, 32, 97, 114, 101, 97, 32, 32, 32, 32, 100, 101, 101, 112, 32, 32, 32]))]) rfl rfl ?_
  refine g_dup F dX10_init_992 rfl ?_
  refine g_bipush F dX10_init_993 (v := 47) (by decide) ?_
  refine g_bipush F dX10_init_995 (v := 32) (by decide) ?_
  refine g_istL F hn (by decide) (vp_in_iff.mpr (by decide)) dX10_init_997 ?_
  refine g_sw (st' := .ref (ev 0 + n) :: st) (ws' := w ++ [.inl (ev 1, 96, .inl (lf [112, 117, 108, 108, 32, 32, 32, 32, 104, 111, 108, 100, 32, 32, 32, 32, 106, 101, 114, 107, 32, 32, 32, 32, 119, 105, 110, 100, 32, 32, 32, 32, 97, 114, 101, 97, 32, 32, 32, 32, 100, 101, 101, 112, 32, 32, 32, 32]))]) rfl rfl ?_
  refine g_dup F dX10_init_998 rfl ?_
  refine g_bipush F dX10_init_999 (v := 48) (by decide) ?_
  refine g_bipush F dX10_init_1001 (v := 111) (by decide) ?_
  refine g_istL F hn (by decide) (vp_in_iff.mpr (by decide)) dX10_init_1003 ?_
  refine g_sw (st' := .ref (ev 0 + n) :: st) (ws' := w ++ [.inl (ev 1, 96, .inl (lf [112, 117, 108, 108, 32, 32, 32, 32, 104, 111, 108, 100, 32, 32, 32, 32, 106, 101, 114, 107, 32, 32, 32, 32, 119, 105, 110, 100, 32, 32, 32, 32, 97, 114, 101, 97, 32, 32, 32, 32, 100, 101, 101, 112, 32, 32, 32, 32, 111]))]) rfl rfl ?_
  refine g_dup F dX10_init_1004 rfl ?_
  refine g_bipush F dX10_init_1005 (v := 49) (by decide) ?_
  refine g_bipush F dX10_init_1007 (v := 117) (by decide) ?_
  refine g_istL F hn (by decide) (vp_in_iff.mpr (by decide)) dX10_init_1009 ?_
  refine g_sw (st' := .ref (ev 0 + n) :: st) (ws' := w ++ [.inl (ev 1, 96, .inl (lf [112, 117, 108, 108, 32, 32, 32, 32, 104, 111, 108, 100, 32, 32, 32, 32, 106, 101, 114, 107, 32, 32, 32, 32, 119, 105, 110, 100, 32, 32, 32, 32, 97, 114, 101, 97, 32, 32, 32, 32, 100, 101, 101, 112, 32, 32, 32, 32, 111, 117]))]) rfl rfl ?_
  refine g_dup F dX10_init_1010 rfl ?_
  refine g_bipush F dX10_init_1011 (v := 50) (by decide) ?_
  refine g_bipush F dX10_init_1013 (v := 116) (by decide) ?_
  refine g_istL F hn (by decide) (vp_in_iff.mpr (by decide)) dX10_init_1015 ?_
  refine g_sw (st' := .ref (ev 0 + n) :: st) (ws' := w ++ [.inl (ev 1, 96, .inl (lf [112, 117, 108, 108, 32, 32, 32, 32, 104, 111, 108, 100, 32, 32, 32, 32, 106, 101, 114, 107, 32, 32, 32, 32, 119, 105, 110, 100, 32, 32, 32, 32, 97, 114, 101, 97, 32, 32, 32, 32, 100, 101, 101, 112, 32, 32, 32, 32, 111, 117, 116]))]) rfl rfl ?_
  refine g_dup F dX10_init_1016 rfl ?_
  refine g_bipush F dX10_init_1017 (v := 51) (by decide) ?_
  refine g_bipush F dX10_init_1019 (v := 32) (by decide) ?_
  refine g_istL F hn (by decide) (vp_in_iff.mpr (by decide)) dX10_init_1021 ?_
  refine g_sw (st' := .ref (ev 0 + n) :: st) (ws' := w ++ [.inl (ev 1, 96, .inl (lf [112, 117, 108, 108, 32, 32, 32, 32, 104, 111, 108, 100, 32, 32, 32, 32, 106, 101, 114, 107, 32, 32, 32, 32, 119, 105, 110, 100, 32, 32, 32, 32, 97, 114, 101, 97, 32, 32, 32, 32, 100, 101, 101, 112, 32, 32, 32, 32, 111, 117, 116, 32]))]) rfl rfl ?_
  refine g_dup F dX10_init_1022 rfl ?_
  refine g_bipush F dX10_init_1023 (v := 52) (by decide) ?_
  refine g_bipush F dX10_init_1025 (v := 32) (by decide) ?_
  refine g_istL F hn (by decide) (vp_in_iff.mpr (by decide)) dX10_init_1027 ?_
  refine g_sw (st' := .ref (ev 0 + n) :: st) (ws' := w ++ [.inl (ev 1, 96, .inl (lf [112, 117, 108, 108, 32, 32, 32, 32, 104, 111, 108, 100, 32, 32, 32, 32, 106, 101, 114, 107, 32, 32, 32, 32, 119, 105, 110, 100, 32, 32, 32, 32, 97, 114, 101, 97, 32, 32, 32, 32, 100, 101, 101, 112, 32, 32, 32, 32, 111, 117, 116, 32, 32]))]) rfl rfl ?_
  refine g_dup F dX10_init_1028 rfl ?_
  refine g_bipush F dX10_init_1029 (v := 53) (by decide) ?_
  refine g_bipush F dX10_init_1031 (v := 32) (by decide) ?_
  refine g_istL F hn (by decide) (vp_in_iff.mpr (by decide)) dX10_init_1033 ?_
  refine g_sw (st' := .ref (ev 0 + n) :: st) (ws' := w ++ [.inl (ev 1, 96, .inl (lf [112, 117, 108, 108, 32, 32, 32, 32, 104, 111, 108, 100, 32, 32, 32, 32, 106, 101, 114, 107, 32, 32, 32, 32, 119, 105, 110, 100, 32, 32, 32, 32, 97, 114, 101, 97, 32, 32, 32, 32, 100, 101, 101, 112, 32, 32, 32, 32, 111, 117, 116, 32, 32, 32]))]) rfl rfl ?_
  refine g_dup F dX10_init_1034 rfl ?_
  refine g_bipush F dX10_init_1035 (v := 54) (by decide) ?_
  refine g_bipush F dX10_init_1037 (v := 32) (by decide) ?_
  refine g_istL F hn (by decide) (vp_in_iff.mpr (by decide)) dX10_init_1039 ?_
  refine g_sw (st' := .ref (ev 0 + n) :: st) (ws' := w ++ [.inl (ev 1, 96, .inl (lf [112, 117, 108, 108, 32, 32, 32, 32, 104, 111, 108, 100, 32, 32, 32, 32, 106, 101, 114, 107, 32, 32, 32, 32, 119, 105, 110, 100, 32, 32, 32, 32, 97, 114, 101, 97, 32, 32, 32, 32, 100, 101, 101, 112, 32, 32, 32, 32, 111, 117, 116, 32, 32, 32, 32]))]) rfl rfl ?_
  refine g_dup F dX10_init_1040 rfl ?_
  refine g_bipush F dX10_init_1041 (v := 55) (by decide) ?_
  refine g_bipush F dX10_init_1043 (v := 32) (by decide) ?_
  refine g_istL F hn (by decide) (vp_in_iff.mpr (by decide)) dX10_init_1045 ?_
  refine g_sw (st' := .ref (ev 0 + n) :: st) (ws' := w ++ [.inl (ev 1, 96, .inl (lf [112, 117, 108, 108, 32, 32, 32, 32, 104, 111, 108, 100, 32, 32, 32, 32, 106, 101, 114, 107, 32, 32, 32, 32, 119, 105, 110, 100, 32, 32, 32, 32, 97, 114, 101, 97, 32, 32, 32, 32, 100, 101, 101, 112, 32, 32, 32, 32, 111, 117, 116, 32, 32, 32, 32, 32]))]) rfl rfl ?_
  refine g_dup F dX10_init_1046 rfl ?_
  refine g_bipush F dX10_init_1047 (v := 56) (by decide) ?_
  refine g_bipush F dX10_init_1049 (v := 98) (by decide) ?_
  refine g_istL F hn (by decide) (vp_in_iff.mpr (by decide)) dX10_init_1051 ?_
  refine g_sw (st' := .ref (ev 0 + n) :: st) (ws' := w ++ [.inl (ev 1, 96, .inl (lf [112, 117, 108, 108, 32, 32, 32, 32, 104, 111, 108, 100, 32, 32, 32, 32, 106, 101, 114, 107, 32, 32, 32, 32, 119, 105, 110, 100, 32, 32, 32, 32, 97, 114, 101, 97, 32, 32, 32, 32, 100, 101, 101, 112, 32, 32, 32, 32, 111, 117, 116, 32, 32, 32, 32, 32, 98]))]) rfl rfl ?_
  refine g_dup F dX10_init_1052 rfl ?_
  refine g_bipush F dX10_init_1053 (v := 57) (by decide) ?_
  refine g_bipush F dX10_init_1055 (v := 101) (by decide) ?_
  refine g_istL F hn (by decide) (vp_in_iff.mpr (by decide)) dX10_init_1057 ?_
  refine g_sw (st' := .ref (ev 0 + n) :: st) (ws' := w ++ [.inl (ev 1, 96, .inl (lf [112, 117, 108, 108, 32, 32, 32, 32, 104, 111, 108, 100, 32, 32, 32, 32, 106, 101, 114, 107, 32, 32, 32, 32, 119, 105, 110, 100, 32, 32, 32, 32, 97, 114, 101, 97, 32, 32, 32, 32, 100, 101, 101, 112, 32, 32, 32, 32, 111, 117, 116, 32, 32, 32, 32, 32, 98, 101]))]) rfl rfl ?_
  refine g_dup F dX10_init_1058 rfl ?_
  refine g_bipush F dX10_init_1059 (v := 58) (by decide) ?_
  refine g_bipush F dX10_init_1061 (v := 100) (by decide) ?_
  refine g_istL F hn (by decide) (vp_in_iff.mpr (by decide)) dX10_init_1063 ?_
  refine g_sw (st' := .ref (ev 0 + n) :: st) (ws' := w ++ [.inl (ev 1, 96, .inl (lf [112, 117, 108, 108, 32, 32, 32, 32, 104, 111, 108, 100, 32, 32, 32, 32, 106, 101, 114, 107, 32, 32, 32, 32, 119, 105, 110, 100, 32, 32, 32, 32, 97, 114, 101, 97, 32, 32, 32, 32, 100, 101, 101, 112, 32, 32, 32, 32, 111, 117, 116, 32, 32, 32, 32, 32, 98, 101, 100]))]) rfl rfl ?_
  refine g_dup F dX10_init_1064 rfl ?_
  refine g_bipush F dX10_init_1065 (v := 59) (by decide) ?_
  refine g_bipush F dX10_init_1067 (v := 32) (by decide) ?_
  refine g_istL F hn (by decide) (vp_in_iff.mpr (by decide)) dX10_init_1069 ?_
  refine g_sw (st' := .ref (ev 0 + n) :: st) (ws' := w ++ [.inl (ev 1, 96, .inl (lf [112, 117, 108, 108, 32, 32, 32, 32, 104, 111, 108, 100, 32, 32, 32, 32, 106, 101, 114, 107, 32, 32, 32, 32, 119, 105, 110, 100, 32, 32, 32, 32, 97, 114, 101, 97, 32, 32, 32, 32, 100, 101, 101, 112, 32, 32, 32, 32, 111, 117, 116, 32, 32, 32, 32, 32, 98, 101, 100, 32]))]) rfl rfl ?_
  refine g_dup F dX10_init_1070 rfl ?_
  refine g_bipush F dX10_init_1071 (v := 60) (by decide) ?_
  refine g_bipush F dX10_init_1073 (v := 32) (by decide) ?_
  refine g_istL F hn (by decide) (vp_in_iff.mpr (by decide)) dX10_init_1075 ?_
  refine g_sw (st' := .ref (ev 0 + n) :: st) (ws' := w ++ [.inl (ev 1, 96, .inl (lf [112, 117, 108, 108, 32, 32, 32, 32, 104, 111, 108, 100, 32, 32, 32, 32, 106, 101, 114, 107, 32, 32, 32, 32, 119, 105, 110, 100, 32, 32, 32, 32, 97, 114, 101, 97, 32, 32, 32, 32, 100, 101, 101, 112, 32, 32, 32, 32, 111, 117, 116, 32, 32, 32, 32, 32, 98, 101, 100, 32, 32]))]) rfl rfl ?_
  refine g_dup F dX10_init_1076 rfl ?_
  refine g_bipush F dX10_init_1077 (v := 61) (by decide) ?_
  refine g_bipush F dX10_init_1079 (v := 32) (by decide) ?_
  refine g_istL F hn (by decide) (vp_in_iff.mpr (by decide)) dX10_init_1081 ?_
  refine g_sw (st' := .ref (ev 0 + n) :: st) (ws' := w ++ [.inl (ev 1, 96, .inl (lf [112, 117, 108, 108, 32, 32, 32, 32, 104, 111, 108, 100, 32, 32, 32, 32, 106, 101, 114, 107, 32, 32, 32, 32, 119, 105, 110, 100, 32, 32, 32, 32, 97, 114, 101, 97, 32, 32, 32, 32, 100, 101, 101, 112, 32, 32, 32, 32, 111, 117, 116, 32, 32, 32, 32, 32, 98, 101, 100, 32, 32, 32]))]) rfl rfl ?_
  refine g_dup F dX10_init_1082 rfl ?_
  refine g_bipush F dX10_init_1083 (v := 62) (by decide) ?_
  refine g_bipush F dX10_init_1085 (v := 32) (by decide) ?_
  refine g_istL F hn (by decide) (vp_in_iff.mpr (by decide)) dX10_init_1087 ?_
  refine g_sw (st' := .ref (ev 0 + n) :: st) (ws' := w ++ [.inl (ev 1, 96, .inl (lf [112, 117, 108, 108, 32, 32, 32, 32, 104, 111, 108, 100, 32, 32, 32, 32, 106, 101, 114, 107, 32, 32, 32, 32, 119, 105, 110, 100, 32, 32, 32, 32, 97, 114, 101, 97, 32, 32, 32, 32, 100, 101, 101, 112, 32, 32, 32, 32, 111, 117, 116, 32, 32, 32, 32, 32, 98, 101, 100, 32, 32, 32, 32]))]) rfl rfl ?_
  refine g_dup F dX10_init_1088 rfl ?_
  refine g_bipush F dX10_init_1089 (v := 63) (by decide) ?_
  refine g_bipush F dX10_init_1091 (v := 32) (by decide) ?_
  refine g_istL F hn (by decide) (vp_in_iff.mpr (by decide)) dX10_init_1093 ?_
  refine g_sw (st' := .ref (ev 0 + n) :: st) (ws' := w ++ [.inl (ev 1, 96, .inl (lf [112, 117, 108, 108, 32, 32, 32, 32, 104, 111, 108, 100, 32, 32, 32, 32, 106, 101, 114, 107, 32, 32, 32, 32, 119, 105, 110, 100, 32, 32, 32, 32, 97, 114, 101, 97, 32, 32, 32, 32, 100, 101, 101, 112, 32, 32, 32, 32, 111, 117, 116, 32, 32, 32, 32, 32, 98, 101, 100, 32, 32, 32, 32, 32]))]) rfl rfl ?_
  refine g_dup F dX10_init_1094 rfl ?_
  refine g_bipush F dX10_init_1095 (v := 64) (by decide) ?_
  refine g_bipush F dX10_init_1097 (v := 104) (by decide) ?_
  refine g_istL F hn (by decide) (vp_in_iff.mpr (by decide)) dX10_init_1099 ?_
  refine g_sw (st' := .ref (ev 0 + n) :: st) (ws' := w ++ [.inl (ev 1, 96, .inl (lf [112, 117, 108, 108, 32, 32, 32, 32, 104, 111, 108, 100, 32, 32, 32, 32, 106, 101, 114, 107, 32, 32, 32, 32, 119, 105, 110, 100, 32, 32, 32, 32, 97, 114, 101, 97, 32, 32, 32, 32, 100, 101, 101, 112, 32, 32, 32, 32, 111, 117, 116, 32, 32, 32, 32, 32, 98, 101, 100, 32, 32, 32, 32, 32, 104]))]) rfl rfl ?_
  refine g_dup F dX10_init_1100 rfl ?_
  refine g_bipush F dX10_init_1101 (v := 65) (by decide) ?_
  refine g_bipush F dX10_init_1103 (v := 101) (by decide) ?_
  refine g_istL F hn (by decide) (vp_in_iff.mpr (by decide)) dX10_init_1105 ?_
  refine g_sw (st' := .ref (ev 0 + n) :: st) (ws' := w ++ [.inl (ev 1, 96, .inl (lf [112, 117, 108, 108, 32, 32, 32, 32, 104, 111, 108, 100, 32, 32, 32, 32, 106, 101, 114, 107, 32, 32, 32, 32, 119, 105, 110, 100, 32, 32, 32, 32, 97, 114, 101, 97, 32, 32, 32, 32, 100, 101, 101, 112, 32, 32, 32, 32, 111, 117, 116, 32, 32, 32, 32, 32, 98, 101, 100, 32, 32, 32, 32, 32, 104, 101]))]) rfl rfl ?_
  refine g_dup F dX10_init_1106 rfl ?_
  refine g_bipush F dX10_init_1107 (v := 66) (by decide) ?_
  refine g_bipush F dX10_init_1109 (v := 97) (by decide) ?_
  refine g_istL F hn (by decide) (vp_in_iff.mpr (by decide)) dX10_init_1111 ?_
  refine g_sw (st' := .ref (ev 0 + n) :: st) (ws' := w ++ [.inl (ev 1, 96, .inl (lf [112, 117, 108, 108, 32, 32, 32, 32, 104, 111, 108, 100, 32, 32, 32, 32, 106, 101, 114, 107, 32, 32, 32, 32, 119, 105, 110, 100, 32, 32, 32, 32, 97, 114, 101, 97, 32, 32, 32, 32, 100, 101, 101, 112, 32, 32, 32, 32, 111, 117, 116, 32, 32, 32, 32, 32, 98, 101, 100, 32, 32, 32, 32, 32, 104, 101, 97]))]) rfl rfl ?_
  refine g_dup F dX10_init_1112 rfl ?_
  refine g_bipush F dX10_init_1113 (v := 67) (by decide) ?_
  refine g_bipush F dX10_init_1115 (v := 118) (by decide) ?_
  refine g_istL F hn (by decide) (vp_in_iff.mpr (by decide)) dX10_init_1117 ?_
  refine g_sw (st' := .ref (ev 0 + n) :: st) (ws' := w ++ [.inl (ev 1, 96, .inl (lf [112, 117, 108, 108, 32, 32, 32, 32, 104, 111, 108, 100, 32, 32, 32, 32, 106, 101, 114, 107, 32, 32, 32, 32, 119, 105, 110, 100, 32, 32, 32, 32, 97, 114, 101, 97, 32, 32, 32, 32, 100, 101, 101, 112, 32, 32, 32, 32, 111, 117, 116, 32, 32, 32, 32, 32, 98, 101, 100, 32, 32, 32, 32, 32, 104, 101, 97, 118]))]) rfl rfl ?_
  refine g_dup F dX10_init_1118 rfl ?_
  refine g_bipush F dX10_init_1119 (v := 68) (by decide) ?_
  refine g_bipush F dX10_init_1121 (v := 121) (by decide) ?_
  refine g_istL F hn (by decide) (vp_in_iff.mpr (by decide)) dX10_init_1123 ?_
  refine g_sw (st' := .ref (ev 0 + n) :: st) (ws' := w ++ [.inl (ev 1, 96, .inl (lf [112, 117, 108, 108, 32, 32, 32, 32, 104, 111, 108, 100, 32, 32, 32, 32, 106, 101, 114, 107, 32, 32, 32, 32, 119, 105, 110, 100, 32, 32, 32, 32, 97, 114, 101, 97, 32, 32, 32, 32, 100, 101, 101, 112, 32, 32, 32, 32, 111, 117, 116, 32, 32, 32, 32, 32, 98, 101, 100, 32, 32, 32, 32, 32, 104, 101, 97, 118, 121]))]) rfl rfl ?_
  refine g_dup F dX10_init_1124 rfl ?_
  refine g_bipush F dX10_init_1125 (v := 69) (by decide) ?_
  refine g_bipush F dX10_init_1127 (v := 32) (by decide) ?_
  refine g_istL F hn (by decide) (vp_in_iff.mpr (by decide)) dX10_init_1129 ?_
  refine g_sw (st' := .ref (ev 0 + n) :: st) (ws' := w ++ [.inl (ev 1, 96, .inl (lf [112, 117, 108, 108, 32, 32, 32, 32, 104, 111, 108, 100, 32, 32, 32, 32, 106, 101, 114, 107, 32, 32, 32, 32, 119, 105, 110, 100, 32, 32, 32, 32, 97, 114, 101, 97, 32, 32, 32, 32, 100, 101, 101, 112, 32, 32, 32, 32, 111, 117, 116, 32, 32, 32, 32, 32, 98, 101, 100, 32, 32, 32, 32, 32, 104, 101, 97, 118, 121, 32]))]) rfl rfl ?_
  refine g_dup F dX10_init_1130 rfl ?_
  refine g_bipush F dX10_init_1131 (v := 70) (by decide) ?_
  refine g_bipush F dX10_init_1133 (v := 32) (by decide) ?_
  refine g_istL F hn (by decide) (vp_in_iff.mpr (by decide)) dX10_init_1135 ?_
  refine g_sw (st' := .ref (ev 0 + n) :: st) (ws' := w ++ [.inl (ev 1, 96, .inl (lf [112, 117, 108, 108, 32, 32, 32, 32, 104, 111, 108, 100, 32, 32, 32, 32, 106, 101, 114, 107, 32, 32, 32, 32, 119, 105, 110, 100, 32, 32, 32, 32, 97, 114, 101, 97, 32, 32, 32, 32, 100, 101, 101, 112, 32, 32, 32, 32, 111, 117, 116, 32, 32, 32, 32, 32, 98, 101, 100, 32, 32, 32, 32, 32, 104, 101, 97, 118, 121, 32, 32]))]) rfl rfl ?_
  refine g_dup F dX10_init_1136 rfl ?_
  refine g_bipush F dX10_init_1137 (v := 71) (by decide) ?_
  refine g_bipush F dX10_init_1139 (v := 32) (by decide) ?_
  refine g_istL F hn (by decide) (vp_in_iff.mpr (by decide)) dX10_init_1141 ?_
  refine g_sw (st' := .ref (ev 0 + n) :: st) (ws' := w ++ [.inl (ev 1, 96, .inl (lf [112, 117, 108, 108, 32, 32, 32, 32, 104, 111, 108, 100, 32, 32, 32, 32, 106, 101, 114, 107, 32, 32, 32, 32, 119, 105, 110, 100, 32, 32, 32, 32, 97, 114, 101, 97, 32, 32, 32, 32, 100, 101, 101, 112, 32, 32, 32, 32, 111, 117, 116, 32, 32, 32, 32, 32, 98, 101, 100, 32, 32, 32, 32, 32, 104, 101, 97, 118, 121, 32, 32, 32]))]) rfl rfl ?_
  refine g_dup F dX10_init_1142 rfl ?_
  refine g_bipush F dX10_init_1143 (v := 72) (by decide) ?_
  refine g_bipush F dX10_init_1145 (v := 111) (by decide) ?_
  refine g_istL F hn (by decide) (vp_in_iff.mpr (by decide)) dX10_init_1147 ?_
  refine g_sw (st' := .ref (ev 0 + n) :: st) (ws' := w ++ [.inl (ev 1, 96, .inl (lf [112, 117, 108, 108, 32, 32, 32, 32, 104, 111, 108, 100, 32, 32, 32, 32, 106, 101, 114, 107, 32, 32, 32, 32, 119, 105, 110, 100, 32, 32, 32, 32, 97, 114, 101, 97, 32, 32, 32, 32, 100, 101, 101, 112, 32, 32, 32, 32, 111, 117, 116, 32, 32, 32, 32, 32, 98, 101, 100, 32, 32, 32, 32, 32, 104, 101, 97, 118, 121, 32, 32, 32, 111]))]) rfl rfl ?_
  refine g_dup F dX10_init_1148 rfl ?_
  refine g_bipush F dX10_init_1149 (v := 73) (by decide) ?_
  refine g_bipush F dX10_init_1151 (v := 114) (by decide) ?_
  refine g_istL F hn (by decide) (vp_in_iff.mpr (by decide)) dX10_init_1153 ?_
  refine g_sw (st' := .ref (ev 0 + n) :: st) (ws' := w ++ [.inl (ev 1, 96, .inl (lf [112, 117, 108, 108, 32, 32, 32, 32, 104, 111, 108, 100, 32, 32, 32, 32, 106, 101, 114, 107, 32, 32, 32, 32, 119, 105, 110, 100, 32, 32, 32, 32, 97, 114, 101, 97, 32, 32, 32, 32, 100, 101, 101, 112, 32, 32, 32, 32, 111, 117, 116, 32, 32, 32, 32, 32, 98, 101, 100, 32, 32, 32, 32, 32, 104, 101, 97, 118, 121, 32, 32, 32, 111, 114]))]) rfl rfl ?_
  refine g_dup F dX10_init_1154 rfl ?_
  refine g_bipush F dX10_init_1155 (v := 74) (by decide) ?_
  refine g_bipush F dX10_init_1157 (v := 32) (by decide) ?_
  refine g_istL F hn (by decide) (vp_in_iff.mpr (by decide)) dX10_init_1159 ?_
  refine g_sw (st' := .ref (ev 0 + n) :: st) (ws' := w ++ [.inl (ev 1, 96, .inl (lf [112, 117, 108, 108, 32, 32, 32, 32, 104, 111, 108, 100, 32, 32, 32, 32, 106, 101, 114, 107, 32, 32, 32, 32, 119, 105, 110, 100, 32, 32, 32, 32, 97, 114, 101, 97, 32, 32, 32, 32, 100, 101, 101, 112, 32, 32, 32, 32, 111, 117, 116, 32, 32, 32, 32, 32, 98, 101, 100, 32, 32, 32, 32, 32, 104, 101, 97, 118, 121, 32, 32, 32, 111, 114, 32]))]) rfl rfl ?_
  refine g_dup F dX10_init_1160 rfl ?_
  refine g_bipush F dX10_init_1161 (v := 75) (by decide) ?_
  refine g_bipush F dX10_init_1163 (v := 32) (by decide) ?_
  refine g_istL F hn (by decide) (vp_in_iff.mpr (by decide)) dX10_init_1165 ?_
  refine g_sw (st' := .ref (ev 0 + n) :: st) (ws' := w ++ [.inl (ev 1, 96, .inl (lf [112, 117, 108, 108, 32, 32, 32, 32, 104, 111, 108, 100, 32, 32, 32, 32, 106, 101, 114, 107, 32, 32, 32, 32, 119, 105, 110, 100, 32, 32, 32, 32, 97, 114, 101, 97, 32, 32, 32, 32, 100, 101, 101, 112, 32, 32, 32, 32, 111, 117, 116, 32, 32, 32, 32, 32, 98, 101, 100, 32, 32, 32, 32, 32, 104, 101, 97, 118, 121, 32, 32, 32, 111, 114, 32, 32]))]) rfl rfl ?_
  refine g_dup F dX10_init_1166 rfl ?_
  refine g_bipush F dX10_init_1167 (v := 76) (by decide) ?_
  refine g_bipush F dX10_init_1169 (v := 32) (by decide) ?_
  refine g_istL F hn (by decide) (vp_in_iff.mpr (by decide)) dX10_init_1171 ?_
  refine g_sw (st' := .ref (ev 0 + n) :: st) (ws' := w ++ [.inl (ev 1, 96, .inl (lf [112, 117, 108, 108, 32, 32, 32, 32, 104, 111, 108, 100, 32, 32, 32, 32, 106, 101, 114, 107, 32, 32, 32, 32, 119, 105, 110, 100, 32, 32, 32, 32, 97, 114, 101, 97, 32, 32, 32, 32, 100, 101, 101, 112, 32, 32, 32, 32, 111, 117, 116, 32, 32, 32, 32, 32, 98, 101, 100, 32, 32, 32, 32, 32, 104, 101, 97, 118, 121, 32, 32, 32, 111, 114, 32, 32, 32]))]) rfl rfl ?_
  refine g_dup F dX10_init_1172 rfl ?_
  refine g_bipush F dX10_init_1173 (v := 77) (by decide) ?_
  refine g_bipush F dX10_init_1175 (v := 32) (by decide) ?_
  refine g_istL F hn (by decide) (vp_in_iff.mpr (by decide)) dX10_init_1177 ?_
  refine g_sw (st' := .ref (ev 0 + n) :: st) (ws' := w ++ [.inl (ev 1, 96, .inl (lf [112, 117, 108, 108, 32, 32, 32, 32, 104, 111, 108, 100, 32, 32, 32, 32, 106, 101, 114, 107, 32, 32, 32, 32, 119, 105, 110, 100, 32, 32, 32, 32, 97, 114, 101, 97, 32, 32, 32, 32, 100, 101, 101, 112, 32, 32, 32, 32, 111, 117, 116, 32, 32, 32, 32, 32, 98, 101, 100, 32, 32, 32, 32, 32, 104, 101, 97, 118, 121, 32, 32, 32, 111, 114, 32, 32, 32, 32]))]) rfl rfl ?_
  refine g_dup F dX10_init_1178 rfl ?_
  refine g_bipush F dX10_init_1179 (v := 78) (by decide) ?_
  refine g_bipush F dX10_init_1181 (v := 32) (by decide) ?_
  refine g_istL F hn (by decide) (vp_in_iff.mpr (by decide)) dX10_init_1183 ?_
  refine g_sw (st' := .ref (ev 0 + n) :: st) (ws' := w ++ [.inl (ev 1, 96, .inl (lf [112, 117, 108, 108, 32, 32, 32, 32, 104, 111, 108, 100, 32, 32, 32, 32, 106, 101, 114, 107, 32, 32, 32, 32, 119, 105, 110, 100, 32, 32, 32, 32, 97, 114, 101, 97, 32, 32, 32, 32, 100, 101, 101, 112, 32, 32, 32, 32, 111, 117, 116, 32, 32, 32, 32, 32, 98, 101, 100, 32, 32, 32, 32, 32, 104, 101, 97, 118, 121, 32, 32, 32, 111, 114, 32, 32, 32, 32, 32]))]) rfl rfl ?_
  refine g_dup F dX10_init_1184 rfl ?_
  refine g_bipush F dX10_init_1185 (v := 79) (by decide) ?_
  refine g_bipush F dX10_init_1187 (v := 32) (by decide) ?_
  refine g_istL F hn (by decide) (vp_in_iff.mpr (by decide)) dX10_init_1189 ?_
  refine g_sw (st' := .ref (ev 0 + n) :: st) (ws' := w ++ [.inl (ev 1, 96, .inl (lf [112, 117, 108, 108, 32, 32, 32, 32, 104, 111, 108, 100, 32, 32, 32, 32, 106, 101, 114, 107, 32, 32, 32, 32, 119, 105, 110, 100, 32, 32, 32, 32, 97, 114, 101, 97, 32, 32, 32, 32, 100, 101, 101, 112, 32, 32, 32, 32, 111, 117, 116, 32, 32, 32, 32, 32, 98, 101, 100, 32, 32, 32, 32, 32, 104, 101, 97, 118, 121, 32, 32, 32, 111, 114, 32, 32, 32, 32, 32, 32]))]) rfl rfl ?_
  refine g_dup F dX10_init_1190 rfl ?_
  refine g_bipush F dX10_init_1191 (v := 80) (by decide) ?_
  refine g_bipush F dX10_init_1193 (v := 97) (by decide) ?_
  refine g_istL F hn (by decide) (vp_in_iff.mpr (by decide)) dX10_init_1195 ?_
  refine g_sw (st' := .ref (ev 0 + n) :: st) (ws' := w ++ [.inl (ev 1, 96, .inl (lf [112, 117, 108, 108, 32, 32, 32, 32, 104, 111, 108, 100, 32, 32, 32, 32, 106, 101, 114, 107, 32, 32, 32, 32, 119, 105, 110, 100, 32, 32, 32, 32, 97, 114, 101, 97, 32, 32, 32, 32, 100, 101, 101, 112, 32, 32, 32, 32, 111, 117, 116, 32, 32, 32, 32, 32, 98, 101, 100, 32, 32, 32, 32, 32, 104, 101, 97, 118, 121, 32, 32, 32, 111, 114, 32, 32, 32, 32, 32, 32, 97]))]) rfl rfl ?_
  refine g_dup F dX10_init_1196 rfl ?_
  refine g_bipush F dX10_init_1197 (v := 81) (by decide) ?_
  refine g_bipush F dX10_init_1199 (v := 110) (by decide) ?_
  refine g_istL F hn (by decide) (vp_in_iff.mpr (by decide)) dX10_init_1201 ?_
  refine g_sw (st' := .ref (ev 0 + n) :: st) (ws' := w ++ [.inl (ev 1, 96, .inl (lf [112, 117, 108, 108, 32, 32, 32, 32, 104, 111, 108, 100, 32, 32, 32, 32, 106, 101, 114, 107, 32, 32, 32, 32, 119, 105, 110, 100, 32, 32, 32, 32, 97, 114, 101, 97, 32, 32, 32, 32, 100, 101, 101, 112, 32, 32, 32, 32, 111, 117, 116, 32, 32, 32, 32, 32, 98, 101, 100, 32, 32, 32, 32, 32, 104, 101, 97, 118, 121, 32, 32, 32, 111, 114, 32, 32, 32, 32, 32, 32, 97, 110]))]) rfl rfl ?_
  refine g_dup F dX10_init_1202 rfl ?_
  refine g_bipush F dX10_init_1203 (v := 82) (by decide) ?_
  refine g_bipush F dX10_init_1205 (v := 100) (by decide) ?_
  refine g_istL F hn (by decide) (vp_in_iff.mpr (by decide)) dX10_init_1207 ?_
  refine g_sw (st' := .ref (ev 0 + n) :: st) (ws' := w ++ [.inl (ev 1, 96, .inl (lf [112, 117, 108, 108, 32, 32, 32, 32, 104, 111, 108, 100, 32, 32, 32, 32, 106, 101, 114, 107, 32, 32, 32, 32, 119, 105, 110, 100, 32, 32, 32, 32, 97, 114, 101, 97, 32, 32, 32, 32, 100, 101, 101, 112, 32, 32, 32, 32, 111, 117, 116, 32, 32, 32, 32, 32, 98, 101, 100, 32, 32, 32, 32, 32, 104, 101, 97, 118, 121, 32, 32, 32, 111, 114, 32, 32, 32, 32, 32, 32, 97, 110, 100]))]) rfl rfl ?_
  refine g_dup F dX10_init_1208 rfl ?_
  refine g_bipush F dX10_init_1209 (v := 83) (by decide) ?_
  refine g_bipush F dX10_init_1211 (v := 32) (by decide) ?_
  refine g_istL F hn (by decide) (vp_in_iff.mpr (by decide)) dX10_init_1213 ?_
  refine g_sw (st' := .ref (ev 0 + n) :: st) (ws' := w ++ [.inl (ev 1, 96, .inl (lf [112, 117, 108, 108, 32, 32, 32, 32, 104, 111, 108, 100, 32, 32, 32, 32, 106, 101, 114, 107, 32, 32, 32, 32, 119, 105, 110, 100, 32, 32, 32, 32, 97, 114, 101, 97, 32, 32, 32, 32, 100, 101, 101, 112, 32, 32, 32, 32, 111, 117, 116, 32, 32, 32, 32, 32, 98, 101, 100, 32, 32, 32, 32, 32, 104, 101, 97, 118, 121, 32, 32, 32, 111, 114, 32, 32, 32, 32, 32, 32, 97, 110, 100, 32]))]) rfl rfl ?_
  refine g_dup F dX10_init_1214 rfl ?_
  refine g_bipush F dX10_init_1215 (v := 84) (by decide) ?_
  refine g_bipush F dX10_init_1217 (v := 32) (by decide) ?_
  refine g_istL F hn (by decide) (vp_in_iff.mpr (by decide)) dX10_init_1219 ?_
  refine g_sw (st' := .ref (ev 0 + n) :: st) (ws' := w ++ [.inl (ev 1, 96, .inl (lf [112, 117, 108, 108, 32, 32, 32, 32, 104, 111, 108, 100, 32, 32, 32, 32, 106, 101, 114, 107, 32, 32, 32, 32, 119, 105, 110, 100, 32, 32, 32, 32, 97, 114, 101, 97, 32, 32, 32, 32, 100, 101, 101, 112, 32, 32, 32, 32, 111, 117, 116, 32, 32, 32, 32, 32, 98, 101, 100, 32, 32, 32, 32, 32, 104, 101, 97, 118, 121, 32, 32, 32, 111, 114, 32, 32, 32, 32, 32, 32, 97, 110, 100, 32, 32]))]) rfl rfl ?_
  refine g_dup F dX10_init_1220 rfl ?_
  refine g_bipush F dX10_init_1221 (v := 85) (by decide) ?_
  refine g_bipush F dX10_init_1223 (v := 32) (by decide) ?_
  refine g_istL F hn (by decide) (vp_in_iff.mpr (by decide)) dX10_init_1225 ?_
  refine g_sw (st' := .ref (ev 0 + n) :: st) (ws' := w ++ [.inl (ev 1, 96, .inl (lf [112, 117, 108, 108, 32, 32, 32, 32, 104, 111, 108, 100, 32, 32, 32, 32, 106, 101, 114, 107, 32, 32, 32, 32, 119, 105, 110, 100, 32, 32, 32, 32, 97, 114, 101, 97, 32, 32, 32, 32, 100, 101, 101, 112, 32, 32, 32, 32, 111, 117, 116, 32, 32, 32, 32, 32, 98, 101, 100, 32, 32, 32, 32, 32, 104, 101, 97, 118, 121, 32, 32, 32, 111, 114, 32, 32, 32, 32, 32, 32, 97, 110, 100, 32, 32, 32]))]) rfl rfl ?_
  refine g_dup F dX10_init_1226 rfl ?_
  refine g_bipush F dX10_init_1227 (v := 86) (by decide) ?_
  refine g_bipush F dX10_init_1229 (v := 32) (by decide) ?_
  refine g_istL F hn (by decide) (vp_in_iff.mpr (by decide)) dX10_init_1231 ?_
  refine g_sw (st' := .ref (ev 0 + n) :: st) (ws' := w ++ [.inl (ev 1, 96, .inl (lf [112, 117, 108, 108, 32, 32, 32, 32, 104, 111, 108, 100, 32, 32, 32, 32, 106, 101, 114, 107, 32, 32, 32, 32, 119, 105, 110, 100, 32, 32, 32, 32, 97, 114, 101, 97, 32, 32, 32, 32, 100, 101, 101, 112, 32, 32, 32, 32, 111, 117, 116, 32, 32, 32, 32, 32, 98, 101, 100, 32, 32, 32, 32, 32, 104, 101, 97, 118, 121, 32, 32, 32, 111, 114, 32, 32, 32, 32, 32, 32, 97, 110, 100, 32, 32, 32, 32]))]) rfl rfl ?_
  refine g_dup F dX10_init_1232 rfl ?_
  refine g_bipush F dX10_init_1233 (v := 87) (by decide) ?_
  refine g_bipush F dX10_init_1235 (v := 32) (by decide) ?_
  refine g_istL F hn (by decide) (vp_in_iff.mpr (by decide)) dX10_init_1237 ?_
  refine g_sw (st' := .ref (ev 0 + n) :: st) (ws' := w ++ [.inl (ev 1, 96, .inl (lf [112, 117, 108, 108, 32, 32, 32, 32, 104, 111, 108, 100, 32, 32, 32, 32, 106, 101, 114, 107, 32, 32, 32, 32, 119, 105, 110, 100, 32, 32, 32, 32, 97, 114, 101, 97, 32, 32, 32, 32, 100, 101, 101, 112, 32, 32, 32, 32, 111, 117, 116, 32, 32, 32, 32, 32, 98, 101, 100, 32, 32, 32, 32, 32, 104, 101, 97, 118, 121, 32, 32, 32, 111, 114, 32, 32, 32, 32, 32, 32, 97, 110, 100, 32, 32, 32, 32, 32]))]) rfl rfl ?_
  refine g_dup F dX10_init_1238 rfl ?_
  refine g_bipush F dX10_init_1239 (v := 88) (by decide) ?_
  refine g_bipush F dX10_init_1241 (v := 110) (by decide) ?_
  refine g_istL F hn (by decide) (vp_in_iff.mpr (by decide)) dX10_init_1243 ?_
  refine g_sw (st' := .ref (ev 0 + n) :: st) (ws' := w ++ [.inl (ev 1, 96, .inl (lf [112, 117, 108, 108, 32, 32, 32, 32, 104, 111, 108, 100, 32, 32, 32, 32, 106, 101, 114, 107, 32, 32, 32, 32, 119, 105, 110, 100, 32, 32, 32, 32, 97, 114, 101, 97, 32, 32, 32, 32, 100, 101, 101, 112, 32, 32, 32, 32, 111, 117, 116, 32, 32, 32, 32, 32, 98, 101, 100, 32, 32, 32, 32, 32, 104, 101, 97, 118, 121, 32, 32, 32, 111, 114, 32, 32, 32, 32, 32, 32, 97, 110, 100, 32, 32, 32, 32, 32, 110]))]) rfl rfl ?_
  refine g_dup F dX10_init_1244 rfl ?_
  refine g_bipush F dX10_init_1245 (v := 89) (by decide) ?_
  refine g_bipush F dX10_init_1247 (v := 111) (by decide) ?_
  refine g_istL F hn (by decide) (vp_in_iff.mpr (by decide)) dX10_init_1249 ?_
  refine g_sw (st' := .ref (ev 0 + n) :: st) (ws' := w ++ [.inl (ev 1, 96, .inl (lf [112, 117, 108, 108, 32, 32, 32, 32, 104, 111, 108, 100, 32, 32, 32, 32, 106, 101, 114, 107, 32, 32, 32, 32, 119, 105, 110, 100, 32, 32, 32, 32, 97, 114, 101, 97, 32, 32, 32, 32, 100, 101, 101, 112, 32, 32, 32, 32, 111, 117, 116, 32, 32, 32, 32, 32, 98, 101, 100, 32, 32, 32, 32, 32, 104, 101, 97, 118, 121, 32, 32, 32, 111, 114, 32, 32, 32, 32, 32, 32, 97, 110, 100, 32, 32, 32, 32, 32, 110, 111]))]) rfl rfl ?_
  refine g_dup F dX10_init_1250 rfl ?_
  refine g_bipush F dX10_init_1251 (v := 90) (by decide) ?_
  refine g_bipush F dX10_init_1253 (v := 116) (by decide) ?_
  refine g_istL F hn (by decide) (vp_in_iff.mpr (by decide)) dX10_init_1255 ?_
  refine g_sw (st' := .ref (ev 0 + n) :: st) (ws' := w ++ [.inl (ev 1, 96, .inl (lf [112, 117, 108, 108, 32, 32, 32, 32, 104, 111, 108, 100, 32, 32, 32, 32, 106, 101, 114, 107, 32, 32, 32, 32, 119, 105, 110, 100, 32, 32, 32, 32, 97, 114, 101, 97, 32, 32, 32, 32, 100, 101, 101, 112, 32, 32, 32, 32, 111, 117, 116, 32, 32, 32, 32, 32, 98, 101, 100, 32, 32, 32, 32, 32, 104, 101, 97, 118, 121, 32, 32, 32, 111, 114, 32, 32, 32, 32, 32, 32, 97, 110, 100, 32, 32, 32, 32, 32, 110, 111, 116]))]) rfl rfl ?_
  refine g_dup F dX10_init_1256 rfl ?_
  refine g_bipush F dX10_init_1257 (v := 91) (by decide) ?_
  refine g_bipush F dX10_init_1259 (v := 32) (by decide) ?_
  refine g_istL F hn (by decide) (vp_in_iff.mpr (by decide)) dX10_init_1261 ?_
  refine g_sw (st' := .ref (ev 0 + n) :: st) (ws' := w ++ [.inl (ev 1, 96, .inl (lf [112, 117, 108, 108, 32, 32, 32, 32, 104, 111, 108, 100, 32, 32, 32, 32, 106, 101, 114, 107, 32, 32, 32, 32, 119, 105, 110, 100, 32, 32, 32, 32, 97, 114, 101, 97, 32, 32, 32, 32, 100, 101, 101, 112, 32, 32, 32, 32, 111, 117, 116, 32, 32, 32, 32, 32, 98, 101, 100, 32, 32, 32, 32, 32, 104, 101, 97, 118, 121, 32, 32, 32, 111, 114, 32, 32, 32, 32, 32, 32, 97, 110, 100, 32, 32, 32, 32, 32, 110, 111, 116, 32]))]) rfl rfl ?_
  refine g_dup F dX10_init_1262 rfl ?_
  refine g_bipush F dX10_init_1263 (v := 92) (by decide) ?_
  refine g_bipush F dX10_init_1265 (v := 32) (by decide) ?_
  refine g_istL F hn (by decide) (vp_in_iff.mpr (by decide)) dX10_init_1267 ?_
  refine g_sw (st' := .ref (ev 0 + n) :: st) (ws' := w ++ [.inl (ev 1, 96, .inl (lf [112, 117, 108, 108, 32, 32, 32, 32, 104, 111, 108, 100, 32, 32, 32, 32, 106, 101, 114, 107, 32, 32, 32, 32, 119, 105, 110, 100, 32, 32, 32, 32, 97, 114, 101, 97, 32, 32, 32, 32, 100, 101, 101, 112, 32, 32, 32, 32, 111, 117, 116, 32, 32, 32, 32, 32, 98, 101, 100, 32, 32, 32, 32, 32, 104, 101, 97, 118, 121, 32, 32, 32, 111, 114, 32, 32, 32, 32, 32, 32, 97, 110, 100, 32, 32, 32, 32, 32, 110, 111, 116, 32, 32]))]) rfl rfl ?_
  refine g_dup F dX10_init_1268 rfl ?_
  refine g_bipush F dX10_init_1269 (v := 93) (by decide) ?_
  refine g_bipush F dX10_init_1271 (v := 32) (by decide) ?_
  refine g_istL F hn (by decide) (vp_in_iff.mpr (by decide)) dX10_init_1273 ?_
  refine g_sw (st' := .ref (ev 0 + n) :: st) (ws' := w ++ [.inl (ev 1, 96, .inl (lf [112, 117, 108, 108, 32, 32, 32, 32, 104, 111, 108, 100, 32, 32, 32, 32, 106, 101, 114, 107, 32, 32, 32, 32, 119, 105, 110, 100, 32, 32, 32, 32, 97, 114, 101, 97, 32, 32, 32, 32, 100, 101, 101, 112, 32, 32, 32, 32, 111, 117, 116, 32, 32, 32, 32, 32, 98, 101, 100, 32, 32, 32, 32, 32, 104, 101, 97, 118, 121, 32, 32, 32, 111, 114, 32, 32, 32, 32, 32, 32, 97, 110, 100, 32, 32, 32, 32, 32, 110, 111, 116, 32, 32, 32]))]) rfl rfl ?_
  refine g_dup F dX10_init_1274 rfl ?_
  refine g_bipush F dX10_init_1275 (v := 94) (by decide) ?_
  refine g_bipush F dX10_init_1277 (v := 32) (by decide) ?_
  refine g_istL F hn (by decide) (vp_in_iff.mpr (by decide)) dX10_init_1279 ?_
  refine g_sw (st' := .ref (ev 0 + n) :: st) (ws' := w ++ [.inl (ev 1, 96, .inl (lf [112, 117, 108, 108, 32, 32, 32, 32, 104, 111, 108, 100, 32, 32, 32, 32, 106, 101, 114, 107, 32, 32, 32, 32, 119, 105, 110, 100, 32, 32, 32, 32, 97, 114, 101, 97, 32, 32, 32, 32, 100, 101, 101, 112, 32, 32, 32, 32, 111, 117, 116, 32, 32, 32, 32, 32, 98, 101, 100, 32, 32, 32, 32, 32, 104, 101, 97, 118, 121, 32, 32, 32, 111, 114, 32, 32, 32, 32, 32, 32, 97, 110, 100, 32, 32, 32, 32, 32, 110, 111, 116, 32, 32, 32, 32]))]) rfl rfl ?_
  refine g_dup F dX10_init_1280 rfl ?_
  refine g_bipush F dX10_init_1281 (v := 95) (by decide) ?_
  refine g_bipush F dX10_init_1283 (v := 32) (by decide) ?_
  refine g_istL F hn (by decide) (vp_in_iff.mpr (by decide)) dX10_init_1285 ?_
  refine g_sw (st' := .ref (ev 0 + n) :: st) (ws' := w ++ [.inl (ev 1, 96, .inl (lf [112, 117, 108, 108, 32, 32, 32, 32, 104, 111, 108, 100, 32, 32, 32, 32, 106, 101, 114, 107, 32, 32, 32, 32, 119, 105, 110, 100, 32, 32, 32, 32, 97, 114, 101, 97, 32, 32, 32, 32, 100, 101, 101, 112, 32, 32, 32, 32, 111, 117, 116, 32, 32, 32, 32, 32, 98, 101, 100, 32, 32, 32, 32, 32, 104, 101, 97, 118, 121, 32, 32, 32, 111, 114, 32, 32, 32, 32, 32, 32, 97, 110, 100, 32, 32, 32, 32, 32, 110, 111, 116, 32, 32, 32, 32, 32]))]) rfl rfl ?_
  exact k9
end G21
def mw0 : MW := (fun _ => 0, fun i => if i = 71 then lf lt47 else if i = 72 then lf lt89 else if i = 88 then lf lt252 else if i = 91 then lf lt292 else if i = 92 then lf lt714 else fun _ => 0)
theorem kd_xc : ∀ i, i < 65 → kd i ≠ 10 ∧ kd i ≠ 16 := by decide
theorem xcell_M {ev : Nat → Nat} {X : XW} {M M2 : MW} {i : Nat} (h : i < 65) : xcell ev X M i = xcell ev X M2 i := by
  obtain ⟨h1, h2⟩ := kd_xc i h
  have hcl : ∀ j, j < 65 → kd j ≤ 9 ∨ (11 ≤ kd j ∧ kd j ≤ 15) := by decide
  have h3 := hcl i h
  unfold xcell
  simp only [if_neg h1]
  by_cases a : kd i = 11
  · simp only [if_pos a]
  by_cases b : kd i = 12
  · simp only [if_pos b]
  by_cases c : kd i = 13
  · simp only [if_pos c]
  by_cases d : kd i = 14
  · simp only [if_pos d]
  by_cases f : kd i = 15
  · simp only [if_pos f]
  have h4 : kd i ≤ 9 := by omega
  rcases (show kd i = 0 ∨ kd i = 1 ∨ kd i = 2 ∨ kd i = 3 ∨ kd i = 4 ∨ kd i = 5 ∨ kd i = 6 ∨ kd i = 7 ∨ kd i = 8 ∨ kd i = 9 by omega) with q | q | q | q | q | q | q | q | q | q <;> simp only [q] <;> rfl
theorem cells_M {ev : Nat → Nat} {X : XW} {M M2 : MW} : cells ev X M 0 = cells ev X M2 0 := by
  unfold cells
  apply List.map_congr_left
  intro i hi
  exact xcell_M (List.mem_range.mp hi)
theorem cells_split {ev : Nat → Nat} {X : XW} {M M2 : MW} : cells ev X M2 0 ++ (List.range' 65 39).map (xcell ev X M) = cells ev X M 1 := by
  rw [cells_M (M := M2) (M2 := M)]
  unfold cells
  rw [← List.map_append]
  rfl
def fX10_init_l1442 (K1442 : MW → Int32 → Option (MW)) (M : MW) (l1 : Int32) : Option (MW) :=
  if (12 : Int32) ≤ l1 then some M
  else if inb l1 12 then bd (mA M 69 l1 (20 : Int32)) fun M7 =>
  K1442 M7 (l1 + (1 : Int32))
  else none
def fX10_init_b1440 (M : MW) : Option (MW) :=
  lo2 (fX10_init_l1442) FU M (0 : Int32)
def fX10_init_l1421 (K1421 : MW → Int32 → Option (MW)) (M : MW) (l1 : Int32) : Option (MW) :=
  if (100 : Int32) ≤ l1 then fX10_init_b1440 M
  else if inb l1 100 then bd (mA M 66 l1 (5 : Int32)) fun M11 =>
  K1421 M11 (l1 + (1 : Int32))
  else none
def fX10_init_b1408 (M : MW) : Option (MW) :=
  bd (mI M 18 (70 : Int32)) fun M1 =>
  bd2 (fX10_text M1) fun v4 M3 =>
  lo2 (fX10_init_l1421) FU M3 (0 : Int32)
def fX10_init_l1384 (K1384 : MW → Int32 → Option (MW)) (M : MW) (l1 : Int32) : Option (MW) :=
  if (70 : Int32) ≤ l1 then fX10_init_b1408 M
  else (rd (M.2 91) 70 l1).bind fun v14 =>
  if inb l1 160 then bd (mA M 81 l1 v14) fun M17 =>
  K1384 M17 (l1 + (1 : Int32))
  else none
def fX10_init_t (M : MW) : Option (MW) :=
  lo2 (fX10_init_l1384) FU M (0 : Int32)
set_option maxRecDepth 100000 in
set_option maxHeartbeats 4000000 in
theorem mw0_eq {ev : Nat → Nat} {X : XW} : eqL [.inr (10, [.ref (ev 0 + 66), .ref (ev 0 + 67), .ref (ev 0 + 68), .ref (ev 0 + 69), .ref (ev 0 + 70), .ref (ev 0 + 71), .ref (ev 0 + 72), .int 0, .int 0, .ref (ev 0 + 73), .ref (ev 0 + 74), .ref (ev 0 + 75), .ref (ev 0 + 76), .ref (ev 0 + 77), .ref (ev 0 + 78), .ref (ev 0 + 79), .ref (ev 0 + 80), .ref (ev 0 + 81), .int 0, .ref (ev 0 + 82), .ref (ev 0 + 83), .int 0, .int 0, .int 0, .int 0, .int 0, .int 0, .ref (ev 0 + 84), .ref (ev 0 + 85), .ref (ev 0 + 86), .ref (ev 0 + 87), .ref (ev 0 + 88), .ref (ev 0 + 89), .ref (ev 0 + 90), .ref (ev 0 + 91), .int 0, .int 0, .int 0, .int 0, .ref (ev 0 + 92), .ref (ev 0 + 93), .int 0, .int 0, .int 0, .ref (ev 0 + 94), .ref (ev 0 + 95), .int 0, .ref (ev 0 + 96), .ref (ev 0 + 97), .ref (ev 0 + 98), .ref (ev 0 + 99), .ref (ev 0 + 100), .ref (ev 0 + 101), .ref (ev 0 + 102), .ref (ev 0 + 103), .int 0]), .inl (ev 1, 100, .inl (fun _ => 0)), .inl (ev 1, 100, .inl (fun _ => 0)), .inl (ev 1, 12, .inl (fun _ => 0)), .inl (ev 1, 12, .inl (fun _ => 0)), .inl (ev 1, 12, .inl (fun _ => 0)), .inl (ev 1, 8, .inl (lf lt47)), .inl (ev 1, 8, .inl (lf lt89)), .inl (ev 1, 6, .inl (fun _ => 0)), .inl (ev 1, 6, .inl (fun _ => 0)), .inl (ev 1, 6, .inl (fun _ => 0)), .inl (ev 1, 6, .inl (fun _ => 0)), .inl (ev 1, 6, .inl (fun _ => 0)), .inl (ev 1, 6, .inl (fun _ => 0)), .inl (ev 1, 20, .inl (fun _ => 0)), .inl (ev 1, 20, .inl (fun _ => 0)), .inl (ev 1, 160, .inl (fun _ => 0)), .inl (ev 1, 1200, .inl (fun _ => 0)), .inl (ev 1, 24, .inl (fun _ => 0)), .inl (ev 1, 6, .inl (fun _ => 0)), .inl (ev 1, 6, .inl (fun _ => 0)), .inl (ev 1, 20, .inl (fun _ => 0)), .inl (ev 1, 20, .inl (fun _ => 0)), .inl (ev 1, 4, .inl (lf lt252)), .inl (ev 1, 4, .inl (fun _ => 0)), .inl (ev 1, 160, .inl (fun _ => 0)), .inl (ev 1, 70, .inl (lf lt292)), .inl (ev 1, 96, .inl (lf lt714)), .inl (ev 1, 200, .inl (fun _ => 0)), .inl (ev 1, 200, .inl (fun _ => 0)), .inl (ev 1, 6, .inl (fun _ => 0)), .inl (ev 1, 12, .inl (fun _ => 0)), .inl (ev 1, 6, .inl (fun _ => 0)), .inl (ev 1, 6, .inl (fun _ => 0)), .inl (ev 1, 6, .inl (fun _ => 0)), .inl (ev 1, 72, .inl (fun _ => 0)), .inl (ev 1, 180, .inl (fun _ => 0)), .inl (ev 1, 180, .inl (fun _ => 0)), .inl (ev 1, 180, .inl (fun _ => 0))] ((List.range' 65 39).map (xcell ev X mw0)) := ⟨Or.inl rfl, Or.inl rfl, Or.inl rfl, Or.inl rfl, Or.inl rfl, Or.inl rfl, Or.inl rfl, Or.inl rfl, Or.inl rfl, Or.inl rfl, Or.inl rfl, Or.inl rfl, Or.inl rfl, Or.inl rfl, Or.inl rfl, Or.inl rfl, Or.inl rfl, Or.inl rfl, Or.inl rfl, Or.inl rfl, Or.inl rfl, Or.inl rfl, Or.inl rfl, Or.inl rfl, Or.inl rfl, Or.inl rfl, Or.inl rfl, Or.inl rfl, Or.inl rfl, Or.inl rfl, Or.inl rfl, Or.inl rfl, Or.inl rfl, Or.inl rfl, Or.inl rfl, Or.inl rfl, Or.inl rfl, Or.inl rfl, Or.inl rfl, trivial⟩
set_option maxRecDepth 100000 in
set_option maxHeartbeats 8000000 in
theorem c_X10_init {l : Launch} {s0 : State} {D : va_G} {ev : Nat → Nat} (G0 : Gl s0 D ev) {X : XW} {M9 M' : MW} (h : fX10_init_t mw0 = some (M')) : CT l s0 D ev yX10_init cX10_init 2 none 7 38 3146 [.ref (ev 0 + 65)] (cells ev X M9 0 ++ [.inr (10, [.null, .null, .null, .null, .null, .null, .null, .int 0, .int 0, .null, .null, .null, .null, .null, .null, .null, .null, .null, .int 0, .null, .null, .int 0, .int 0, .int 0, .int 0, .int 0, .int 0, .null, .null, .null, .null, .null, .null, .null, .null, .int 0, .int 0, .int 0, .int 0, .null, .null, .int 0, .int 0, .int 0, .null, .null, .int 0, .null, .null, .null, .null, .null, .null, .null, .null, .int 0])]) (QV s0 D ev (cells ev X M' (0 + 1))) := by
  refine ct_of G0 (by decide) (Nat.le_of_ble_eq_true rfl) ?_
  intro p9 e9 s9 m9 args9 below9 meth9 c9 F hr9 hl9 hin9 hargs9 hts9
  have hn9 : (cells ev X M9 0).length = 65 := cells_len
  have L1442 : ∀  (N1442 : Nat) (M : MW) (l1 : Int32), lo2 (fX10_init_l1442) N1442 M l1 = some (M') → GJ p9 l e9 (rg 7 38 3146) s9 m9 args9 below9 meth9 c9 (MQ below9 (QV s0 D ev (cells ev X M' (0 + 1))) args9 s9 38 3146 (frA ev)) s0 D ev 2 38 3146 1442 [(0, .ref (ev 0 + 65)), (1, .int l1)] ([]) (cells ev X M (0 + 1)) := by
    intro  N1442
    induction N1442 with
    | zero => intro M l1 h; cases h
    | succ N1442 ih1442 =>
      intro M l1 h
      change fX10_init_l1442 (lo2 (fX10_init_l1442) N1442) M l1 = some (M') at h
      rw [fX10_init_l1442] at h
      refine g_iload_n (i := 1) F dX10_init_1442 rfl rfl ?_
      refine g_bipush F dX10_init_1443 (v := 12) (by decide) ?_
      refine g_icmp_ge (tgt := 1462) F dX10_init_1445 (by decide) h (fun a9 h => ?_) (fun a9 h => ?_)
      · exact g_vret F hr9 hl9 (by rw [Option.some.inj h]) (by decide) (by decide) dX10_init_1462
      · refine g_aload_n (i := 0) F dX10_init_1448 rfl rfl ?_
        refine g_get_10_3 F wd_11_17 dX10_init_1449 ?_
        refine g_iload_n (i := 1) F dX10_init_1452 rfl rfl ?_
        refine g_bipush F dX10_init_1453 (v := 20) (by decide) ?_
        obtain ⟨h6, h⟩ := if_at h
        obtain ⟨M7, e8, h⟩ := bd_at h
        refine g_istM F rfl rfl h6 dX10_init_1455 ?_
        rw [← e8]
        refine g_iinc (i := 1) (v := (l1 + (1 : Int32))) (lv' := [(1, .int (l1 + (1 : Int32))), (0, .ref (ev 0 + 65))]) F dX10_init_1456 rfl rfl (by decide) rfl ?_
        refine g_goto (tgt := 1442) F dX10_init_1459 (by decide) ?_
        refine g_lv (lv' := [(0, .ref (ev 0 + 65)), (1, .int (l1 + (1 : Int32)))]) ⟨rfl, rfl, trivial⟩ ?_
        exact ih1442 _ _ h
  have U1440 : ∀ (M : MW), fX10_init_b1440 M = some (M') → GJ p9 l e9 (rg 7 38 3146) s9 m9 args9 below9 meth9 c9 (MQ below9 (QV s0 D ev (cells ev X M' (0 + 1))) args9 s9 38 3146 (frA ev)) s0 D ev 2 38 3146 1440 [(0, .ref (ev 0 + 65))] ([]) (cells ev X M (0 + 1)) := by
    intro M h
    rw [fX10_init_b1440] at h
    refine g_iconst F dX10_init_1440 (v := 0) (by decide) ?_
    refine g_istore_n (i := 1) (lv' := [(1, .int (0 : Int32)), (0, .ref (ev 0 + 65))]) F dX10_init_1441 rfl (by decide) rfl ?_
    refine g_lv (lv' := [(0, .ref (ev 0 + 65)), (1, .int (0 : Int32))]) ⟨rfl, rfl, trivial⟩ ?_
    exact L1442 FU _ _ h
  have L1421 : ∀  (N1421 : Nat) (M : MW) (l1 : Int32), lo2 (fX10_init_l1421) N1421 M l1 = some (M') → GJ p9 l e9 (rg 7 38 3146) s9 m9 args9 below9 meth9 c9 (MQ below9 (QV s0 D ev (cells ev X M' (0 + 1))) args9 s9 38 3146 (frA ev)) s0 D ev 2 38 3146 1421 [(0, .ref (ev 0 + 65)), (1, .int l1)] ([]) (cells ev X M (0 + 1)) := by
    intro  N1421
    induction N1421 with
    | zero => intro M l1 h; cases h
    | succ N1421 ih1421 =>
      intro M l1 h
      change fX10_init_l1421 (lo2 (fX10_init_l1421) N1421) M l1 = some (M') at h
      rw [fX10_init_l1421] at h
      refine g_iload_n (i := 1) F dX10_init_1421 rfl rfl ?_
      refine g_bipush F dX10_init_1422 (v := 100) (by decide) ?_
      refine g_icmp_ge (tgt := 1440) F dX10_init_1424 (by decide) h (fun a13 h => ?_) (fun a13 h => ?_)
      · refine g_lv (lv' := [(0, .ref (ev 0 + 65))]) ⟨rfl, trivial⟩ ?_
        exact U1440 _ h
      · refine g_aload_n (i := 0) F dX10_init_1427 rfl rfl ?_
        refine g_get_10_0 F wd_11_14 dX10_init_1428 ?_
        refine g_iload_n (i := 1) F dX10_init_1431 rfl rfl ?_
        refine g_iconst F dX10_init_1432 (v := 5) (by decide) ?_
        obtain ⟨h10, h⟩ := if_at h
        obtain ⟨M11, e12, h⟩ := bd_at h
        refine g_istM F rfl rfl h10 dX10_init_1433 ?_
        rw [← e12]
        refine g_iinc (i := 1) (v := (l1 + (1 : Int32))) (lv' := [(1, .int (l1 + (1 : Int32))), (0, .ref (ev 0 + 65))]) F dX10_init_1434 rfl rfl (by decide) rfl ?_
        refine g_goto (tgt := 1421) F dX10_init_1437 (by decide) ?_
        refine g_lv (lv' := [(0, .ref (ev 0 + 65)), (1, .int (l1 + (1 : Int32)))]) ⟨rfl, rfl, trivial⟩ ?_
        exact ih1421 _ _ h
  have U1408 : ∀ (M : MW), fX10_init_b1408 M = some (M') → GJ p9 l e9 (rg 7 38 3146) s9 m9 args9 below9 meth9 c9 (MQ below9 (QV s0 D ev (cells ev X M' (0 + 1))) args9 s9 38 3146 (frA ev)) s0 D ev 2 38 3146 1408 [(0, .ref (ev 0 + 65))] ([]) (cells ev X M (0 + 1)) := by
    intro M h
    rw [fX10_init_b1408] at h
    refine g_aload_n (i := 0) F dX10_init_1408 rfl rfl ?_
    refine g_bipush F dX10_init_1409 (v := 70) (by decide) ?_
    obtain ⟨M1, e2, h⟩ := bd_at h
    refine g_put_10_18 F wd_13_4 dX10_init_1411 ?_
    rw [← e2]
    refine g_aload_n (i := 0) F dX10_init_1414 rfl rfl ?_
    obtain ⟨v4, M3, e5, h⟩ := bd2_at h
    refine g_callVI F (mcR := 38) (msR := 3146) (id := 65) (cells_at (kd_hidM (show kd 65 = 10 from rfl) (by decide)) (xc_10 rfl)) (ci := 10) rfl rfl rfl (c_X10_text G0 e5) wd_13_8 wd_13_5 wd_13_6 wd_13_7 wd_1_5 ⟨by decide, by decide⟩ (nn := 0) (by decide) (As := []) rfl rfl (Nat.le_of_ble_eq_true rfl) (by decide) (by decide) ⟨by decide, by decide⟩ dX10_init_1415 ?_
    refine g_pop F dX10_init_1418 rfl ?_
    refine g_iconst F dX10_init_1419 (v := 0) (by decide) ?_
    refine g_istore_n (i := 1) (lv' := [(1, .int (0 : Int32)), (0, .ref (ev 0 + 65))]) F dX10_init_1420 rfl (by decide) rfl ?_
    refine g_lv (lv' := [(0, .ref (ev 0 + 65)), (1, .int (0 : Int32))]) ⟨rfl, rfl, trivial⟩ ?_
    exact L1421 FU _ _ h
  have L1384 : ∀  (N1384 : Nat) (M : MW) (l1 : Int32), lo2 (fX10_init_l1384) N1384 M l1 = some (M') → GJ p9 l e9 (rg 7 38 3146) s9 m9 args9 below9 meth9 c9 (MQ below9 (QV s0 D ev (cells ev X M' (0 + 1))) args9 s9 38 3146 (frA ev)) s0 D ev 2 38 3146 1384 [(0, .ref (ev 0 + 65)), (1, .int l1)] ([]) (cells ev X M (0 + 1)) := by
    intro  N1384
    induction N1384 with
    | zero => intro M l1 h; cases h
    | succ N1384 ih1384 =>
      intro M l1 h
      change fX10_init_l1384 (lo2 (fX10_init_l1384) N1384) M l1 = some (M') at h
      rw [fX10_init_l1384] at h
      refine g_iload_n (i := 1) F dX10_init_1384 rfl rfl ?_
      refine g_bipush F dX10_init_1385 (v := 70) (by decide) ?_
      refine g_icmp_ge (tgt := 1408) F dX10_init_1387 (by decide) h (fun a19 h => ?_) (fun a19 h => ?_)
      · refine g_lv (lv' := [(0, .ref (ev 0 + 65))]) ⟨rfl, trivial⟩ ?_
        exact U1408 _ h
      · refine g_aload_n (i := 0) F dX10_init_1390 rfl rfl ?_
        refine g_get_10_17 F wd_12_5 dX10_init_1391 ?_
        refine g_iload_n (i := 1) F dX10_init_1394 rfl rfl ?_
        refine g_aload_n (i := 0) F dX10_init_1395 rfl rfl ?_
        refine g_get_10_34 F wd_12_15 dX10_init_1396 ?_
        refine g_iload_n (i := 1) F dX10_init_1399 rfl rfl ?_
        obtain ⟨v14, e15, h⟩ := bind_at h
        refine g_ildM F rfl rfl e15 dX10_init_1400 ?_
        obtain ⟨h16, h⟩ := if_at h
        obtain ⟨M17, e18, h⟩ := bd_at h
        refine g_istM F rfl rfl h16 dX10_init_1401 ?_
        rw [← e18]
        refine g_iinc (i := 1) (v := (l1 + (1 : Int32))) (lv' := [(1, .int (l1 + (1 : Int32))), (0, .ref (ev 0 + 65))]) F dX10_init_1402 rfl rfl (by decide) rfl ?_
        refine g_goto (tgt := 1384) F dX10_init_1405 (by decide) ?_
        refine g_lv (lv' := [(0, .ref (ev 0 + 65)), (1, .int (l1 + (1 : Int32)))]) ⟨rfl, rfl, trivial⟩ ?_
        exact ih1384 _ _ h
  generalize hw9 : cells ev X M9 0 = w9 at hn9 ⊢
  refine g_lv (lv' := [(0, .ref (ev 0 + 65))]) ⟨rfl, trivial⟩ ?_
  refine g_aload_n (i := 0) F dX10_init_0 rfl rfl ?_
  refine g_obj F wd_11_13 wd_1_10 wd_1_11 (by decide) (Nat.le_of_ble_eq_true rfl) (by decide) dX10_init_1 ?_
  refine g_aload_n (i := 0) F dX10_init_4 rfl rfl ?_
  refine g_bipush F dX10_init_5 (v := 100) (by decide) ?_
  refine g_newiP F (N := 100) hn9 wd_2_6 (by decide) (by decide) (by decide) (Nat.le_of_ble_eq_true rfl) (Nat.le_of_ble_eq_true rfl) dX10_init_7 ?_
  refine g_sw (st' := .ref (ev 0 + 66) :: .ref (ev 0 + 65) :: []) (ws' := (w9 ++ [.inr (10, [.null, .null, .null, .null, .null, .null, .null, .int 0, .int 0, .null, .null, .null, .null, .null, .null, .null, .null, .null, .int 0, .null, .null, .int 0, .int 0, .int 0, .int 0, .int 0, .int 0, .null, .null, .null, .null, .null, .null, .null, .null, .int 0, .int 0, .int 0, .int 0, .null, .null, .int 0, .int 0, .int 0, .null, .null, .int 0, .null, .null, .null, .null, .null, .null, .null, .null, .int 0]), .inl (ev 1, 100, .inl (fun _ => 0))])) rfl rfl ?_
  refine g_putFP F hn9 (j := 0) rfl hin9 (ty := tyX10 0) tyX10 tyX10_ok nmX10 rfl (ci := 10) rfl inlX10 (k := 0) (by decide) wd_11_14 rfl rfl rfl rfl rfl rfl (Nat.le_of_ble_eq_true rfl) dX10_init_9 ?_
  refine g_sw (st' := []) (ws' := (w9 ++ [.inr (10, [.ref (ev 0 + 66), .null, .null, .null, .null, .null, .null, .int 0, .int 0, .null, .null, .null, .null, .null, .null, .null, .null, .null, .int 0, .null, .null, .int 0, .int 0, .int 0, .int 0, .int 0, .int 0, .null, .null, .null, .null, .null, .null, .null, .null, .int 0, .int 0, .int 0, .int 0, .null, .null, .int 0, .int 0, .int 0, .null, .null, .int 0, .null, .null, .null, .null, .null, .null, .null, .null, .int 0]), .inl (ev 1, 100, .inl (fun _ => 0))])) rfl rfl ?_
  refine g_aload_n (i := 0) F dX10_init_12 rfl rfl ?_
  refine g_bipush F dX10_init_13 (v := 100) (by decide) ?_
  refine g_newiP F (N := 100) hn9 wd_2_6 (by decide) (by decide) (by decide) (Nat.le_of_ble_eq_true rfl) (Nat.le_of_ble_eq_true rfl) dX10_init_15 ?_
  refine g_sw (st' := .ref (ev 0 + 67) :: .ref (ev 0 + 65) :: []) (ws' := (w9 ++ [.inr (10, [.ref (ev 0 + 66), .null, .null, .null, .null, .null, .null, .int 0, .int 0, .null, .null, .null, .null, .null, .null, .null, .null, .null, .int 0, .null, .null, .int 0, .int 0, .int 0, .int 0, .int 0, .int 0, .null, .null, .null, .null, .null, .null, .null, .null, .int 0, .int 0, .int 0, .int 0, .null, .null, .int 0, .int 0, .int 0, .null, .null, .int 0, .null, .null, .null, .null, .null, .null, .null, .null, .int 0]), .inl (ev 1, 100, .inl (fun _ => 0)), .inl (ev 1, 100, .inl (fun _ => 0))])) rfl rfl ?_
  refine g_putFP F hn9 (j := 0) rfl hin9 (ty := tyX10 1) tyX10 tyX10_ok nmX10 rfl (ci := 10) rfl inlX10 (k := 1) (by decide) wd_11_15 rfl rfl rfl rfl rfl rfl (Nat.le_of_ble_eq_true rfl) dX10_init_17 ?_
  refine g_sw (st' := []) (ws' := (w9 ++ [.inr (10, [.ref (ev 0 + 66), .ref (ev 0 + 67), .null, .null, .null, .null, .null, .int 0, .int 0, .null, .null, .null, .null, .null, .null, .null, .null, .null, .int 0, .null, .null, .int 0, .int 0, .int 0, .int 0, .int 0, .int 0, .null, .null, .null, .null, .null, .null, .null, .null, .int 0, .int 0, .int 0, .int 0, .null, .null, .int 0, .int 0, .int 0, .null, .null, .int 0, .null, .null, .null, .null, .null, .null, .null, .null, .int 0]), .inl (ev 1, 100, .inl (fun _ => 0)), .inl (ev 1, 100, .inl (fun _ => 0))])) rfl rfl ?_
  refine g_aload_n (i := 0) F dX10_init_20 rfl rfl ?_
  refine g_bipush F dX10_init_21 (v := 12) (by decide) ?_
  refine g_newiP F (N := 12) hn9 wd_2_6 (by decide) (by decide) (by decide) (Nat.le_of_ble_eq_true rfl) (Nat.le_of_ble_eq_true rfl) dX10_init_23 ?_
  refine g_sw (st' := .ref (ev 0 + 68) :: .ref (ev 0 + 65) :: []) (ws' := (w9 ++ [.inr (10, [.ref (ev 0 + 66), .ref (ev 0 + 67), .null, .null, .null, .null, .null, .int 0, .int 0, .null, .null, .null, .null, .null, .null, .null, .null, .null, .int 0, .null, .null, .int 0, .int 0, .int 0, .int 0, .int 0, .int 0, .null, .null, .null, .null, .null, .null, .null, .null, .int 0, .int 0, .int 0, .int 0, .null, .null, .int 0, .int 0, .int 0, .null, .null, .int 0, .null, .null, .null, .null, .null, .null, .null, .null, .int 0]), .inl (ev 1, 100, .inl (fun _ => 0)), .inl (ev 1, 100, .inl (fun _ => 0)), .inl (ev 1, 12, .inl (fun _ => 0))])) rfl rfl ?_
  refine g_putFP F hn9 (j := 0) rfl hin9 (ty := tyX10 2) tyX10 tyX10_ok nmX10 rfl (ci := 10) rfl inlX10 (k := 2) (by decide) wd_11_16 rfl rfl rfl rfl rfl rfl (Nat.le_of_ble_eq_true rfl) dX10_init_25 ?_
  refine g_sw (st' := []) (ws' := (w9 ++ [.inr (10, [.ref (ev 0 + 66), .ref (ev 0 + 67), .ref (ev 0 + 68), .null, .null, .null, .null, .int 0, .int 0, .null, .null, .null, .null, .null, .null, .null, .null, .null, .int 0, .null, .null, .int 0, .int 0, .int 0, .int 0, .int 0, .int 0, .null, .null, .null, .null, .null, .null, .null, .null, .int 0, .int 0, .int 0, .int 0, .null, .null, .int 0, .int 0, .int 0, .null, .null, .int 0, .null, .null, .null, .null, .null, .null, .null, .null, .int 0]), .inl (ev 1, 100, .inl (fun _ => 0)), .inl (ev 1, 100, .inl (fun _ => 0)), .inl (ev 1, 12, .inl (fun _ => 0))])) rfl rfl ?_
  refine g_aload_n (i := 0) F dX10_init_28 rfl rfl ?_
  refine g_bipush F dX10_init_29 (v := 12) (by decide) ?_
  refine g_newiP F (N := 12) hn9 wd_2_6 (by decide) (by decide) (by decide) (Nat.le_of_ble_eq_true rfl) (Nat.le_of_ble_eq_true rfl) dX10_init_31 ?_
  refine g_sw (st' := .ref (ev 0 + 69) :: .ref (ev 0 + 65) :: []) (ws' := (w9 ++ [.inr (10, [.ref (ev 0 + 66), .ref (ev 0 + 67), .ref (ev 0 + 68), .null, .null, .null, .null, .int 0, .int 0, .null, .null, .null, .null, .null, .null, .null, .null, .null, .int 0, .null, .null, .int 0, .int 0, .int 0, .int 0, .int 0, .int 0, .null, .null, .null, .null, .null, .null, .null, .null, .int 0, .int 0, .int 0, .int 0, .null, .null, .int 0, .int 0, .int 0, .null, .null, .int 0, .null, .null, .null, .null, .null, .null, .null, .null, .int 0]), .inl (ev 1, 100, .inl (fun _ => 0)), .inl (ev 1, 100, .inl (fun _ => 0)), .inl (ev 1, 12, .inl (fun _ => 0)), .inl (ev 1, 12, .inl (fun _ => 0))])) rfl rfl ?_
  refine g_putFP F hn9 (j := 0) rfl hin9 (ty := tyX10 3) tyX10 tyX10_ok nmX10 rfl (ci := 10) rfl inlX10 (k := 3) (by decide) wd_11_17 rfl rfl rfl rfl rfl rfl (Nat.le_of_ble_eq_true rfl) dX10_init_33 ?_
  refine g_sw (st' := []) (ws' := (w9 ++ [.inr (10, [.ref (ev 0 + 66), .ref (ev 0 + 67), .ref (ev 0 + 68), .ref (ev 0 + 69), .null, .null, .null, .int 0, .int 0, .null, .null, .null, .null, .null, .null, .null, .null, .null, .int 0, .null, .null, .int 0, .int 0, .int 0, .int 0, .int 0, .int 0, .null, .null, .null, .null, .null, .null, .null, .null, .int 0, .int 0, .int 0, .int 0, .null, .null, .int 0, .int 0, .int 0, .null, .null, .int 0, .null, .null, .null, .null, .null, .null, .null, .null, .int 0]), .inl (ev 1, 100, .inl (fun _ => 0)), .inl (ev 1, 100, .inl (fun _ => 0)), .inl (ev 1, 12, .inl (fun _ => 0)), .inl (ev 1, 12, .inl (fun _ => 0))])) rfl rfl ?_
  refine g_aload_n (i := 0) F dX10_init_36 rfl rfl ?_
  refine g_bipush F dX10_init_37 (v := 12) (by decide) ?_
  refine g_newiP F (N := 12) hn9 wd_2_6 (by decide) (by decide) (by decide) (Nat.le_of_ble_eq_true rfl) (Nat.le_of_ble_eq_true rfl) dX10_init_39 ?_
  refine g_sw (st' := .ref (ev 0 + 70) :: .ref (ev 0 + 65) :: []) (ws' := (w9 ++ [.inr (10, [.ref (ev 0 + 66), .ref (ev 0 + 67), .ref (ev 0 + 68), .ref (ev 0 + 69), .null, .null, .null, .int 0, .int 0, .null, .null, .null, .null, .null, .null, .null, .null, .null, .int 0, .null, .null, .int 0, .int 0, .int 0, .int 0, .int 0, .int 0, .null, .null, .null, .null, .null, .null, .null, .null, .int 0, .int 0, .int 0, .int 0, .null, .null, .int 0, .int 0, .int 0, .null, .null, .int 0, .null, .null, .null, .null, .null, .null, .null, .null, .int 0]), .inl (ev 1, 100, .inl (fun _ => 0)), .inl (ev 1, 100, .inl (fun _ => 0)), .inl (ev 1, 12, .inl (fun _ => 0)), .inl (ev 1, 12, .inl (fun _ => 0)), .inl (ev 1, 12, .inl (fun _ => 0))])) rfl rfl ?_
  refine g_putFP F hn9 (j := 0) rfl hin9 (ty := tyX10 4) tyX10 tyX10_ok nmX10 rfl (ci := 10) rfl inlX10 (k := 4) (by decide) wd_11_18 rfl rfl rfl rfl rfl rfl (Nat.le_of_ble_eq_true rfl) dX10_init_41 ?_
  refine g_sw (st' := []) (ws' := (w9 ++ [.inr (10, [.ref (ev 0 + 66), .ref (ev 0 + 67), .ref (ev 0 + 68), .ref (ev 0 + 69), .ref (ev 0 + 70), .null, .null, .int 0, .int 0, .null, .null, .null, .null, .null, .null, .null, .null, .null, .int 0, .null, .null, .int 0, .int 0, .int 0, .int 0, .int 0, .int 0, .null, .null, .null, .null, .null, .null, .null, .null, .int 0, .int 0, .int 0, .int 0, .null, .null, .int 0, .int 0, .int 0, .null, .null, .int 0, .null, .null, .null, .null, .null, .null, .null, .null, .int 0]), .inl (ev 1, 100, .inl (fun _ => 0)), .inl (ev 1, 100, .inl (fun _ => 0)), .inl (ev 1, 12, .inl (fun _ => 0)), .inl (ev 1, 12, .inl (fun _ => 0)), .inl (ev 1, 12, .inl (fun _ => 0))])) rfl rfl ?_
  refine g_aload_n (i := 0) F dX10_init_44 rfl rfl ?_
  refine g_bipush F dX10_init_45 (v := 8) (by decide) ?_
  refine g_newiP F (N := 8) hn9 wd_2_6 (by decide) (by decide) (by decide) (Nat.le_of_ble_eq_true rfl) (Nat.le_of_ble_eq_true rfl) dX10_init_47 ?_
  refine g_sw (st' := .ref (ev 0 + 71) :: .ref (ev 0 + 65) :: []) (ws' := (w9 ++ [.inr (10, [.ref (ev 0 + 66), .ref (ev 0 + 67), .ref (ev 0 + 68), .ref (ev 0 + 69), .ref (ev 0 + 70), .null, .null, .int 0, .int 0, .null, .null, .null, .null, .null, .null, .null, .null, .null, .int 0, .null, .null, .int 0, .int 0, .int 0, .int 0, .int 0, .int 0, .null, .null, .null, .null, .null, .null, .null, .null, .int 0, .int 0, .int 0, .int 0, .null, .null, .int 0, .int 0, .int 0, .null, .null, .int 0, .null, .null, .null, .null, .null, .null, .null, .null, .int 0]), .inl (ev 1, 100, .inl (fun _ => 0)), .inl (ev 1, 100, .inl (fun _ => 0)), .inl (ev 1, 12, .inl (fun _ => 0)), .inl (ev 1, 12, .inl (fun _ => 0)), .inl (ev 1, 12, .inl (fun _ => 0))]) ++ [.inl (ev 1, 8, .inl (lf []))]) rfl (by rw [List.append_assoc]; rfl) ?_
  refine g_lt47 F (n := 71) (show (w9 ++ [.inr (10, [.ref (ev 0 + 66), .ref (ev 0 + 67), .ref (ev 0 + 68), .ref (ev 0 + 69), .ref (ev 0 + 70), .null, .null, .int 0, .int 0, .null, .null, .null, .null, .null, .null, .null, .null, .null, .int 0, .null, .null, .int 0, .int 0, .int 0, .int 0, .int 0, .int 0, .null, .null, .null, .null, .null, .null, .null, .null, .int 0, .int 0, .int 0, .int 0, .null, .null, .int 0, .int 0, .int 0, .null, .null, .int 0, .null, .null, .null, .null, .null, .null, .null, .null, .int 0]), .inl (ev 1, 100, .inl (fun _ => 0)), .inl (ev 1, 100, .inl (fun _ => 0)), .inl (ev 1, 12, .inl (fun _ => 0)), .inl (ev 1, 12, .inl (fun _ => 0)), .inl (ev 1, 12, .inl (fun _ => 0))] : List va_E).length = 71 from ap_len hn9) ?_
  refine g_sw (st' := .ref (ev 0 + 71) :: .ref (ev 0 + 65) :: []) (ws' := (w9 ++ [.inr (10, [.ref (ev 0 + 66), .ref (ev 0 + 67), .ref (ev 0 + 68), .ref (ev 0 + 69), .ref (ev 0 + 70), .null, .null, .int 0, .int 0, .null, .null, .null, .null, .null, .null, .null, .null, .null, .int 0, .null, .null, .int 0, .int 0, .int 0, .int 0, .int 0, .int 0, .null, .null, .null, .null, .null, .null, .null, .null, .int 0, .int 0, .int 0, .int 0, .null, .null, .int 0, .int 0, .int 0, .null, .null, .int 0, .null, .null, .null, .null, .null, .null, .null, .null, .int 0]), .inl (ev 1, 100, .inl (fun _ => 0)), .inl (ev 1, 100, .inl (fun _ => 0)), .inl (ev 1, 12, .inl (fun _ => 0)), .inl (ev 1, 12, .inl (fun _ => 0)), .inl (ev 1, 12, .inl (fun _ => 0)), .inl (ev 1, 8, .inl (lf lt47))])) rfl (by rw [List.append_assoc]; rfl) ?_
  refine g_putFP F hn9 (j := 0) rfl hin9 (ty := tyX10 5) tyX10 tyX10_ok nmX10 rfl (ci := 10) rfl inlX10 (k := 5) (by decide) wd_11_19 rfl rfl rfl rfl rfl rfl (Nat.le_of_ble_eq_true rfl) dX10_init_83 ?_
  refine g_sw (st' := []) (ws' := (w9 ++ [.inr (10, [.ref (ev 0 + 66), .ref (ev 0 + 67), .ref (ev 0 + 68), .ref (ev 0 + 69), .ref (ev 0 + 70), .ref (ev 0 + 71), .null, .int 0, .int 0, .null, .null, .null, .null, .null, .null, .null, .null, .null, .int 0, .null, .null, .int 0, .int 0, .int 0, .int 0, .int 0, .int 0, .null, .null, .null, .null, .null, .null, .null, .null, .int 0, .int 0, .int 0, .int 0, .null, .null, .int 0, .int 0, .int 0, .null, .null, .int 0, .null, .null, .null, .null, .null, .null, .null, .null, .int 0]), .inl (ev 1, 100, .inl (fun _ => 0)), .inl (ev 1, 100, .inl (fun _ => 0)), .inl (ev 1, 12, .inl (fun _ => 0)), .inl (ev 1, 12, .inl (fun _ => 0)), .inl (ev 1, 12, .inl (fun _ => 0)), .inl (ev 1, 8, .inl (lf lt47))])) rfl rfl ?_
  refine g_aload_n (i := 0) F dX10_init_86 rfl rfl ?_
  refine g_bipush F dX10_init_87 (v := 8) (by decide) ?_
  refine g_newiP F (N := 8) hn9 wd_2_6 (by decide) (by decide) (by decide) (Nat.le_of_ble_eq_true rfl) (Nat.le_of_ble_eq_true rfl) dX10_init_89 ?_
  refine g_sw (st' := .ref (ev 0 + 72) :: .ref (ev 0 + 65) :: []) (ws' := (w9 ++ [.inr (10, [.ref (ev 0 + 66), .ref (ev 0 + 67), .ref (ev 0 + 68), .ref (ev 0 + 69), .ref (ev 0 + 70), .ref (ev 0 + 71), .null, .int 0, .int 0, .null, .null, .null, .null, .null, .null, .null, .null, .null, .int 0, .null, .null, .int 0, .int 0, .int 0, .int 0, .int 0, .int 0, .null, .null, .null, .null, .null, .null, .null, .null, .int 0, .int 0, .int 0, .int 0, .null, .null, .int 0, .int 0, .int 0, .null, .null, .int 0, .null, .null, .null, .null, .null, .null, .null, .null, .int 0]), .inl (ev 1, 100, .inl (fun _ => 0)), .inl (ev 1, 100, .inl (fun _ => 0)), .inl (ev 1, 12, .inl (fun _ => 0)), .inl (ev 1, 12, .inl (fun _ => 0)), .inl (ev 1, 12, .inl (fun _ => 0)), .inl (ev 1, 8, .inl (lf lt47))]) ++ [.inl (ev 1, 8, .inl (lf []))]) rfl (by rw [List.append_assoc]; rfl) ?_
  refine g_lt89 F (n := 72) (show (w9 ++ [.inr (10, [.ref (ev 0 + 66), .ref (ev 0 + 67), .ref (ev 0 + 68), .ref (ev 0 + 69), .ref (ev 0 + 70), .ref (ev 0 + 71), .null, .int 0, .int 0, .null, .null, .null, .null, .null, .null, .null, .null, .null, .int 0, .null, .null, .int 0, .int 0, .int 0, .int 0, .int 0, .int 0, .null, .null, .null, .null, .null, .null, .null, .null, .int 0, .int 0, .int 0, .int 0, .null, .null, .int 0, .int 0, .int 0, .null, .null, .int 0, .null, .null, .null, .null, .null, .null, .null, .null, .int 0]), .inl (ev 1, 100, .inl (fun _ => 0)), .inl (ev 1, 100, .inl (fun _ => 0)), .inl (ev 1, 12, .inl (fun _ => 0)), .inl (ev 1, 12, .inl (fun _ => 0)), .inl (ev 1, 12, .inl (fun _ => 0)), .inl (ev 1, 8, .inl (lf lt47))] : List va_E).length = 72 from ap_len hn9) ?_
  refine g_sw (st' := .ref (ev 0 + 72) :: .ref (ev 0 + 65) :: []) (ws' := (w9 ++ [.inr (10, [.ref (ev 0 + 66), .ref (ev 0 + 67), .ref (ev 0 + 68), .ref (ev 0 + 69), .ref (ev 0 + 70), .ref (ev 0 + 71), .null, .int 0, .int 0, .null, .null, .null, .null, .null, .null, .null, .null, .null, .int 0, .null, .null, .int 0, .int 0, .int 0, .int 0, .int 0, .int 0, .null, .null, .null, .null, .null, .null, .null, .null, .int 0, .int 0, .int 0, .int 0, .null, .null, .int 0, .int 0, .int 0, .null, .null, .int 0, .null, .null, .null, .null, .null, .null, .null, .null, .int 0]), .inl (ev 1, 100, .inl (fun _ => 0)), .inl (ev 1, 100, .inl (fun _ => 0)), .inl (ev 1, 12, .inl (fun _ => 0)), .inl (ev 1, 12, .inl (fun _ => 0)), .inl (ev 1, 12, .inl (fun _ => 0)), .inl (ev 1, 8, .inl (lf lt47)), .inl (ev 1, 8, .inl (lf lt89))])) rfl (by rw [List.append_assoc]; rfl) ?_
  refine g_putFP F hn9 (j := 0) rfl hin9 (ty := tyX10 6) tyX10 tyX10_ok nmX10 rfl (ci := 10) rfl inlX10 (k := 6) (by decide) wd_11_20 rfl rfl rfl rfl rfl rfl (Nat.le_of_ble_eq_true rfl) dX10_init_125 ?_
  refine g_sw (st' := []) (ws' := (w9 ++ [.inr (10, [.ref (ev 0 + 66), .ref (ev 0 + 67), .ref (ev 0 + 68), .ref (ev 0 + 69), .ref (ev 0 + 70), .ref (ev 0 + 71), .ref (ev 0 + 72), .int 0, .int 0, .null, .null, .null, .null, .null, .null, .null, .null, .null, .int 0, .null, .null, .int 0, .int 0, .int 0, .int 0, .int 0, .int 0, .null, .null, .null, .null, .null, .null, .null, .null, .int 0, .int 0, .int 0, .int 0, .null, .null, .int 0, .int 0, .int 0, .null, .null, .int 0, .null, .null, .null, .null, .null, .null, .null, .null, .int 0]), .inl (ev 1, 100, .inl (fun _ => 0)), .inl (ev 1, 100, .inl (fun _ => 0)), .inl (ev 1, 12, .inl (fun _ => 0)), .inl (ev 1, 12, .inl (fun _ => 0)), .inl (ev 1, 12, .inl (fun _ => 0)), .inl (ev 1, 8, .inl (lf lt47)), .inl (ev 1, 8, .inl (lf lt89))])) rfl rfl ?_
  refine g_aload_n (i := 0) F dX10_init_128 rfl rfl ?_
  refine g_bipush F dX10_init_129 (v := 6) (by decide) ?_
  refine g_newiP F (N := 6) hn9 wd_2_6 (by decide) (by decide) (by decide) (Nat.le_of_ble_eq_true rfl) (Nat.le_of_ble_eq_true rfl) dX10_init_131 ?_
  refine g_sw (st' := .ref (ev 0 + 73) :: .ref (ev 0 + 65) :: []) (ws' := (w9 ++ [.inr (10, [.ref (ev 0 + 66), .ref (ev 0 + 67), .ref (ev 0 + 68), .ref (ev 0 + 69), .ref (ev 0 + 70), .ref (ev 0 + 71), .ref (ev 0 + 72), .int 0, .int 0, .null, .null, .null, .null, .null, .null, .null, .null, .null, .int 0, .null, .null, .int 0, .int 0, .int 0, .int 0, .int 0, .int 0, .null, .null, .null, .null, .null, .null, .null, .null, .int 0, .int 0, .int 0, .int 0, .null, .null, .int 0, .int 0, .int 0, .null, .null, .int 0, .null, .null, .null, .null, .null, .null, .null, .null, .int 0]), .inl (ev 1, 100, .inl (fun _ => 0)), .inl (ev 1, 100, .inl (fun _ => 0)), .inl (ev 1, 12, .inl (fun _ => 0)), .inl (ev 1, 12, .inl (fun _ => 0)), .inl (ev 1, 12, .inl (fun _ => 0)), .inl (ev 1, 8, .inl (lf lt47)), .inl (ev 1, 8, .inl (lf lt89)), .inl (ev 1, 6, .inl (fun _ => 0))])) rfl rfl ?_
  refine g_putFP F hn9 (j := 0) rfl hin9 (ty := tyX10 9) tyX10 tyX10_ok nmX10 rfl (ci := 10) rfl inlX10 (k := 9) (by decide) wd_11_21 rfl rfl rfl rfl rfl rfl (Nat.le_of_ble_eq_true rfl) dX10_init_133 ?_
  refine g_sw (st' := []) (ws' := (w9 ++ [.inr (10, [.ref (ev 0 + 66), .ref (ev 0 + 67), .ref (ev 0 + 68), .ref (ev 0 + 69), .ref (ev 0 + 70), .ref (ev 0 + 71), .ref (ev 0 + 72), .int 0, .int 0, .ref (ev 0 + 73), .null, .null, .null, .null, .null, .null, .null, .null, .int 0, .null, .null, .int 0, .int 0, .int 0, .int 0, .int 0, .int 0, .null, .null, .null, .null, .null, .null, .null, .null, .int 0, .int 0, .int 0, .int 0, .null, .null, .int 0, .int 0, .int 0, .null, .null, .int 0, .null, .null, .null, .null, .null, .null, .null, .null, .int 0]), .inl (ev 1, 100, .inl (fun _ => 0)), .inl (ev 1, 100, .inl (fun _ => 0)), .inl (ev 1, 12, .inl (fun _ => 0)), .inl (ev 1, 12, .inl (fun _ => 0)), .inl (ev 1, 12, .inl (fun _ => 0)), .inl (ev 1, 8, .inl (lf lt47)), .inl (ev 1, 8, .inl (lf lt89)), .inl (ev 1, 6, .inl (fun _ => 0))])) rfl rfl ?_
  refine g_aload_n (i := 0) F dX10_init_136 rfl rfl ?_
  refine g_bipush F dX10_init_137 (v := 6) (by decide) ?_
  refine g_newiP F (N := 6) hn9 wd_2_6 (by decide) (by decide) (by decide) (Nat.le_of_ble_eq_true rfl) (Nat.le_of_ble_eq_true rfl) dX10_init_139 ?_
  refine g_sw (st' := .ref (ev 0 + 74) :: .ref (ev 0 + 65) :: []) (ws' := (w9 ++ [.inr (10, [.ref (ev 0 + 66), .ref (ev 0 + 67), .ref (ev 0 + 68), .ref (ev 0 + 69), .ref (ev 0 + 70), .ref (ev 0 + 71), .ref (ev 0 + 72), .int 0, .int 0, .ref (ev 0 + 73), .null, .null, .null, .null, .null, .null, .null, .null, .int 0, .null, .null, .int 0, .int 0, .int 0, .int 0, .int 0, .int 0, .null, .null, .null, .null, .null, .null, .null, .null, .int 0, .int 0, .int 0, .int 0, .null, .null, .int 0, .int 0, .int 0, .null, .null, .int 0, .null, .null, .null, .null, .null, .null, .null, .null, .int 0]), .inl (ev 1, 100, .inl (fun _ => 0)), .inl (ev 1, 100, .inl (fun _ => 0)), .inl (ev 1, 12, .inl (fun _ => 0)), .inl (ev 1, 12, .inl (fun _ => 0)), .inl (ev 1, 12, .inl (fun _ => 0)), .inl (ev 1, 8, .inl (lf lt47)), .inl (ev 1, 8, .inl (lf lt89)), .inl (ev 1, 6, .inl (fun _ => 0)), .inl (ev 1, 6, .inl (fun _ => 0))])) rfl rfl ?_
  refine g_putFP F hn9 (j := 0) rfl hin9 (ty := tyX10 10) tyX10 tyX10_ok nmX10 rfl (ci := 10) rfl inlX10 (k := 10) (by decide) wd_11_22 rfl rfl rfl rfl rfl rfl (Nat.le_of_ble_eq_true rfl) dX10_init_141 ?_
  refine g_sw (st' := []) (ws' := (w9 ++ [.inr (10, [.ref (ev 0 + 66), .ref (ev 0 + 67), .ref (ev 0 + 68), .ref (ev 0 + 69), .ref (ev 0 + 70), .ref (ev 0 + 71), .ref (ev 0 + 72), .int 0, .int 0, .ref (ev 0 + 73), .ref (ev 0 + 74), .null, .null, .null, .null, .null, .null, .null, .int 0, .null, .null, .int 0, .int 0, .int 0, .int 0, .int 0, .int 0, .null, .null, .null, .null, .null, .null, .null, .null, .int 0, .int 0, .int 0, .int 0, .null, .null, .int 0, .int 0, .int 0, .null, .null, .int 0, .null, .null, .null, .null, .null, .null, .null, .null, .int 0]), .inl (ev 1, 100, .inl (fun _ => 0)), .inl (ev 1, 100, .inl (fun _ => 0)), .inl (ev 1, 12, .inl (fun _ => 0)), .inl (ev 1, 12, .inl (fun _ => 0)), .inl (ev 1, 12, .inl (fun _ => 0)), .inl (ev 1, 8, .inl (lf lt47)), .inl (ev 1, 8, .inl (lf lt89)), .inl (ev 1, 6, .inl (fun _ => 0)), .inl (ev 1, 6, .inl (fun _ => 0))])) rfl rfl ?_
  refine g_aload_n (i := 0) F dX10_init_144 rfl rfl ?_
  refine g_bipush F dX10_init_145 (v := 6) (by decide) ?_
  refine g_newiP F (N := 6) hn9 wd_2_6 (by decide) (by decide) (by decide) (Nat.le_of_ble_eq_true rfl) (Nat.le_of_ble_eq_true rfl) dX10_init_147 ?_
  refine g_sw (st' := .ref (ev 0 + 75) :: .ref (ev 0 + 65) :: []) (ws' := (w9 ++ [.inr (10, [.ref (ev 0 + 66), .ref (ev 0 + 67), .ref (ev 0 + 68), .ref (ev 0 + 69), .ref (ev 0 + 70), .ref (ev 0 + 71), .ref (ev 0 + 72), .int 0, .int 0, .ref (ev 0 + 73), .ref (ev 0 + 74), .null, .null, .null, .null, .null, .null, .null, .int 0, .null, .null, .int 0, .int 0, .int 0, .int 0, .int 0, .int 0, .null, .null, .null, .null, .null, .null, .null, .null, .int 0, .int 0, .int 0, .int 0, .null, .null, .int 0, .int 0, .int 0, .null, .null, .int 0, .null, .null, .null, .null, .null, .null, .null, .null, .int 0]), .inl (ev 1, 100, .inl (fun _ => 0)), .inl (ev 1, 100, .inl (fun _ => 0)), .inl (ev 1, 12, .inl (fun _ => 0)), .inl (ev 1, 12, .inl (fun _ => 0)), .inl (ev 1, 12, .inl (fun _ => 0)), .inl (ev 1, 8, .inl (lf lt47)), .inl (ev 1, 8, .inl (lf lt89)), .inl (ev 1, 6, .inl (fun _ => 0)), .inl (ev 1, 6, .inl (fun _ => 0)), .inl (ev 1, 6, .inl (fun _ => 0))])) rfl rfl ?_
  refine g_putFP F hn9 (j := 0) rfl hin9 (ty := tyX10 11) tyX10 tyX10_ok nmX10 rfl (ci := 10) rfl inlX10 (k := 11) (by decide) wd_11_23 rfl rfl rfl rfl rfl rfl (Nat.le_of_ble_eq_true rfl) dX10_init_149 ?_
  refine g_sw (st' := []) (ws' := (w9 ++ [.inr (10, [.ref (ev 0 + 66), .ref (ev 0 + 67), .ref (ev 0 + 68), .ref (ev 0 + 69), .ref (ev 0 + 70), .ref (ev 0 + 71), .ref (ev 0 + 72), .int 0, .int 0, .ref (ev 0 + 73), .ref (ev 0 + 74), .ref (ev 0 + 75), .null, .null, .null, .null, .null, .null, .int 0, .null, .null, .int 0, .int 0, .int 0, .int 0, .int 0, .int 0, .null, .null, .null, .null, .null, .null, .null, .null, .int 0, .int 0, .int 0, .int 0, .null, .null, .int 0, .int 0, .int 0, .null, .null, .int 0, .null, .null, .null, .null, .null, .null, .null, .null, .int 0]), .inl (ev 1, 100, .inl (fun _ => 0)), .inl (ev 1, 100, .inl (fun _ => 0)), .inl (ev 1, 12, .inl (fun _ => 0)), .inl (ev 1, 12, .inl (fun _ => 0)), .inl (ev 1, 12, .inl (fun _ => 0)), .inl (ev 1, 8, .inl (lf lt47)), .inl (ev 1, 8, .inl (lf lt89)), .inl (ev 1, 6, .inl (fun _ => 0)), .inl (ev 1, 6, .inl (fun _ => 0)), .inl (ev 1, 6, .inl (fun _ => 0))])) rfl rfl ?_
  refine g_aload_n (i := 0) F dX10_init_152 rfl rfl ?_
  refine g_bipush F dX10_init_153 (v := 6) (by decide) ?_
  refine g_newiP F (N := 6) hn9 wd_2_6 (by decide) (by decide) (by decide) (Nat.le_of_ble_eq_true rfl) (Nat.le_of_ble_eq_true rfl) dX10_init_155 ?_
  refine g_sw (st' := .ref (ev 0 + 76) :: .ref (ev 0 + 65) :: []) (ws' := (w9 ++ [.inr (10, [.ref (ev 0 + 66), .ref (ev 0 + 67), .ref (ev 0 + 68), .ref (ev 0 + 69), .ref (ev 0 + 70), .ref (ev 0 + 71), .ref (ev 0 + 72), .int 0, .int 0, .ref (ev 0 + 73), .ref (ev 0 + 74), .ref (ev 0 + 75), .null, .null, .null, .null, .null, .null, .int 0, .null, .null, .int 0, .int 0, .int 0, .int 0, .int 0, .int 0, .null, .null, .null, .null, .null, .null, .null, .null, .int 0, .int 0, .int 0, .int 0, .null, .null, .int 0, .int 0, .int 0, .null, .null, .int 0, .null, .null, .null, .null, .null, .null, .null, .null, .int 0]), .inl (ev 1, 100, .inl (fun _ => 0)), .inl (ev 1, 100, .inl (fun _ => 0)), .inl (ev 1, 12, .inl (fun _ => 0)), .inl (ev 1, 12, .inl (fun _ => 0)), .inl (ev 1, 12, .inl (fun _ => 0)), .inl (ev 1, 8, .inl (lf lt47)), .inl (ev 1, 8, .inl (lf lt89)), .inl (ev 1, 6, .inl (fun _ => 0)), .inl (ev 1, 6, .inl (fun _ => 0)), .inl (ev 1, 6, .inl (fun _ => 0)), .inl (ev 1, 6, .inl (fun _ => 0))])) rfl rfl ?_
  refine g_putFP F hn9 (j := 0) rfl hin9 (ty := tyX10 12) tyX10 tyX10_ok nmX10 rfl (ci := 10) rfl inlX10 (k := 12) (by decide) wd_12_0 rfl rfl rfl rfl rfl rfl (Nat.le_of_ble_eq_true rfl) dX10_init_157 ?_
  refine g_sw (st' := []) (ws' := (w9 ++ [.inr (10, [.ref (ev 0 + 66), .ref (ev 0 + 67), .ref (ev 0 + 68), .ref (ev 0 + 69), .ref (ev 0 + 70), .ref (ev 0 + 71), .ref (ev 0 + 72), .int 0, .int 0, .ref (ev 0 + 73), .ref (ev 0 + 74), .ref (ev 0 + 75), .ref (ev 0 + 76), .null, .null, .null, .null, .null, .int 0, .null, .null, .int 0, .int 0, .int 0, .int 0, .int 0, .int 0, .null, .null, .null, .null, .null, .null, .null, .null, .int 0, .int 0, .int 0, .int 0, .null, .null, .int 0, .int 0, .int 0, .null, .null, .int 0, .null, .null, .null, .null, .null, .null, .null, .null, .int 0]), .inl (ev 1, 100, .inl (fun _ => 0)), .inl (ev 1, 100, .inl (fun _ => 0)), .inl (ev 1, 12, .inl (fun _ => 0)), .inl (ev 1, 12, .inl (fun _ => 0)), .inl (ev 1, 12, .inl (fun _ => 0)), .inl (ev 1, 8, .inl (lf lt47)), .inl (ev 1, 8, .inl (lf lt89)), .inl (ev 1, 6, .inl (fun _ => 0)), .inl (ev 1, 6, .inl (fun _ => 0)), .inl (ev 1, 6, .inl (fun _ => 0)), .inl (ev 1, 6, .inl (fun _ => 0))])) rfl rfl ?_
  refine g_aload_n (i := 0) F dX10_init_160 rfl rfl ?_
  refine g_bipush F dX10_init_161 (v := 6) (by decide) ?_
  refine g_newiP F (N := 6) hn9 wd_2_6 (by decide) (by decide) (by decide) (Nat.le_of_ble_eq_true rfl) (Nat.le_of_ble_eq_true rfl) dX10_init_163 ?_
  refine g_sw (st' := .ref (ev 0 + 77) :: .ref (ev 0 + 65) :: []) (ws' := (w9 ++ [.inr (10, [.ref (ev 0 + 66), .ref (ev 0 + 67), .ref (ev 0 + 68), .ref (ev 0 + 69), .ref (ev 0 + 70), .ref (ev 0 + 71), .ref (ev 0 + 72), .int 0, .int 0, .ref (ev 0 + 73), .ref (ev 0 + 74), .ref (ev 0 + 75), .ref (ev 0 + 76), .null, .null, .null, .null, .null, .int 0, .null, .null, .int 0, .int 0, .int 0, .int 0, .int 0, .int 0, .null, .null, .null, .null, .null, .null, .null, .null, .int 0, .int 0, .int 0, .int 0, .null, .null, .int 0, .int 0, .int 0, .null, .null, .int 0, .null, .null, .null, .null, .null, .null, .null, .null, .int 0]), .inl (ev 1, 100, .inl (fun _ => 0)), .inl (ev 1, 100, .inl (fun _ => 0)), .inl (ev 1, 12, .inl (fun _ => 0)), .inl (ev 1, 12, .inl (fun _ => 0)), .inl (ev 1, 12, .inl (fun _ => 0)), .inl (ev 1, 8, .inl (lf lt47)), .inl (ev 1, 8, .inl (lf lt89)), .inl (ev 1, 6, .inl (fun _ => 0)), .inl (ev 1, 6, .inl (fun _ => 0)), .inl (ev 1, 6, .inl (fun _ => 0)), .inl (ev 1, 6, .inl (fun _ => 0)), .inl (ev 1, 6, .inl (fun _ => 0))])) rfl rfl ?_
  refine g_putFP F hn9 (j := 0) rfl hin9 (ty := tyX10 13) tyX10 tyX10_ok nmX10 rfl (ci := 10) rfl inlX10 (k := 13) (by decide) wd_12_1 rfl rfl rfl rfl rfl rfl (Nat.le_of_ble_eq_true rfl) dX10_init_165 ?_
  refine g_sw (st' := []) (ws' := (w9 ++ [.inr (10, [.ref (ev 0 + 66), .ref (ev 0 + 67), .ref (ev 0 + 68), .ref (ev 0 + 69), .ref (ev 0 + 70), .ref (ev 0 + 71), .ref (ev 0 + 72), .int 0, .int 0, .ref (ev 0 + 73), .ref (ev 0 + 74), .ref (ev 0 + 75), .ref (ev 0 + 76), .ref (ev 0 + 77), .null, .null, .null, .null, .int 0, .null, .null, .int 0, .int 0, .int 0, .int 0, .int 0, .int 0, .null, .null, .null, .null, .null, .null, .null, .null, .int 0, .int 0, .int 0, .int 0, .null, .null, .int 0, .int 0, .int 0, .null, .null, .int 0, .null, .null, .null, .null, .null, .null, .null, .null, .int 0]), .inl (ev 1, 100, .inl (fun _ => 0)), .inl (ev 1, 100, .inl (fun _ => 0)), .inl (ev 1, 12, .inl (fun _ => 0)), .inl (ev 1, 12, .inl (fun _ => 0)), .inl (ev 1, 12, .inl (fun _ => 0)), .inl (ev 1, 8, .inl (lf lt47)), .inl (ev 1, 8, .inl (lf lt89)), .inl (ev 1, 6, .inl (fun _ => 0)), .inl (ev 1, 6, .inl (fun _ => 0)), .inl (ev 1, 6, .inl (fun _ => 0)), .inl (ev 1, 6, .inl (fun _ => 0)), .inl (ev 1, 6, .inl (fun _ => 0))])) rfl rfl ?_
  refine g_aload_n (i := 0) F dX10_init_168 rfl rfl ?_
  refine g_bipush F dX10_init_169 (v := 6) (by decide) ?_
  refine g_newiP F (N := 6) hn9 wd_2_6 (by decide) (by decide) (by decide) (Nat.le_of_ble_eq_true rfl) (Nat.le_of_ble_eq_true rfl) dX10_init_171 ?_
  refine g_sw (st' := .ref (ev 0 + 78) :: .ref (ev 0 + 65) :: []) (ws' := (w9 ++ [.inr (10, [.ref (ev 0 + 66), .ref (ev 0 + 67), .ref (ev 0 + 68), .ref (ev 0 + 69), .ref (ev 0 + 70), .ref (ev 0 + 71), .ref (ev 0 + 72), .int 0, .int 0, .ref (ev 0 + 73), .ref (ev 0 + 74), .ref (ev 0 + 75), .ref (ev 0 + 76), .ref (ev 0 + 77), .null, .null, .null, .null, .int 0, .null, .null, .int 0, .int 0, .int 0, .int 0, .int 0, .int 0, .null, .null, .null, .null, .null, .null, .null, .null, .int 0, .int 0, .int 0, .int 0, .null, .null, .int 0, .int 0, .int 0, .null, .null, .int 0, .null, .null, .null, .null, .null, .null, .null, .null, .int 0]), .inl (ev 1, 100, .inl (fun _ => 0)), .inl (ev 1, 100, .inl (fun _ => 0)), .inl (ev 1, 12, .inl (fun _ => 0)), .inl (ev 1, 12, .inl (fun _ => 0)), .inl (ev 1, 12, .inl (fun _ => 0)), .inl (ev 1, 8, .inl (lf lt47)), .inl (ev 1, 8, .inl (lf lt89)), .inl (ev 1, 6, .inl (fun _ => 0)), .inl (ev 1, 6, .inl (fun _ => 0)), .inl (ev 1, 6, .inl (fun _ => 0)), .inl (ev 1, 6, .inl (fun _ => 0)), .inl (ev 1, 6, .inl (fun _ => 0)), .inl (ev 1, 6, .inl (fun _ => 0))])) rfl rfl ?_
  refine g_putFP F hn9 (j := 0) rfl hin9 (ty := tyX10 14) tyX10 tyX10_ok nmX10 rfl (ci := 10) rfl inlX10 (k := 14) (by decide) wd_12_2 rfl rfl rfl rfl rfl rfl (Nat.le_of_ble_eq_true rfl) dX10_init_173 ?_
  refine g_sw (st' := []) (ws' := (w9 ++ [.inr (10, [.ref (ev 0 + 66), .ref (ev 0 + 67), .ref (ev 0 + 68), .ref (ev 0 + 69), .ref (ev 0 + 70), .ref (ev 0 + 71), .ref (ev 0 + 72), .int 0, .int 0, .ref (ev 0 + 73), .ref (ev 0 + 74), .ref (ev 0 + 75), .ref (ev 0 + 76), .ref (ev 0 + 77), .ref (ev 0 + 78), .null, .null, .null, .int 0, .null, .null, .int 0, .int 0, .int 0, .int 0, .int 0, .int 0, .null, .null, .null, .null, .null, .null, .null, .null, .int 0, .int 0, .int 0, .int 0, .null, .null, .int 0, .int 0, .int 0, .null, .null, .int 0, .null, .null, .null, .null, .null, .null, .null, .null, .int 0]), .inl (ev 1, 100, .inl (fun _ => 0)), .inl (ev 1, 100, .inl (fun _ => 0)), .inl (ev 1, 12, .inl (fun _ => 0)), .inl (ev 1, 12, .inl (fun _ => 0)), .inl (ev 1, 12, .inl (fun _ => 0)), .inl (ev 1, 8, .inl (lf lt47)), .inl (ev 1, 8, .inl (lf lt89)), .inl (ev 1, 6, .inl (fun _ => 0)), .inl (ev 1, 6, .inl (fun _ => 0)), .inl (ev 1, 6, .inl (fun _ => 0)), .inl (ev 1, 6, .inl (fun _ => 0)), .inl (ev 1, 6, .inl (fun _ => 0)), .inl (ev 1, 6, .inl (fun _ => 0))])) rfl rfl ?_
  refine g_aload_n (i := 0) F dX10_init_176 rfl rfl ?_
  refine g_bipush F dX10_init_177 (v := 20) (by decide) ?_
  refine g_newiP F (N := 20) hn9 wd_2_6 (by decide) (by decide) (by decide) (Nat.le_of_ble_eq_true rfl) (Nat.le_of_ble_eq_true rfl) dX10_init_179 ?_
  refine g_sw (st' := .ref (ev 0 + 79) :: .ref (ev 0 + 65) :: []) (ws' := (w9 ++ [.inr (10, [.ref (ev 0 + 66), .ref (ev 0 + 67), .ref (ev 0 + 68), .ref (ev 0 + 69), .ref (ev 0 + 70), .ref (ev 0 + 71), .ref (ev 0 + 72), .int 0, .int 0, .ref (ev 0 + 73), .ref (ev 0 + 74), .ref (ev 0 + 75), .ref (ev 0 + 76), .ref (ev 0 + 77), .ref (ev 0 + 78), .null, .null, .null, .int 0, .null, .null, .int 0, .int 0, .int 0, .int 0, .int 0, .int 0, .null, .null, .null, .null, .null, .null, .null, .null, .int 0, .int 0, .int 0, .int 0, .null, .null, .int 0, .int 0, .int 0, .null, .null, .int 0, .null, .null, .null, .null, .null, .null, .null, .null, .int 0]), .inl (ev 1, 100, .inl (fun _ => 0)), .inl (ev 1, 100, .inl (fun _ => 0)), .inl (ev 1, 12, .inl (fun _ => 0)), .inl (ev 1, 12, .inl (fun _ => 0)), .inl (ev 1, 12, .inl (fun _ => 0)), .inl (ev 1, 8, .inl (lf lt47)), .inl (ev 1, 8, .inl (lf lt89)), .inl (ev 1, 6, .inl (fun _ => 0)), .inl (ev 1, 6, .inl (fun _ => 0)), .inl (ev 1, 6, .inl (fun _ => 0)), .inl (ev 1, 6, .inl (fun _ => 0)), .inl (ev 1, 6, .inl (fun _ => 0)), .inl (ev 1, 6, .inl (fun _ => 0)), .inl (ev 1, 20, .inl (fun _ => 0))])) rfl rfl ?_
  refine g_putFP F hn9 (j := 0) rfl hin9 (ty := tyX10 15) tyX10 tyX10_ok nmX10 rfl (ci := 10) rfl inlX10 (k := 15) (by decide) wd_12_3 rfl rfl rfl rfl rfl rfl (Nat.le_of_ble_eq_true rfl) dX10_init_181 ?_
  refine g_sw (st' := []) (ws' := (w9 ++ [.inr (10, [.ref (ev 0 + 66), .ref (ev 0 + 67), .ref (ev 0 + 68), .ref (ev 0 + 69), .ref (ev 0 + 70), .ref (ev 0 + 71), .ref (ev 0 + 72), .int 0, .int 0, .ref (ev 0 + 73), .ref (ev 0 + 74), .ref (ev 0 + 75), .ref (ev 0 + 76), .ref (ev 0 + 77), .ref (ev 0 + 78), .ref (ev 0 + 79), .null, .null, .int 0, .null, .null, .int 0, .int 0, .int 0, .int 0, .int 0, .int 0, .null, .null, .null, .null, .null, .null, .null, .null, .int 0, .int 0, .int 0, .int 0, .null, .null, .int 0, .int 0, .int 0, .null, .null, .int 0, .null, .null, .null, .null, .null, .null, .null, .null, .int 0]), .inl (ev 1, 100, .inl (fun _ => 0)), .inl (ev 1, 100, .inl (fun _ => 0)), .inl (ev 1, 12, .inl (fun _ => 0)), .inl (ev 1, 12, .inl (fun _ => 0)), .inl (ev 1, 12, .inl (fun _ => 0)), .inl (ev 1, 8, .inl (lf lt47)), .inl (ev 1, 8, .inl (lf lt89)), .inl (ev 1, 6, .inl (fun _ => 0)), .inl (ev 1, 6, .inl (fun _ => 0)), .inl (ev 1, 6, .inl (fun _ => 0)), .inl (ev 1, 6, .inl (fun _ => 0)), .inl (ev 1, 6, .inl (fun _ => 0)), .inl (ev 1, 6, .inl (fun _ => 0)), .inl (ev 1, 20, .inl (fun _ => 0))])) rfl rfl ?_
  refine g_aload_n (i := 0) F dX10_init_184 rfl rfl ?_
  refine g_bipush F dX10_init_185 (v := 20) (by decide) ?_
  refine g_newiP F (N := 20) hn9 wd_2_6 (by decide) (by decide) (by decide) (Nat.le_of_ble_eq_true rfl) (Nat.le_of_ble_eq_true rfl) dX10_init_187 ?_
  refine g_sw (st' := .ref (ev 0 + 80) :: .ref (ev 0 + 65) :: []) (ws' := (w9 ++ [.inr (10, [.ref (ev 0 + 66), .ref (ev 0 + 67), .ref (ev 0 + 68), .ref (ev 0 + 69), .ref (ev 0 + 70), .ref (ev 0 + 71), .ref (ev 0 + 72), .int 0, .int 0, .ref (ev 0 + 73), .ref (ev 0 + 74), .ref (ev 0 + 75), .ref (ev 0 + 76), .ref (ev 0 + 77), .ref (ev 0 + 78), .ref (ev 0 + 79), .null, .null, .int 0, .null, .null, .int 0, .int 0, .int 0, .int 0, .int 0, .int 0, .null, .null, .null, .null, .null, .null, .null, .null, .int 0, .int 0, .int 0, .int 0, .null, .null, .int 0, .int 0, .int 0, .null, .null, .int 0, .null, .null, .null, .null, .null, .null, .null, .null, .int 0]), .inl (ev 1, 100, .inl (fun _ => 0)), .inl (ev 1, 100, .inl (fun _ => 0)), .inl (ev 1, 12, .inl (fun _ => 0)), .inl (ev 1, 12, .inl (fun _ => 0)), .inl (ev 1, 12, .inl (fun _ => 0)), .inl (ev 1, 8, .inl (lf lt47)), .inl (ev 1, 8, .inl (lf lt89)), .inl (ev 1, 6, .inl (fun _ => 0)), .inl (ev 1, 6, .inl (fun _ => 0)), .inl (ev 1, 6, .inl (fun _ => 0)), .inl (ev 1, 6, .inl (fun _ => 0)), .inl (ev 1, 6, .inl (fun _ => 0)), .inl (ev 1, 6, .inl (fun _ => 0)), .inl (ev 1, 20, .inl (fun _ => 0)), .inl (ev 1, 20, .inl (fun _ => 0))])) rfl rfl ?_
  refine g_putFP F hn9 (j := 0) rfl hin9 (ty := tyX10 16) tyX10 tyX10_ok nmX10 rfl (ci := 10) rfl inlX10 (k := 16) (by decide) wd_12_4 rfl rfl rfl rfl rfl rfl (Nat.le_of_ble_eq_true rfl) dX10_init_189 ?_
  refine g_sw (st' := []) (ws' := (w9 ++ [.inr (10, [.ref (ev 0 + 66), .ref (ev 0 + 67), .ref (ev 0 + 68), .ref (ev 0 + 69), .ref (ev 0 + 70), .ref (ev 0 + 71), .ref (ev 0 + 72), .int 0, .int 0, .ref (ev 0 + 73), .ref (ev 0 + 74), .ref (ev 0 + 75), .ref (ev 0 + 76), .ref (ev 0 + 77), .ref (ev 0 + 78), .ref (ev 0 + 79), .ref (ev 0 + 80), .null, .int 0, .null, .null, .int 0, .int 0, .int 0, .int 0, .int 0, .int 0, .null, .null, .null, .null, .null, .null, .null, .null, .int 0, .int 0, .int 0, .int 0, .null, .null, .int 0, .int 0, .int 0, .null, .null, .int 0, .null, .null, .null, .null, .null, .null, .null, .null, .int 0]), .inl (ev 1, 100, .inl (fun _ => 0)), .inl (ev 1, 100, .inl (fun _ => 0)), .inl (ev 1, 12, .inl (fun _ => 0)), .inl (ev 1, 12, .inl (fun _ => 0)), .inl (ev 1, 12, .inl (fun _ => 0)), .inl (ev 1, 8, .inl (lf lt47)), .inl (ev 1, 8, .inl (lf lt89)), .inl (ev 1, 6, .inl (fun _ => 0)), .inl (ev 1, 6, .inl (fun _ => 0)), .inl (ev 1, 6, .inl (fun _ => 0)), .inl (ev 1, 6, .inl (fun _ => 0)), .inl (ev 1, 6, .inl (fun _ => 0)), .inl (ev 1, 6, .inl (fun _ => 0)), .inl (ev 1, 20, .inl (fun _ => 0)), .inl (ev 1, 20, .inl (fun _ => 0))])) rfl rfl ?_
  refine g_aload_n (i := 0) F dX10_init_192 rfl rfl ?_
  refine g_sipush F dX10_init_193 (v := 160) (by decide) ?_
  refine g_newiP F (N := 160) hn9 wd_2_6 (by decide) (by decide) (by decide) (Nat.le_of_ble_eq_true rfl) (Nat.le_of_ble_eq_true rfl) dX10_init_196 ?_
  refine g_sw (st' := .ref (ev 0 + 81) :: .ref (ev 0 + 65) :: []) (ws' := (w9 ++ [.inr (10, [.ref (ev 0 + 66), .ref (ev 0 + 67), .ref (ev 0 + 68), .ref (ev 0 + 69), .ref (ev 0 + 70), .ref (ev 0 + 71), .ref (ev 0 + 72), .int 0, .int 0, .ref (ev 0 + 73), .ref (ev 0 + 74), .ref (ev 0 + 75), .ref (ev 0 + 76), .ref (ev 0 + 77), .ref (ev 0 + 78), .ref (ev 0 + 79), .ref (ev 0 + 80), .null, .int 0, .null, .null, .int 0, .int 0, .int 0, .int 0, .int 0, .int 0, .null, .null, .null, .null, .null, .null, .null, .null, .int 0, .int 0, .int 0, .int 0, .null, .null, .int 0, .int 0, .int 0, .null, .null, .int 0, .null, .null, .null, .null, .null, .null, .null, .null, .int 0]), .inl (ev 1, 100, .inl (fun _ => 0)), .inl (ev 1, 100, .inl (fun _ => 0)), .inl (ev 1, 12, .inl (fun _ => 0)), .inl (ev 1, 12, .inl (fun _ => 0)), .inl (ev 1, 12, .inl (fun _ => 0)), .inl (ev 1, 8, .inl (lf lt47)), .inl (ev 1, 8, .inl (lf lt89)), .inl (ev 1, 6, .inl (fun _ => 0)), .inl (ev 1, 6, .inl (fun _ => 0)), .inl (ev 1, 6, .inl (fun _ => 0)), .inl (ev 1, 6, .inl (fun _ => 0)), .inl (ev 1, 6, .inl (fun _ => 0)), .inl (ev 1, 6, .inl (fun _ => 0)), .inl (ev 1, 20, .inl (fun _ => 0)), .inl (ev 1, 20, .inl (fun _ => 0)), .inl (ev 1, 160, .inl (fun _ => 0))])) rfl rfl ?_
  refine g_putFP F hn9 (j := 0) rfl hin9 (ty := tyX10 17) tyX10 tyX10_ok nmX10 rfl (ci := 10) rfl inlX10 (k := 17) (by decide) wd_12_5 rfl rfl rfl rfl rfl rfl (Nat.le_of_ble_eq_true rfl) dX10_init_198 ?_
  refine g_sw (st' := []) (ws' := (w9 ++ [.inr (10, [.ref (ev 0 + 66), .ref (ev 0 + 67), .ref (ev 0 + 68), .ref (ev 0 + 69), .ref (ev 0 + 70), .ref (ev 0 + 71), .ref (ev 0 + 72), .int 0, .int 0, .ref (ev 0 + 73), .ref (ev 0 + 74), .ref (ev 0 + 75), .ref (ev 0 + 76), .ref (ev 0 + 77), .ref (ev 0 + 78), .ref (ev 0 + 79), .ref (ev 0 + 80), .ref (ev 0 + 81), .int 0, .null, .null, .int 0, .int 0, .int 0, .int 0, .int 0, .int 0, .null, .null, .null, .null, .null, .null, .null, .null, .int 0, .int 0, .int 0, .int 0, .null, .null, .int 0, .int 0, .int 0, .null, .null, .int 0, .null, .null, .null, .null, .null, .null, .null, .null, .int 0]), .inl (ev 1, 100, .inl (fun _ => 0)), .inl (ev 1, 100, .inl (fun _ => 0)), .inl (ev 1, 12, .inl (fun _ => 0)), .inl (ev 1, 12, .inl (fun _ => 0)), .inl (ev 1, 12, .inl (fun _ => 0)), .inl (ev 1, 8, .inl (lf lt47)), .inl (ev 1, 8, .inl (lf lt89)), .inl (ev 1, 6, .inl (fun _ => 0)), .inl (ev 1, 6, .inl (fun _ => 0)), .inl (ev 1, 6, .inl (fun _ => 0)), .inl (ev 1, 6, .inl (fun _ => 0)), .inl (ev 1, 6, .inl (fun _ => 0)), .inl (ev 1, 6, .inl (fun _ => 0)), .inl (ev 1, 20, .inl (fun _ => 0)), .inl (ev 1, 20, .inl (fun _ => 0)), .inl (ev 1, 160, .inl (fun _ => 0))])) rfl rfl ?_
  refine g_aload_n (i := 0) F dX10_init_201 rfl rfl ?_
  refine g_sipush F dX10_init_202 (v := 1200) (by decide) ?_
  refine g_newiP F (N := 1200) hn9 wd_2_6 (by decide) (by decide) (by decide) (Nat.le_of_ble_eq_true rfl) (Nat.le_of_ble_eq_true rfl) dX10_init_205 ?_
  refine g_sw (st' := .ref (ev 0 + 82) :: .ref (ev 0 + 65) :: []) (ws' := (w9 ++ [.inr (10, [.ref (ev 0 + 66), .ref (ev 0 + 67), .ref (ev 0 + 68), .ref (ev 0 + 69), .ref (ev 0 + 70), .ref (ev 0 + 71), .ref (ev 0 + 72), .int 0, .int 0, .ref (ev 0 + 73), .ref (ev 0 + 74), .ref (ev 0 + 75), .ref (ev 0 + 76), .ref (ev 0 + 77), .ref (ev 0 + 78), .ref (ev 0 + 79), .ref (ev 0 + 80), .ref (ev 0 + 81), .int 0, .null, .null, .int 0, .int 0, .int 0, .int 0, .int 0, .int 0, .null, .null, .null, .null, .null, .null, .null, .null, .int 0, .int 0, .int 0, .int 0, .null, .null, .int 0, .int 0, .int 0, .null, .null, .int 0, .null, .null, .null, .null, .null, .null, .null, .null, .int 0]), .inl (ev 1, 100, .inl (fun _ => 0)), .inl (ev 1, 100, .inl (fun _ => 0)), .inl (ev 1, 12, .inl (fun _ => 0)), .inl (ev 1, 12, .inl (fun _ => 0)), .inl (ev 1, 12, .inl (fun _ => 0)), .inl (ev 1, 8, .inl (lf lt47)), .inl (ev 1, 8, .inl (lf lt89)), .inl (ev 1, 6, .inl (fun _ => 0)), .inl (ev 1, 6, .inl (fun _ => 0)), .inl (ev 1, 6, .inl (fun _ => 0)), .inl (ev 1, 6, .inl (fun _ => 0)), .inl (ev 1, 6, .inl (fun _ => 0)), .inl (ev 1, 6, .inl (fun _ => 0)), .inl (ev 1, 20, .inl (fun _ => 0)), .inl (ev 1, 20, .inl (fun _ => 0)), .inl (ev 1, 160, .inl (fun _ => 0)), .inl (ev 1, 1200, .inl (fun _ => 0))])) rfl rfl ?_
  refine g_putFP F hn9 (j := 0) rfl hin9 (ty := tyX10 19) tyX10 tyX10_ok nmX10 rfl (ci := 10) rfl inlX10 (k := 19) (by decide) wd_12_6 rfl rfl rfl rfl rfl rfl (Nat.le_of_ble_eq_true rfl) dX10_init_207 ?_
  refine g_sw (st' := []) (ws' := (w9 ++ [.inr (10, [.ref (ev 0 + 66), .ref (ev 0 + 67), .ref (ev 0 + 68), .ref (ev 0 + 69), .ref (ev 0 + 70), .ref (ev 0 + 71), .ref (ev 0 + 72), .int 0, .int 0, .ref (ev 0 + 73), .ref (ev 0 + 74), .ref (ev 0 + 75), .ref (ev 0 + 76), .ref (ev 0 + 77), .ref (ev 0 + 78), .ref (ev 0 + 79), .ref (ev 0 + 80), .ref (ev 0 + 81), .int 0, .ref (ev 0 + 82), .null, .int 0, .int 0, .int 0, .int 0, .int 0, .int 0, .null, .null, .null, .null, .null, .null, .null, .null, .int 0, .int 0, .int 0, .int 0, .null, .null, .int 0, .int 0, .int 0, .null, .null, .int 0, .null, .null, .null, .null, .null, .null, .null, .null, .int 0]), .inl (ev 1, 100, .inl (fun _ => 0)), .inl (ev 1, 100, .inl (fun _ => 0)), .inl (ev 1, 12, .inl (fun _ => 0)), .inl (ev 1, 12, .inl (fun _ => 0)), .inl (ev 1, 12, .inl (fun _ => 0)), .inl (ev 1, 8, .inl (lf lt47)), .inl (ev 1, 8, .inl (lf lt89)), .inl (ev 1, 6, .inl (fun _ => 0)), .inl (ev 1, 6, .inl (fun _ => 0)), .inl (ev 1, 6, .inl (fun _ => 0)), .inl (ev 1, 6, .inl (fun _ => 0)), .inl (ev 1, 6, .inl (fun _ => 0)), .inl (ev 1, 6, .inl (fun _ => 0)), .inl (ev 1, 20, .inl (fun _ => 0)), .inl (ev 1, 20, .inl (fun _ => 0)), .inl (ev 1, 160, .inl (fun _ => 0)), .inl (ev 1, 1200, .inl (fun _ => 0))])) rfl rfl ?_
  refine g_aload_n (i := 0) F dX10_init_210 rfl rfl ?_
  refine g_bipush F dX10_init_211 (v := 24) (by decide) ?_
  refine g_newiP F (N := 24) hn9 wd_2_6 (by decide) (by decide) (by decide) (Nat.le_of_ble_eq_true rfl) (Nat.le_of_ble_eq_true rfl) dX10_init_213 ?_
  refine g_sw (st' := .ref (ev 0 + 83) :: .ref (ev 0 + 65) :: []) (ws' := (w9 ++ [.inr (10, [.ref (ev 0 + 66), .ref (ev 0 + 67), .ref (ev 0 + 68), .ref (ev 0 + 69), .ref (ev 0 + 70), .ref (ev 0 + 71), .ref (ev 0 + 72), .int 0, .int 0, .ref (ev 0 + 73), .ref (ev 0 + 74), .ref (ev 0 + 75), .ref (ev 0 + 76), .ref (ev 0 + 77), .ref (ev 0 + 78), .ref (ev 0 + 79), .ref (ev 0 + 80), .ref (ev 0 + 81), .int 0, .ref (ev 0 + 82), .null, .int 0, .int 0, .int 0, .int 0, .int 0, .int 0, .null, .null, .null, .null, .null, .null, .null, .null, .int 0, .int 0, .int 0, .int 0, .null, .null, .int 0, .int 0, .int 0, .null, .null, .int 0, .null, .null, .null, .null, .null, .null, .null, .null, .int 0]), .inl (ev 1, 100, .inl (fun _ => 0)), .inl (ev 1, 100, .inl (fun _ => 0)), .inl (ev 1, 12, .inl (fun _ => 0)), .inl (ev 1, 12, .inl (fun _ => 0)), .inl (ev 1, 12, .inl (fun _ => 0)), .inl (ev 1, 8, .inl (lf lt47)), .inl (ev 1, 8, .inl (lf lt89)), .inl (ev 1, 6, .inl (fun _ => 0)), .inl (ev 1, 6, .inl (fun _ => 0)), .inl (ev 1, 6, .inl (fun _ => 0)), .inl (ev 1, 6, .inl (fun _ => 0)), .inl (ev 1, 6, .inl (fun _ => 0)), .inl (ev 1, 6, .inl (fun _ => 0)), .inl (ev 1, 20, .inl (fun _ => 0)), .inl (ev 1, 20, .inl (fun _ => 0)), .inl (ev 1, 160, .inl (fun _ => 0)), .inl (ev 1, 1200, .inl (fun _ => 0)), .inl (ev 1, 24, .inl (fun _ => 0))])) rfl rfl ?_
  refine g_putFP F hn9 (j := 0) rfl hin9 (ty := tyX10 20) tyX10 tyX10_ok nmX10 rfl (ci := 10) rfl inlX10 (k := 20) (by decide) wd_12_7 rfl rfl rfl rfl rfl rfl (Nat.le_of_ble_eq_true rfl) dX10_init_215 ?_
  refine g_sw (st' := []) (ws' := (w9 ++ [.inr (10, [.ref (ev 0 + 66), .ref (ev 0 + 67), .ref (ev 0 + 68), .ref (ev 0 + 69), .ref (ev 0 + 70), .ref (ev 0 + 71), .ref (ev 0 + 72), .int 0, .int 0, .ref (ev 0 + 73), .ref (ev 0 + 74), .ref (ev 0 + 75), .ref (ev 0 + 76), .ref (ev 0 + 77), .ref (ev 0 + 78), .ref (ev 0 + 79), .ref (ev 0 + 80), .ref (ev 0 + 81), .int 0, .ref (ev 0 + 82), .ref (ev 0 + 83), .int 0, .int 0, .int 0, .int 0, .int 0, .int 0, .null, .null, .null, .null, .null, .null, .null, .null, .int 0, .int 0, .int 0, .int 0, .null, .null, .int 0, .int 0, .int 0, .null, .null, .int 0, .null, .null, .null, .null, .null, .null, .null, .null, .int 0]), .inl (ev 1, 100, .inl (fun _ => 0)), .inl (ev 1, 100, .inl (fun _ => 0)), .inl (ev 1, 12, .inl (fun _ => 0)), .inl (ev 1, 12, .inl (fun _ => 0)), .inl (ev 1, 12, .inl (fun _ => 0)), .inl (ev 1, 8, .inl (lf lt47)), .inl (ev 1, 8, .inl (lf lt89)), .inl (ev 1, 6, .inl (fun _ => 0)), .inl (ev 1, 6, .inl (fun _ => 0)), .inl (ev 1, 6, .inl (fun _ => 0)), .inl (ev 1, 6, .inl (fun _ => 0)), .inl (ev 1, 6, .inl (fun _ => 0)), .inl (ev 1, 6, .inl (fun _ => 0)), .inl (ev 1, 20, .inl (fun _ => 0)), .inl (ev 1, 20, .inl (fun _ => 0)), .inl (ev 1, 160, .inl (fun _ => 0)), .inl (ev 1, 1200, .inl (fun _ => 0)), .inl (ev 1, 24, .inl (fun _ => 0))])) rfl rfl ?_
  refine g_aload_n (i := 0) F dX10_init_218 rfl rfl ?_
  refine g_bipush F dX10_init_219 (v := 6) (by decide) ?_
  refine g_newiP F (N := 6) hn9 wd_2_6 (by decide) (by decide) (by decide) (Nat.le_of_ble_eq_true rfl) (Nat.le_of_ble_eq_true rfl) dX10_init_221 ?_
  refine g_sw (st' := .ref (ev 0 + 84) :: .ref (ev 0 + 65) :: []) (ws' := (w9 ++ [.inr (10, [.ref (ev 0 + 66), .ref (ev 0 + 67), .ref (ev 0 + 68), .ref (ev 0 + 69), .ref (ev 0 + 70), .ref (ev 0 + 71), .ref (ev 0 + 72), .int 0, .int 0, .ref (ev 0 + 73), .ref (ev 0 + 74), .ref (ev 0 + 75), .ref (ev 0 + 76), .ref (ev 0 + 77), .ref (ev 0 + 78), .ref (ev 0 + 79), .ref (ev 0 + 80), .ref (ev 0 + 81), .int 0, .ref (ev 0 + 82), .ref (ev 0 + 83), .int 0, .int 0, .int 0, .int 0, .int 0, .int 0, .null, .null, .null, .null, .null, .null, .null, .null, .int 0, .int 0, .int 0, .int 0, .null, .null, .int 0, .int 0, .int 0, .null, .null, .int 0, .null, .null, .null, .null, .null, .null, .null, .null, .int 0]), .inl (ev 1, 100, .inl (fun _ => 0)), .inl (ev 1, 100, .inl (fun _ => 0)), .inl (ev 1, 12, .inl (fun _ => 0)), .inl (ev 1, 12, .inl (fun _ => 0)), .inl (ev 1, 12, .inl (fun _ => 0)), .inl (ev 1, 8, .inl (lf lt47)), .inl (ev 1, 8, .inl (lf lt89)), .inl (ev 1, 6, .inl (fun _ => 0)), .inl (ev 1, 6, .inl (fun _ => 0)), .inl (ev 1, 6, .inl (fun _ => 0)), .inl (ev 1, 6, .inl (fun _ => 0)), .inl (ev 1, 6, .inl (fun _ => 0)), .inl (ev 1, 6, .inl (fun _ => 0)), .inl (ev 1, 20, .inl (fun _ => 0)), .inl (ev 1, 20, .inl (fun _ => 0)), .inl (ev 1, 160, .inl (fun _ => 0)), .inl (ev 1, 1200, .inl (fun _ => 0)), .inl (ev 1, 24, .inl (fun _ => 0)), .inl (ev 1, 6, .inl (fun _ => 0))])) rfl rfl ?_
  refine g_putFP F hn9 (j := 0) rfl hin9 (ty := tyX10 27) tyX10 tyX10_ok nmX10 rfl (ci := 10) rfl inlX10 (k := 27) (by decide) wd_12_8 rfl rfl rfl rfl rfl rfl (Nat.le_of_ble_eq_true rfl) dX10_init_223 ?_
  refine g_sw (st' := []) (ws' := (w9 ++ [.inr (10, [.ref (ev 0 + 66), .ref (ev 0 + 67), .ref (ev 0 + 68), .ref (ev 0 + 69), .ref (ev 0 + 70), .ref (ev 0 + 71), .ref (ev 0 + 72), .int 0, .int 0, .ref (ev 0 + 73), .ref (ev 0 + 74), .ref (ev 0 + 75), .ref (ev 0 + 76), .ref (ev 0 + 77), .ref (ev 0 + 78), .ref (ev 0 + 79), .ref (ev 0 + 80), .ref (ev 0 + 81), .int 0, .ref (ev 0 + 82), .ref (ev 0 + 83), .int 0, .int 0, .int 0, .int 0, .int 0, .int 0, .ref (ev 0 + 84), .null, .null, .null, .null, .null, .null, .null, .int 0, .int 0, .int 0, .int 0, .null, .null, .int 0, .int 0, .int 0, .null, .null, .int 0, .null, .null, .null, .null, .null, .null, .null, .null, .int 0]), .inl (ev 1, 100, .inl (fun _ => 0)), .inl (ev 1, 100, .inl (fun _ => 0)), .inl (ev 1, 12, .inl (fun _ => 0)), .inl (ev 1, 12, .inl (fun _ => 0)), .inl (ev 1, 12, .inl (fun _ => 0)), .inl (ev 1, 8, .inl (lf lt47)), .inl (ev 1, 8, .inl (lf lt89)), .inl (ev 1, 6, .inl (fun _ => 0)), .inl (ev 1, 6, .inl (fun _ => 0)), .inl (ev 1, 6, .inl (fun _ => 0)), .inl (ev 1, 6, .inl (fun _ => 0)), .inl (ev 1, 6, .inl (fun _ => 0)), .inl (ev 1, 6, .inl (fun _ => 0)), .inl (ev 1, 20, .inl (fun _ => 0)), .inl (ev 1, 20, .inl (fun _ => 0)), .inl (ev 1, 160, .inl (fun _ => 0)), .inl (ev 1, 1200, .inl (fun _ => 0)), .inl (ev 1, 24, .inl (fun _ => 0)), .inl (ev 1, 6, .inl (fun _ => 0))])) rfl rfl ?_
  refine g_aload_n (i := 0) F dX10_init_226 rfl rfl ?_
  refine g_bipush F dX10_init_227 (v := 6) (by decide) ?_
  refine g_newiP F (N := 6) hn9 wd_2_6 (by decide) (by decide) (by decide) (Nat.le_of_ble_eq_true rfl) (Nat.le_of_ble_eq_true rfl) dX10_init_229 ?_
  refine g_sw (st' := .ref (ev 0 + 85) :: .ref (ev 0 + 65) :: []) (ws' := (w9 ++ [.inr (10, [.ref (ev 0 + 66), .ref (ev 0 + 67), .ref (ev 0 + 68), .ref (ev 0 + 69), .ref (ev 0 + 70), .ref (ev 0 + 71), .ref (ev 0 + 72), .int 0, .int 0, .ref (ev 0 + 73), .ref (ev 0 + 74), .ref (ev 0 + 75), .ref (ev 0 + 76), .ref (ev 0 + 77), .ref (ev 0 + 78), .ref (ev 0 + 79), .ref (ev 0 + 80), .ref (ev 0 + 81), .int 0, .ref (ev 0 + 82), .ref (ev 0 + 83), .int 0, .int 0, .int 0, .int 0, .int 0, .int 0, .ref (ev 0 + 84), .null, .null, .null, .null, .null, .null, .null, .int 0, .int 0, .int 0, .int 0, .null, .null, .int 0, .int 0, .int 0, .null, .null, .int 0, .null, .null, .null, .null, .null, .null, .null, .null, .int 0]), .inl (ev 1, 100, .inl (fun _ => 0)), .inl (ev 1, 100, .inl (fun _ => 0)), .inl (ev 1, 12, .inl (fun _ => 0)), .inl (ev 1, 12, .inl (fun _ => 0)), .inl (ev 1, 12, .inl (fun _ => 0)), .inl (ev 1, 8, .inl (lf lt47)), .inl (ev 1, 8, .inl (lf lt89)), .inl (ev 1, 6, .inl (fun _ => 0)), .inl (ev 1, 6, .inl (fun _ => 0)), .inl (ev 1, 6, .inl (fun _ => 0)), .inl (ev 1, 6, .inl (fun _ => 0)), .inl (ev 1, 6, .inl (fun _ => 0)), .inl (ev 1, 6, .inl (fun _ => 0)), .inl (ev 1, 20, .inl (fun _ => 0)), .inl (ev 1, 20, .inl (fun _ => 0)), .inl (ev 1, 160, .inl (fun _ => 0)), .inl (ev 1, 1200, .inl (fun _ => 0)), .inl (ev 1, 24, .inl (fun _ => 0)), .inl (ev 1, 6, .inl (fun _ => 0)), .inl (ev 1, 6, .inl (fun _ => 0))])) rfl rfl ?_
  refine g_putFP F hn9 (j := 0) rfl hin9 (ty := tyX10 28) tyX10 tyX10_ok nmX10 rfl (ci := 10) rfl inlX10 (k := 28) (by decide) wd_12_9 rfl rfl rfl rfl rfl rfl (Nat.le_of_ble_eq_true rfl) dX10_init_231 ?_
  refine g_sw (st' := []) (ws' := (w9 ++ [.inr (10, [.ref (ev 0 + 66), .ref (ev 0 + 67), .ref (ev 0 + 68), .ref (ev 0 + 69), .ref (ev 0 + 70), .ref (ev 0 + 71), .ref (ev 0 + 72), .int 0, .int 0, .ref (ev 0 + 73), .ref (ev 0 + 74), .ref (ev 0 + 75), .ref (ev 0 + 76), .ref (ev 0 + 77), .ref (ev 0 + 78), .ref (ev 0 + 79), .ref (ev 0 + 80), .ref (ev 0 + 81), .int 0, .ref (ev 0 + 82), .ref (ev 0 + 83), .int 0, .int 0, .int 0, .int 0, .int 0, .int 0, .ref (ev 0 + 84), .ref (ev 0 + 85), .null, .null, .null, .null, .null, .null, .int 0, .int 0, .int 0, .int 0, .null, .null, .int 0, .int 0, .int 0, .null, .null, .int 0, .null, .null, .null, .null, .null, .null, .null, .null, .int 0]), .inl (ev 1, 100, .inl (fun _ => 0)), .inl (ev 1, 100, .inl (fun _ => 0)), .inl (ev 1, 12, .inl (fun _ => 0)), .inl (ev 1, 12, .inl (fun _ => 0)), .inl (ev 1, 12, .inl (fun _ => 0)), .inl (ev 1, 8, .inl (lf lt47)), .inl (ev 1, 8, .inl (lf lt89)), .inl (ev 1, 6, .inl (fun _ => 0)), .inl (ev 1, 6, .inl (fun _ => 0)), .inl (ev 1, 6, .inl (fun _ => 0)), .inl (ev 1, 6, .inl (fun _ => 0)), .inl (ev 1, 6, .inl (fun _ => 0)), .inl (ev 1, 6, .inl (fun _ => 0)), .inl (ev 1, 20, .inl (fun _ => 0)), .inl (ev 1, 20, .inl (fun _ => 0)), .inl (ev 1, 160, .inl (fun _ => 0)), .inl (ev 1, 1200, .inl (fun _ => 0)), .inl (ev 1, 24, .inl (fun _ => 0)), .inl (ev 1, 6, .inl (fun _ => 0)), .inl (ev 1, 6, .inl (fun _ => 0))])) rfl rfl ?_
  refine g_aload_n (i := 0) F dX10_init_234 rfl rfl ?_
  refine g_bipush F dX10_init_235 (v := 20) (by decide) ?_
  refine g_newiP F (N := 20) hn9 wd_2_6 (by decide) (by decide) (by decide) (Nat.le_of_ble_eq_true rfl) (Nat.le_of_ble_eq_true rfl) dX10_init_237 ?_
  refine g_sw (st' := .ref (ev 0 + 86) :: .ref (ev 0 + 65) :: []) (ws' := (w9 ++ [.inr (10, [.ref (ev 0 + 66), .ref (ev 0 + 67), .ref (ev 0 + 68), .ref (ev 0 + 69), .ref (ev 0 + 70), .ref (ev 0 + 71), .ref (ev 0 + 72), .int 0, .int 0, .ref (ev 0 + 73), .ref (ev 0 + 74), .ref (ev 0 + 75), .ref (ev 0 + 76), .ref (ev 0 + 77), .ref (ev 0 + 78), .ref (ev 0 + 79), .ref (ev 0 + 80), .ref (ev 0 + 81), .int 0, .ref (ev 0 + 82), .ref (ev 0 + 83), .int 0, .int 0, .int 0, .int 0, .int 0, .int 0, .ref (ev 0 + 84), .ref (ev 0 + 85), .null, .null, .null, .null, .null, .null, .int 0, .int 0, .int 0, .int 0, .null, .null, .int 0, .int 0, .int 0, .null, .null, .int 0, .null, .null, .null, .null, .null, .null, .null, .null, .int 0]), .inl (ev 1, 100, .inl (fun _ => 0)), .inl (ev 1, 100, .inl (fun _ => 0)), .inl (ev 1, 12, .inl (fun _ => 0)), .inl (ev 1, 12, .inl (fun _ => 0)), .inl (ev 1, 12, .inl (fun _ => 0)), .inl (ev 1, 8, .inl (lf lt47)), .inl (ev 1, 8, .inl (lf lt89)), .inl (ev 1, 6, .inl (fun _ => 0)), .inl (ev 1, 6, .inl (fun _ => 0)), .inl (ev 1, 6, .inl (fun _ => 0)), .inl (ev 1, 6, .inl (fun _ => 0)), .inl (ev 1, 6, .inl (fun _ => 0)), .inl (ev 1, 6, .inl (fun _ => 0)), .inl (ev 1, 20, .inl (fun _ => 0)), .inl (ev 1, 20, .inl (fun _ => 0)), .inl (ev 1, 160, .inl (fun _ => 0)), .inl (ev 1, 1200, .inl (fun _ => 0)), .inl (ev 1, 24, .inl (fun _ => 0)), .inl (ev 1, 6, .inl (fun _ => 0)), .inl (ev 1, 6, .inl (fun _ => 0)), .inl (ev 1, 20, .inl (fun _ => 0))])) rfl rfl ?_
  refine g_putFP F hn9 (j := 0) rfl hin9 (ty := tyX10 29) tyX10 tyX10_ok nmX10 rfl (ci := 10) rfl inlX10 (k := 29) (by decide) wd_12_10 rfl rfl rfl rfl rfl rfl (Nat.le_of_ble_eq_true rfl) dX10_init_239 ?_
  refine g_sw (st' := []) (ws' := (w9 ++ [.inr (10, [.ref (ev 0 + 66), .ref (ev 0 + 67), .ref (ev 0 + 68), .ref (ev 0 + 69), .ref (ev 0 + 70), .ref (ev 0 + 71), .ref (ev 0 + 72), .int 0, .int 0, .ref (ev 0 + 73), .ref (ev 0 + 74), .ref (ev 0 + 75), .ref (ev 0 + 76), .ref (ev 0 + 77), .ref (ev 0 + 78), .ref (ev 0 + 79), .ref (ev 0 + 80), .ref (ev 0 + 81), .int 0, .ref (ev 0 + 82), .ref (ev 0 + 83), .int 0, .int 0, .int 0, .int 0, .int 0, .int 0, .ref (ev 0 + 84), .ref (ev 0 + 85), .ref (ev 0 + 86), .null, .null, .null, .null, .null, .int 0, .int 0, .int 0, .int 0, .null, .null, .int 0, .int 0, .int 0, .null, .null, .int 0, .null, .null, .null, .null, .null, .null, .null, .null, .int 0]), .inl (ev 1, 100, .inl (fun _ => 0)), .inl (ev 1, 100, .inl (fun _ => 0)), .inl (ev 1, 12, .inl (fun _ => 0)), .inl (ev 1, 12, .inl (fun _ => 0)), .inl (ev 1, 12, .inl (fun _ => 0)), .inl (ev 1, 8, .inl (lf lt47)), .inl (ev 1, 8, .inl (lf lt89)), .inl (ev 1, 6, .inl (fun _ => 0)), .inl (ev 1, 6, .inl (fun _ => 0)), .inl (ev 1, 6, .inl (fun _ => 0)), .inl (ev 1, 6, .inl (fun _ => 0)), .inl (ev 1, 6, .inl (fun _ => 0)), .inl (ev 1, 6, .inl (fun _ => 0)), .inl (ev 1, 20, .inl (fun _ => 0)), .inl (ev 1, 20, .inl (fun _ => 0)), .inl (ev 1, 160, .inl (fun _ => 0)), .inl (ev 1, 1200, .inl (fun _ => 0)), .inl (ev 1, 24, .inl (fun _ => 0)), .inl (ev 1, 6, .inl (fun _ => 0)), .inl (ev 1, 6, .inl (fun _ => 0)), .inl (ev 1, 20, .inl (fun _ => 0))])) rfl rfl ?_
  refine g_aload_n (i := 0) F dX10_init_242 rfl rfl ?_
  refine g_bipush F dX10_init_243 (v := 20) (by decide) ?_
  refine g_newiP F (N := 20) hn9 wd_2_6 (by decide) (by decide) (by decide) (Nat.le_of_ble_eq_true rfl) (Nat.le_of_ble_eq_true rfl) dX10_init_245 ?_
  refine g_sw (st' := .ref (ev 0 + 87) :: .ref (ev 0 + 65) :: []) (ws' := (w9 ++ [.inr (10, [.ref (ev 0 + 66), .ref (ev 0 + 67), .ref (ev 0 + 68), .ref (ev 0 + 69), .ref (ev 0 + 70), .ref (ev 0 + 71), .ref (ev 0 + 72), .int 0, .int 0, .ref (ev 0 + 73), .ref (ev 0 + 74), .ref (ev 0 + 75), .ref (ev 0 + 76), .ref (ev 0 + 77), .ref (ev 0 + 78), .ref (ev 0 + 79), .ref (ev 0 + 80), .ref (ev 0 + 81), .int 0, .ref (ev 0 + 82), .ref (ev 0 + 83), .int 0, .int 0, .int 0, .int 0, .int 0, .int 0, .ref (ev 0 + 84), .ref (ev 0 + 85), .ref (ev 0 + 86), .null, .null, .null, .null, .null, .int 0, .int 0, .int 0, .int 0, .null, .null, .int 0, .int 0, .int 0, .null, .null, .int 0, .null, .null, .null, .null, .null, .null, .null, .null, .int 0]), .inl (ev 1, 100, .inl (fun _ => 0)), .inl (ev 1, 100, .inl (fun _ => 0)), .inl (ev 1, 12, .inl (fun _ => 0)), .inl (ev 1, 12, .inl (fun _ => 0)), .inl (ev 1, 12, .inl (fun _ => 0)), .inl (ev 1, 8, .inl (lf lt47)), .inl (ev 1, 8, .inl (lf lt89)), .inl (ev 1, 6, .inl (fun _ => 0)), .inl (ev 1, 6, .inl (fun _ => 0)), .inl (ev 1, 6, .inl (fun _ => 0)), .inl (ev 1, 6, .inl (fun _ => 0)), .inl (ev 1, 6, .inl (fun _ => 0)), .inl (ev 1, 6, .inl (fun _ => 0)), .inl (ev 1, 20, .inl (fun _ => 0)), .inl (ev 1, 20, .inl (fun _ => 0)), .inl (ev 1, 160, .inl (fun _ => 0)), .inl (ev 1, 1200, .inl (fun _ => 0)), .inl (ev 1, 24, .inl (fun _ => 0)), .inl (ev 1, 6, .inl (fun _ => 0)), .inl (ev 1, 6, .inl (fun _ => 0)), .inl (ev 1, 20, .inl (fun _ => 0)), .inl (ev 1, 20, .inl (fun _ => 0))])) rfl rfl ?_
  refine g_putFP F hn9 (j := 0) rfl hin9 (ty := tyX10 30) tyX10 tyX10_ok nmX10 rfl (ci := 10) rfl inlX10 (k := 30) (by decide) wd_12_11 rfl rfl rfl rfl rfl rfl (Nat.le_of_ble_eq_true rfl) dX10_init_247 ?_
  refine g_sw (st' := []) (ws' := (w9 ++ [.inr (10, [.ref (ev 0 + 66), .ref (ev 0 + 67), .ref (ev 0 + 68), .ref (ev 0 + 69), .ref (ev 0 + 70), .ref (ev 0 + 71), .ref (ev 0 + 72), .int 0, .int 0, .ref (ev 0 + 73), .ref (ev 0 + 74), .ref (ev 0 + 75), .ref (ev 0 + 76), .ref (ev 0 + 77), .ref (ev 0 + 78), .ref (ev 0 + 79), .ref (ev 0 + 80), .ref (ev 0 + 81), .int 0, .ref (ev 0 + 82), .ref (ev 0 + 83), .int 0, .int 0, .int 0, .int 0, .int 0, .int 0, .ref (ev 0 + 84), .ref (ev 0 + 85), .ref (ev 0 + 86), .ref (ev 0 + 87), .null, .null, .null, .null, .int 0, .int 0, .int 0, .int 0, .null, .null, .int 0, .int 0, .int 0, .null, .null, .int 0, .null, .null, .null, .null, .null, .null, .null, .null, .int 0]), .inl (ev 1, 100, .inl (fun _ => 0)), .inl (ev 1, 100, .inl (fun _ => 0)), .inl (ev 1, 12, .inl (fun _ => 0)), .inl (ev 1, 12, .inl (fun _ => 0)), .inl (ev 1, 12, .inl (fun _ => 0)), .inl (ev 1, 8, .inl (lf lt47)), .inl (ev 1, 8, .inl (lf lt89)), .inl (ev 1, 6, .inl (fun _ => 0)), .inl (ev 1, 6, .inl (fun _ => 0)), .inl (ev 1, 6, .inl (fun _ => 0)), .inl (ev 1, 6, .inl (fun _ => 0)), .inl (ev 1, 6, .inl (fun _ => 0)), .inl (ev 1, 6, .inl (fun _ => 0)), .inl (ev 1, 20, .inl (fun _ => 0)), .inl (ev 1, 20, .inl (fun _ => 0)), .inl (ev 1, 160, .inl (fun _ => 0)), .inl (ev 1, 1200, .inl (fun _ => 0)), .inl (ev 1, 24, .inl (fun _ => 0)), .inl (ev 1, 6, .inl (fun _ => 0)), .inl (ev 1, 6, .inl (fun _ => 0)), .inl (ev 1, 20, .inl (fun _ => 0)), .inl (ev 1, 20, .inl (fun _ => 0))])) rfl rfl ?_
  refine g_aload_n (i := 0) F dX10_init_250 rfl rfl ?_
  refine g_iconst F dX10_init_251 (v := 4) (by decide) ?_
  refine g_newiP F (N := 4) hn9 wd_2_6 (by decide) (by decide) (by decide) (Nat.le_of_ble_eq_true rfl) (Nat.le_of_ble_eq_true rfl) dX10_init_252 ?_
  refine g_sw (st' := .ref (ev 0 + 88) :: .ref (ev 0 + 65) :: []) (ws' := (w9 ++ [.inr (10, [.ref (ev 0 + 66), .ref (ev 0 + 67), .ref (ev 0 + 68), .ref (ev 0 + 69), .ref (ev 0 + 70), .ref (ev 0 + 71), .ref (ev 0 + 72), .int 0, .int 0, .ref (ev 0 + 73), .ref (ev 0 + 74), .ref (ev 0 + 75), .ref (ev 0 + 76), .ref (ev 0 + 77), .ref (ev 0 + 78), .ref (ev 0 + 79), .ref (ev 0 + 80), .ref (ev 0 + 81), .int 0, .ref (ev 0 + 82), .ref (ev 0 + 83), .int 0, .int 0, .int 0, .int 0, .int 0, .int 0, .ref (ev 0 + 84), .ref (ev 0 + 85), .ref (ev 0 + 86), .ref (ev 0 + 87), .null, .null, .null, .null, .int 0, .int 0, .int 0, .int 0, .null, .null, .int 0, .int 0, .int 0, .null, .null, .int 0, .null, .null, .null, .null, .null, .null, .null, .null, .int 0]), .inl (ev 1, 100, .inl (fun _ => 0)), .inl (ev 1, 100, .inl (fun _ => 0)), .inl (ev 1, 12, .inl (fun _ => 0)), .inl (ev 1, 12, .inl (fun _ => 0)), .inl (ev 1, 12, .inl (fun _ => 0)), .inl (ev 1, 8, .inl (lf lt47)), .inl (ev 1, 8, .inl (lf lt89)), .inl (ev 1, 6, .inl (fun _ => 0)), .inl (ev 1, 6, .inl (fun _ => 0)), .inl (ev 1, 6, .inl (fun _ => 0)), .inl (ev 1, 6, .inl (fun _ => 0)), .inl (ev 1, 6, .inl (fun _ => 0)), .inl (ev 1, 6, .inl (fun _ => 0)), .inl (ev 1, 20, .inl (fun _ => 0)), .inl (ev 1, 20, .inl (fun _ => 0)), .inl (ev 1, 160, .inl (fun _ => 0)), .inl (ev 1, 1200, .inl (fun _ => 0)), .inl (ev 1, 24, .inl (fun _ => 0)), .inl (ev 1, 6, .inl (fun _ => 0)), .inl (ev 1, 6, .inl (fun _ => 0)), .inl (ev 1, 20, .inl (fun _ => 0)), .inl (ev 1, 20, .inl (fun _ => 0))]) ++ [.inl (ev 1, 4, .inl (lf []))]) rfl (by rw [List.append_assoc]; rfl) ?_
  refine g_lt252 F (n := 88) (show (w9 ++ [.inr (10, [.ref (ev 0 + 66), .ref (ev 0 + 67), .ref (ev 0 + 68), .ref (ev 0 + 69), .ref (ev 0 + 70), .ref (ev 0 + 71), .ref (ev 0 + 72), .int 0, .int 0, .ref (ev 0 + 73), .ref (ev 0 + 74), .ref (ev 0 + 75), .ref (ev 0 + 76), .ref (ev 0 + 77), .ref (ev 0 + 78), .ref (ev 0 + 79), .ref (ev 0 + 80), .ref (ev 0 + 81), .int 0, .ref (ev 0 + 82), .ref (ev 0 + 83), .int 0, .int 0, .int 0, .int 0, .int 0, .int 0, .ref (ev 0 + 84), .ref (ev 0 + 85), .ref (ev 0 + 86), .ref (ev 0 + 87), .null, .null, .null, .null, .int 0, .int 0, .int 0, .int 0, .null, .null, .int 0, .int 0, .int 0, .null, .null, .int 0, .null, .null, .null, .null, .null, .null, .null, .null, .int 0]), .inl (ev 1, 100, .inl (fun _ => 0)), .inl (ev 1, 100, .inl (fun _ => 0)), .inl (ev 1, 12, .inl (fun _ => 0)), .inl (ev 1, 12, .inl (fun _ => 0)), .inl (ev 1, 12, .inl (fun _ => 0)), .inl (ev 1, 8, .inl (lf lt47)), .inl (ev 1, 8, .inl (lf lt89)), .inl (ev 1, 6, .inl (fun _ => 0)), .inl (ev 1, 6, .inl (fun _ => 0)), .inl (ev 1, 6, .inl (fun _ => 0)), .inl (ev 1, 6, .inl (fun _ => 0)), .inl (ev 1, 6, .inl (fun _ => 0)), .inl (ev 1, 6, .inl (fun _ => 0)), .inl (ev 1, 20, .inl (fun _ => 0)), .inl (ev 1, 20, .inl (fun _ => 0)), .inl (ev 1, 160, .inl (fun _ => 0)), .inl (ev 1, 1200, .inl (fun _ => 0)), .inl (ev 1, 24, .inl (fun _ => 0)), .inl (ev 1, 6, .inl (fun _ => 0)), .inl (ev 1, 6, .inl (fun _ => 0)), .inl (ev 1, 20, .inl (fun _ => 0)), .inl (ev 1, 20, .inl (fun _ => 0))] : List va_E).length = 88 from ap_len hn9) ?_
  refine g_sw (st' := .ref (ev 0 + 88) :: .ref (ev 0 + 65) :: []) (ws' := (w9 ++ [.inr (10, [.ref (ev 0 + 66), .ref (ev 0 + 67), .ref (ev 0 + 68), .ref (ev 0 + 69), .ref (ev 0 + 70), .ref (ev 0 + 71), .ref (ev 0 + 72), .int 0, .int 0, .ref (ev 0 + 73), .ref (ev 0 + 74), .ref (ev 0 + 75), .ref (ev 0 + 76), .ref (ev 0 + 77), .ref (ev 0 + 78), .ref (ev 0 + 79), .ref (ev 0 + 80), .ref (ev 0 + 81), .int 0, .ref (ev 0 + 82), .ref (ev 0 + 83), .int 0, .int 0, .int 0, .int 0, .int 0, .int 0, .ref (ev 0 + 84), .ref (ev 0 + 85), .ref (ev 0 + 86), .ref (ev 0 + 87), .null, .null, .null, .null, .int 0, .int 0, .int 0, .int 0, .null, .null, .int 0, .int 0, .int 0, .null, .null, .int 0, .null, .null, .null, .null, .null, .null, .null, .null, .int 0]), .inl (ev 1, 100, .inl (fun _ => 0)), .inl (ev 1, 100, .inl (fun _ => 0)), .inl (ev 1, 12, .inl (fun _ => 0)), .inl (ev 1, 12, .inl (fun _ => 0)), .inl (ev 1, 12, .inl (fun _ => 0)), .inl (ev 1, 8, .inl (lf lt47)), .inl (ev 1, 8, .inl (lf lt89)), .inl (ev 1, 6, .inl (fun _ => 0)), .inl (ev 1, 6, .inl (fun _ => 0)), .inl (ev 1, 6, .inl (fun _ => 0)), .inl (ev 1, 6, .inl (fun _ => 0)), .inl (ev 1, 6, .inl (fun _ => 0)), .inl (ev 1, 6, .inl (fun _ => 0)), .inl (ev 1, 20, .inl (fun _ => 0)), .inl (ev 1, 20, .inl (fun _ => 0)), .inl (ev 1, 160, .inl (fun _ => 0)), .inl (ev 1, 1200, .inl (fun _ => 0)), .inl (ev 1, 24, .inl (fun _ => 0)), .inl (ev 1, 6, .inl (fun _ => 0)), .inl (ev 1, 6, .inl (fun _ => 0)), .inl (ev 1, 20, .inl (fun _ => 0)), .inl (ev 1, 20, .inl (fun _ => 0)), .inl (ev 1, 4, .inl (lf lt252))])) rfl (by rw [List.append_assoc]; rfl) ?_
  refine g_putFP F hn9 (j := 0) rfl hin9 (ty := tyX10 31) tyX10 tyX10_ok nmX10 rfl (ci := 10) rfl inlX10 (k := 31) (by decide) wd_12_12 rfl rfl rfl rfl rfl rfl (Nat.le_of_ble_eq_true rfl) dX10_init_270 ?_
  refine g_sw (st' := []) (ws' := (w9 ++ [.inr (10, [.ref (ev 0 + 66), .ref (ev 0 + 67), .ref (ev 0 + 68), .ref (ev 0 + 69), .ref (ev 0 + 70), .ref (ev 0 + 71), .ref (ev 0 + 72), .int 0, .int 0, .ref (ev 0 + 73), .ref (ev 0 + 74), .ref (ev 0 + 75), .ref (ev 0 + 76), .ref (ev 0 + 77), .ref (ev 0 + 78), .ref (ev 0 + 79), .ref (ev 0 + 80), .ref (ev 0 + 81), .int 0, .ref (ev 0 + 82), .ref (ev 0 + 83), .int 0, .int 0, .int 0, .int 0, .int 0, .int 0, .ref (ev 0 + 84), .ref (ev 0 + 85), .ref (ev 0 + 86), .ref (ev 0 + 87), .ref (ev 0 + 88), .null, .null, .null, .int 0, .int 0, .int 0, .int 0, .null, .null, .int 0, .int 0, .int 0, .null, .null, .int 0, .null, .null, .null, .null, .null, .null, .null, .null, .int 0]), .inl (ev 1, 100, .inl (fun _ => 0)), .inl (ev 1, 100, .inl (fun _ => 0)), .inl (ev 1, 12, .inl (fun _ => 0)), .inl (ev 1, 12, .inl (fun _ => 0)), .inl (ev 1, 12, .inl (fun _ => 0)), .inl (ev 1, 8, .inl (lf lt47)), .inl (ev 1, 8, .inl (lf lt89)), .inl (ev 1, 6, .inl (fun _ => 0)), .inl (ev 1, 6, .inl (fun _ => 0)), .inl (ev 1, 6, .inl (fun _ => 0)), .inl (ev 1, 6, .inl (fun _ => 0)), .inl (ev 1, 6, .inl (fun _ => 0)), .inl (ev 1, 6, .inl (fun _ => 0)), .inl (ev 1, 20, .inl (fun _ => 0)), .inl (ev 1, 20, .inl (fun _ => 0)), .inl (ev 1, 160, .inl (fun _ => 0)), .inl (ev 1, 1200, .inl (fun _ => 0)), .inl (ev 1, 24, .inl (fun _ => 0)), .inl (ev 1, 6, .inl (fun _ => 0)), .inl (ev 1, 6, .inl (fun _ => 0)), .inl (ev 1, 20, .inl (fun _ => 0)), .inl (ev 1, 20, .inl (fun _ => 0)), .inl (ev 1, 4, .inl (lf lt252))])) rfl rfl ?_
  refine g_aload_n (i := 0) F dX10_init_273 rfl rfl ?_
  refine g_iconst F dX10_init_274 (v := 4) (by decide) ?_
  refine g_newiP F (N := 4) hn9 wd_2_6 (by decide) (by decide) (by decide) (Nat.le_of_ble_eq_true rfl) (Nat.le_of_ble_eq_true rfl) dX10_init_275 ?_
  refine g_sw (st' := .ref (ev 0 + 89) :: .ref (ev 0 + 65) :: []) (ws' := (w9 ++ [.inr (10, [.ref (ev 0 + 66), .ref (ev 0 + 67), .ref (ev 0 + 68), .ref (ev 0 + 69), .ref (ev 0 + 70), .ref (ev 0 + 71), .ref (ev 0 + 72), .int 0, .int 0, .ref (ev 0 + 73), .ref (ev 0 + 74), .ref (ev 0 + 75), .ref (ev 0 + 76), .ref (ev 0 + 77), .ref (ev 0 + 78), .ref (ev 0 + 79), .ref (ev 0 + 80), .ref (ev 0 + 81), .int 0, .ref (ev 0 + 82), .ref (ev 0 + 83), .int 0, .int 0, .int 0, .int 0, .int 0, .int 0, .ref (ev 0 + 84), .ref (ev 0 + 85), .ref (ev 0 + 86), .ref (ev 0 + 87), .ref (ev 0 + 88), .null, .null, .null, .int 0, .int 0, .int 0, .int 0, .null, .null, .int 0, .int 0, .int 0, .null, .null, .int 0, .null, .null, .null, .null, .null, .null, .null, .null, .int 0]), .inl (ev 1, 100, .inl (fun _ => 0)), .inl (ev 1, 100, .inl (fun _ => 0)), .inl (ev 1, 12, .inl (fun _ => 0)), .inl (ev 1, 12, .inl (fun _ => 0)), .inl (ev 1, 12, .inl (fun _ => 0)), .inl (ev 1, 8, .inl (lf lt47)), .inl (ev 1, 8, .inl (lf lt89)), .inl (ev 1, 6, .inl (fun _ => 0)), .inl (ev 1, 6, .inl (fun _ => 0)), .inl (ev 1, 6, .inl (fun _ => 0)), .inl (ev 1, 6, .inl (fun _ => 0)), .inl (ev 1, 6, .inl (fun _ => 0)), .inl (ev 1, 6, .inl (fun _ => 0)), .inl (ev 1, 20, .inl (fun _ => 0)), .inl (ev 1, 20, .inl (fun _ => 0)), .inl (ev 1, 160, .inl (fun _ => 0)), .inl (ev 1, 1200, .inl (fun _ => 0)), .inl (ev 1, 24, .inl (fun _ => 0)), .inl (ev 1, 6, .inl (fun _ => 0)), .inl (ev 1, 6, .inl (fun _ => 0)), .inl (ev 1, 20, .inl (fun _ => 0)), .inl (ev 1, 20, .inl (fun _ => 0)), .inl (ev 1, 4, .inl (lf lt252)), .inl (ev 1, 4, .inl (fun _ => 0))])) rfl rfl ?_
  refine g_putFP F hn9 (j := 0) rfl hin9 (ty := tyX10 32) tyX10 tyX10_ok nmX10 rfl (ci := 10) rfl inlX10 (k := 32) (by decide) wd_12_13 rfl rfl rfl rfl rfl rfl (Nat.le_of_ble_eq_true rfl) dX10_init_277 ?_
  refine g_sw (st' := []) (ws' := (w9 ++ [.inr (10, [.ref (ev 0 + 66), .ref (ev 0 + 67), .ref (ev 0 + 68), .ref (ev 0 + 69), .ref (ev 0 + 70), .ref (ev 0 + 71), .ref (ev 0 + 72), .int 0, .int 0, .ref (ev 0 + 73), .ref (ev 0 + 74), .ref (ev 0 + 75), .ref (ev 0 + 76), .ref (ev 0 + 77), .ref (ev 0 + 78), .ref (ev 0 + 79), .ref (ev 0 + 80), .ref (ev 0 + 81), .int 0, .ref (ev 0 + 82), .ref (ev 0 + 83), .int 0, .int 0, .int 0, .int 0, .int 0, .int 0, .ref (ev 0 + 84), .ref (ev 0 + 85), .ref (ev 0 + 86), .ref (ev 0 + 87), .ref (ev 0 + 88), .ref (ev 0 + 89), .null, .null, .int 0, .int 0, .int 0, .int 0, .null, .null, .int 0, .int 0, .int 0, .null, .null, .int 0, .null, .null, .null, .null, .null, .null, .null, .null, .int 0]), .inl (ev 1, 100, .inl (fun _ => 0)), .inl (ev 1, 100, .inl (fun _ => 0)), .inl (ev 1, 12, .inl (fun _ => 0)), .inl (ev 1, 12, .inl (fun _ => 0)), .inl (ev 1, 12, .inl (fun _ => 0)), .inl (ev 1, 8, .inl (lf lt47)), .inl (ev 1, 8, .inl (lf lt89)), .inl (ev 1, 6, .inl (fun _ => 0)), .inl (ev 1, 6, .inl (fun _ => 0)), .inl (ev 1, 6, .inl (fun _ => 0)), .inl (ev 1, 6, .inl (fun _ => 0)), .inl (ev 1, 6, .inl (fun _ => 0)), .inl (ev 1, 6, .inl (fun _ => 0)), .inl (ev 1, 20, .inl (fun _ => 0)), .inl (ev 1, 20, .inl (fun _ => 0)), .inl (ev 1, 160, .inl (fun _ => 0)), .inl (ev 1, 1200, .inl (fun _ => 0)), .inl (ev 1, 24, .inl (fun _ => 0)), .inl (ev 1, 6, .inl (fun _ => 0)), .inl (ev 1, 6, .inl (fun _ => 0)), .inl (ev 1, 20, .inl (fun _ => 0)), .inl (ev 1, 20, .inl (fun _ => 0)), .inl (ev 1, 4, .inl (lf lt252)), .inl (ev 1, 4, .inl (fun _ => 0))])) rfl rfl ?_
  refine g_aload_n (i := 0) F dX10_init_280 rfl rfl ?_
  refine g_sipush F dX10_init_281 (v := 160) (by decide) ?_
  refine g_newiP F (N := 160) hn9 wd_2_6 (by decide) (by decide) (by decide) (Nat.le_of_ble_eq_true rfl) (Nat.le_of_ble_eq_true rfl) dX10_init_284 ?_
  refine g_sw (st' := .ref (ev 0 + 90) :: .ref (ev 0 + 65) :: []) (ws' := (w9 ++ [.inr (10, [.ref (ev 0 + 66), .ref (ev 0 + 67), .ref (ev 0 + 68), .ref (ev 0 + 69), .ref (ev 0 + 70), .ref (ev 0 + 71), .ref (ev 0 + 72), .int 0, .int 0, .ref (ev 0 + 73), .ref (ev 0 + 74), .ref (ev 0 + 75), .ref (ev 0 + 76), .ref (ev 0 + 77), .ref (ev 0 + 78), .ref (ev 0 + 79), .ref (ev 0 + 80), .ref (ev 0 + 81), .int 0, .ref (ev 0 + 82), .ref (ev 0 + 83), .int 0, .int 0, .int 0, .int 0, .int 0, .int 0, .ref (ev 0 + 84), .ref (ev 0 + 85), .ref (ev 0 + 86), .ref (ev 0 + 87), .ref (ev 0 + 88), .ref (ev 0 + 89), .null, .null, .int 0, .int 0, .int 0, .int 0, .null, .null, .int 0, .int 0, .int 0, .null, .null, .int 0, .null, .null, .null, .null, .null, .null, .null, .null, .int 0]), .inl (ev 1, 100, .inl (fun _ => 0)), .inl (ev 1, 100, .inl (fun _ => 0)), .inl (ev 1, 12, .inl (fun _ => 0)), .inl (ev 1, 12, .inl (fun _ => 0)), .inl (ev 1, 12, .inl (fun _ => 0)), .inl (ev 1, 8, .inl (lf lt47)), .inl (ev 1, 8, .inl (lf lt89)), .inl (ev 1, 6, .inl (fun _ => 0)), .inl (ev 1, 6, .inl (fun _ => 0)), .inl (ev 1, 6, .inl (fun _ => 0)), .inl (ev 1, 6, .inl (fun _ => 0)), .inl (ev 1, 6, .inl (fun _ => 0)), .inl (ev 1, 6, .inl (fun _ => 0)), .inl (ev 1, 20, .inl (fun _ => 0)), .inl (ev 1, 20, .inl (fun _ => 0)), .inl (ev 1, 160, .inl (fun _ => 0)), .inl (ev 1, 1200, .inl (fun _ => 0)), .inl (ev 1, 24, .inl (fun _ => 0)), .inl (ev 1, 6, .inl (fun _ => 0)), .inl (ev 1, 6, .inl (fun _ => 0)), .inl (ev 1, 20, .inl (fun _ => 0)), .inl (ev 1, 20, .inl (fun _ => 0)), .inl (ev 1, 4, .inl (lf lt252)), .inl (ev 1, 4, .inl (fun _ => 0)), .inl (ev 1, 160, .inl (fun _ => 0))])) rfl rfl ?_
  refine g_putFP F hn9 (j := 0) rfl hin9 (ty := tyX10 33) tyX10 tyX10_ok nmX10 rfl (ci := 10) rfl inlX10 (k := 33) (by decide) wd_12_14 rfl rfl rfl rfl rfl rfl (Nat.le_of_ble_eq_true rfl) dX10_init_286 ?_
  refine g_sw (st' := []) (ws' := (w9 ++ [.inr (10, [.ref (ev 0 + 66), .ref (ev 0 + 67), .ref (ev 0 + 68), .ref (ev 0 + 69), .ref (ev 0 + 70), .ref (ev 0 + 71), .ref (ev 0 + 72), .int 0, .int 0, .ref (ev 0 + 73), .ref (ev 0 + 74), .ref (ev 0 + 75), .ref (ev 0 + 76), .ref (ev 0 + 77), .ref (ev 0 + 78), .ref (ev 0 + 79), .ref (ev 0 + 80), .ref (ev 0 + 81), .int 0, .ref (ev 0 + 82), .ref (ev 0 + 83), .int 0, .int 0, .int 0, .int 0, .int 0, .int 0, .ref (ev 0 + 84), .ref (ev 0 + 85), .ref (ev 0 + 86), .ref (ev 0 + 87), .ref (ev 0 + 88), .ref (ev 0 + 89), .ref (ev 0 + 90), .null, .int 0, .int 0, .int 0, .int 0, .null, .null, .int 0, .int 0, .int 0, .null, .null, .int 0, .null, .null, .null, .null, .null, .null, .null, .null, .int 0]), .inl (ev 1, 100, .inl (fun _ => 0)), .inl (ev 1, 100, .inl (fun _ => 0)), .inl (ev 1, 12, .inl (fun _ => 0)), .inl (ev 1, 12, .inl (fun _ => 0)), .inl (ev 1, 12, .inl (fun _ => 0)), .inl (ev 1, 8, .inl (lf lt47)), .inl (ev 1, 8, .inl (lf lt89)), .inl (ev 1, 6, .inl (fun _ => 0)), .inl (ev 1, 6, .inl (fun _ => 0)), .inl (ev 1, 6, .inl (fun _ => 0)), .inl (ev 1, 6, .inl (fun _ => 0)), .inl (ev 1, 6, .inl (fun _ => 0)), .inl (ev 1, 6, .inl (fun _ => 0)), .inl (ev 1, 20, .inl (fun _ => 0)), .inl (ev 1, 20, .inl (fun _ => 0)), .inl (ev 1, 160, .inl (fun _ => 0)), .inl (ev 1, 1200, .inl (fun _ => 0)), .inl (ev 1, 24, .inl (fun _ => 0)), .inl (ev 1, 6, .inl (fun _ => 0)), .inl (ev 1, 6, .inl (fun _ => 0)), .inl (ev 1, 20, .inl (fun _ => 0)), .inl (ev 1, 20, .inl (fun _ => 0)), .inl (ev 1, 4, .inl (lf lt252)), .inl (ev 1, 4, .inl (fun _ => 0)), .inl (ev 1, 160, .inl (fun _ => 0))])) rfl rfl ?_
  refine g_aload_n (i := 0) F dX10_init_289 rfl rfl ?_
  refine g_bipush F dX10_init_290 (v := 70) (by decide) ?_
  refine g_newiP F (N := 70) hn9 wd_2_6 (by decide) (by decide) (by decide) (Nat.le_of_ble_eq_true rfl) (Nat.le_of_ble_eq_true rfl) dX10_init_292 ?_
  refine g_sw (st' := .ref (ev 0 + 91) :: .ref (ev 0 + 65) :: []) (ws' := (w9 ++ [.inr (10, [.ref (ev 0 + 66), .ref (ev 0 + 67), .ref (ev 0 + 68), .ref (ev 0 + 69), .ref (ev 0 + 70), .ref (ev 0 + 71), .ref (ev 0 + 72), .int 0, .int 0, .ref (ev 0 + 73), .ref (ev 0 + 74), .ref (ev 0 + 75), .ref (ev 0 + 76), .ref (ev 0 + 77), .ref (ev 0 + 78), .ref (ev 0 + 79), .ref (ev 0 + 80), .ref (ev 0 + 81), .int 0, .ref (ev 0 + 82), .ref (ev 0 + 83), .int 0, .int 0, .int 0, .int 0, .int 0, .int 0, .ref (ev 0 + 84), .ref (ev 0 + 85), .ref (ev 0 + 86), .ref (ev 0 + 87), .ref (ev 0 + 88), .ref (ev 0 + 89), .ref (ev 0 + 90), .null, .int 0, .int 0, .int 0, .int 0, .null, .null, .int 0, .int 0, .int 0, .null, .null, .int 0, .null, .null, .null, .null, .null, .null, .null, .null, .int 0]), .inl (ev 1, 100, .inl (fun _ => 0)), .inl (ev 1, 100, .inl (fun _ => 0)), .inl (ev 1, 12, .inl (fun _ => 0)), .inl (ev 1, 12, .inl (fun _ => 0)), .inl (ev 1, 12, .inl (fun _ => 0)), .inl (ev 1, 8, .inl (lf lt47)), .inl (ev 1, 8, .inl (lf lt89)), .inl (ev 1, 6, .inl (fun _ => 0)), .inl (ev 1, 6, .inl (fun _ => 0)), .inl (ev 1, 6, .inl (fun _ => 0)), .inl (ev 1, 6, .inl (fun _ => 0)), .inl (ev 1, 6, .inl (fun _ => 0)), .inl (ev 1, 6, .inl (fun _ => 0)), .inl (ev 1, 20, .inl (fun _ => 0)), .inl (ev 1, 20, .inl (fun _ => 0)), .inl (ev 1, 160, .inl (fun _ => 0)), .inl (ev 1, 1200, .inl (fun _ => 0)), .inl (ev 1, 24, .inl (fun _ => 0)), .inl (ev 1, 6, .inl (fun _ => 0)), .inl (ev 1, 6, .inl (fun _ => 0)), .inl (ev 1, 20, .inl (fun _ => 0)), .inl (ev 1, 20, .inl (fun _ => 0)), .inl (ev 1, 4, .inl (lf lt252)), .inl (ev 1, 4, .inl (fun _ => 0)), .inl (ev 1, 160, .inl (fun _ => 0))]) ++ [.inl (ev 1, 70, .inl (lf []))]) rfl (by rw [List.append_assoc]; rfl) ?_
  refine g_lt292 F (n := 91) (show (w9 ++ [.inr (10, [.ref (ev 0 + 66), .ref (ev 0 + 67), .ref (ev 0 + 68), .ref (ev 0 + 69), .ref (ev 0 + 70), .ref (ev 0 + 71), .ref (ev 0 + 72), .int 0, .int 0, .ref (ev 0 + 73), .ref (ev 0 + 74), .ref (ev 0 + 75), .ref (ev 0 + 76), .ref (ev 0 + 77), .ref (ev 0 + 78), .ref (ev 0 + 79), .ref (ev 0 + 80), .ref (ev 0 + 81), .int 0, .ref (ev 0 + 82), .ref (ev 0 + 83), .int 0, .int 0, .int 0, .int 0, .int 0, .int 0, .ref (ev 0 + 84), .ref (ev 0 + 85), .ref (ev 0 + 86), .ref (ev 0 + 87), .ref (ev 0 + 88), .ref (ev 0 + 89), .ref (ev 0 + 90), .null, .int 0, .int 0, .int 0, .int 0, .null, .null, .int 0, .int 0, .int 0, .null, .null, .int 0, .null, .null, .null, .null, .null, .null, .null, .null, .int 0]), .inl (ev 1, 100, .inl (fun _ => 0)), .inl (ev 1, 100, .inl (fun _ => 0)), .inl (ev 1, 12, .inl (fun _ => 0)), .inl (ev 1, 12, .inl (fun _ => 0)), .inl (ev 1, 12, .inl (fun _ => 0)), .inl (ev 1, 8, .inl (lf lt47)), .inl (ev 1, 8, .inl (lf lt89)), .inl (ev 1, 6, .inl (fun _ => 0)), .inl (ev 1, 6, .inl (fun _ => 0)), .inl (ev 1, 6, .inl (fun _ => 0)), .inl (ev 1, 6, .inl (fun _ => 0)), .inl (ev 1, 6, .inl (fun _ => 0)), .inl (ev 1, 6, .inl (fun _ => 0)), .inl (ev 1, 20, .inl (fun _ => 0)), .inl (ev 1, 20, .inl (fun _ => 0)), .inl (ev 1, 160, .inl (fun _ => 0)), .inl (ev 1, 1200, .inl (fun _ => 0)), .inl (ev 1, 24, .inl (fun _ => 0)), .inl (ev 1, 6, .inl (fun _ => 0)), .inl (ev 1, 6, .inl (fun _ => 0)), .inl (ev 1, 20, .inl (fun _ => 0)), .inl (ev 1, 20, .inl (fun _ => 0)), .inl (ev 1, 4, .inl (lf lt252)), .inl (ev 1, 4, .inl (fun _ => 0)), .inl (ev 1, 160, .inl (fun _ => 0))] : List va_E).length = 91 from ap_len hn9) ?_
  refine g_sw (st' := .ref (ev 0 + 91) :: .ref (ev 0 + 65) :: []) (ws' := (w9 ++ [.inr (10, [.ref (ev 0 + 66), .ref (ev 0 + 67), .ref (ev 0 + 68), .ref (ev 0 + 69), .ref (ev 0 + 70), .ref (ev 0 + 71), .ref (ev 0 + 72), .int 0, .int 0, .ref (ev 0 + 73), .ref (ev 0 + 74), .ref (ev 0 + 75), .ref (ev 0 + 76), .ref (ev 0 + 77), .ref (ev 0 + 78), .ref (ev 0 + 79), .ref (ev 0 + 80), .ref (ev 0 + 81), .int 0, .ref (ev 0 + 82), .ref (ev 0 + 83), .int 0, .int 0, .int 0, .int 0, .int 0, .int 0, .ref (ev 0 + 84), .ref (ev 0 + 85), .ref (ev 0 + 86), .ref (ev 0 + 87), .ref (ev 0 + 88), .ref (ev 0 + 89), .ref (ev 0 + 90), .null, .int 0, .int 0, .int 0, .int 0, .null, .null, .int 0, .int 0, .int 0, .null, .null, .int 0, .null, .null, .null, .null, .null, .null, .null, .null, .int 0]), .inl (ev 1, 100, .inl (fun _ => 0)), .inl (ev 1, 100, .inl (fun _ => 0)), .inl (ev 1, 12, .inl (fun _ => 0)), .inl (ev 1, 12, .inl (fun _ => 0)), .inl (ev 1, 12, .inl (fun _ => 0)), .inl (ev 1, 8, .inl (lf lt47)), .inl (ev 1, 8, .inl (lf lt89)), .inl (ev 1, 6, .inl (fun _ => 0)), .inl (ev 1, 6, .inl (fun _ => 0)), .inl (ev 1, 6, .inl (fun _ => 0)), .inl (ev 1, 6, .inl (fun _ => 0)), .inl (ev 1, 6, .inl (fun _ => 0)), .inl (ev 1, 6, .inl (fun _ => 0)), .inl (ev 1, 20, .inl (fun _ => 0)), .inl (ev 1, 20, .inl (fun _ => 0)), .inl (ev 1, 160, .inl (fun _ => 0)), .inl (ev 1, 1200, .inl (fun _ => 0)), .inl (ev 1, 24, .inl (fun _ => 0)), .inl (ev 1, 6, .inl (fun _ => 0)), .inl (ev 1, 6, .inl (fun _ => 0)), .inl (ev 1, 20, .inl (fun _ => 0)), .inl (ev 1, 20, .inl (fun _ => 0)), .inl (ev 1, 4, .inl (lf lt252)), .inl (ev 1, 4, .inl (fun _ => 0)), .inl (ev 1, 160, .inl (fun _ => 0)), .inl (ev 1, 70, .inl (lf lt292))])) rfl (by rw [List.append_assoc]; rfl) ?_
  refine g_putFP F hn9 (j := 0) rfl hin9 (ty := tyX10 34) tyX10 tyX10_ok nmX10 rfl (ci := 10) rfl inlX10 (k := 34) (by decide) wd_12_15 rfl rfl rfl rfl rfl rfl (Nat.le_of_ble_eq_true rfl) dX10_init_708 ?_
  refine g_sw (st' := []) (ws' := (w9 ++ [.inr (10, [.ref (ev 0 + 66), .ref (ev 0 + 67), .ref (ev 0 + 68), .ref (ev 0 + 69), .ref (ev 0 + 70), .ref (ev 0 + 71), .ref (ev 0 + 72), .int 0, .int 0, .ref (ev 0 + 73), .ref (ev 0 + 74), .ref (ev 0 + 75), .ref (ev 0 + 76), .ref (ev 0 + 77), .ref (ev 0 + 78), .ref (ev 0 + 79), .ref (ev 0 + 80), .ref (ev 0 + 81), .int 0, .ref (ev 0 + 82), .ref (ev 0 + 83), .int 0, .int 0, .int 0, .int 0, .int 0, .int 0, .ref (ev 0 + 84), .ref (ev 0 + 85), .ref (ev 0 + 86), .ref (ev 0 + 87), .ref (ev 0 + 88), .ref (ev 0 + 89), .ref (ev 0 + 90), .ref (ev 0 + 91), .int 0, .int 0, .int 0, .int 0, .null, .null, .int 0, .int 0, .int 0, .null, .null, .int 0, .null, .null, .null, .null, .null, .null, .null, .null, .int 0]), .inl (ev 1, 100, .inl (fun _ => 0)), .inl (ev 1, 100, .inl (fun _ => 0)), .inl (ev 1, 12, .inl (fun _ => 0)), .inl (ev 1, 12, .inl (fun _ => 0)), .inl (ev 1, 12, .inl (fun _ => 0)), .inl (ev 1, 8, .inl (lf lt47)), .inl (ev 1, 8, .inl (lf lt89)), .inl (ev 1, 6, .inl (fun _ => 0)), .inl (ev 1, 6, .inl (fun _ => 0)), .inl (ev 1, 6, .inl (fun _ => 0)), .inl (ev 1, 6, .inl (fun _ => 0)), .inl (ev 1, 6, .inl (fun _ => 0)), .inl (ev 1, 6, .inl (fun _ => 0)), .inl (ev 1, 20, .inl (fun _ => 0)), .inl (ev 1, 20, .inl (fun _ => 0)), .inl (ev 1, 160, .inl (fun _ => 0)), .inl (ev 1, 1200, .inl (fun _ => 0)), .inl (ev 1, 24, .inl (fun _ => 0)), .inl (ev 1, 6, .inl (fun _ => 0)), .inl (ev 1, 6, .inl (fun _ => 0)), .inl (ev 1, 20, .inl (fun _ => 0)), .inl (ev 1, 20, .inl (fun _ => 0)), .inl (ev 1, 4, .inl (lf lt252)), .inl (ev 1, 4, .inl (fun _ => 0)), .inl (ev 1, 160, .inl (fun _ => 0)), .inl (ev 1, 70, .inl (lf lt292))])) rfl rfl ?_
  refine g_aload_n (i := 0) F dX10_init_711 rfl rfl ?_
  refine g_bipush F dX10_init_712 (v := 96) (by decide) ?_
  refine g_newiP F (N := 96) hn9 wd_2_6 (by decide) (by decide) (by decide) (Nat.le_of_ble_eq_true rfl) (Nat.le_of_ble_eq_true rfl) dX10_init_714 ?_
  refine g_sw (st' := .ref (ev 0 + 92) :: .ref (ev 0 + 65) :: []) (ws' := (w9 ++ [.inr (10, [.ref (ev 0 + 66), .ref (ev 0 + 67), .ref (ev 0 + 68), .ref (ev 0 + 69), .ref (ev 0 + 70), .ref (ev 0 + 71), .ref (ev 0 + 72), .int 0, .int 0, .ref (ev 0 + 73), .ref (ev 0 + 74), .ref (ev 0 + 75), .ref (ev 0 + 76), .ref (ev 0 + 77), .ref (ev 0 + 78), .ref (ev 0 + 79), .ref (ev 0 + 80), .ref (ev 0 + 81), .int 0, .ref (ev 0 + 82), .ref (ev 0 + 83), .int 0, .int 0, .int 0, .int 0, .int 0, .int 0, .ref (ev 0 + 84), .ref (ev 0 + 85), .ref (ev 0 + 86), .ref (ev 0 + 87), .ref (ev 0 + 88), .ref (ev 0 + 89), .ref (ev 0 + 90), .ref (ev 0 + 91), .int 0, .int 0, .int 0, .int 0, .null, .null, .int 0, .int 0, .int 0, .null, .null, .int 0, .null, .null, .null, .null, .null, .null, .null, .null, .int 0]), .inl (ev 1, 100, .inl (fun _ => 0)), .inl (ev 1, 100, .inl (fun _ => 0)), .inl (ev 1, 12, .inl (fun _ => 0)), .inl (ev 1, 12, .inl (fun _ => 0)), .inl (ev 1, 12, .inl (fun _ => 0)), .inl (ev 1, 8, .inl (lf lt47)), .inl (ev 1, 8, .inl (lf lt89)), .inl (ev 1, 6, .inl (fun _ => 0)), .inl (ev 1, 6, .inl (fun _ => 0)), .inl (ev 1, 6, .inl (fun _ => 0)), .inl (ev 1, 6, .inl (fun _ => 0)), .inl (ev 1, 6, .inl (fun _ => 0)), .inl (ev 1, 6, .inl (fun _ => 0)), .inl (ev 1, 20, .inl (fun _ => 0)), .inl (ev 1, 20, .inl (fun _ => 0)), .inl (ev 1, 160, .inl (fun _ => 0)), .inl (ev 1, 1200, .inl (fun _ => 0)), .inl (ev 1, 24, .inl (fun _ => 0)), .inl (ev 1, 6, .inl (fun _ => 0)), .inl (ev 1, 6, .inl (fun _ => 0)), .inl (ev 1, 20, .inl (fun _ => 0)), .inl (ev 1, 20, .inl (fun _ => 0)), .inl (ev 1, 4, .inl (lf lt252)), .inl (ev 1, 4, .inl (fun _ => 0)), .inl (ev 1, 160, .inl (fun _ => 0)), .inl (ev 1, 70, .inl (lf lt292))]) ++ [.inl (ev 1, 96, .inl (lf []))]) rfl (by rw [List.append_assoc]; rfl) ?_
  refine g_lt714 F (n := 92) (show (w9 ++ [.inr (10, [.ref (ev 0 + 66), .ref (ev 0 + 67), .ref (ev 0 + 68), .ref (ev 0 + 69), .ref (ev 0 + 70), .ref (ev 0 + 71), .ref (ev 0 + 72), .int 0, .int 0, .ref (ev 0 + 73), .ref (ev 0 + 74), .ref (ev 0 + 75), .ref (ev 0 + 76), .ref (ev 0 + 77), .ref (ev 0 + 78), .ref (ev 0 + 79), .ref (ev 0 + 80), .ref (ev 0 + 81), .int 0, .ref (ev 0 + 82), .ref (ev 0 + 83), .int 0, .int 0, .int 0, .int 0, .int 0, .int 0, .ref (ev 0 + 84), .ref (ev 0 + 85), .ref (ev 0 + 86), .ref (ev 0 + 87), .ref (ev 0 + 88), .ref (ev 0 + 89), .ref (ev 0 + 90), .ref (ev 0 + 91), .int 0, .int 0, .int 0, .int 0, .null, .null, .int 0, .int 0, .int 0, .null, .null, .int 0, .null, .null, .null, .null, .null, .null, .null, .null, .int 0]), .inl (ev 1, 100, .inl (fun _ => 0)), .inl (ev 1, 100, .inl (fun _ => 0)), .inl (ev 1, 12, .inl (fun _ => 0)), .inl (ev 1, 12, .inl (fun _ => 0)), .inl (ev 1, 12, .inl (fun _ => 0)), .inl (ev 1, 8, .inl (lf lt47)), .inl (ev 1, 8, .inl (lf lt89)), .inl (ev 1, 6, .inl (fun _ => 0)), .inl (ev 1, 6, .inl (fun _ => 0)), .inl (ev 1, 6, .inl (fun _ => 0)), .inl (ev 1, 6, .inl (fun _ => 0)), .inl (ev 1, 6, .inl (fun _ => 0)), .inl (ev 1, 6, .inl (fun _ => 0)), .inl (ev 1, 20, .inl (fun _ => 0)), .inl (ev 1, 20, .inl (fun _ => 0)), .inl (ev 1, 160, .inl (fun _ => 0)), .inl (ev 1, 1200, .inl (fun _ => 0)), .inl (ev 1, 24, .inl (fun _ => 0)), .inl (ev 1, 6, .inl (fun _ => 0)), .inl (ev 1, 6, .inl (fun _ => 0)), .inl (ev 1, 20, .inl (fun _ => 0)), .inl (ev 1, 20, .inl (fun _ => 0)), .inl (ev 1, 4, .inl (lf lt252)), .inl (ev 1, 4, .inl (fun _ => 0)), .inl (ev 1, 160, .inl (fun _ => 0)), .inl (ev 1, 70, .inl (lf lt292))] : List va_E).length = 92 from ap_len hn9) ?_
  refine g_sw (st' := .ref (ev 0 + 92) :: .ref (ev 0 + 65) :: []) (ws' := (w9 ++ [.inr (10, [.ref (ev 0 + 66), .ref (ev 0 + 67), .ref (ev 0 + 68), .ref (ev 0 + 69), .ref (ev 0 + 70), .ref (ev 0 + 71), .ref (ev 0 + 72), .int 0, .int 0, .ref (ev 0 + 73), .ref (ev 0 + 74), .ref (ev 0 + 75), .ref (ev 0 + 76), .ref (ev 0 + 77), .ref (ev 0 + 78), .ref (ev 0 + 79), .ref (ev 0 + 80), .ref (ev 0 + 81), .int 0, .ref (ev 0 + 82), .ref (ev 0 + 83), .int 0, .int 0, .int 0, .int 0, .int 0, .int 0, .ref (ev 0 + 84), .ref (ev 0 + 85), .ref (ev 0 + 86), .ref (ev 0 + 87), .ref (ev 0 + 88), .ref (ev 0 + 89), .ref (ev 0 + 90), .ref (ev 0 + 91), .int 0, .int 0, .int 0, .int 0, .null, .null, .int 0, .int 0, .int 0, .null, .null, .int 0, .null, .null, .null, .null, .null, .null, .null, .null, .int 0]), .inl (ev 1, 100, .inl (fun _ => 0)), .inl (ev 1, 100, .inl (fun _ => 0)), .inl (ev 1, 12, .inl (fun _ => 0)), .inl (ev 1, 12, .inl (fun _ => 0)), .inl (ev 1, 12, .inl (fun _ => 0)), .inl (ev 1, 8, .inl (lf lt47)), .inl (ev 1, 8, .inl (lf lt89)), .inl (ev 1, 6, .inl (fun _ => 0)), .inl (ev 1, 6, .inl (fun _ => 0)), .inl (ev 1, 6, .inl (fun _ => 0)), .inl (ev 1, 6, .inl (fun _ => 0)), .inl (ev 1, 6, .inl (fun _ => 0)), .inl (ev 1, 6, .inl (fun _ => 0)), .inl (ev 1, 20, .inl (fun _ => 0)), .inl (ev 1, 20, .inl (fun _ => 0)), .inl (ev 1, 160, .inl (fun _ => 0)), .inl (ev 1, 1200, .inl (fun _ => 0)), .inl (ev 1, 24, .inl (fun _ => 0)), .inl (ev 1, 6, .inl (fun _ => 0)), .inl (ev 1, 6, .inl (fun _ => 0)), .inl (ev 1, 20, .inl (fun _ => 0)), .inl (ev 1, 20, .inl (fun _ => 0)), .inl (ev 1, 4, .inl (lf lt252)), .inl (ev 1, 4, .inl (fun _ => 0)), .inl (ev 1, 160, .inl (fun _ => 0)), .inl (ev 1, 70, .inl (lf lt292)), .inl (ev 1, 96, .inl (lf lt714))])) rfl (by rw [List.append_assoc]; rfl) ?_
  refine g_putFP F hn9 (j := 0) rfl hin9 (ty := tyX10 39) tyX10 tyX10_ok nmX10 rfl (ci := 10) rfl inlX10 (k := 39) (by decide) wd_12_16 rfl rfl rfl rfl rfl rfl (Nat.le_of_ble_eq_true rfl) dX10_init_1286 ?_
  refine g_sw (st' := []) (ws' := (w9 ++ [.inr (10, [.ref (ev 0 + 66), .ref (ev 0 + 67), .ref (ev 0 + 68), .ref (ev 0 + 69), .ref (ev 0 + 70), .ref (ev 0 + 71), .ref (ev 0 + 72), .int 0, .int 0, .ref (ev 0 + 73), .ref (ev 0 + 74), .ref (ev 0 + 75), .ref (ev 0 + 76), .ref (ev 0 + 77), .ref (ev 0 + 78), .ref (ev 0 + 79), .ref (ev 0 + 80), .ref (ev 0 + 81), .int 0, .ref (ev 0 + 82), .ref (ev 0 + 83), .int 0, .int 0, .int 0, .int 0, .int 0, .int 0, .ref (ev 0 + 84), .ref (ev 0 + 85), .ref (ev 0 + 86), .ref (ev 0 + 87), .ref (ev 0 + 88), .ref (ev 0 + 89), .ref (ev 0 + 90), .ref (ev 0 + 91), .int 0, .int 0, .int 0, .int 0, .ref (ev 0 + 92), .null, .int 0, .int 0, .int 0, .null, .null, .int 0, .null, .null, .null, .null, .null, .null, .null, .null, .int 0]), .inl (ev 1, 100, .inl (fun _ => 0)), .inl (ev 1, 100, .inl (fun _ => 0)), .inl (ev 1, 12, .inl (fun _ => 0)), .inl (ev 1, 12, .inl (fun _ => 0)), .inl (ev 1, 12, .inl (fun _ => 0)), .inl (ev 1, 8, .inl (lf lt47)), .inl (ev 1, 8, .inl (lf lt89)), .inl (ev 1, 6, .inl (fun _ => 0)), .inl (ev 1, 6, .inl (fun _ => 0)), .inl (ev 1, 6, .inl (fun _ => 0)), .inl (ev 1, 6, .inl (fun _ => 0)), .inl (ev 1, 6, .inl (fun _ => 0)), .inl (ev 1, 6, .inl (fun _ => 0)), .inl (ev 1, 20, .inl (fun _ => 0)), .inl (ev 1, 20, .inl (fun _ => 0)), .inl (ev 1, 160, .inl (fun _ => 0)), .inl (ev 1, 1200, .inl (fun _ => 0)), .inl (ev 1, 24, .inl (fun _ => 0)), .inl (ev 1, 6, .inl (fun _ => 0)), .inl (ev 1, 6, .inl (fun _ => 0)), .inl (ev 1, 20, .inl (fun _ => 0)), .inl (ev 1, 20, .inl (fun _ => 0)), .inl (ev 1, 4, .inl (lf lt252)), .inl (ev 1, 4, .inl (fun _ => 0)), .inl (ev 1, 160, .inl (fun _ => 0)), .inl (ev 1, 70, .inl (lf lt292)), .inl (ev 1, 96, .inl (lf lt714))])) rfl rfl ?_
  refine g_aload_n (i := 0) F dX10_init_1289 rfl rfl ?_
  refine g_sipush F dX10_init_1290 (v := 200) (by decide) ?_
  refine g_newiP F (N := 200) hn9 wd_2_6 (by decide) (by decide) (by decide) (Nat.le_of_ble_eq_true rfl) (Nat.le_of_ble_eq_true rfl) dX10_init_1293 ?_
  refine g_sw (st' := .ref (ev 0 + 93) :: .ref (ev 0 + 65) :: []) (ws' := (w9 ++ [.inr (10, [.ref (ev 0 + 66), .ref (ev 0 + 67), .ref (ev 0 + 68), .ref (ev 0 + 69), .ref (ev 0 + 70), .ref (ev 0 + 71), .ref (ev 0 + 72), .int 0, .int 0, .ref (ev 0 + 73), .ref (ev 0 + 74), .ref (ev 0 + 75), .ref (ev 0 + 76), .ref (ev 0 + 77), .ref (ev 0 + 78), .ref (ev 0 + 79), .ref (ev 0 + 80), .ref (ev 0 + 81), .int 0, .ref (ev 0 + 82), .ref (ev 0 + 83), .int 0, .int 0, .int 0, .int 0, .int 0, .int 0, .ref (ev 0 + 84), .ref (ev 0 + 85), .ref (ev 0 + 86), .ref (ev 0 + 87), .ref (ev 0 + 88), .ref (ev 0 + 89), .ref (ev 0 + 90), .ref (ev 0 + 91), .int 0, .int 0, .int 0, .int 0, .ref (ev 0 + 92), .null, .int 0, .int 0, .int 0, .null, .null, .int 0, .null, .null, .null, .null, .null, .null, .null, .null, .int 0]), .inl (ev 1, 100, .inl (fun _ => 0)), .inl (ev 1, 100, .inl (fun _ => 0)), .inl (ev 1, 12, .inl (fun _ => 0)), .inl (ev 1, 12, .inl (fun _ => 0)), .inl (ev 1, 12, .inl (fun _ => 0)), .inl (ev 1, 8, .inl (lf lt47)), .inl (ev 1, 8, .inl (lf lt89)), .inl (ev 1, 6, .inl (fun _ => 0)), .inl (ev 1, 6, .inl (fun _ => 0)), .inl (ev 1, 6, .inl (fun _ => 0)), .inl (ev 1, 6, .inl (fun _ => 0)), .inl (ev 1, 6, .inl (fun _ => 0)), .inl (ev 1, 6, .inl (fun _ => 0)), .inl (ev 1, 20, .inl (fun _ => 0)), .inl (ev 1, 20, .inl (fun _ => 0)), .inl (ev 1, 160, .inl (fun _ => 0)), .inl (ev 1, 1200, .inl (fun _ => 0)), .inl (ev 1, 24, .inl (fun _ => 0)), .inl (ev 1, 6, .inl (fun _ => 0)), .inl (ev 1, 6, .inl (fun _ => 0)), .inl (ev 1, 20, .inl (fun _ => 0)), .inl (ev 1, 20, .inl (fun _ => 0)), .inl (ev 1, 4, .inl (lf lt252)), .inl (ev 1, 4, .inl (fun _ => 0)), .inl (ev 1, 160, .inl (fun _ => 0)), .inl (ev 1, 70, .inl (lf lt292)), .inl (ev 1, 96, .inl (lf lt714)), .inl (ev 1, 200, .inl (fun _ => 0))])) rfl rfl ?_
  refine g_putFP F hn9 (j := 0) rfl hin9 (ty := tyX10 40) tyX10 tyX10_ok nmX10 rfl (ci := 10) rfl inlX10 (k := 40) (by decide) wd_12_17 rfl rfl rfl rfl rfl rfl (Nat.le_of_ble_eq_true rfl) dX10_init_1295 ?_
  refine g_sw (st' := []) (ws' := (w9 ++ [.inr (10, [.ref (ev 0 + 66), .ref (ev 0 + 67), .ref (ev 0 + 68), .ref (ev 0 + 69), .ref (ev 0 + 70), .ref (ev 0 + 71), .ref (ev 0 + 72), .int 0, .int 0, .ref (ev 0 + 73), .ref (ev 0 + 74), .ref (ev 0 + 75), .ref (ev 0 + 76), .ref (ev 0 + 77), .ref (ev 0 + 78), .ref (ev 0 + 79), .ref (ev 0 + 80), .ref (ev 0 + 81), .int 0, .ref (ev 0 + 82), .ref (ev 0 + 83), .int 0, .int 0, .int 0, .int 0, .int 0, .int 0, .ref (ev 0 + 84), .ref (ev 0 + 85), .ref (ev 0 + 86), .ref (ev 0 + 87), .ref (ev 0 + 88), .ref (ev 0 + 89), .ref (ev 0 + 90), .ref (ev 0 + 91), .int 0, .int 0, .int 0, .int 0, .ref (ev 0 + 92), .ref (ev 0 + 93), .int 0, .int 0, .int 0, .null, .null, .int 0, .null, .null, .null, .null, .null, .null, .null, .null, .int 0]), .inl (ev 1, 100, .inl (fun _ => 0)), .inl (ev 1, 100, .inl (fun _ => 0)), .inl (ev 1, 12, .inl (fun _ => 0)), .inl (ev 1, 12, .inl (fun _ => 0)), .inl (ev 1, 12, .inl (fun _ => 0)), .inl (ev 1, 8, .inl (lf lt47)), .inl (ev 1, 8, .inl (lf lt89)), .inl (ev 1, 6, .inl (fun _ => 0)), .inl (ev 1, 6, .inl (fun _ => 0)), .inl (ev 1, 6, .inl (fun _ => 0)), .inl (ev 1, 6, .inl (fun _ => 0)), .inl (ev 1, 6, .inl (fun _ => 0)), .inl (ev 1, 6, .inl (fun _ => 0)), .inl (ev 1, 20, .inl (fun _ => 0)), .inl (ev 1, 20, .inl (fun _ => 0)), .inl (ev 1, 160, .inl (fun _ => 0)), .inl (ev 1, 1200, .inl (fun _ => 0)), .inl (ev 1, 24, .inl (fun _ => 0)), .inl (ev 1, 6, .inl (fun _ => 0)), .inl (ev 1, 6, .inl (fun _ => 0)), .inl (ev 1, 20, .inl (fun _ => 0)), .inl (ev 1, 20, .inl (fun _ => 0)), .inl (ev 1, 4, .inl (lf lt252)), .inl (ev 1, 4, .inl (fun _ => 0)), .inl (ev 1, 160, .inl (fun _ => 0)), .inl (ev 1, 70, .inl (lf lt292)), .inl (ev 1, 96, .inl (lf lt714)), .inl (ev 1, 200, .inl (fun _ => 0))])) rfl rfl ?_
  refine g_aload_n (i := 0) F dX10_init_1298 rfl rfl ?_
  refine g_sipush F dX10_init_1299 (v := 200) (by decide) ?_
  refine g_newiP F (N := 200) hn9 wd_2_6 (by decide) (by decide) (by decide) (Nat.le_of_ble_eq_true rfl) (Nat.le_of_ble_eq_true rfl) dX10_init_1302 ?_
  refine g_sw (st' := .ref (ev 0 + 94) :: .ref (ev 0 + 65) :: []) (ws' := (w9 ++ [.inr (10, [.ref (ev 0 + 66), .ref (ev 0 + 67), .ref (ev 0 + 68), .ref (ev 0 + 69), .ref (ev 0 + 70), .ref (ev 0 + 71), .ref (ev 0 + 72), .int 0, .int 0, .ref (ev 0 + 73), .ref (ev 0 + 74), .ref (ev 0 + 75), .ref (ev 0 + 76), .ref (ev 0 + 77), .ref (ev 0 + 78), .ref (ev 0 + 79), .ref (ev 0 + 80), .ref (ev 0 + 81), .int 0, .ref (ev 0 + 82), .ref (ev 0 + 83), .int 0, .int 0, .int 0, .int 0, .int 0, .int 0, .ref (ev 0 + 84), .ref (ev 0 + 85), .ref (ev 0 + 86), .ref (ev 0 + 87), .ref (ev 0 + 88), .ref (ev 0 + 89), .ref (ev 0 + 90), .ref (ev 0 + 91), .int 0, .int 0, .int 0, .int 0, .ref (ev 0 + 92), .ref (ev 0 + 93), .int 0, .int 0, .int 0, .null, .null, .int 0, .null, .null, .null, .null, .null, .null, .null, .null, .int 0]), .inl (ev 1, 100, .inl (fun _ => 0)), .inl (ev 1, 100, .inl (fun _ => 0)), .inl (ev 1, 12, .inl (fun _ => 0)), .inl (ev 1, 12, .inl (fun _ => 0)), .inl (ev 1, 12, .inl (fun _ => 0)), .inl (ev 1, 8, .inl (lf lt47)), .inl (ev 1, 8, .inl (lf lt89)), .inl (ev 1, 6, .inl (fun _ => 0)), .inl (ev 1, 6, .inl (fun _ => 0)), .inl (ev 1, 6, .inl (fun _ => 0)), .inl (ev 1, 6, .inl (fun _ => 0)), .inl (ev 1, 6, .inl (fun _ => 0)), .inl (ev 1, 6, .inl (fun _ => 0)), .inl (ev 1, 20, .inl (fun _ => 0)), .inl (ev 1, 20, .inl (fun _ => 0)), .inl (ev 1, 160, .inl (fun _ => 0)), .inl (ev 1, 1200, .inl (fun _ => 0)), .inl (ev 1, 24, .inl (fun _ => 0)), .inl (ev 1, 6, .inl (fun _ => 0)), .inl (ev 1, 6, .inl (fun _ => 0)), .inl (ev 1, 20, .inl (fun _ => 0)), .inl (ev 1, 20, .inl (fun _ => 0)), .inl (ev 1, 4, .inl (lf lt252)), .inl (ev 1, 4, .inl (fun _ => 0)), .inl (ev 1, 160, .inl (fun _ => 0)), .inl (ev 1, 70, .inl (lf lt292)), .inl (ev 1, 96, .inl (lf lt714)), .inl (ev 1, 200, .inl (fun _ => 0)), .inl (ev 1, 200, .inl (fun _ => 0))])) rfl rfl ?_
  refine g_putFP F hn9 (j := 0) rfl hin9 (ty := tyX10 44) tyX10 tyX10_ok nmX10 rfl (ci := 10) rfl inlX10 (k := 44) (by decide) wd_12_18 rfl rfl rfl rfl rfl rfl (Nat.le_of_ble_eq_true rfl) dX10_init_1304 ?_
  refine g_sw (st' := []) (ws' := (w9 ++ [.inr (10, [.ref (ev 0 + 66), .ref (ev 0 + 67), .ref (ev 0 + 68), .ref (ev 0 + 69), .ref (ev 0 + 70), .ref (ev 0 + 71), .ref (ev 0 + 72), .int 0, .int 0, .ref (ev 0 + 73), .ref (ev 0 + 74), .ref (ev 0 + 75), .ref (ev 0 + 76), .ref (ev 0 + 77), .ref (ev 0 + 78), .ref (ev 0 + 79), .ref (ev 0 + 80), .ref (ev 0 + 81), .int 0, .ref (ev 0 + 82), .ref (ev 0 + 83), .int 0, .int 0, .int 0, .int 0, .int 0, .int 0, .ref (ev 0 + 84), .ref (ev 0 + 85), .ref (ev 0 + 86), .ref (ev 0 + 87), .ref (ev 0 + 88), .ref (ev 0 + 89), .ref (ev 0 + 90), .ref (ev 0 + 91), .int 0, .int 0, .int 0, .int 0, .ref (ev 0 + 92), .ref (ev 0 + 93), .int 0, .int 0, .int 0, .ref (ev 0 + 94), .null, .int 0, .null, .null, .null, .null, .null, .null, .null, .null, .int 0]), .inl (ev 1, 100, .inl (fun _ => 0)), .inl (ev 1, 100, .inl (fun _ => 0)), .inl (ev 1, 12, .inl (fun _ => 0)), .inl (ev 1, 12, .inl (fun _ => 0)), .inl (ev 1, 12, .inl (fun _ => 0)), .inl (ev 1, 8, .inl (lf lt47)), .inl (ev 1, 8, .inl (lf lt89)), .inl (ev 1, 6, .inl (fun _ => 0)), .inl (ev 1, 6, .inl (fun _ => 0)), .inl (ev 1, 6, .inl (fun _ => 0)), .inl (ev 1, 6, .inl (fun _ => 0)), .inl (ev 1, 6, .inl (fun _ => 0)), .inl (ev 1, 6, .inl (fun _ => 0)), .inl (ev 1, 20, .inl (fun _ => 0)), .inl (ev 1, 20, .inl (fun _ => 0)), .inl (ev 1, 160, .inl (fun _ => 0)), .inl (ev 1, 1200, .inl (fun _ => 0)), .inl (ev 1, 24, .inl (fun _ => 0)), .inl (ev 1, 6, .inl (fun _ => 0)), .inl (ev 1, 6, .inl (fun _ => 0)), .inl (ev 1, 20, .inl (fun _ => 0)), .inl (ev 1, 20, .inl (fun _ => 0)), .inl (ev 1, 4, .inl (lf lt252)), .inl (ev 1, 4, .inl (fun _ => 0)), .inl (ev 1, 160, .inl (fun _ => 0)), .inl (ev 1, 70, .inl (lf lt292)), .inl (ev 1, 96, .inl (lf lt714)), .inl (ev 1, 200, .inl (fun _ => 0)), .inl (ev 1, 200, .inl (fun _ => 0))])) rfl rfl ?_
  refine g_aload_n (i := 0) F dX10_init_1307 rfl rfl ?_
  refine g_bipush F dX10_init_1308 (v := 6) (by decide) ?_
  refine g_newiP F (N := 6) hn9 wd_2_6 (by decide) (by decide) (by decide) (Nat.le_of_ble_eq_true rfl) (Nat.le_of_ble_eq_true rfl) dX10_init_1310 ?_
  refine g_sw (st' := .ref (ev 0 + 95) :: .ref (ev 0 + 65) :: []) (ws' := (w9 ++ [.inr (10, [.ref (ev 0 + 66), .ref (ev 0 + 67), .ref (ev 0 + 68), .ref (ev 0 + 69), .ref (ev 0 + 70), .ref (ev 0 + 71), .ref (ev 0 + 72), .int 0, .int 0, .ref (ev 0 + 73), .ref (ev 0 + 74), .ref (ev 0 + 75), .ref (ev 0 + 76), .ref (ev 0 + 77), .ref (ev 0 + 78), .ref (ev 0 + 79), .ref (ev 0 + 80), .ref (ev 0 + 81), .int 0, .ref (ev 0 + 82), .ref (ev 0 + 83), .int 0, .int 0, .int 0, .int 0, .int 0, .int 0, .ref (ev 0 + 84), .ref (ev 0 + 85), .ref (ev 0 + 86), .ref (ev 0 + 87), .ref (ev 0 + 88), .ref (ev 0 + 89), .ref (ev 0 + 90), .ref (ev 0 + 91), .int 0, .int 0, .int 0, .int 0, .ref (ev 0 + 92), .ref (ev 0 + 93), .int 0, .int 0, .int 0, .ref (ev 0 + 94), .null, .int 0, .null, .null, .null, .null, .null, .null, .null, .null, .int 0]), .inl (ev 1, 100, .inl (fun _ => 0)), .inl (ev 1, 100, .inl (fun _ => 0)), .inl (ev 1, 12, .inl (fun _ => 0)), .inl (ev 1, 12, .inl (fun _ => 0)), .inl (ev 1, 12, .inl (fun _ => 0)), .inl (ev 1, 8, .inl (lf lt47)), .inl (ev 1, 8, .inl (lf lt89)), .inl (ev 1, 6, .inl (fun _ => 0)), .inl (ev 1, 6, .inl (fun _ => 0)), .inl (ev 1, 6, .inl (fun _ => 0)), .inl (ev 1, 6, .inl (fun _ => 0)), .inl (ev 1, 6, .inl (fun _ => 0)), .inl (ev 1, 6, .inl (fun _ => 0)), .inl (ev 1, 20, .inl (fun _ => 0)), .inl (ev 1, 20, .inl (fun _ => 0)), .inl (ev 1, 160, .inl (fun _ => 0)), .inl (ev 1, 1200, .inl (fun _ => 0)), .inl (ev 1, 24, .inl (fun _ => 0)), .inl (ev 1, 6, .inl (fun _ => 0)), .inl (ev 1, 6, .inl (fun _ => 0)), .inl (ev 1, 20, .inl (fun _ => 0)), .inl (ev 1, 20, .inl (fun _ => 0)), .inl (ev 1, 4, .inl (lf lt252)), .inl (ev 1, 4, .inl (fun _ => 0)), .inl (ev 1, 160, .inl (fun _ => 0)), .inl (ev 1, 70, .inl (lf lt292)), .inl (ev 1, 96, .inl (lf lt714)), .inl (ev 1, 200, .inl (fun _ => 0)), .inl (ev 1, 200, .inl (fun _ => 0)), .inl (ev 1, 6, .inl (fun _ => 0))])) rfl rfl ?_
  refine g_putFP F hn9 (j := 0) rfl hin9 (ty := tyX10 45) tyX10 tyX10_ok nmX10 rfl (ci := 10) rfl inlX10 (k := 45) (by decide) wd_12_19 rfl rfl rfl rfl rfl rfl (Nat.le_of_ble_eq_true rfl) dX10_init_1312 ?_
  refine g_sw (st' := []) (ws' := (w9 ++ [.inr (10, [.ref (ev 0 + 66), .ref (ev 0 + 67), .ref (ev 0 + 68), .ref (ev 0 + 69), .ref (ev 0 + 70), .ref (ev 0 + 71), .ref (ev 0 + 72), .int 0, .int 0, .ref (ev 0 + 73), .ref (ev 0 + 74), .ref (ev 0 + 75), .ref (ev 0 + 76), .ref (ev 0 + 77), .ref (ev 0 + 78), .ref (ev 0 + 79), .ref (ev 0 + 80), .ref (ev 0 + 81), .int 0, .ref (ev 0 + 82), .ref (ev 0 + 83), .int 0, .int 0, .int 0, .int 0, .int 0, .int 0, .ref (ev 0 + 84), .ref (ev 0 + 85), .ref (ev 0 + 86), .ref (ev 0 + 87), .ref (ev 0 + 88), .ref (ev 0 + 89), .ref (ev 0 + 90), .ref (ev 0 + 91), .int 0, .int 0, .int 0, .int 0, .ref (ev 0 + 92), .ref (ev 0 + 93), .int 0, .int 0, .int 0, .ref (ev 0 + 94), .ref (ev 0 + 95), .int 0, .null, .null, .null, .null, .null, .null, .null, .null, .int 0]), .inl (ev 1, 100, .inl (fun _ => 0)), .inl (ev 1, 100, .inl (fun _ => 0)), .inl (ev 1, 12, .inl (fun _ => 0)), .inl (ev 1, 12, .inl (fun _ => 0)), .inl (ev 1, 12, .inl (fun _ => 0)), .inl (ev 1, 8, .inl (lf lt47)), .inl (ev 1, 8, .inl (lf lt89)), .inl (ev 1, 6, .inl (fun _ => 0)), .inl (ev 1, 6, .inl (fun _ => 0)), .inl (ev 1, 6, .inl (fun _ => 0)), .inl (ev 1, 6, .inl (fun _ => 0)), .inl (ev 1, 6, .inl (fun _ => 0)), .inl (ev 1, 6, .inl (fun _ => 0)), .inl (ev 1, 20, .inl (fun _ => 0)), .inl (ev 1, 20, .inl (fun _ => 0)), .inl (ev 1, 160, .inl (fun _ => 0)), .inl (ev 1, 1200, .inl (fun _ => 0)), .inl (ev 1, 24, .inl (fun _ => 0)), .inl (ev 1, 6, .inl (fun _ => 0)), .inl (ev 1, 6, .inl (fun _ => 0)), .inl (ev 1, 20, .inl (fun _ => 0)), .inl (ev 1, 20, .inl (fun _ => 0)), .inl (ev 1, 4, .inl (lf lt252)), .inl (ev 1, 4, .inl (fun _ => 0)), .inl (ev 1, 160, .inl (fun _ => 0)), .inl (ev 1, 70, .inl (lf lt292)), .inl (ev 1, 96, .inl (lf lt714)), .inl (ev 1, 200, .inl (fun _ => 0)), .inl (ev 1, 200, .inl (fun _ => 0)), .inl (ev 1, 6, .inl (fun _ => 0))])) rfl rfl ?_
  refine g_aload_n (i := 0) F dX10_init_1315 rfl rfl ?_
  refine g_bipush F dX10_init_1316 (v := 12) (by decide) ?_
  refine g_newiP F (N := 12) hn9 wd_2_6 (by decide) (by decide) (by decide) (Nat.le_of_ble_eq_true rfl) (Nat.le_of_ble_eq_true rfl) dX10_init_1318 ?_
  refine g_sw (st' := .ref (ev 0 + 96) :: .ref (ev 0 + 65) :: []) (ws' := (w9 ++ [.inr (10, [.ref (ev 0 + 66), .ref (ev 0 + 67), .ref (ev 0 + 68), .ref (ev 0 + 69), .ref (ev 0 + 70), .ref (ev 0 + 71), .ref (ev 0 + 72), .int 0, .int 0, .ref (ev 0 + 73), .ref (ev 0 + 74), .ref (ev 0 + 75), .ref (ev 0 + 76), .ref (ev 0 + 77), .ref (ev 0 + 78), .ref (ev 0 + 79), .ref (ev 0 + 80), .ref (ev 0 + 81), .int 0, .ref (ev 0 + 82), .ref (ev 0 + 83), .int 0, .int 0, .int 0, .int 0, .int 0, .int 0, .ref (ev 0 + 84), .ref (ev 0 + 85), .ref (ev 0 + 86), .ref (ev 0 + 87), .ref (ev 0 + 88), .ref (ev 0 + 89), .ref (ev 0 + 90), .ref (ev 0 + 91), .int 0, .int 0, .int 0, .int 0, .ref (ev 0 + 92), .ref (ev 0 + 93), .int 0, .int 0, .int 0, .ref (ev 0 + 94), .ref (ev 0 + 95), .int 0, .null, .null, .null, .null, .null, .null, .null, .null, .int 0]), .inl (ev 1, 100, .inl (fun _ => 0)), .inl (ev 1, 100, .inl (fun _ => 0)), .inl (ev 1, 12, .inl (fun _ => 0)), .inl (ev 1, 12, .inl (fun _ => 0)), .inl (ev 1, 12, .inl (fun _ => 0)), .inl (ev 1, 8, .inl (lf lt47)), .inl (ev 1, 8, .inl (lf lt89)), .inl (ev 1, 6, .inl (fun _ => 0)), .inl (ev 1, 6, .inl (fun _ => 0)), .inl (ev 1, 6, .inl (fun _ => 0)), .inl (ev 1, 6, .inl (fun _ => 0)), .inl (ev 1, 6, .inl (fun _ => 0)), .inl (ev 1, 6, .inl (fun _ => 0)), .inl (ev 1, 20, .inl (fun _ => 0)), .inl (ev 1, 20, .inl (fun _ => 0)), .inl (ev 1, 160, .inl (fun _ => 0)), .inl (ev 1, 1200, .inl (fun _ => 0)), .inl (ev 1, 24, .inl (fun _ => 0)), .inl (ev 1, 6, .inl (fun _ => 0)), .inl (ev 1, 6, .inl (fun _ => 0)), .inl (ev 1, 20, .inl (fun _ => 0)), .inl (ev 1, 20, .inl (fun _ => 0)), .inl (ev 1, 4, .inl (lf lt252)), .inl (ev 1, 4, .inl (fun _ => 0)), .inl (ev 1, 160, .inl (fun _ => 0)), .inl (ev 1, 70, .inl (lf lt292)), .inl (ev 1, 96, .inl (lf lt714)), .inl (ev 1, 200, .inl (fun _ => 0)), .inl (ev 1, 200, .inl (fun _ => 0)), .inl (ev 1, 6, .inl (fun _ => 0)), .inl (ev 1, 12, .inl (fun _ => 0))])) rfl rfl ?_
  refine g_putFP F hn9 (j := 0) rfl hin9 (ty := tyX10 47) tyX10 tyX10_ok nmX10 rfl (ci := 10) rfl inlX10 (k := 47) (by decide) wd_12_20 rfl rfl rfl rfl rfl rfl (Nat.le_of_ble_eq_true rfl) dX10_init_1320 ?_
  refine g_sw (st' := []) (ws' := (w9 ++ [.inr (10, [.ref (ev 0 + 66), .ref (ev 0 + 67), .ref (ev 0 + 68), .ref (ev 0 + 69), .ref (ev 0 + 70), .ref (ev 0 + 71), .ref (ev 0 + 72), .int 0, .int 0, .ref (ev 0 + 73), .ref (ev 0 + 74), .ref (ev 0 + 75), .ref (ev 0 + 76), .ref (ev 0 + 77), .ref (ev 0 + 78), .ref (ev 0 + 79), .ref (ev 0 + 80), .ref (ev 0 + 81), .int 0, .ref (ev 0 + 82), .ref (ev 0 + 83), .int 0, .int 0, .int 0, .int 0, .int 0, .int 0, .ref (ev 0 + 84), .ref (ev 0 + 85), .ref (ev 0 + 86), .ref (ev 0 + 87), .ref (ev 0 + 88), .ref (ev 0 + 89), .ref (ev 0 + 90), .ref (ev 0 + 91), .int 0, .int 0, .int 0, .int 0, .ref (ev 0 + 92), .ref (ev 0 + 93), .int 0, .int 0, .int 0, .ref (ev 0 + 94), .ref (ev 0 + 95), .int 0, .ref (ev 0 + 96), .null, .null, .null, .null, .null, .null, .null, .int 0]), .inl (ev 1, 100, .inl (fun _ => 0)), .inl (ev 1, 100, .inl (fun _ => 0)), .inl (ev 1, 12, .inl (fun _ => 0)), .inl (ev 1, 12, .inl (fun _ => 0)), .inl (ev 1, 12, .inl (fun _ => 0)), .inl (ev 1, 8, .inl (lf lt47)), .inl (ev 1, 8, .inl (lf lt89)), .inl (ev 1, 6, .inl (fun _ => 0)), .inl (ev 1, 6, .inl (fun _ => 0)), .inl (ev 1, 6, .inl (fun _ => 0)), .inl (ev 1, 6, .inl (fun _ => 0)), .inl (ev 1, 6, .inl (fun _ => 0)), .inl (ev 1, 6, .inl (fun _ => 0)), .inl (ev 1, 20, .inl (fun _ => 0)), .inl (ev 1, 20, .inl (fun _ => 0)), .inl (ev 1, 160, .inl (fun _ => 0)), .inl (ev 1, 1200, .inl (fun _ => 0)), .inl (ev 1, 24, .inl (fun _ => 0)), .inl (ev 1, 6, .inl (fun _ => 0)), .inl (ev 1, 6, .inl (fun _ => 0)), .inl (ev 1, 20, .inl (fun _ => 0)), .inl (ev 1, 20, .inl (fun _ => 0)), .inl (ev 1, 4, .inl (lf lt252)), .inl (ev 1, 4, .inl (fun _ => 0)), .inl (ev 1, 160, .inl (fun _ => 0)), .inl (ev 1, 70, .inl (lf lt292)), .inl (ev 1, 96, .inl (lf lt714)), .inl (ev 1, 200, .inl (fun _ => 0)), .inl (ev 1, 200, .inl (fun _ => 0)), .inl (ev 1, 6, .inl (fun _ => 0)), .inl (ev 1, 12, .inl (fun _ => 0))])) rfl rfl ?_
  refine g_aload_n (i := 0) F dX10_init_1323 rfl rfl ?_
  refine g_bipush F dX10_init_1324 (v := 6) (by decide) ?_
  refine g_newiP F (N := 6) hn9 wd_2_6 (by decide) (by decide) (by decide) (Nat.le_of_ble_eq_true rfl) (Nat.le_of_ble_eq_true rfl) dX10_init_1326 ?_
  refine g_sw (st' := .ref (ev 0 + 97) :: .ref (ev 0 + 65) :: []) (ws' := (w9 ++ [.inr (10, [.ref (ev 0 + 66), .ref (ev 0 + 67), .ref (ev 0 + 68), .ref (ev 0 + 69), .ref (ev 0 + 70), .ref (ev 0 + 71), .ref (ev 0 + 72), .int 0, .int 0, .ref (ev 0 + 73), .ref (ev 0 + 74), .ref (ev 0 + 75), .ref (ev 0 + 76), .ref (ev 0 + 77), .ref (ev 0 + 78), .ref (ev 0 + 79), .ref (ev 0 + 80), .ref (ev 0 + 81), .int 0, .ref (ev 0 + 82), .ref (ev 0 + 83), .int 0, .int 0, .int 0, .int 0, .int 0, .int 0, .ref (ev 0 + 84), .ref (ev 0 + 85), .ref (ev 0 + 86), .ref (ev 0 + 87), .ref (ev 0 + 88), .ref (ev 0 + 89), .ref (ev 0 + 90), .ref (ev 0 + 91), .int 0, .int 0, .int 0, .int 0, .ref (ev 0 + 92), .ref (ev 0 + 93), .int 0, .int 0, .int 0, .ref (ev 0 + 94), .ref (ev 0 + 95), .int 0, .ref (ev 0 + 96), .null, .null, .null, .null, .null, .null, .null, .int 0]), .inl (ev 1, 100, .inl (fun _ => 0)), .inl (ev 1, 100, .inl (fun _ => 0)), .inl (ev 1, 12, .inl (fun _ => 0)), .inl (ev 1, 12, .inl (fun _ => 0)), .inl (ev 1, 12, .inl (fun _ => 0)), .inl (ev 1, 8, .inl (lf lt47)), .inl (ev 1, 8, .inl (lf lt89)), .inl (ev 1, 6, .inl (fun _ => 0)), .inl (ev 1, 6, .inl (fun _ => 0)), .inl (ev 1, 6, .inl (fun _ => 0)), .inl (ev 1, 6, .inl (fun _ => 0)), .inl (ev 1, 6, .inl (fun _ => 0)), .inl (ev 1, 6, .inl (fun _ => 0)), .inl (ev 1, 20, .inl (fun _ => 0)), .inl (ev 1, 20, .inl (fun _ => 0)), .inl (ev 1, 160, .inl (fun _ => 0)), .inl (ev 1, 1200, .inl (fun _ => 0)), .inl (ev 1, 24, .inl (fun _ => 0)), .inl (ev 1, 6, .inl (fun _ => 0)), .inl (ev 1, 6, .inl (fun _ => 0)), .inl (ev 1, 20, .inl (fun _ => 0)), .inl (ev 1, 20, .inl (fun _ => 0)), .inl (ev 1, 4, .inl (lf lt252)), .inl (ev 1, 4, .inl (fun _ => 0)), .inl (ev 1, 160, .inl (fun _ => 0)), .inl (ev 1, 70, .inl (lf lt292)), .inl (ev 1, 96, .inl (lf lt714)), .inl (ev 1, 200, .inl (fun _ => 0)), .inl (ev 1, 200, .inl (fun _ => 0)), .inl (ev 1, 6, .inl (fun _ => 0)), .inl (ev 1, 12, .inl (fun _ => 0)), .inl (ev 1, 6, .inl (fun _ => 0))])) rfl rfl ?_
  refine g_putFP F hn9 (j := 0) rfl hin9 (ty := tyX10 48) tyX10 tyX10_ok nmX10 rfl (ci := 10) rfl inlX10 (k := 48) (by decide) wd_12_21 rfl rfl rfl rfl rfl rfl (Nat.le_of_ble_eq_true rfl) dX10_init_1328 ?_
  refine g_sw (st' := []) (ws' := (w9 ++ [.inr (10, [.ref (ev 0 + 66), .ref (ev 0 + 67), .ref (ev 0 + 68), .ref (ev 0 + 69), .ref (ev 0 + 70), .ref (ev 0 + 71), .ref (ev 0 + 72), .int 0, .int 0, .ref (ev 0 + 73), .ref (ev 0 + 74), .ref (ev 0 + 75), .ref (ev 0 + 76), .ref (ev 0 + 77), .ref (ev 0 + 78), .ref (ev 0 + 79), .ref (ev 0 + 80), .ref (ev 0 + 81), .int 0, .ref (ev 0 + 82), .ref (ev 0 + 83), .int 0, .int 0, .int 0, .int 0, .int 0, .int 0, .ref (ev 0 + 84), .ref (ev 0 + 85), .ref (ev 0 + 86), .ref (ev 0 + 87), .ref (ev 0 + 88), .ref (ev 0 + 89), .ref (ev 0 + 90), .ref (ev 0 + 91), .int 0, .int 0, .int 0, .int 0, .ref (ev 0 + 92), .ref (ev 0 + 93), .int 0, .int 0, .int 0, .ref (ev 0 + 94), .ref (ev 0 + 95), .int 0, .ref (ev 0 + 96), .ref (ev 0 + 97), .null, .null, .null, .null, .null, .null, .int 0]), .inl (ev 1, 100, .inl (fun _ => 0)), .inl (ev 1, 100, .inl (fun _ => 0)), .inl (ev 1, 12, .inl (fun _ => 0)), .inl (ev 1, 12, .inl (fun _ => 0)), .inl (ev 1, 12, .inl (fun _ => 0)), .inl (ev 1, 8, .inl (lf lt47)), .inl (ev 1, 8, .inl (lf lt89)), .inl (ev 1, 6, .inl (fun _ => 0)), .inl (ev 1, 6, .inl (fun _ => 0)), .inl (ev 1, 6, .inl (fun _ => 0)), .inl (ev 1, 6, .inl (fun _ => 0)), .inl (ev 1, 6, .inl (fun _ => 0)), .inl (ev 1, 6, .inl (fun _ => 0)), .inl (ev 1, 20, .inl (fun _ => 0)), .inl (ev 1, 20, .inl (fun _ => 0)), .inl (ev 1, 160, .inl (fun _ => 0)), .inl (ev 1, 1200, .inl (fun _ => 0)), .inl (ev 1, 24, .inl (fun _ => 0)), .inl (ev 1, 6, .inl (fun _ => 0)), .inl (ev 1, 6, .inl (fun _ => 0)), .inl (ev 1, 20, .inl (fun _ => 0)), .inl (ev 1, 20, .inl (fun _ => 0)), .inl (ev 1, 4, .inl (lf lt252)), .inl (ev 1, 4, .inl (fun _ => 0)), .inl (ev 1, 160, .inl (fun _ => 0)), .inl (ev 1, 70, .inl (lf lt292)), .inl (ev 1, 96, .inl (lf lt714)), .inl (ev 1, 200, .inl (fun _ => 0)), .inl (ev 1, 200, .inl (fun _ => 0)), .inl (ev 1, 6, .inl (fun _ => 0)), .inl (ev 1, 12, .inl (fun _ => 0)), .inl (ev 1, 6, .inl (fun _ => 0))])) rfl rfl ?_
  refine g_aload_n (i := 0) F dX10_init_1331 rfl rfl ?_
  refine g_bipush F dX10_init_1332 (v := 6) (by decide) ?_
  refine g_newiP F (N := 6) hn9 wd_2_6 (by decide) (by decide) (by decide) (Nat.le_of_ble_eq_true rfl) (Nat.le_of_ble_eq_true rfl) dX10_init_1334 ?_
  refine g_sw (st' := .ref (ev 0 + 98) :: .ref (ev 0 + 65) :: []) (ws' := (w9 ++ [.inr (10, [.ref (ev 0 + 66), .ref (ev 0 + 67), .ref (ev 0 + 68), .ref (ev 0 + 69), .ref (ev 0 + 70), .ref (ev 0 + 71), .ref (ev 0 + 72), .int 0, .int 0, .ref (ev 0 + 73), .ref (ev 0 + 74), .ref (ev 0 + 75), .ref (ev 0 + 76), .ref (ev 0 + 77), .ref (ev 0 + 78), .ref (ev 0 + 79), .ref (ev 0 + 80), .ref (ev 0 + 81), .int 0, .ref (ev 0 + 82), .ref (ev 0 + 83), .int 0, .int 0, .int 0, .int 0, .int 0, .int 0, .ref (ev 0 + 84), .ref (ev 0 + 85), .ref (ev 0 + 86), .ref (ev 0 + 87), .ref (ev 0 + 88), .ref (ev 0 + 89), .ref (ev 0 + 90), .ref (ev 0 + 91), .int 0, .int 0, .int 0, .int 0, .ref (ev 0 + 92), .ref (ev 0 + 93), .int 0, .int 0, .int 0, .ref (ev 0 + 94), .ref (ev 0 + 95), .int 0, .ref (ev 0 + 96), .ref (ev 0 + 97), .null, .null, .null, .null, .null, .null, .int 0]), .inl (ev 1, 100, .inl (fun _ => 0)), .inl (ev 1, 100, .inl (fun _ => 0)), .inl (ev 1, 12, .inl (fun _ => 0)), .inl (ev 1, 12, .inl (fun _ => 0)), .inl (ev 1, 12, .inl (fun _ => 0)), .inl (ev 1, 8, .inl (lf lt47)), .inl (ev 1, 8, .inl (lf lt89)), .inl (ev 1, 6, .inl (fun _ => 0)), .inl (ev 1, 6, .inl (fun _ => 0)), .inl (ev 1, 6, .inl (fun _ => 0)), .inl (ev 1, 6, .inl (fun _ => 0)), .inl (ev 1, 6, .inl (fun _ => 0)), .inl (ev 1, 6, .inl (fun _ => 0)), .inl (ev 1, 20, .inl (fun _ => 0)), .inl (ev 1, 20, .inl (fun _ => 0)), .inl (ev 1, 160, .inl (fun _ => 0)), .inl (ev 1, 1200, .inl (fun _ => 0)), .inl (ev 1, 24, .inl (fun _ => 0)), .inl (ev 1, 6, .inl (fun _ => 0)), .inl (ev 1, 6, .inl (fun _ => 0)), .inl (ev 1, 20, .inl (fun _ => 0)), .inl (ev 1, 20, .inl (fun _ => 0)), .inl (ev 1, 4, .inl (lf lt252)), .inl (ev 1, 4, .inl (fun _ => 0)), .inl (ev 1, 160, .inl (fun _ => 0)), .inl (ev 1, 70, .inl (lf lt292)), .inl (ev 1, 96, .inl (lf lt714)), .inl (ev 1, 200, .inl (fun _ => 0)), .inl (ev 1, 200, .inl (fun _ => 0)), .inl (ev 1, 6, .inl (fun _ => 0)), .inl (ev 1, 12, .inl (fun _ => 0)), .inl (ev 1, 6, .inl (fun _ => 0)), .inl (ev 1, 6, .inl (fun _ => 0))])) rfl rfl ?_
  refine g_putFP F hn9 (j := 0) rfl hin9 (ty := tyX10 49) tyX10 tyX10_ok nmX10 rfl (ci := 10) rfl inlX10 (k := 49) (by decide) wd_12_22 rfl rfl rfl rfl rfl rfl (Nat.le_of_ble_eq_true rfl) dX10_init_1336 ?_
  refine g_sw (st' := []) (ws' := (w9 ++ [.inr (10, [.ref (ev 0 + 66), .ref (ev 0 + 67), .ref (ev 0 + 68), .ref (ev 0 + 69), .ref (ev 0 + 70), .ref (ev 0 + 71), .ref (ev 0 + 72), .int 0, .int 0, .ref (ev 0 + 73), .ref (ev 0 + 74), .ref (ev 0 + 75), .ref (ev 0 + 76), .ref (ev 0 + 77), .ref (ev 0 + 78), .ref (ev 0 + 79), .ref (ev 0 + 80), .ref (ev 0 + 81), .int 0, .ref (ev 0 + 82), .ref (ev 0 + 83), .int 0, .int 0, .int 0, .int 0, .int 0, .int 0, .ref (ev 0 + 84), .ref (ev 0 + 85), .ref (ev 0 + 86), .ref (ev 0 + 87), .ref (ev 0 + 88), .ref (ev 0 + 89), .ref (ev 0 + 90), .ref (ev 0 + 91), .int 0, .int 0, .int 0, .int 0, .ref (ev 0 + 92), .ref (ev 0 + 93), .int 0, .int 0, .int 0, .ref (ev 0 + 94), .ref (ev 0 + 95), .int 0, .ref (ev 0 + 96), .ref (ev 0 + 97), .ref (ev 0 + 98), .null, .null, .null, .null, .null, .int 0]), .inl (ev 1, 100, .inl (fun _ => 0)), .inl (ev 1, 100, .inl (fun _ => 0)), .inl (ev 1, 12, .inl (fun _ => 0)), .inl (ev 1, 12, .inl (fun _ => 0)), .inl (ev 1, 12, .inl (fun _ => 0)), .inl (ev 1, 8, .inl (lf lt47)), .inl (ev 1, 8, .inl (lf lt89)), .inl (ev 1, 6, .inl (fun _ => 0)), .inl (ev 1, 6, .inl (fun _ => 0)), .inl (ev 1, 6, .inl (fun _ => 0)), .inl (ev 1, 6, .inl (fun _ => 0)), .inl (ev 1, 6, .inl (fun _ => 0)), .inl (ev 1, 6, .inl (fun _ => 0)), .inl (ev 1, 20, .inl (fun _ => 0)), .inl (ev 1, 20, .inl (fun _ => 0)), .inl (ev 1, 160, .inl (fun _ => 0)), .inl (ev 1, 1200, .inl (fun _ => 0)), .inl (ev 1, 24, .inl (fun _ => 0)), .inl (ev 1, 6, .inl (fun _ => 0)), .inl (ev 1, 6, .inl (fun _ => 0)), .inl (ev 1, 20, .inl (fun _ => 0)), .inl (ev 1, 20, .inl (fun _ => 0)), .inl (ev 1, 4, .inl (lf lt252)), .inl (ev 1, 4, .inl (fun _ => 0)), .inl (ev 1, 160, .inl (fun _ => 0)), .inl (ev 1, 70, .inl (lf lt292)), .inl (ev 1, 96, .inl (lf lt714)), .inl (ev 1, 200, .inl (fun _ => 0)), .inl (ev 1, 200, .inl (fun _ => 0)), .inl (ev 1, 6, .inl (fun _ => 0)), .inl (ev 1, 12, .inl (fun _ => 0)), .inl (ev 1, 6, .inl (fun _ => 0)), .inl (ev 1, 6, .inl (fun _ => 0))])) rfl rfl ?_
  refine g_aload_n (i := 0) F dX10_init_1339 rfl rfl ?_
  refine g_bipush F dX10_init_1340 (v := 6) (by decide) ?_
  refine g_newiP F (N := 6) hn9 wd_2_6 (by decide) (by decide) (by decide) (Nat.le_of_ble_eq_true rfl) (Nat.le_of_ble_eq_true rfl) dX10_init_1342 ?_
  refine g_sw (st' := .ref (ev 0 + 99) :: .ref (ev 0 + 65) :: []) (ws' := (w9 ++ [.inr (10, [.ref (ev 0 + 66), .ref (ev 0 + 67), .ref (ev 0 + 68), .ref (ev 0 + 69), .ref (ev 0 + 70), .ref (ev 0 + 71), .ref (ev 0 + 72), .int 0, .int 0, .ref (ev 0 + 73), .ref (ev 0 + 74), .ref (ev 0 + 75), .ref (ev 0 + 76), .ref (ev 0 + 77), .ref (ev 0 + 78), .ref (ev 0 + 79), .ref (ev 0 + 80), .ref (ev 0 + 81), .int 0, .ref (ev 0 + 82), .ref (ev 0 + 83), .int 0, .int 0, .int 0, .int 0, .int 0, .int 0, .ref (ev 0 + 84), .ref (ev 0 + 85), .ref (ev 0 + 86), .ref (ev 0 + 87), .ref (ev 0 + 88), .ref (ev 0 + 89), .ref (ev 0 + 90), .ref (ev 0 + 91), .int 0, .int 0, .int 0, .int 0, .ref (ev 0 + 92), .ref (ev 0 + 93), .int 0, .int 0, .int 0, .ref (ev 0 + 94), .ref (ev 0 + 95), .int 0, .ref (ev 0 + 96), .ref (ev 0 + 97), .ref (ev 0 + 98), .null, .null, .null, .null, .null, .int 0]), .inl (ev 1, 100, .inl (fun _ => 0)), .inl (ev 1, 100, .inl (fun _ => 0)), .inl (ev 1, 12, .inl (fun _ => 0)), .inl (ev 1, 12, .inl (fun _ => 0)), .inl (ev 1, 12, .inl (fun _ => 0)), .inl (ev 1, 8, .inl (lf lt47)), .inl (ev 1, 8, .inl (lf lt89)), .inl (ev 1, 6, .inl (fun _ => 0)), .inl (ev 1, 6, .inl (fun _ => 0)), .inl (ev 1, 6, .inl (fun _ => 0)), .inl (ev 1, 6, .inl (fun _ => 0)), .inl (ev 1, 6, .inl (fun _ => 0)), .inl (ev 1, 6, .inl (fun _ => 0)), .inl (ev 1, 20, .inl (fun _ => 0)), .inl (ev 1, 20, .inl (fun _ => 0)), .inl (ev 1, 160, .inl (fun _ => 0)), .inl (ev 1, 1200, .inl (fun _ => 0)), .inl (ev 1, 24, .inl (fun _ => 0)), .inl (ev 1, 6, .inl (fun _ => 0)), .inl (ev 1, 6, .inl (fun _ => 0)), .inl (ev 1, 20, .inl (fun _ => 0)), .inl (ev 1, 20, .inl (fun _ => 0)), .inl (ev 1, 4, .inl (lf lt252)), .inl (ev 1, 4, .inl (fun _ => 0)), .inl (ev 1, 160, .inl (fun _ => 0)), .inl (ev 1, 70, .inl (lf lt292)), .inl (ev 1, 96, .inl (lf lt714)), .inl (ev 1, 200, .inl (fun _ => 0)), .inl (ev 1, 200, .inl (fun _ => 0)), .inl (ev 1, 6, .inl (fun _ => 0)), .inl (ev 1, 12, .inl (fun _ => 0)), .inl (ev 1, 6, .inl (fun _ => 0)), .inl (ev 1, 6, .inl (fun _ => 0)), .inl (ev 1, 6, .inl (fun _ => 0))])) rfl rfl ?_
  refine g_putFP F hn9 (j := 0) rfl hin9 (ty := tyX10 50) tyX10 tyX10_ok nmX10 rfl (ci := 10) rfl inlX10 (k := 50) (by decide) wd_12_23 rfl rfl rfl rfl rfl rfl (Nat.le_of_ble_eq_true rfl) dX10_init_1344 ?_
  refine g_sw (st' := []) (ws' := (w9 ++ [.inr (10, [.ref (ev 0 + 66), .ref (ev 0 + 67), .ref (ev 0 + 68), .ref (ev 0 + 69), .ref (ev 0 + 70), .ref (ev 0 + 71), .ref (ev 0 + 72), .int 0, .int 0, .ref (ev 0 + 73), .ref (ev 0 + 74), .ref (ev 0 + 75), .ref (ev 0 + 76), .ref (ev 0 + 77), .ref (ev 0 + 78), .ref (ev 0 + 79), .ref (ev 0 + 80), .ref (ev 0 + 81), .int 0, .ref (ev 0 + 82), .ref (ev 0 + 83), .int 0, .int 0, .int 0, .int 0, .int 0, .int 0, .ref (ev 0 + 84), .ref (ev 0 + 85), .ref (ev 0 + 86), .ref (ev 0 + 87), .ref (ev 0 + 88), .ref (ev 0 + 89), .ref (ev 0 + 90), .ref (ev 0 + 91), .int 0, .int 0, .int 0, .int 0, .ref (ev 0 + 92), .ref (ev 0 + 93), .int 0, .int 0, .int 0, .ref (ev 0 + 94), .ref (ev 0 + 95), .int 0, .ref (ev 0 + 96), .ref (ev 0 + 97), .ref (ev 0 + 98), .ref (ev 0 + 99), .null, .null, .null, .null, .int 0]), .inl (ev 1, 100, .inl (fun _ => 0)), .inl (ev 1, 100, .inl (fun _ => 0)), .inl (ev 1, 12, .inl (fun _ => 0)), .inl (ev 1, 12, .inl (fun _ => 0)), .inl (ev 1, 12, .inl (fun _ => 0)), .inl (ev 1, 8, .inl (lf lt47)), .inl (ev 1, 8, .inl (lf lt89)), .inl (ev 1, 6, .inl (fun _ => 0)), .inl (ev 1, 6, .inl (fun _ => 0)), .inl (ev 1, 6, .inl (fun _ => 0)), .inl (ev 1, 6, .inl (fun _ => 0)), .inl (ev 1, 6, .inl (fun _ => 0)), .inl (ev 1, 6, .inl (fun _ => 0)), .inl (ev 1, 20, .inl (fun _ => 0)), .inl (ev 1, 20, .inl (fun _ => 0)), .inl (ev 1, 160, .inl (fun _ => 0)), .inl (ev 1, 1200, .inl (fun _ => 0)), .inl (ev 1, 24, .inl (fun _ => 0)), .inl (ev 1, 6, .inl (fun _ => 0)), .inl (ev 1, 6, .inl (fun _ => 0)), .inl (ev 1, 20, .inl (fun _ => 0)), .inl (ev 1, 20, .inl (fun _ => 0)), .inl (ev 1, 4, .inl (lf lt252)), .inl (ev 1, 4, .inl (fun _ => 0)), .inl (ev 1, 160, .inl (fun _ => 0)), .inl (ev 1, 70, .inl (lf lt292)), .inl (ev 1, 96, .inl (lf lt714)), .inl (ev 1, 200, .inl (fun _ => 0)), .inl (ev 1, 200, .inl (fun _ => 0)), .inl (ev 1, 6, .inl (fun _ => 0)), .inl (ev 1, 12, .inl (fun _ => 0)), .inl (ev 1, 6, .inl (fun _ => 0)), .inl (ev 1, 6, .inl (fun _ => 0)), .inl (ev 1, 6, .inl (fun _ => 0))])) rfl rfl ?_
  refine g_aload_n (i := 0) F dX10_init_1347 rfl rfl ?_
  refine g_bipush F dX10_init_1348 (v := 72) (by decide) ?_
  refine g_newiP F (N := 72) hn9 wd_2_6 (by decide) (by decide) (by decide) (Nat.le_of_ble_eq_true rfl) (Nat.le_of_ble_eq_true rfl) dX10_init_1350 ?_
  refine g_sw (st' := .ref (ev 0 + 100) :: .ref (ev 0 + 65) :: []) (ws' := (w9 ++ [.inr (10, [.ref (ev 0 + 66), .ref (ev 0 + 67), .ref (ev 0 + 68), .ref (ev 0 + 69), .ref (ev 0 + 70), .ref (ev 0 + 71), .ref (ev 0 + 72), .int 0, .int 0, .ref (ev 0 + 73), .ref (ev 0 + 74), .ref (ev 0 + 75), .ref (ev 0 + 76), .ref (ev 0 + 77), .ref (ev 0 + 78), .ref (ev 0 + 79), .ref (ev 0 + 80), .ref (ev 0 + 81), .int 0, .ref (ev 0 + 82), .ref (ev 0 + 83), .int 0, .int 0, .int 0, .int 0, .int 0, .int 0, .ref (ev 0 + 84), .ref (ev 0 + 85), .ref (ev 0 + 86), .ref (ev 0 + 87), .ref (ev 0 + 88), .ref (ev 0 + 89), .ref (ev 0 + 90), .ref (ev 0 + 91), .int 0, .int 0, .int 0, .int 0, .ref (ev 0 + 92), .ref (ev 0 + 93), .int 0, .int 0, .int 0, .ref (ev 0 + 94), .ref (ev 0 + 95), .int 0, .ref (ev 0 + 96), .ref (ev 0 + 97), .ref (ev 0 + 98), .ref (ev 0 + 99), .null, .null, .null, .null, .int 0]), .inl (ev 1, 100, .inl (fun _ => 0)), .inl (ev 1, 100, .inl (fun _ => 0)), .inl (ev 1, 12, .inl (fun _ => 0)), .inl (ev 1, 12, .inl (fun _ => 0)), .inl (ev 1, 12, .inl (fun _ => 0)), .inl (ev 1, 8, .inl (lf lt47)), .inl (ev 1, 8, .inl (lf lt89)), .inl (ev 1, 6, .inl (fun _ => 0)), .inl (ev 1, 6, .inl (fun _ => 0)), .inl (ev 1, 6, .inl (fun _ => 0)), .inl (ev 1, 6, .inl (fun _ => 0)), .inl (ev 1, 6, .inl (fun _ => 0)), .inl (ev 1, 6, .inl (fun _ => 0)), .inl (ev 1, 20, .inl (fun _ => 0)), .inl (ev 1, 20, .inl (fun _ => 0)), .inl (ev 1, 160, .inl (fun _ => 0)), .inl (ev 1, 1200, .inl (fun _ => 0)), .inl (ev 1, 24, .inl (fun _ => 0)), .inl (ev 1, 6, .inl (fun _ => 0)), .inl (ev 1, 6, .inl (fun _ => 0)), .inl (ev 1, 20, .inl (fun _ => 0)), .inl (ev 1, 20, .inl (fun _ => 0)), .inl (ev 1, 4, .inl (lf lt252)), .inl (ev 1, 4, .inl (fun _ => 0)), .inl (ev 1, 160, .inl (fun _ => 0)), .inl (ev 1, 70, .inl (lf lt292)), .inl (ev 1, 96, .inl (lf lt714)), .inl (ev 1, 200, .inl (fun _ => 0)), .inl (ev 1, 200, .inl (fun _ => 0)), .inl (ev 1, 6, .inl (fun _ => 0)), .inl (ev 1, 12, .inl (fun _ => 0)), .inl (ev 1, 6, .inl (fun _ => 0)), .inl (ev 1, 6, .inl (fun _ => 0)), .inl (ev 1, 6, .inl (fun _ => 0)), .inl (ev 1, 72, .inl (fun _ => 0))])) rfl rfl ?_
  refine g_putFP F hn9 (j := 0) rfl hin9 (ty := tyX10 51) tyX10 tyX10_ok nmX10 rfl (ci := 10) rfl inlX10 (k := 51) (by decide) wd_13_0 rfl rfl rfl rfl rfl rfl (Nat.le_of_ble_eq_true rfl) dX10_init_1352 ?_
  refine g_sw (st' := []) (ws' := (w9 ++ [.inr (10, [.ref (ev 0 + 66), .ref (ev 0 + 67), .ref (ev 0 + 68), .ref (ev 0 + 69), .ref (ev 0 + 70), .ref (ev 0 + 71), .ref (ev 0 + 72), .int 0, .int 0, .ref (ev 0 + 73), .ref (ev 0 + 74), .ref (ev 0 + 75), .ref (ev 0 + 76), .ref (ev 0 + 77), .ref (ev 0 + 78), .ref (ev 0 + 79), .ref (ev 0 + 80), .ref (ev 0 + 81), .int 0, .ref (ev 0 + 82), .ref (ev 0 + 83), .int 0, .int 0, .int 0, .int 0, .int 0, .int 0, .ref (ev 0 + 84), .ref (ev 0 + 85), .ref (ev 0 + 86), .ref (ev 0 + 87), .ref (ev 0 + 88), .ref (ev 0 + 89), .ref (ev 0 + 90), .ref (ev 0 + 91), .int 0, .int 0, .int 0, .int 0, .ref (ev 0 + 92), .ref (ev 0 + 93), .int 0, .int 0, .int 0, .ref (ev 0 + 94), .ref (ev 0 + 95), .int 0, .ref (ev 0 + 96), .ref (ev 0 + 97), .ref (ev 0 + 98), .ref (ev 0 + 99), .ref (ev 0 + 100), .null, .null, .null, .int 0]), .inl (ev 1, 100, .inl (fun _ => 0)), .inl (ev 1, 100, .inl (fun _ => 0)), .inl (ev 1, 12, .inl (fun _ => 0)), .inl (ev 1, 12, .inl (fun _ => 0)), .inl (ev 1, 12, .inl (fun _ => 0)), .inl (ev 1, 8, .inl (lf lt47)), .inl (ev 1, 8, .inl (lf lt89)), .inl (ev 1, 6, .inl (fun _ => 0)), .inl (ev 1, 6, .inl (fun _ => 0)), .inl (ev 1, 6, .inl (fun _ => 0)), .inl (ev 1, 6, .inl (fun _ => 0)), .inl (ev 1, 6, .inl (fun _ => 0)), .inl (ev 1, 6, .inl (fun _ => 0)), .inl (ev 1, 20, .inl (fun _ => 0)), .inl (ev 1, 20, .inl (fun _ => 0)), .inl (ev 1, 160, .inl (fun _ => 0)), .inl (ev 1, 1200, .inl (fun _ => 0)), .inl (ev 1, 24, .inl (fun _ => 0)), .inl (ev 1, 6, .inl (fun _ => 0)), .inl (ev 1, 6, .inl (fun _ => 0)), .inl (ev 1, 20, .inl (fun _ => 0)), .inl (ev 1, 20, .inl (fun _ => 0)), .inl (ev 1, 4, .inl (lf lt252)), .inl (ev 1, 4, .inl (fun _ => 0)), .inl (ev 1, 160, .inl (fun _ => 0)), .inl (ev 1, 70, .inl (lf lt292)), .inl (ev 1, 96, .inl (lf lt714)), .inl (ev 1, 200, .inl (fun _ => 0)), .inl (ev 1, 200, .inl (fun _ => 0)), .inl (ev 1, 6, .inl (fun _ => 0)), .inl (ev 1, 12, .inl (fun _ => 0)), .inl (ev 1, 6, .inl (fun _ => 0)), .inl (ev 1, 6, .inl (fun _ => 0)), .inl (ev 1, 6, .inl (fun _ => 0)), .inl (ev 1, 72, .inl (fun _ => 0))])) rfl rfl ?_
  refine g_aload_n (i := 0) F dX10_init_1355 rfl rfl ?_
  refine g_sipush F dX10_init_1356 (v := 180) (by decide) ?_
  refine g_newiP F (N := 180) hn9 wd_2_6 (by decide) (by decide) (by decide) (Nat.le_of_ble_eq_true rfl) (Nat.le_of_ble_eq_true rfl) dX10_init_1359 ?_
  refine g_sw (st' := .ref (ev 0 + 101) :: .ref (ev 0 + 65) :: []) (ws' := (w9 ++ [.inr (10, [.ref (ev 0 + 66), .ref (ev 0 + 67), .ref (ev 0 + 68), .ref (ev 0 + 69), .ref (ev 0 + 70), .ref (ev 0 + 71), .ref (ev 0 + 72), .int 0, .int 0, .ref (ev 0 + 73), .ref (ev 0 + 74), .ref (ev 0 + 75), .ref (ev 0 + 76), .ref (ev 0 + 77), .ref (ev 0 + 78), .ref (ev 0 + 79), .ref (ev 0 + 80), .ref (ev 0 + 81), .int 0, .ref (ev 0 + 82), .ref (ev 0 + 83), .int 0, .int 0, .int 0, .int 0, .int 0, .int 0, .ref (ev 0 + 84), .ref (ev 0 + 85), .ref (ev 0 + 86), .ref (ev 0 + 87), .ref (ev 0 + 88), .ref (ev 0 + 89), .ref (ev 0 + 90), .ref (ev 0 + 91), .int 0, .int 0, .int 0, .int 0, .ref (ev 0 + 92), .ref (ev 0 + 93), .int 0, .int 0, .int 0, .ref (ev 0 + 94), .ref (ev 0 + 95), .int 0, .ref (ev 0 + 96), .ref (ev 0 + 97), .ref (ev 0 + 98), .ref (ev 0 + 99), .ref (ev 0 + 100), .null, .null, .null, .int 0]), .inl (ev 1, 100, .inl (fun _ => 0)), .inl (ev 1, 100, .inl (fun _ => 0)), .inl (ev 1, 12, .inl (fun _ => 0)), .inl (ev 1, 12, .inl (fun _ => 0)), .inl (ev 1, 12, .inl (fun _ => 0)), .inl (ev 1, 8, .inl (lf lt47)), .inl (ev 1, 8, .inl (lf lt89)), .inl (ev 1, 6, .inl (fun _ => 0)), .inl (ev 1, 6, .inl (fun _ => 0)), .inl (ev 1, 6, .inl (fun _ => 0)), .inl (ev 1, 6, .inl (fun _ => 0)), .inl (ev 1, 6, .inl (fun _ => 0)), .inl (ev 1, 6, .inl (fun _ => 0)), .inl (ev 1, 20, .inl (fun _ => 0)), .inl (ev 1, 20, .inl (fun _ => 0)), .inl (ev 1, 160, .inl (fun _ => 0)), .inl (ev 1, 1200, .inl (fun _ => 0)), .inl (ev 1, 24, .inl (fun _ => 0)), .inl (ev 1, 6, .inl (fun _ => 0)), .inl (ev 1, 6, .inl (fun _ => 0)), .inl (ev 1, 20, .inl (fun _ => 0)), .inl (ev 1, 20, .inl (fun _ => 0)), .inl (ev 1, 4, .inl (lf lt252)), .inl (ev 1, 4, .inl (fun _ => 0)), .inl (ev 1, 160, .inl (fun _ => 0)), .inl (ev 1, 70, .inl (lf lt292)), .inl (ev 1, 96, .inl (lf lt714)), .inl (ev 1, 200, .inl (fun _ => 0)), .inl (ev 1, 200, .inl (fun _ => 0)), .inl (ev 1, 6, .inl (fun _ => 0)), .inl (ev 1, 12, .inl (fun _ => 0)), .inl (ev 1, 6, .inl (fun _ => 0)), .inl (ev 1, 6, .inl (fun _ => 0)), .inl (ev 1, 6, .inl (fun _ => 0)), .inl (ev 1, 72, .inl (fun _ => 0)), .inl (ev 1, 180, .inl (fun _ => 0))])) rfl rfl ?_
  refine g_putFP F hn9 (j := 0) rfl hin9 (ty := tyX10 52) tyX10 tyX10_ok nmX10 rfl (ci := 10) rfl inlX10 (k := 52) (by decide) wd_13_1 rfl rfl rfl rfl rfl rfl (Nat.le_of_ble_eq_true rfl) dX10_init_1361 ?_
  refine g_sw (st' := []) (ws' := (w9 ++ [.inr (10, [.ref (ev 0 + 66), .ref (ev 0 + 67), .ref (ev 0 + 68), .ref (ev 0 + 69), .ref (ev 0 + 70), .ref (ev 0 + 71), .ref (ev 0 + 72), .int 0, .int 0, .ref (ev 0 + 73), .ref (ev 0 + 74), .ref (ev 0 + 75), .ref (ev 0 + 76), .ref (ev 0 + 77), .ref (ev 0 + 78), .ref (ev 0 + 79), .ref (ev 0 + 80), .ref (ev 0 + 81), .int 0, .ref (ev 0 + 82), .ref (ev 0 + 83), .int 0, .int 0, .int 0, .int 0, .int 0, .int 0, .ref (ev 0 + 84), .ref (ev 0 + 85), .ref (ev 0 + 86), .ref (ev 0 + 87), .ref (ev 0 + 88), .ref (ev 0 + 89), .ref (ev 0 + 90), .ref (ev 0 + 91), .int 0, .int 0, .int 0, .int 0, .ref (ev 0 + 92), .ref (ev 0 + 93), .int 0, .int 0, .int 0, .ref (ev 0 + 94), .ref (ev 0 + 95), .int 0, .ref (ev 0 + 96), .ref (ev 0 + 97), .ref (ev 0 + 98), .ref (ev 0 + 99), .ref (ev 0 + 100), .ref (ev 0 + 101), .null, .null, .int 0]), .inl (ev 1, 100, .inl (fun _ => 0)), .inl (ev 1, 100, .inl (fun _ => 0)), .inl (ev 1, 12, .inl (fun _ => 0)), .inl (ev 1, 12, .inl (fun _ => 0)), .inl (ev 1, 12, .inl (fun _ => 0)), .inl (ev 1, 8, .inl (lf lt47)), .inl (ev 1, 8, .inl (lf lt89)), .inl (ev 1, 6, .inl (fun _ => 0)), .inl (ev 1, 6, .inl (fun _ => 0)), .inl (ev 1, 6, .inl (fun _ => 0)), .inl (ev 1, 6, .inl (fun _ => 0)), .inl (ev 1, 6, .inl (fun _ => 0)), .inl (ev 1, 6, .inl (fun _ => 0)), .inl (ev 1, 20, .inl (fun _ => 0)), .inl (ev 1, 20, .inl (fun _ => 0)), .inl (ev 1, 160, .inl (fun _ => 0)), .inl (ev 1, 1200, .inl (fun _ => 0)), .inl (ev 1, 24, .inl (fun _ => 0)), .inl (ev 1, 6, .inl (fun _ => 0)), .inl (ev 1, 6, .inl (fun _ => 0)), .inl (ev 1, 20, .inl (fun _ => 0)), .inl (ev 1, 20, .inl (fun _ => 0)), .inl (ev 1, 4, .inl (lf lt252)), .inl (ev 1, 4, .inl (fun _ => 0)), .inl (ev 1, 160, .inl (fun _ => 0)), .inl (ev 1, 70, .inl (lf lt292)), .inl (ev 1, 96, .inl (lf lt714)), .inl (ev 1, 200, .inl (fun _ => 0)), .inl (ev 1, 200, .inl (fun _ => 0)), .inl (ev 1, 6, .inl (fun _ => 0)), .inl (ev 1, 12, .inl (fun _ => 0)), .inl (ev 1, 6, .inl (fun _ => 0)), .inl (ev 1, 6, .inl (fun _ => 0)), .inl (ev 1, 6, .inl (fun _ => 0)), .inl (ev 1, 72, .inl (fun _ => 0)), .inl (ev 1, 180, .inl (fun _ => 0))])) rfl rfl ?_
  refine g_aload_n (i := 0) F dX10_init_1364 rfl rfl ?_
  refine g_sipush F dX10_init_1365 (v := 180) (by decide) ?_
  refine g_newiP F (N := 180) hn9 wd_2_6 (by decide) (by decide) (by decide) (Nat.le_of_ble_eq_true rfl) (Nat.le_of_ble_eq_true rfl) dX10_init_1368 ?_
  refine g_sw (st' := .ref (ev 0 + 102) :: .ref (ev 0 + 65) :: []) (ws' := (w9 ++ [.inr (10, [.ref (ev 0 + 66), .ref (ev 0 + 67), .ref (ev 0 + 68), .ref (ev 0 + 69), .ref (ev 0 + 70), .ref (ev 0 + 71), .ref (ev 0 + 72), .int 0, .int 0, .ref (ev 0 + 73), .ref (ev 0 + 74), .ref (ev 0 + 75), .ref (ev 0 + 76), .ref (ev 0 + 77), .ref (ev 0 + 78), .ref (ev 0 + 79), .ref (ev 0 + 80), .ref (ev 0 + 81), .int 0, .ref (ev 0 + 82), .ref (ev 0 + 83), .int 0, .int 0, .int 0, .int 0, .int 0, .int 0, .ref (ev 0 + 84), .ref (ev 0 + 85), .ref (ev 0 + 86), .ref (ev 0 + 87), .ref (ev 0 + 88), .ref (ev 0 + 89), .ref (ev 0 + 90), .ref (ev 0 + 91), .int 0, .int 0, .int 0, .int 0, .ref (ev 0 + 92), .ref (ev 0 + 93), .int 0, .int 0, .int 0, .ref (ev 0 + 94), .ref (ev 0 + 95), .int 0, .ref (ev 0 + 96), .ref (ev 0 + 97), .ref (ev 0 + 98), .ref (ev 0 + 99), .ref (ev 0 + 100), .ref (ev 0 + 101), .null, .null, .int 0]), .inl (ev 1, 100, .inl (fun _ => 0)), .inl (ev 1, 100, .inl (fun _ => 0)), .inl (ev 1, 12, .inl (fun _ => 0)), .inl (ev 1, 12, .inl (fun _ => 0)), .inl (ev 1, 12, .inl (fun _ => 0)), .inl (ev 1, 8, .inl (lf lt47)), .inl (ev 1, 8, .inl (lf lt89)), .inl (ev 1, 6, .inl (fun _ => 0)), .inl (ev 1, 6, .inl (fun _ => 0)), .inl (ev 1, 6, .inl (fun _ => 0)), .inl (ev 1, 6, .inl (fun _ => 0)), .inl (ev 1, 6, .inl (fun _ => 0)), .inl (ev 1, 6, .inl (fun _ => 0)), .inl (ev 1, 20, .inl (fun _ => 0)), .inl (ev 1, 20, .inl (fun _ => 0)), .inl (ev 1, 160, .inl (fun _ => 0)), .inl (ev 1, 1200, .inl (fun _ => 0)), .inl (ev 1, 24, .inl (fun _ => 0)), .inl (ev 1, 6, .inl (fun _ => 0)), .inl (ev 1, 6, .inl (fun _ => 0)), .inl (ev 1, 20, .inl (fun _ => 0)), .inl (ev 1, 20, .inl (fun _ => 0)), .inl (ev 1, 4, .inl (lf lt252)), .inl (ev 1, 4, .inl (fun _ => 0)), .inl (ev 1, 160, .inl (fun _ => 0)), .inl (ev 1, 70, .inl (lf lt292)), .inl (ev 1, 96, .inl (lf lt714)), .inl (ev 1, 200, .inl (fun _ => 0)), .inl (ev 1, 200, .inl (fun _ => 0)), .inl (ev 1, 6, .inl (fun _ => 0)), .inl (ev 1, 12, .inl (fun _ => 0)), .inl (ev 1, 6, .inl (fun _ => 0)), .inl (ev 1, 6, .inl (fun _ => 0)), .inl (ev 1, 6, .inl (fun _ => 0)), .inl (ev 1, 72, .inl (fun _ => 0)), .inl (ev 1, 180, .inl (fun _ => 0)), .inl (ev 1, 180, .inl (fun _ => 0))])) rfl rfl ?_
  refine g_putFP F hn9 (j := 0) rfl hin9 (ty := tyX10 53) tyX10 tyX10_ok nmX10 rfl (ci := 10) rfl inlX10 (k := 53) (by decide) wd_13_2 rfl rfl rfl rfl rfl rfl (Nat.le_of_ble_eq_true rfl) dX10_init_1370 ?_
  refine g_sw (st' := []) (ws' := (w9 ++ [.inr (10, [.ref (ev 0 + 66), .ref (ev 0 + 67), .ref (ev 0 + 68), .ref (ev 0 + 69), .ref (ev 0 + 70), .ref (ev 0 + 71), .ref (ev 0 + 72), .int 0, .int 0, .ref (ev 0 + 73), .ref (ev 0 + 74), .ref (ev 0 + 75), .ref (ev 0 + 76), .ref (ev 0 + 77), .ref (ev 0 + 78), .ref (ev 0 + 79), .ref (ev 0 + 80), .ref (ev 0 + 81), .int 0, .ref (ev 0 + 82), .ref (ev 0 + 83), .int 0, .int 0, .int 0, .int 0, .int 0, .int 0, .ref (ev 0 + 84), .ref (ev 0 + 85), .ref (ev 0 + 86), .ref (ev 0 + 87), .ref (ev 0 + 88), .ref (ev 0 + 89), .ref (ev 0 + 90), .ref (ev 0 + 91), .int 0, .int 0, .int 0, .int 0, .ref (ev 0 + 92), .ref (ev 0 + 93), .int 0, .int 0, .int 0, .ref (ev 0 + 94), .ref (ev 0 + 95), .int 0, .ref (ev 0 + 96), .ref (ev 0 + 97), .ref (ev 0 + 98), .ref (ev 0 + 99), .ref (ev 0 + 100), .ref (ev 0 + 101), .ref (ev 0 + 102), .null, .int 0]), .inl (ev 1, 100, .inl (fun _ => 0)), .inl (ev 1, 100, .inl (fun _ => 0)), .inl (ev 1, 12, .inl (fun _ => 0)), .inl (ev 1, 12, .inl (fun _ => 0)), .inl (ev 1, 12, .inl (fun _ => 0)), .inl (ev 1, 8, .inl (lf lt47)), .inl (ev 1, 8, .inl (lf lt89)), .inl (ev 1, 6, .inl (fun _ => 0)), .inl (ev 1, 6, .inl (fun _ => 0)), .inl (ev 1, 6, .inl (fun _ => 0)), .inl (ev 1, 6, .inl (fun _ => 0)), .inl (ev 1, 6, .inl (fun _ => 0)), .inl (ev 1, 6, .inl (fun _ => 0)), .inl (ev 1, 20, .inl (fun _ => 0)), .inl (ev 1, 20, .inl (fun _ => 0)), .inl (ev 1, 160, .inl (fun _ => 0)), .inl (ev 1, 1200, .inl (fun _ => 0)), .inl (ev 1, 24, .inl (fun _ => 0)), .inl (ev 1, 6, .inl (fun _ => 0)), .inl (ev 1, 6, .inl (fun _ => 0)), .inl (ev 1, 20, .inl (fun _ => 0)), .inl (ev 1, 20, .inl (fun _ => 0)), .inl (ev 1, 4, .inl (lf lt252)), .inl (ev 1, 4, .inl (fun _ => 0)), .inl (ev 1, 160, .inl (fun _ => 0)), .inl (ev 1, 70, .inl (lf lt292)), .inl (ev 1, 96, .inl (lf lt714)), .inl (ev 1, 200, .inl (fun _ => 0)), .inl (ev 1, 200, .inl (fun _ => 0)), .inl (ev 1, 6, .inl (fun _ => 0)), .inl (ev 1, 12, .inl (fun _ => 0)), .inl (ev 1, 6, .inl (fun _ => 0)), .inl (ev 1, 6, .inl (fun _ => 0)), .inl (ev 1, 6, .inl (fun _ => 0)), .inl (ev 1, 72, .inl (fun _ => 0)), .inl (ev 1, 180, .inl (fun _ => 0)), .inl (ev 1, 180, .inl (fun _ => 0))])) rfl rfl ?_
  refine g_aload_n (i := 0) F dX10_init_1373 rfl rfl ?_
  refine g_sipush F dX10_init_1374 (v := 180) (by decide) ?_
  refine g_newiP F (N := 180) hn9 wd_2_6 (by decide) (by decide) (by decide) (Nat.le_of_ble_eq_true rfl) (Nat.le_of_ble_eq_true rfl) dX10_init_1377 ?_
  refine g_sw (st' := .ref (ev 0 + 103) :: .ref (ev 0 + 65) :: []) (ws' := (w9 ++ [.inr (10, [.ref (ev 0 + 66), .ref (ev 0 + 67), .ref (ev 0 + 68), .ref (ev 0 + 69), .ref (ev 0 + 70), .ref (ev 0 + 71), .ref (ev 0 + 72), .int 0, .int 0, .ref (ev 0 + 73), .ref (ev 0 + 74), .ref (ev 0 + 75), .ref (ev 0 + 76), .ref (ev 0 + 77), .ref (ev 0 + 78), .ref (ev 0 + 79), .ref (ev 0 + 80), .ref (ev 0 + 81), .int 0, .ref (ev 0 + 82), .ref (ev 0 + 83), .int 0, .int 0, .int 0, .int 0, .int 0, .int 0, .ref (ev 0 + 84), .ref (ev 0 + 85), .ref (ev 0 + 86), .ref (ev 0 + 87), .ref (ev 0 + 88), .ref (ev 0 + 89), .ref (ev 0 + 90), .ref (ev 0 + 91), .int 0, .int 0, .int 0, .int 0, .ref (ev 0 + 92), .ref (ev 0 + 93), .int 0, .int 0, .int 0, .ref (ev 0 + 94), .ref (ev 0 + 95), .int 0, .ref (ev 0 + 96), .ref (ev 0 + 97), .ref (ev 0 + 98), .ref (ev 0 + 99), .ref (ev 0 + 100), .ref (ev 0 + 101), .ref (ev 0 + 102), .null, .int 0]), .inl (ev 1, 100, .inl (fun _ => 0)), .inl (ev 1, 100, .inl (fun _ => 0)), .inl (ev 1, 12, .inl (fun _ => 0)), .inl (ev 1, 12, .inl (fun _ => 0)), .inl (ev 1, 12, .inl (fun _ => 0)), .inl (ev 1, 8, .inl (lf lt47)), .inl (ev 1, 8, .inl (lf lt89)), .inl (ev 1, 6, .inl (fun _ => 0)), .inl (ev 1, 6, .inl (fun _ => 0)), .inl (ev 1, 6, .inl (fun _ => 0)), .inl (ev 1, 6, .inl (fun _ => 0)), .inl (ev 1, 6, .inl (fun _ => 0)), .inl (ev 1, 6, .inl (fun _ => 0)), .inl (ev 1, 20, .inl (fun _ => 0)), .inl (ev 1, 20, .inl (fun _ => 0)), .inl (ev 1, 160, .inl (fun _ => 0)), .inl (ev 1, 1200, .inl (fun _ => 0)), .inl (ev 1, 24, .inl (fun _ => 0)), .inl (ev 1, 6, .inl (fun _ => 0)), .inl (ev 1, 6, .inl (fun _ => 0)), .inl (ev 1, 20, .inl (fun _ => 0)), .inl (ev 1, 20, .inl (fun _ => 0)), .inl (ev 1, 4, .inl (lf lt252)), .inl (ev 1, 4, .inl (fun _ => 0)), .inl (ev 1, 160, .inl (fun _ => 0)), .inl (ev 1, 70, .inl (lf lt292)), .inl (ev 1, 96, .inl (lf lt714)), .inl (ev 1, 200, .inl (fun _ => 0)), .inl (ev 1, 200, .inl (fun _ => 0)), .inl (ev 1, 6, .inl (fun _ => 0)), .inl (ev 1, 12, .inl (fun _ => 0)), .inl (ev 1, 6, .inl (fun _ => 0)), .inl (ev 1, 6, .inl (fun _ => 0)), .inl (ev 1, 6, .inl (fun _ => 0)), .inl (ev 1, 72, .inl (fun _ => 0)), .inl (ev 1, 180, .inl (fun _ => 0)), .inl (ev 1, 180, .inl (fun _ => 0)), .inl (ev 1, 180, .inl (fun _ => 0))])) rfl rfl ?_
  refine g_putFP F hn9 (j := 0) rfl hin9 (ty := tyX10 54) tyX10 tyX10_ok nmX10 rfl (ci := 10) rfl inlX10 (k := 54) (by decide) wd_13_3 rfl rfl rfl rfl rfl rfl (Nat.le_of_ble_eq_true rfl) dX10_init_1379 ?_
  refine g_sw (st' := []) (ws' := (w9 ++ [.inr (10, [.ref (ev 0 + 66), .ref (ev 0 + 67), .ref (ev 0 + 68), .ref (ev 0 + 69), .ref (ev 0 + 70), .ref (ev 0 + 71), .ref (ev 0 + 72), .int 0, .int 0, .ref (ev 0 + 73), .ref (ev 0 + 74), .ref (ev 0 + 75), .ref (ev 0 + 76), .ref (ev 0 + 77), .ref (ev 0 + 78), .ref (ev 0 + 79), .ref (ev 0 + 80), .ref (ev 0 + 81), .int 0, .ref (ev 0 + 82), .ref (ev 0 + 83), .int 0, .int 0, .int 0, .int 0, .int 0, .int 0, .ref (ev 0 + 84), .ref (ev 0 + 85), .ref (ev 0 + 86), .ref (ev 0 + 87), .ref (ev 0 + 88), .ref (ev 0 + 89), .ref (ev 0 + 90), .ref (ev 0 + 91), .int 0, .int 0, .int 0, .int 0, .ref (ev 0 + 92), .ref (ev 0 + 93), .int 0, .int 0, .int 0, .ref (ev 0 + 94), .ref (ev 0 + 95), .int 0, .ref (ev 0 + 96), .ref (ev 0 + 97), .ref (ev 0 + 98), .ref (ev 0 + 99), .ref (ev 0 + 100), .ref (ev 0 + 101), .ref (ev 0 + 102), .ref (ev 0 + 103), .int 0]), .inl (ev 1, 100, .inl (fun _ => 0)), .inl (ev 1, 100, .inl (fun _ => 0)), .inl (ev 1, 12, .inl (fun _ => 0)), .inl (ev 1, 12, .inl (fun _ => 0)), .inl (ev 1, 12, .inl (fun _ => 0)), .inl (ev 1, 8, .inl (lf lt47)), .inl (ev 1, 8, .inl (lf lt89)), .inl (ev 1, 6, .inl (fun _ => 0)), .inl (ev 1, 6, .inl (fun _ => 0)), .inl (ev 1, 6, .inl (fun _ => 0)), .inl (ev 1, 6, .inl (fun _ => 0)), .inl (ev 1, 6, .inl (fun _ => 0)), .inl (ev 1, 6, .inl (fun _ => 0)), .inl (ev 1, 20, .inl (fun _ => 0)), .inl (ev 1, 20, .inl (fun _ => 0)), .inl (ev 1, 160, .inl (fun _ => 0)), .inl (ev 1, 1200, .inl (fun _ => 0)), .inl (ev 1, 24, .inl (fun _ => 0)), .inl (ev 1, 6, .inl (fun _ => 0)), .inl (ev 1, 6, .inl (fun _ => 0)), .inl (ev 1, 20, .inl (fun _ => 0)), .inl (ev 1, 20, .inl (fun _ => 0)), .inl (ev 1, 4, .inl (lf lt252)), .inl (ev 1, 4, .inl (fun _ => 0)), .inl (ev 1, 160, .inl (fun _ => 0)), .inl (ev 1, 70, .inl (lf lt292)), .inl (ev 1, 96, .inl (lf lt714)), .inl (ev 1, 200, .inl (fun _ => 0)), .inl (ev 1, 200, .inl (fun _ => 0)), .inl (ev 1, 6, .inl (fun _ => 0)), .inl (ev 1, 12, .inl (fun _ => 0)), .inl (ev 1, 6, .inl (fun _ => 0)), .inl (ev 1, 6, .inl (fun _ => 0)), .inl (ev 1, 6, .inl (fun _ => 0)), .inl (ev 1, 72, .inl (fun _ => 0)), .inl (ev 1, 180, .inl (fun _ => 0)), .inl (ev 1, 180, .inl (fun _ => 0)), .inl (ev 1, 180, .inl (fun _ => 0))])) rfl rfl ?_
  refine g_wd (cells' := 38) (slots' := 3146) (Nat.le_of_ble_eq_true rfl) (Nat.le_of_ble_eq_true rfl) ?_
  refine g_eqL (ws' := (List.range' 65 39).map (xcell ev X mw0)) mw0_eq ?_
  refine g_sw (st' := []) (ws' := cells ev X mw0 (0 + 1)) rfl (by rw [← hw9]; exact cells_split) ?_
  refine g_lv (lv' := [(0, .ref (ev 0 + 65))]) ⟨rfl, trivial⟩ ?_
  rw [fX10_init_t] at h
  refine g_iconst F dX10_init_1382 (v := 0) (by decide) ?_
  refine g_istore_n (i := 1) (lv' := [(1, .int (0 : Int32)), (0, .ref (ev 0 + 65))]) F dX10_init_1383 rfl (by decide) rfl ?_
  refine g_lv (lv' := [(0, .ref (ev 0 + 65)), (1, .int (0 : Int32))]) ⟨rfl, rfl, trivial⟩ ?_
  exact L1384 FU _ _ h

/-! raw worlds behind a prefix -/
theorem ap_at {α : Type} {w L : List α} {n : Nat} (hn : w.length = n) (j : Nat) : (w ++ L)[n + j]? = L[j]? := by
  subst hn
  rw [List.getElem?_append_right (Nat.le_add_right _ _), Nat.add_sub_cancel_left]
theorem ap_set {α : Type} {w L : List α} {n : Nat} (hn : w.length = n) (j : Nat) (e : α) : (w ++ L).set (n + j) e = w ++ L.set j e := by
  subst hn
  rw [List.set_append_right _ _ (Nat.le_add_right _ _), Nat.add_sub_cancel_left]
theorem ap_len {α : Type} {w L : List α} {n : Nat} (hn : w.length = n) : (w ++ L).length = n + L.length := by rw [List.length_append, hn]
section G20
variable {p : Program} {l : Launch} {e : Env} {R : Room} {s : State} {m : MethodId} {args : Array Value} {below : List Frame} {meth : Method} {c : Code} {Q : State → Prop} {s0 : State} {D : va_G} {ev : Nat → Nat} {nL cls slots pc : Nat} {lv lv' : List (Nat × Value)} {st st' : List Value} {cc : ByteArray} {own : String} {ws ws' w L : List va_E} {n : Nat}
theorem g_sw (hs : st = st') (hw : ws = ws') (k : GJ p l e R s m args below meth c Q s0 D ev nL cls slots pc lv st' ws') : GJ p l e R s m args below meth c Q s0 D ev nL cls slots pc lv st ws := by
  subst hs hw
  exact k
theorem g_putFP (F : Fx p s m args c s0 D ev cc nL own) (hn : w.length = n) {j id ci k N idx : Nat} {fs : List Value} {v : Value} {C ref : String} {T : u_T} {ty : FieldType} (hjd : id = n + j) (hini : meth.name = "<init>") (ty0 : Nat → FieldType) (hty : ∀ k, k < N → parseFieldDescriptor (T k).2.2.1 = some (ty0 k)) (hnm : ∀ a, a < N → ∀ b, b < N → a ≠ b → (T a).2.1 ≠ (T b).2.1) (hid : L[j]? = some (.inr (ci, fs))) (hc : vwCl[ci]? = some (C, T, N)) (hin : ∀ w ∈ u_ws C T N, w ∈ wsL_law) (hkN : k < N) (hw : Cond.fieldLink own idx ref (T k).2.1 (T k).2.2.1 ∈ wsL_law) (href : (T k).1 = ref) (hfin : (T k).2.2.2 = true) (hdecl : (T k).1 = own) (hd0 : parseFieldDescriptor (T k).2.2.1 = some ty) (hna : narrow ty v = v) (hfit : fits ty v = true) (hlen : k < fs.length) (hd : decode cc pc = .ok (.putfield idx, 3)) (k9 : GJ p l e R s m args below meth c Q s0 D ev nL cls slots (pc + 3) lv st (w ++ L.set j (.inr (ci, fs.set k v)))) : GJ p l e R s m args below meth c Q s0 D ev nL cls slots pc lv (v :: .ref (ev 0 + id) :: st) (w ++ L) := by
  subst hjd
  refine g_putF F hini ty0 hty hnm ((ap_at hn j).trans hid) hc hin hkN hw href hfin hdecl hd0 hna hfit hlen hd ?_
  rw [ap_set hn]
  exact k9
theorem g_putfP (F : Fx p s m args c s0 D ev cc nL own) (hn : w.length = n) {j id ci k N idx : Nat} {fs : List Value} {v : Value} {C ref : String} {T : u_T} {ty : FieldType} (hjd : id = n + j) (ty0 : Nat → FieldType) (hty : ∀ k, k < N → parseFieldDescriptor (T k).2.2.1 = some (ty0 k)) (hnm : ∀ a, a < N → ∀ b, b < N → a ≠ b → (T a).2.1 ≠ (T b).2.1) (hid : L[j]? = some (.inr (ci, fs))) (hc : vwCl[ci]? = some (C, T, N)) (hin : ∀ w ∈ u_ws C T N, w ∈ wsL_law) (hkN : k < N) (hw : Cond.fieldLink own idx ref (T k).2.1 (T k).2.2.1 ∈ wsL_law) (href : (T k).1 = ref) (hfin : (T k).2.2.2 = false) (hd0 : parseFieldDescriptor (T k).2.2.1 = some ty) (hna : narrow ty v = v) (hfit : fits ty v = true) (hlen : k < fs.length) (hd : decode cc pc = .ok (.putfield idx, 3)) (k9 : GJ p l e R s m args below meth c Q s0 D ev nL cls slots (pc + 3) lv st (w ++ L.set j (.inr (ci, fs.set k v)))) : GJ p l e R s m args below meth c Q s0 D ev nL cls slots pc lv (v :: .ref (ev 0 + id) :: st) (w ++ L) := by
  subst hjd
  refine g_putf F ty0 hty hnm ((ap_at hn j).trans hid) hc hin hkN hw href hfin hd0 hna hfit hlen hd ?_
  rw [ap_set hn]
  exact k9
theorem g_getfP (F : Fx p s m args c s0 D ev cc nL own) (hn : w.length = n) {j id ci k N idx : Nat} {fs : List Value} {v : Value} {C ref : String} {T : u_T} (hjd : id = n + j) (hid : L[j]? = some (.inr (ci, fs))) (hc : vwCl[ci]? = some (C, T, N)) (hin : ∀ w ∈ u_ws C T N, w ∈ wsL_law) (hkN : k < N) (hw : Cond.fieldLink own idx ref (T k).2.1 (T k).2.2.1 ∈ wsL_law) (href : (T k).1 = ref) (hv : fs[k]? = some v) (hd : decode cc pc = .ok (.getfield idx, 3)) (k9 : GJ p l e R s m args below meth c Q s0 D ev nL cls slots (pc + 3) lv (v :: st) (w ++ L)) : GJ p l e R s m args below meth c Q s0 D ev nL cls slots pc lv (.ref (ev 0 + id) :: st) (w ++ L) := by
  subst hjd
  exact g_getf F ((ap_at hn j).trans hid) hc hin hkN hw href hv hd k9
theorem g_iastP (F : Fx p s m args c s0 D ev cc nL own) (hn : w.length = n) {j id N : Nat} {f : Nat → Int32} {i x : Int32} (hjd : id = n + j) (hid : L[j]? = some (.inl (ev 1, N, .inl f))) (hin : vp_in i N) (hd : decode cc pc = .ok (.iastore, 1)) (k9 : GJ p l e R s m args below meth c Q s0 D ev nL cls slots (pc + 1) lv st (w ++ L.set j (.inl (ev 1, N, .inl (upd f i.toNatClampNeg x))))) : GJ p l e R s m args below meth c Q s0 D ev nL cls slots pc lv (.int x :: .int i :: .ref (ev 0 + id) :: st) (w ++ L) := by
  subst hjd
  refine g_iast F ((ap_at hn j).trans hid) hin hd ?_
  rw [ap_set hn]
  exact k9
theorem g_aastP (F : Fx p s m args c s0 D ev cc nL own) (hn : w.length = n) {j id N vj vid ci : Nat} {cA : ClassId} {r : vw_C} {f : Nat → Option Nat} {vs : List Value} {i : Int32} (t0 : Nat) (hjd : id = n + j) (hvd : vid = n + vj) (hid : L[j]? = some (.inl (cA, N, .inr (.inr (.inr (.inr f)))))) (ht : (tysE ev)[t0]? = some (cA, .object r.1)) (hv : L[vj]? = some (.inr (ci, vs))) (hc : vwCl[ci]? = some r) (hin : vp_in i N) (hd : decode cc pc = .ok (.aastore, 1)) (k9 : GJ p l e R s m args below meth c Q s0 D ev nL cls slots (pc + 1) lv st (w ++ L.set j (.inl (cA, N, .inr (.inr (.inr (.inr (va_up f i.toNatClampNeg (some (ev 0 + vid)))))))))) : GJ p l e R s m args below meth c Q s0 D ev nL cls slots pc lv (.ref (ev 0 + vid) :: .int i :: .ref (ev 0 + id) :: st) (w ++ L) := by
  subst hjd hvd
  refine g_aast F t0 ((ap_at hn j).trans hid) ht ((ap_at hn vj).trans hv) hc hin hd ?_
  rw [ap_set hn]
  exact k9
theorem g_newP (F : Fx p s m args c s0 D ev cc nL own) (hn : w.length = n) {ci N idx : Nat} {fs : List Value} {C : String} {T : u_T} (ty : Nat → FieldType) (hty : ∀ k, k < N → parseFieldDescriptor (T k).2.2.1 = some (ty k)) (hc : vwCl[ci]? = some (C, T, N)) (hin : ∀ w ∈ u_ws C T N, w ∈ wsL_law) (hw1 : Cond.classLink own idx C ∈ wsL_law) (hw2 : Cond.instantiable C N ∈ wsL_law) (hw3 : Cond.initialized C ∈ wsL_law) (hfs : ((List.range N).map fun j => defaultValue (ty j)) = fs) (h1 : cls + 1 ≤ R.cells) (h2 : slots + N ≤ R.slots) (hd : decode cc pc = .ok (.new idx, 3)) (k9 : GJ p l e R s m args below meth c Q s0 D ev nL (cls + 1) (slots + N) (pc + 3) lv (.ref (ev 0 + (n + L.length)) :: st) (w ++ (L ++ [.inr (ci, fs)]))) : GJ p l e R s m args below meth c Q s0 D ev nL cls slots pc lv st (w ++ L) := by
  refine g_new F (fs := fs) ty hty hc hin hw1 hw2 hw3 (fun j hj => ?_) h1 h2 hd ?_
  · rw [← hfs]
    unfold vp_V
    rw [List.getD_eq_getElem?_getD, List.getElem?_map, List.getElem?_range hj]
    rfl
  · rw [ap_len hn, List.append_assoc]
    exact k9
theorem g_newiP (F : Fx p s m args c s0 D ev cc nL own) (hn : w.length = n) {k : Int32} {N : Nat} (hw : Cond.arrayClass .int ∈ wsL_law) (hn0 : ¬ k < 0) (hN : k.toNatClampNeg = N) (hby : N * 4 ≤ 536870912) (h1 : cls + 1 ≤ R.cells) (h2 : slots + N ≤ R.slots) (hd : decode cc pc = .ok (.newarray .int, 2)) (k9 : GJ p l e R s m args below meth c Q s0 D ev nL (cls + 1) (slots + N) (pc + 2) lv (.ref (ev 0 + (n + L.length)) :: st) (w ++ (L ++ [.inl (ev 1, N, .inl (fun _ => 0))]))) : GJ p l e R s m args below meth c Q s0 D ev nL cls slots pc lv (.int k :: st) (w ++ L) := by
  refine g_newi F hw hn0 hN hby h1 h2 hd ?_
  rw [ap_len hn, List.append_assoc]
  exact k9
theorem g_newaP (F : Fx p s m args c s0 D ev cc nL own) (hn : w.length = n) {k : Int32} {N idx : Nat} {C : String} {cA : ClassId} (t0 : Nat) (ht : (tysE ev)[t0]? = some (cA, .object C)) (hw1 : Cond.classLink own idx C ∈ wsL_law) (hw2 : C ∈ ([RX1, RX2, RX5, RX8] : List String)) (hn0 : ¬ k < 0) (hN : k.toNatClampNeg = N) (hby : N * 4 ≤ 536870912) (h1 : cls + 1 ≤ R.cells) (h2 : slots + N ≤ R.slots) (hd : decode cc pc = .ok (.anewarray idx, 3)) (k9 : GJ p l e R s m args below meth c Q s0 D ev nL (cls + 1) (slots + N) (pc + 3) lv (.ref (ev 0 + (n + L.length)) :: st) (w ++ (L ++ [.inl (cA, N, .inr (.inr (.inr (.inr (fun _ => none)))))]))) : GJ p l e R s m args below meth c Q s0 D ev nL cls slots pc lv (.int k :: st) (w ++ L) := by
  refine g_newa F t0 ht hw1 hw2 hn0 hN hby h1 h2 hd ?_
  rw [ap_len hn, List.append_assoc]
  exact k9
/-- rows that hold alike as far as they go -/
def eqE (e1 e2 : va_E) : Prop := e1 = e2 ∨ (∃ (cA : ClassId) (N : Nat) (f g : Nat → Int32), e1 = .inl (cA, N, .inl f) ∧ e2 = .inl (cA, N, .inl g) ∧ ∀ j, j < N → f j = g j) ∨ (∃ (cA : ClassId) (N : Nat) (f g : Nat → Option Nat), e1 = .inl (cA, N, .inr (.inr (.inr (.inr f)))) ∧ e2 = .inl (cA, N, .inr (.inr (.inr (.inr g)))) ∧ ∀ j, j < N → f j = g j)
def eqL : List va_E → List va_E → Prop
  | [], [] => True
  | e1 :: r1, e2 :: r2 => eqE e1 e2 ∧ eqL r1 r2
  | _, _ => False
theorem arrV_congr {cA : ClassId} {N : Nat} {f g : Nat → Value} (h : ∀ j, j < N → f j = g j) : arrV cA N f = arrV cA N g := by
  unfold arrV
  congr 1
  apply Array.ext
  · simp
  · intro i h1 h2
    simp only [Array.getElem_ofFn]
    exact h i (by simpa using h1)
theorem eqE.at {e1 e2 : va_E} (h : eqE e1 e2) {a : Nat} {H : Heap} (h1 : va_at D vwCl (a, e1) H) : va_at D vwCl (a, e2) H := by
  rcases h with rfl | ⟨cA, N, f, g, rfl, rfl, h⟩ | ⟨cA, N, f, g, rfl, rfl, h⟩
  · exact h1
  · show H[a]? = some (vp_cell _ _)
    have h2 : H[a]? = some (vp_cell cA (N, .inl f)) := h1
    rw [h2, vp_cell_i, vp_cell_i, arrV_congr (fun j hj => by rw [h j hj])]
  · show H[a]? = some (vp_cell _ _)
    have h2 : H[a]? = some (vp_cell cA (N, .inr (.inr (.inr (.inr f))))) := h1
    rw [h2, vp_cell_q, vp_cell_q, arrV_congr (fun j hj => by rw [h j hj])]
theorem eqL_len : ∀ {a b : List va_E}, eqL a b → a.length = b.length
  | [], [], _ => rfl
  | _ :: r1, _ :: r2, h => by simp only [List.length_cons]; rw [eqL_len h.2]
theorem eqL_get : ∀ {a b : List va_E}, eqL a b → ∀ {k : Nat} {e2 : va_E}, b[k]? = some e2 → ∃ e1, a[k]? = some e1 ∧ eqE e1 e2
  | [], [], _, k, e2, h => by simp at h
  | x1 :: r1, x2 :: r2, h, 0, e2, hk => by
    simp only [List.getElem?_cons_zero, Option.some.injEq] at hk
    subst hk
    exact ⟨x1, by simp, h.1⟩
  | x1 :: r1, x2 :: r2, h, k + 1, e2, hk => by
    simp only [List.getElem?_cons_succ] at hk ⊢
    exact eqL_get h.2 hk
theorem g_eqL (h : eqL L ws') (k : GJ p l e R s m args below meth c Q s0 D ev nL cls slots pc lv st (w ++ ws')) : GJ p l e R s m args below meth c Q s0 D ev nL cls slots pc lv st (w ++ L) := fun H locs ls hl hc => by
  refine k H locs ls hl ⟨⟨?_, hc.1.2.1, fun j e2 hj => ?_⟩, hc.2.1, hc.2.2⟩
  · have := hc.1.1
    rw [List.length_append] at this ⊢
    rw [← eqL_len h]
    exact this
  · rcases Nat.lt_or_ge j w.length with hlt | hge
    · rw [List.getElem?_append_left hlt] at hj
      exact hc.1.2.2 j e2 (by rw [List.getElem?_append_left hlt]; exact hj)
    · rw [List.getElem?_append_right hge] at hj
      obtain ⟨e1, h1, h2⟩ := eqL_get h hj
      exact h2.at (hc.1.2.2 j e1 (by rw [List.getElem?_append_right hge]; exact h1))
end G20
set_option maxRecDepth 100000 in
set_option maxHeartbeats 4000000 in
theorem c_X0_init {l : Launch} {s0 : State} {D : va_G} {ev : Nat → Nat} (G0 : Gl s0 D ev) {w : List va_E} {n : Nat} (hn : w.length = n) : CT l s0 D ev yX0_init cX0_init 1 none 1 5 236 [.ref (ev 0 + n)] (w ++ [.inr (0, [.null, .null, .null, .null, .null])]) (QV s0 D ev (w ++ [.inr (0, [.ref (ev 0 + (n + 1)), .ref (ev 0 + (n + 2)), .ref (ev 0 + (n + 3)), .ref (ev 0 + (n + 4)), .ref (ev 0 + (n + 5))]), .inl (ev 1, 100, .inl (fillN (fun _ => 0) 100 5)), .inl (ev 1, 100, .inl (fun _ => 0)), .inl (ev 1, 12, .inl (fun _ => 0)), .inl (ev 1, 12, .inl (fillN (fun _ => 0) 12 20)), .inl (ev 1, 12, .inl (fun _ => 0))])) := by
  refine ct_of G0 (by decide) (Nat.le_of_ble_eq_true rfl) ?_
  intro p9 e9 s9 m9 args9 below9 meth9 c9 F hr9 hl9 hin9 hargs9 hts9
  refine g_lv (lv' := [(0, .ref (ev 0 + (n + 0)))]) ⟨rfl, trivial⟩ ?_
  refine g_aload_n (i := 0) F dX0_init_0 rfl rfl ?_
  refine g_obj F wd_3_9 wd_1_10 wd_1_11 (by decide) (Nat.le_of_ble_eq_true rfl) (by decide) dX0_init_1 ?_
  refine g_aload_n (i := 0) F dX0_init_4 rfl rfl ?_
  refine g_bipush F dX0_init_5 (v := 100) (by decide) ?_
  refine g_newiP F (N := 100) hn wd_2_6 (by decide) (by decide) (by decide) (Nat.le_of_ble_eq_true rfl) (Nat.le_of_ble_eq_true rfl) dX0_init_7 ?_
  refine g_sw (st' := .ref (ev 0 + (n + 1)) :: .ref (ev 0 + (n + 0)) :: []) (ws' := (w ++ [.inr (0, [.null, .null, .null, .null, .null]), .inl (ev 1, 100, .inl (fun _ => 0))])) rfl rfl ?_
  refine g_putFP F hn (j := 0) rfl hin9 (ty := tyX0 0) tyX0 tyX0_ok nmX0 rfl (ci := 0) rfl inlX0 (k := 0) (by decide) wd_3_10 rfl rfl rfl rfl rfl rfl (Nat.le_of_ble_eq_true rfl) dX0_init_9 ?_
  refine g_sw (st' := []) (ws' := (w ++ [.inr (0, [.ref (ev 0 + (n + 1)), .null, .null, .null, .null]), .inl (ev 1, 100, .inl (fun _ => 0))])) rfl rfl ?_
  refine g_aload_n (i := 0) F dX0_init_12 rfl rfl ?_
  refine g_bipush F dX0_init_13 (v := 100) (by decide) ?_
  refine g_newiP F (N := 100) hn wd_2_6 (by decide) (by decide) (by decide) (Nat.le_of_ble_eq_true rfl) (Nat.le_of_ble_eq_true rfl) dX0_init_15 ?_
  refine g_sw (st' := .ref (ev 0 + (n + 2)) :: .ref (ev 0 + (n + 0)) :: []) (ws' := (w ++ [.inr (0, [.ref (ev 0 + (n + 1)), .null, .null, .null, .null]), .inl (ev 1, 100, .inl (fun _ => 0)), .inl (ev 1, 100, .inl (fun _ => 0))])) rfl rfl ?_
  refine g_putFP F hn (j := 0) rfl hin9 (ty := tyX0 1) tyX0 tyX0_ok nmX0 rfl (ci := 0) rfl inlX0 (k := 1) (by decide) wd_3_11 rfl rfl rfl rfl rfl rfl (Nat.le_of_ble_eq_true rfl) dX0_init_17 ?_
  refine g_sw (st' := []) (ws' := (w ++ [.inr (0, [.ref (ev 0 + (n + 1)), .ref (ev 0 + (n + 2)), .null, .null, .null]), .inl (ev 1, 100, .inl (fun _ => 0)), .inl (ev 1, 100, .inl (fun _ => 0))])) rfl rfl ?_
  refine g_aload_n (i := 0) F dX0_init_20 rfl rfl ?_
  refine g_bipush F dX0_init_21 (v := 12) (by decide) ?_
  refine g_newiP F (N := 12) hn wd_2_6 (by decide) (by decide) (by decide) (Nat.le_of_ble_eq_true rfl) (Nat.le_of_ble_eq_true rfl) dX0_init_23 ?_
  refine g_sw (st' := .ref (ev 0 + (n + 3)) :: .ref (ev 0 + (n + 0)) :: []) (ws' := (w ++ [.inr (0, [.ref (ev 0 + (n + 1)), .ref (ev 0 + (n + 2)), .null, .null, .null]), .inl (ev 1, 100, .inl (fun _ => 0)), .inl (ev 1, 100, .inl (fun _ => 0)), .inl (ev 1, 12, .inl (fun _ => 0))])) rfl rfl ?_
  refine g_putFP F hn (j := 0) rfl hin9 (ty := tyX0 2) tyX0 tyX0_ok nmX0 rfl (ci := 0) rfl inlX0 (k := 2) (by decide) wd_3_12 rfl rfl rfl rfl rfl rfl (Nat.le_of_ble_eq_true rfl) dX0_init_25 ?_
  refine g_sw (st' := []) (ws' := (w ++ [.inr (0, [.ref (ev 0 + (n + 1)), .ref (ev 0 + (n + 2)), .ref (ev 0 + (n + 3)), .null, .null]), .inl (ev 1, 100, .inl (fun _ => 0)), .inl (ev 1, 100, .inl (fun _ => 0)), .inl (ev 1, 12, .inl (fun _ => 0))])) rfl rfl ?_
  refine g_aload_n (i := 0) F dX0_init_28 rfl rfl ?_
  refine g_bipush F dX0_init_29 (v := 12) (by decide) ?_
  refine g_newiP F (N := 12) hn wd_2_6 (by decide) (by decide) (by decide) (Nat.le_of_ble_eq_true rfl) (Nat.le_of_ble_eq_true rfl) dX0_init_31 ?_
  refine g_sw (st' := .ref (ev 0 + (n + 4)) :: .ref (ev 0 + (n + 0)) :: []) (ws' := (w ++ [.inr (0, [.ref (ev 0 + (n + 1)), .ref (ev 0 + (n + 2)), .ref (ev 0 + (n + 3)), .null, .null]), .inl (ev 1, 100, .inl (fun _ => 0)), .inl (ev 1, 100, .inl (fun _ => 0)), .inl (ev 1, 12, .inl (fun _ => 0)), .inl (ev 1, 12, .inl (fun _ => 0))])) rfl rfl ?_
  refine g_putFP F hn (j := 0) rfl hin9 (ty := tyX0 3) tyX0 tyX0_ok nmX0 rfl (ci := 0) rfl inlX0 (k := 3) (by decide) wd_3_13 rfl rfl rfl rfl rfl rfl (Nat.le_of_ble_eq_true rfl) dX0_init_33 ?_
  refine g_sw (st' := []) (ws' := (w ++ [.inr (0, [.ref (ev 0 + (n + 1)), .ref (ev 0 + (n + 2)), .ref (ev 0 + (n + 3)), .ref (ev 0 + (n + 4)), .null]), .inl (ev 1, 100, .inl (fun _ => 0)), .inl (ev 1, 100, .inl (fun _ => 0)), .inl (ev 1, 12, .inl (fun _ => 0)), .inl (ev 1, 12, .inl (fun _ => 0))])) rfl rfl ?_
  refine g_aload_n (i := 0) F dX0_init_36 rfl rfl ?_
  refine g_bipush F dX0_init_37 (v := 12) (by decide) ?_
  refine g_newiP F (N := 12) hn wd_2_6 (by decide) (by decide) (by decide) (Nat.le_of_ble_eq_true rfl) (Nat.le_of_ble_eq_true rfl) dX0_init_39 ?_
  refine g_sw (st' := .ref (ev 0 + (n + 5)) :: .ref (ev 0 + (n + 0)) :: []) (ws' := (w ++ [.inr (0, [.ref (ev 0 + (n + 1)), .ref (ev 0 + (n + 2)), .ref (ev 0 + (n + 3)), .ref (ev 0 + (n + 4)), .null]), .inl (ev 1, 100, .inl (fun _ => 0)), .inl (ev 1, 100, .inl (fun _ => 0)), .inl (ev 1, 12, .inl (fun _ => 0)), .inl (ev 1, 12, .inl (fun _ => 0)), .inl (ev 1, 12, .inl (fun _ => 0))])) rfl rfl ?_
  refine g_putFP F hn (j := 0) rfl hin9 (ty := tyX0 4) tyX0 tyX0_ok nmX0 rfl (ci := 0) rfl inlX0 (k := 4) (by decide) wd_3_14 rfl rfl rfl rfl rfl rfl (Nat.le_of_ble_eq_true rfl) dX0_init_41 ?_
  refine g_sw (st' := []) (ws' := (w ++ [.inr (0, [.ref (ev 0 + (n + 1)), .ref (ev 0 + (n + 2)), .ref (ev 0 + (n + 3)), .ref (ev 0 + (n + 4)), .ref (ev 0 + (n + 5))]), .inl (ev 1, 100, .inl (fun _ => 0)), .inl (ev 1, 100, .inl (fun _ => 0)), .inl (ev 1, 12, .inl (fun _ => 0)), .inl (ev 1, 12, .inl (fun _ => 0)), .inl (ev 1, 12, .inl (fun _ => 0))])) rfl rfl ?_
  refine g_aload_n (i := 0) F dX0_init_44 rfl rfl ?_
  refine g_getfP F hn (j := 0) rfl rfl (ci := 0) rfl inlX0 (k := 0) (by decide) wd_3_10 rfl rfl dX0_init_45 ?_
  refine g_iconst F dX0_init_48 (v := 5) (by decide) ?_
  refine g_callSV F (y := yJ7_fill_53178) (cc2 := cJ7_fill_53178) (n2 := 4) (h2 := 0) (mc2 := 0) (ms2 := 0) (ret := none) (As := [.ref (ev 0 + (n + 1)), .int 5]) (ws1 := w ++ [.inr (0, [.ref (ev 0 + (n + 1)), .ref (ev 0 + (n + 2)), .ref (ev 0 + (n + 3)), .ref (ev 0 + (n + 4)), .ref (ev 0 + (n + 5))]), .inl (ev 1, 100, .inl (fun _ => 0)), .inl (ev 1, 100, .inl (fun _ => 0)), .inl (ev 1, 12, .inl (fun _ => 0)), .inl (ev 1, 12, .inl (fun _ => 0)), .inl (ev 1, 12, .inl (fun _ => 0))].set 1 (.inl (ev 1, 100, .inl (fillN (fun _ => 0) 100 5)))) (by rw [← ap_set hn]; exact cJ_fillR G0 ((ap_at hn 1).trans rfl) (by decide)) wd_3_18 wd_3_15 wd_3_16 wd_3_17 ⟨by decide, by decide⟩ (nn := 2) (by decide) rfl rfl (Nat.le_of_ble_eq_true rfl) (by decide) (by decide) ⟨(Nat.le_of_ble_eq_true rfl), (Nat.le_of_ble_eq_true rfl)⟩ dX0_init_49 ?_
  refine g_sw (st' := []) (ws' := (w ++ [.inr (0, [.ref (ev 0 + (n + 1)), .ref (ev 0 + (n + 2)), .ref (ev 0 + (n + 3)), .ref (ev 0 + (n + 4)), .ref (ev 0 + (n + 5))]), .inl (ev 1, 100, .inl (fillN (fun _ => 0) 100 5)), .inl (ev 1, 100, .inl (fun _ => 0)), .inl (ev 1, 12, .inl (fun _ => 0)), .inl (ev 1, 12, .inl (fun _ => 0)), .inl (ev 1, 12, .inl (fun _ => 0))])) rfl rfl ?_
  refine g_aload_n (i := 0) F dX0_init_52 rfl rfl ?_
  refine g_getfP F hn (j := 0) rfl rfl (ci := 0) rfl inlX0 (k := 3) (by decide) wd_3_13 rfl rfl dX0_init_53 ?_
  refine g_bipush F dX0_init_56 (v := 20) (by decide) ?_
  refine g_callSV F (y := yJ7_fill_53178) (cc2 := cJ7_fill_53178) (n2 := 4) (h2 := 0) (mc2 := 0) (ms2 := 0) (ret := none) (As := [.ref (ev 0 + (n + 4)), .int 20]) (ws1 := w ++ [.inr (0, [.ref (ev 0 + (n + 1)), .ref (ev 0 + (n + 2)), .ref (ev 0 + (n + 3)), .ref (ev 0 + (n + 4)), .ref (ev 0 + (n + 5))]), .inl (ev 1, 100, .inl (fillN (fun _ => 0) 100 5)), .inl (ev 1, 100, .inl (fun _ => 0)), .inl (ev 1, 12, .inl (fun _ => 0)), .inl (ev 1, 12, .inl (fun _ => 0)), .inl (ev 1, 12, .inl (fun _ => 0))].set 4 (.inl (ev 1, 12, .inl (fillN (fun _ => 0) 12 20)))) (by rw [← ap_set hn]; exact cJ_fillR G0 ((ap_at hn 4).trans rfl) (by decide)) wd_3_18 wd_3_15 wd_3_16 wd_3_17 ⟨by decide, by decide⟩ (nn := 2) (by decide) rfl rfl (Nat.le_of_ble_eq_true rfl) (by decide) (by decide) ⟨(Nat.le_of_ble_eq_true rfl), (Nat.le_of_ble_eq_true rfl)⟩ dX0_init_58 ?_
  refine g_sw (st' := []) (ws' := (w ++ [.inr (0, [.ref (ev 0 + (n + 1)), .ref (ev 0 + (n + 2)), .ref (ev 0 + (n + 3)), .ref (ev 0 + (n + 4)), .ref (ev 0 + (n + 5))]), .inl (ev 1, 100, .inl (fillN (fun _ => 0) 100 5)), .inl (ev 1, 100, .inl (fun _ => 0)), .inl (ev 1, 12, .inl (fun _ => 0)), .inl (ev 1, 12, .inl (fillN (fun _ => 0) 12 20)), .inl (ev 1, 12, .inl (fun _ => 0))])) rfl rfl ?_
  exact g_vret F hr9 hl9 rfl (Nat.le_of_ble_eq_true rfl) (Nat.le_of_ble_eq_true rfl) dX0_init_61
set_option maxRecDepth 100000 in
set_option maxHeartbeats 4000000 in
theorem c_X6_init {l : Launch} {s0 : State} {D : va_G} {ev : Nat → Nat} (G0 : Gl s0 D ev) {w : List va_E} {n : Nat} (hn : w.length = n) : CT l s0 D ev yX6_init cX6_init 1 none 1 1 160 [.ref (ev 0 + n)] (w ++ [.inr (6, [.null, .int 0, .null, .int 0, .int 0, .int 0, .int 0])]) (QV s0 D ev (w ++ [.inr (6, [.ref (ev 0 + (n + 1)), .int 0, .null, .int 0, .int 0, .int 0, .int 0]), .inl (ev 1, 160, .inl (fun _ => 0))])) := by
  refine ct_of G0 (by decide) (Nat.le_of_ble_eq_true rfl) ?_
  intro p9 e9 s9 m9 args9 below9 meth9 c9 F hr9 hl9 hin9 hargs9 hts9
  refine g_lv (lv' := [(0, .ref (ev 0 + (n + 0)))]) ⟨rfl, trivial⟩ ?_
  refine g_aload_n (i := 0) F dX6_init_0 rfl rfl ?_
  refine g_obj F wd_3_22 wd_1_10 wd_1_11 (by decide) (Nat.le_of_ble_eq_true rfl) (by decide) dX6_init_1 ?_
  refine g_aload_n (i := 0) F dX6_init_4 rfl rfl ?_
  refine g_sipush F dX6_init_5 (v := 160) (by decide) ?_
  refine g_newiP F (N := 160) hn wd_2_6 (by decide) (by decide) (by decide) (Nat.le_of_ble_eq_true rfl) (Nat.le_of_ble_eq_true rfl) dX6_init_8 ?_
  refine g_sw (st' := .ref (ev 0 + (n + 1)) :: .ref (ev 0 + (n + 0)) :: []) (ws' := (w ++ [.inr (6, [.null, .int 0, .null, .int 0, .int 0, .int 0, .int 0]), .inl (ev 1, 160, .inl (fun _ => 0))])) rfl rfl ?_
  refine g_putFP F hn (j := 0) rfl hin9 (ty := tyX6 0) tyX6 tyX6_ok nmX6 rfl (ci := 6) rfl inlX6 (k := 0) (by decide) wd_3_23 rfl rfl rfl rfl rfl rfl (Nat.le_of_ble_eq_true rfl) dX6_init_10 ?_
  refine g_sw (st' := []) (ws' := (w ++ [.inr (6, [.ref (ev 0 + (n + 1)), .int 0, .null, .int 0, .int 0, .int 0, .int 0]), .inl (ev 1, 160, .inl (fun _ => 0))])) rfl rfl ?_
  refine g_aload_n (i := 0) F dX6_init_13 rfl rfl ?_
  refine g_iconst F dX6_init_14 (v := 0) (by decide) ?_
  refine g_putfP F hn (j := 0) rfl (ty := .int) tyX6 tyX6_ok nmX6 rfl (ci := 6) rfl inlX6 (k := 1) (by decide) wd_4_0 rfl rfl rfl rfl rfl (Nat.le_of_ble_eq_true rfl) dX6_init_15 ?_
  refine g_sw (st' := []) (ws' := (w ++ [.inr (6, [.ref (ev 0 + (n + 1)), .int 0, .null, .int 0, .int 0, .int 0, .int 0]), .inl (ev 1, 160, .inl (fun _ => 0))])) rfl rfl ?_
  refine g_aload_n (i := 0) F dX6_init_18 rfl rfl ?_
  refine g_null F dX6_init_19 ?_
  refine g_putfP F hn (j := 0) rfl (ty := tyX6 2) tyX6 tyX6_ok nmX6 rfl (ci := 6) rfl inlX6 (k := 2) (by decide) wd_4_1 rfl rfl rfl rfl rfl (Nat.le_of_ble_eq_true rfl) dX6_init_20 ?_
  refine g_sw (st' := []) (ws' := (w ++ [.inr (6, [.ref (ev 0 + (n + 1)), .int 0, .null, .int 0, .int 0, .int 0, .int 0]), .inl (ev 1, 160, .inl (fun _ => 0))])) rfl rfl ?_
  refine g_aload_n (i := 0) F dX6_init_23 rfl rfl ?_
  refine g_iconst F dX6_init_24 (v := 0) (by decide) ?_
  refine g_putfP F hn (j := 0) rfl (ty := .int) tyX6 tyX6_ok nmX6 rfl (ci := 6) rfl inlX6 (k := 3) (by decide) wd_4_2 rfl rfl rfl rfl rfl (Nat.le_of_ble_eq_true rfl) dX6_init_25 ?_
  refine g_sw (st' := []) (ws' := (w ++ [.inr (6, [.ref (ev 0 + (n + 1)), .int 0, .null, .int 0, .int 0, .int 0, .int 0]), .inl (ev 1, 160, .inl (fun _ => 0))])) rfl rfl ?_
  refine g_aload_n (i := 0) F dX6_init_28 rfl rfl ?_
  refine g_iconst F dX6_init_29 (v := 0) (by decide) ?_
  refine g_putfP F hn (j := 0) rfl (ty := .int) tyX6 tyX6_ok nmX6 rfl (ci := 6) rfl inlX6 (k := 4) (by decide) wd_4_3 rfl rfl rfl rfl rfl (Nat.le_of_ble_eq_true rfl) dX6_init_30 ?_
  refine g_sw (st' := []) (ws' := (w ++ [.inr (6, [.ref (ev 0 + (n + 1)), .int 0, .null, .int 0, .int 0, .int 0, .int 0]), .inl (ev 1, 160, .inl (fun _ => 0))])) rfl rfl ?_
  refine g_aload_n (i := 0) F dX6_init_33 rfl rfl ?_
  refine g_iconst F dX6_init_34 (v := 0) (by decide) ?_
  refine g_putfP F hn (j := 0) rfl (ty := .int) tyX6 tyX6_ok nmX6 rfl (ci := 6) rfl inlX6 (k := 5) (by decide) wd_4_4 rfl rfl rfl rfl rfl (Nat.le_of_ble_eq_true rfl) dX6_init_35 ?_
  refine g_sw (st' := []) (ws' := (w ++ [.inr (6, [.ref (ev 0 + (n + 1)), .int 0, .null, .int 0, .int 0, .int 0, .int 0]), .inl (ev 1, 160, .inl (fun _ => 0))])) rfl rfl ?_
  refine g_aload_n (i := 0) F dX6_init_38 rfl rfl ?_
  refine g_iconst F dX6_init_39 (v := 0) (by decide) ?_
  refine g_putfP F hn (j := 0) rfl (ty := .int) tyX6 tyX6_ok nmX6 rfl (ci := 6) rfl inlX6 (k := 6) (by decide) wd_4_5 rfl rfl rfl rfl rfl (Nat.le_of_ble_eq_true rfl) dX6_init_40 ?_
  refine g_sw (st' := []) (ws' := (w ++ [.inr (6, [.ref (ev 0 + (n + 1)), .int 0, .null, .int 0, .int 0, .int 0, .int 0]), .inl (ev 1, 160, .inl (fun _ => 0))])) rfl rfl ?_
  exact g_vret F hr9 hl9 rfl (Nat.le_of_ble_eq_true rfl) (Nat.le_of_ble_eq_true rfl) dX6_init_43
set_option maxRecDepth 100000 in
set_option maxHeartbeats 4000000 in
theorem c_X3_init {l : Launch} {s0 : State} {D : va_G} {ev : Nat → Nat} (G0 : Gl s0 D ev) {w : List va_E} {n : Nat} (hn : w.length = n) : CT l s0 D ev yX3_init cX3_init 1 none 1 2 40 [.ref (ev 0 + n)] (w ++ [.inr (3, [.null, .null])]) (QV s0 D ev (w ++ [.inr (3, [.ref (ev 0 + (n + 1)), .ref (ev 0 + (n + 2))]), .inl (ev 1, 20, .inl (fun _ => 0)), .inl (ev 1, 20, .inl (fun _ => 0))])) := by
  refine ct_of G0 (by decide) (Nat.le_of_ble_eq_true rfl) ?_
  intro p9 e9 s9 m9 args9 below9 meth9 c9 F hr9 hl9 hin9 hargs9 hts9
  refine g_lv (lv' := [(0, .ref (ev 0 + (n + 0)))]) ⟨rfl, trivial⟩ ?_
  refine g_aload_n (i := 0) F dX3_init_0 rfl rfl ?_
  refine g_obj F wd_4_19 wd_1_10 wd_1_11 (by decide) (Nat.le_of_ble_eq_true rfl) (by decide) dX3_init_1 ?_
  refine g_aload_n (i := 0) F dX3_init_4 rfl rfl ?_
  refine g_bipush F dX3_init_5 (v := 20) (by decide) ?_
  refine g_newiP F (N := 20) hn wd_2_6 (by decide) (by decide) (by decide) (Nat.le_of_ble_eq_true rfl) (Nat.le_of_ble_eq_true rfl) dX3_init_7 ?_
  refine g_sw (st' := .ref (ev 0 + (n + 1)) :: .ref (ev 0 + (n + 0)) :: []) (ws' := (w ++ [.inr (3, [.null, .null]), .inl (ev 1, 20, .inl (fun _ => 0))])) rfl rfl ?_
  refine g_putFP F hn (j := 0) rfl hin9 (ty := tyX3 0) tyX3 tyX3_ok nmX3 rfl (ci := 3) rfl inlX3 (k := 0) (by decide) wd_4_20 rfl rfl rfl rfl rfl rfl (Nat.le_of_ble_eq_true rfl) dX3_init_9 ?_
  refine g_sw (st' := []) (ws' := (w ++ [.inr (3, [.ref (ev 0 + (n + 1)), .null]), .inl (ev 1, 20, .inl (fun _ => 0))])) rfl rfl ?_
  refine g_aload_n (i := 0) F dX3_init_12 rfl rfl ?_
  refine g_bipush F dX3_init_13 (v := 20) (by decide) ?_
  refine g_newiP F (N := 20) hn wd_2_6 (by decide) (by decide) (by decide) (Nat.le_of_ble_eq_true rfl) (Nat.le_of_ble_eq_true rfl) dX3_init_15 ?_
  refine g_sw (st' := .ref (ev 0 + (n + 2)) :: .ref (ev 0 + (n + 0)) :: []) (ws' := (w ++ [.inr (3, [.ref (ev 0 + (n + 1)), .null]), .inl (ev 1, 20, .inl (fun _ => 0)), .inl (ev 1, 20, .inl (fun _ => 0))])) rfl rfl ?_
  refine g_putFP F hn (j := 0) rfl hin9 (ty := tyX3 1) tyX3 tyX3_ok nmX3 rfl (ci := 3) rfl inlX3 (k := 1) (by decide) wd_4_21 rfl rfl rfl rfl rfl rfl (Nat.le_of_ble_eq_true rfl) dX3_init_17 ?_
  refine g_sw (st' := []) (ws' := (w ++ [.inr (3, [.ref (ev 0 + (n + 1)), .ref (ev 0 + (n + 2))]), .inl (ev 1, 20, .inl (fun _ => 0)), .inl (ev 1, 20, .inl (fun _ => 0))])) rfl rfl ?_
  exact g_vret F hr9 hl9 rfl (Nat.le_of_ble_eq_true rfl) (Nat.le_of_ble_eq_true rfl) dX3_init_20
set_option maxRecDepth 100000 in
set_option maxHeartbeats 4000000 in
theorem c_X4_init {l : Launch} {s0 : State} {D : va_G} {ev : Nat → Nat} (G0 : Gl s0 D ev) {w : List va_E} {n : Nat} (hn : w.length = n) : CT l s0 D ev yX4_init cX4_init 1 none 2 5 54 [.ref (ev 0 + n)] (w ++ [.inr (4, [.null, .null, .null, .int 0, .int 0, .int 0])]) (QV s0 D ev (w ++ [.inr (4, [.ref (ev 0 + (n + 1)), .ref (ev 0 + (n + 2)), .ref (ev 0 + (n + 3)), .int (-1), .int 0, .int 0]), .inl (ev 1, 6, .inl (fun _ => 0)), .inl (ev 1, 6, .inl (fun _ => 0)), .inr (3, [.ref (ev 0 + (n + 4)), .ref (ev 0 + (n + 5))]), .inl (ev 1, 20, .inl (fun _ => 0)), .inl (ev 1, 20, .inl (fun _ => 0))])) := by
  refine ct_of G0 (by decide) (Nat.le_of_ble_eq_true rfl) ?_
  intro p9 e9 s9 m9 args9 below9 meth9 c9 F hr9 hl9 hin9 hargs9 hts9
  refine g_lv (lv' := [(0, .ref (ev 0 + (n + 0)))]) ⟨rfl, trivial⟩ ?_
  refine g_aload_n (i := 0) F dX4_init_0 rfl rfl ?_
  refine g_obj F wd_5_1 wd_1_10 wd_1_11 (by decide) (Nat.le_of_ble_eq_true rfl) (by decide) dX4_init_1 ?_
  refine g_aload_n (i := 0) F dX4_init_4 rfl rfl ?_
  refine g_bipush F dX4_init_5 (v := 6) (by decide) ?_
  refine g_newiP F (N := 6) hn wd_2_6 (by decide) (by decide) (by decide) (Nat.le_of_ble_eq_true rfl) (Nat.le_of_ble_eq_true rfl) dX4_init_7 ?_
  refine g_sw (st' := .ref (ev 0 + (n + 1)) :: .ref (ev 0 + (n + 0)) :: []) (ws' := (w ++ [.inr (4, [.null, .null, .null, .int 0, .int 0, .int 0]), .inl (ev 1, 6, .inl (fun _ => 0))])) rfl rfl ?_
  refine g_putFP F hn (j := 0) rfl hin9 (ty := tyX4 0) tyX4 tyX4_ok nmX4 rfl (ci := 4) rfl inlX4 (k := 0) (by decide) wd_5_2 rfl rfl rfl rfl rfl rfl (Nat.le_of_ble_eq_true rfl) dX4_init_9 ?_
  refine g_sw (st' := []) (ws' := (w ++ [.inr (4, [.ref (ev 0 + (n + 1)), .null, .null, .int 0, .int 0, .int 0]), .inl (ev 1, 6, .inl (fun _ => 0))])) rfl rfl ?_
  refine g_aload_n (i := 0) F dX4_init_12 rfl rfl ?_
  refine g_bipush F dX4_init_13 (v := 6) (by decide) ?_
  refine g_newiP F (N := 6) hn wd_2_6 (by decide) (by decide) (by decide) (Nat.le_of_ble_eq_true rfl) (Nat.le_of_ble_eq_true rfl) dX4_init_15 ?_
  refine g_sw (st' := .ref (ev 0 + (n + 2)) :: .ref (ev 0 + (n + 0)) :: []) (ws' := (w ++ [.inr (4, [.ref (ev 0 + (n + 1)), .null, .null, .int 0, .int 0, .int 0]), .inl (ev 1, 6, .inl (fun _ => 0)), .inl (ev 1, 6, .inl (fun _ => 0))])) rfl rfl ?_
  refine g_putFP F hn (j := 0) rfl hin9 (ty := tyX4 1) tyX4 tyX4_ok nmX4 rfl (ci := 4) rfl inlX4 (k := 1) (by decide) wd_5_3 rfl rfl rfl rfl rfl rfl (Nat.le_of_ble_eq_true rfl) dX4_init_17 ?_
  refine g_sw (st' := []) (ws' := (w ++ [.inr (4, [.ref (ev 0 + (n + 1)), .ref (ev 0 + (n + 2)), .null, .int 0, .int 0, .int 0]), .inl (ev 1, 6, .inl (fun _ => 0)), .inl (ev 1, 6, .inl (fun _ => 0))])) rfl rfl ?_
  refine g_aload_n (i := 0) F dX4_init_20 rfl rfl ?_
  refine g_newP F hn (fs := [.null, .null]) tyX3 tyX3_ok (ci := 3) rfl inlX3 wd_5_4 wd_2_10 wd_2_11 rfl (Nat.le_of_ble_eq_true rfl) (Nat.le_of_ble_eq_true rfl) dX4_init_21 ?_
  refine g_sw (st' := .ref (ev 0 + (n + 3)) :: .ref (ev 0 + (n + 0)) :: []) (ws' := (w ++ [.inr (4, [.ref (ev 0 + (n + 1)), .ref (ev 0 + (n + 2)), .null, .int 0, .int 0, .int 0]), .inl (ev 1, 6, .inl (fun _ => 0)), .inl (ev 1, 6, .inl (fun _ => 0)), .inr (3, [.null, .null])])) rfl rfl ?_
  refine g_dup F dX4_init_24 rfl ?_
  refine g_sw (st' := .ref (ev 0 + (n + 3)) :: .ref (ev 0 + (n + 3)) :: .ref (ev 0 + (n + 0)) :: []) (ws' := (w ++ [.inr (4, [.ref (ev 0 + (n + 1)), .ref (ev 0 + (n + 2)), .null, .int 0, .int 0, .int 0]), .inl (ev 1, 6, .inl (fun _ => 0)), .inl (ev 1, 6, .inl (fun _ => 0))]) ++ [.inr (3, [.null, .null])]) rfl (by rw [List.append_assoc]; rfl) ?_
  refine g_callIV F (y := yX3_init) (cc2 := cX3_init) (n2 := 1) (h2 := 1) (mc2 := 2) (ms2 := 40) (id := (n + 3)) (As := []) (ws1 := (w ++ [.inr (4, [.ref (ev 0 + (n + 1)), .ref (ev 0 + (n + 2)), .null, .int 0, .int 0, .int 0]), .inl (ev 1, 6, .inl (fun _ => 0)), .inl (ev 1, 6, .inl (fun _ => 0))]) ++ [.inr (3, [.ref (ev 0 + (n + 4)), .ref (ev 0 + (n + 5))]), .inl (ev 1, 20, .inl (fun _ => 0)), .inl (ev 1, 20, .inl (fun _ => 0))]) rfl (c_X3_init G0 (show (w ++ [.inr (4, [.ref (ev 0 + (n + 1)), .ref (ev 0 + (n + 2)), .null, .int 0, .int 0, .int 0]), .inl (ev 1, 6, .inl (fun _ => 0)), .inl (ev 1, 6, .inl (fun _ => 0))] : List va_E).length = n + 3 from ap_len hn)) wd_4_18 wd_5_9 wd_4_17 wd_2_11 ⟨by decide, by decide⟩ (nn := 0) (by decide) rfl rfl (Nat.le_of_ble_eq_true rfl) (by decide) (by decide) ⟨(Nat.le_of_ble_eq_true rfl), (Nat.le_of_ble_eq_true rfl)⟩ dX4_init_25 ?_
  refine g_sw (st' := .ref (ev 0 + (n + 3)) :: .ref (ev 0 + (n + 0)) :: []) (ws' := (w ++ [.inr (4, [.ref (ev 0 + (n + 1)), .ref (ev 0 + (n + 2)), .null, .int 0, .int 0, .int 0]), .inl (ev 1, 6, .inl (fun _ => 0)), .inl (ev 1, 6, .inl (fun _ => 0)), .inr (3, [.ref (ev 0 + (n + 4)), .ref (ev 0 + (n + 5))]), .inl (ev 1, 20, .inl (fun _ => 0)), .inl (ev 1, 20, .inl (fun _ => 0))])) rfl (by rw [List.append_assoc]; rfl) ?_
  refine g_putFP F hn (j := 0) rfl hin9 (ty := tyX4 2) tyX4 tyX4_ok nmX4 rfl (ci := 4) rfl inlX4 (k := 2) (by decide) wd_5_5 rfl rfl rfl rfl rfl rfl (Nat.le_of_ble_eq_true rfl) dX4_init_28 ?_
  refine g_sw (st' := []) (ws' := (w ++ [.inr (4, [.ref (ev 0 + (n + 1)), .ref (ev 0 + (n + 2)), .ref (ev 0 + (n + 3)), .int 0, .int 0, .int 0]), .inl (ev 1, 6, .inl (fun _ => 0)), .inl (ev 1, 6, .inl (fun _ => 0)), .inr (3, [.ref (ev 0 + (n + 4)), .ref (ev 0 + (n + 5))]), .inl (ev 1, 20, .inl (fun _ => 0)), .inl (ev 1, 20, .inl (fun _ => 0))])) rfl rfl ?_
  refine g_aload_n (i := 0) F dX4_init_31 rfl rfl ?_
  refine g_iconst F dX4_init_32 (v := -1) (by decide) ?_
  refine g_putfP F hn (j := 0) rfl (ty := .int) tyX4 tyX4_ok nmX4 rfl (ci := 4) rfl inlX4 (k := 3) (by decide) wd_5_6 rfl rfl rfl rfl rfl (Nat.le_of_ble_eq_true rfl) dX4_init_33 ?_
  refine g_sw (st' := []) (ws' := (w ++ [.inr (4, [.ref (ev 0 + (n + 1)), .ref (ev 0 + (n + 2)), .ref (ev 0 + (n + 3)), .int (-1), .int 0, .int 0]), .inl (ev 1, 6, .inl (fun _ => 0)), .inl (ev 1, 6, .inl (fun _ => 0)), .inr (3, [.ref (ev 0 + (n + 4)), .ref (ev 0 + (n + 5))]), .inl (ev 1, 20, .inl (fun _ => 0)), .inl (ev 1, 20, .inl (fun _ => 0))])) rfl rfl ?_
  refine g_aload_n (i := 0) F dX4_init_36 rfl rfl ?_
  refine g_iconst F dX4_init_37 (v := 0) (by decide) ?_
  refine g_putfP F hn (j := 0) rfl (ty := .int) tyX4 tyX4_ok nmX4 rfl (ci := 4) rfl inlX4 (k := 4) (by decide) wd_5_7 rfl rfl rfl rfl rfl (Nat.le_of_ble_eq_true rfl) dX4_init_38 ?_
  refine g_sw (st' := []) (ws' := (w ++ [.inr (4, [.ref (ev 0 + (n + 1)), .ref (ev 0 + (n + 2)), .ref (ev 0 + (n + 3)), .int (-1), .int 0, .int 0]), .inl (ev 1, 6, .inl (fun _ => 0)), .inl (ev 1, 6, .inl (fun _ => 0)), .inr (3, [.ref (ev 0 + (n + 4)), .ref (ev 0 + (n + 5))]), .inl (ev 1, 20, .inl (fun _ => 0)), .inl (ev 1, 20, .inl (fun _ => 0))])) rfl rfl ?_
  refine g_aload_n (i := 0) F dX4_init_41 rfl rfl ?_
  refine g_iconst F dX4_init_42 (v := 0) (by decide) ?_
  refine g_putfP F hn (j := 0) rfl (ty := .int) tyX4 tyX4_ok nmX4 rfl (ci := 4) rfl inlX4 (k := 5) (by decide) wd_5_8 rfl rfl rfl rfl rfl (Nat.le_of_ble_eq_true rfl) dX4_init_43 ?_
  refine g_sw (st' := []) (ws' := (w ++ [.inr (4, [.ref (ev 0 + (n + 1)), .ref (ev 0 + (n + 2)), .ref (ev 0 + (n + 3)), .int (-1), .int 0, .int 0]), .inl (ev 1, 6, .inl (fun _ => 0)), .inl (ev 1, 6, .inl (fun _ => 0)), .inr (3, [.ref (ev 0 + (n + 4)), .ref (ev 0 + (n + 5))]), .inl (ev 1, 20, .inl (fun _ => 0)), .inl (ev 1, 20, .inl (fun _ => 0))])) rfl rfl ?_
  exact g_vret F hr9 hl9 rfl (Nat.le_of_ble_eq_true rfl) (Nat.le_of_ble_eq_true rfl) dX4_init_46
set_option maxRecDepth 100000 in
set_option maxHeartbeats 4000000 in
theorem c_X7_init {l : Launch} {s0 : State} {D : va_G} {ev : Nat → Nat} (G0 : Gl s0 D ev) {w : List va_E} {n : Nat} (hn : w.length = n) (hb : w[1]? = some (.inr (0, [.ref (ev 0 + 2), .ref (ev 0 + 3), .ref (ev 0 + 4), .ref (ev 0 + 5), .ref (ev 0 + 6)]))) : CT l s0 D ev yX7_init cX7_init 2 none 1 2 166 [.ref (ev 0 + n), .ref (ev 0 + 1)] (w ++ [.inr (7, [.null, .null, .null, .null, .null])]) (QV s0 D ev (w ++ [.inr (7, [.ref (ev 0 + 1), .ref (ev 0 + (n + 1)), .ref (ev 0 + (n + 2)), .null, .ref (ev 0 + 5)]), .inl (ev 1, 6, .inl (fun _ => 0)), .inl (ev 1, 160, .inl (fun _ => 0))])) := by
  refine ct_of G0 (by decide) (Nat.le_of_ble_eq_true rfl) ?_
  intro p9 e9 s9 m9 args9 below9 meth9 c9 F hr9 hl9 hin9 hargs9 hts9
  have hlw : 1 < w.length := (List.getElem?_eq_some_iff.mp hb).1
  refine g_lv (lv' := [(0, .ref (ev 0 + (n + 0))), (1, .ref (ev 0 + 1))]) ⟨rfl, rfl, trivial⟩ ?_
  refine g_aload_n (i := 0) F dX7_init_0 rfl rfl ?_
  refine g_obj F wd_4_9 wd_1_10 wd_1_11 (by decide) (Nat.le_of_ble_eq_true rfl) (by decide) dX7_init_1 ?_
  refine g_aload_n (i := 0) F dX7_init_4 rfl rfl ?_
  refine g_bipush F dX7_init_5 (v := 6) (by decide) ?_
  refine g_newiP F (N := 6) hn wd_2_6 (by decide) (by decide) (by decide) (Nat.le_of_ble_eq_true rfl) (Nat.le_of_ble_eq_true rfl) dX7_init_7 ?_
  refine g_sw (st' := .ref (ev 0 + (n + 1)) :: .ref (ev 0 + (n + 0)) :: []) (ws' := (w ++ [.inr (7, [.null, .null, .null, .null, .null]), .inl (ev 1, 6, .inl (fun _ => 0))])) rfl rfl ?_
  refine g_putFP F hn (j := 0) rfl hin9 (ty := tyX7 1) tyX7 tyX7_ok nmX7 rfl (ci := 7) rfl inlX7 (k := 1) (by decide) wd_4_10 rfl rfl rfl rfl rfl rfl (Nat.le_of_ble_eq_true rfl) dX7_init_9 ?_
  refine g_sw (st' := []) (ws' := (w ++ [.inr (7, [.null, .ref (ev 0 + (n + 1)), .null, .null, .null]), .inl (ev 1, 6, .inl (fun _ => 0))])) rfl rfl ?_
  refine g_aload_n (i := 0) F dX7_init_12 rfl rfl ?_
  refine g_sipush F dX7_init_13 (v := 160) (by decide) ?_
  refine g_newiP F (N := 160) hn wd_2_6 (by decide) (by decide) (by decide) (Nat.le_of_ble_eq_true rfl) (Nat.le_of_ble_eq_true rfl) dX7_init_16 ?_
  refine g_sw (st' := .ref (ev 0 + (n + 2)) :: .ref (ev 0 + (n + 0)) :: []) (ws' := (w ++ [.inr (7, [.null, .ref (ev 0 + (n + 1)), .null, .null, .null]), .inl (ev 1, 6, .inl (fun _ => 0)), .inl (ev 1, 160, .inl (fun _ => 0))])) rfl rfl ?_
  refine g_putFP F hn (j := 0) rfl hin9 (ty := tyX7 2) tyX7 tyX7_ok nmX7 rfl (ci := 7) rfl inlX7 (k := 2) (by decide) wd_4_11 rfl rfl rfl rfl rfl rfl (Nat.le_of_ble_eq_true rfl) dX7_init_18 ?_
  refine g_sw (st' := []) (ws' := (w ++ [.inr (7, [.null, .ref (ev 0 + (n + 1)), .ref (ev 0 + (n + 2)), .null, .null]), .inl (ev 1, 6, .inl (fun _ => 0)), .inl (ev 1, 160, .inl (fun _ => 0))])) rfl rfl ?_
  refine g_aload_n (i := 0) F dX7_init_21 rfl rfl ?_
  refine g_null F dX7_init_22 ?_
  refine g_putfP F hn (j := 0) rfl (ty := tyX7 3) tyX7 tyX7_ok nmX7 rfl (ci := 7) rfl inlX7 (k := 3) (by decide) wd_4_12 rfl rfl rfl rfl rfl (Nat.le_of_ble_eq_true rfl) dX7_init_23 ?_
  refine g_sw (st' := []) (ws' := (w ++ [.inr (7, [.null, .ref (ev 0 + (n + 1)), .ref (ev 0 + (n + 2)), .null, .null]), .inl (ev 1, 6, .inl (fun _ => 0)), .inl (ev 1, 160, .inl (fun _ => 0))])) rfl rfl ?_
  refine g_aload_n (i := 0) F dX7_init_26 rfl rfl ?_
  refine g_aload_n (i := 1) F dX7_init_27 rfl rfl ?_
  refine g_putFP F hn (j := 0) rfl hin9 (ty := tyX7 0) tyX7 tyX7_ok nmX7 rfl (ci := 7) rfl inlX7 (k := 0) (by decide) wd_4_13 rfl rfl rfl rfl rfl rfl (Nat.le_of_ble_eq_true rfl) dX7_init_28 ?_
  refine g_sw (st' := []) (ws' := (w ++ [.inr (7, [.ref (ev 0 + 1), .ref (ev 0 + (n + 1)), .ref (ev 0 + (n + 2)), .null, .null]), .inl (ev 1, 6, .inl (fun _ => 0)), .inl (ev 1, 160, .inl (fun _ => 0))])) rfl rfl ?_
  refine g_aload_n (i := 0) F dX7_init_31 rfl rfl ?_
  refine g_aload_n (i := 1) F dX7_init_32 rfl rfl ?_
  refine g_getf F (id := 1) (by rw [List.getElem?_append_left (by omega)]; exact hb) (ci := 0) rfl inlX0 (k := 3) (by decide) wd_4_14 rfl rfl dX7_init_33 ?_
  refine g_putfP F hn (j := 0) rfl (ty := tyX7 4) tyX7 tyX7_ok nmX7 rfl (ci := 7) rfl inlX7 (k := 4) (by decide) wd_4_15 rfl rfl rfl rfl rfl (Nat.le_of_ble_eq_true rfl) dX7_init_36 ?_
  refine g_sw (st' := []) (ws' := (w ++ [.inr (7, [.ref (ev 0 + 1), .ref (ev 0 + (n + 1)), .ref (ev 0 + (n + 2)), .null, .ref (ev 0 + 5)]), .inl (ev 1, 6, .inl (fun _ => 0)), .inl (ev 1, 160, .inl (fun _ => 0))])) rfl rfl ?_
  exact g_vret F hr9 hl9 rfl (Nat.le_of_ble_eq_true rfl) (Nat.le_of_ble_eq_true rfl) dX7_init_39
set_option maxRecDepth 100000 in
set_option maxHeartbeats 4000000 in
theorem c_X2_init {l : Launch} {s0 : State} {D : va_G} {ev : Nat → Nat} (G0 : Gl s0 D ev) {w : List va_E} {n : Nat} (hn : w.length = n) : CT l s0 D ev yX2_init cX2_init 1 none 1 1 12 [.ref (ev 0 + n)] (w ++ [.inr (2, [.null, .int 0, .int 0, .int 0])]) (QV s0 D ev (w ++ [.inr (2, [.ref (ev 0 + (n + 1)), .int (-1), .int 0, .int (-1)]), .inl (ev 1, 12, .inl (fun _ => 0))])) := by
  refine ct_of G0 (by decide) (Nat.le_of_ble_eq_true rfl) ?_
  intro p9 e9 s9 m9 args9 below9 meth9 c9 F hr9 hl9 hin9 hargs9 hts9
  refine g_lv (lv' := [(0, .ref (ev 0 + (n + 0)))]) ⟨rfl, trivial⟩ ?_
  refine g_aload_n (i := 0) F dX2_init_0 rfl rfl ?_
  refine g_obj F wd_5_12 wd_1_10 wd_1_11 (by decide) (Nat.le_of_ble_eq_true rfl) (by decide) dX2_init_1 ?_
  refine g_aload_n (i := 0) F dX2_init_4 rfl rfl ?_
  refine g_bipush F dX2_init_5 (v := 12) (by decide) ?_
  refine g_newiP F (N := 12) hn wd_2_6 (by decide) (by decide) (by decide) (Nat.le_of_ble_eq_true rfl) (Nat.le_of_ble_eq_true rfl) dX2_init_7 ?_
  refine g_sw (st' := .ref (ev 0 + (n + 1)) :: .ref (ev 0 + (n + 0)) :: []) (ws' := (w ++ [.inr (2, [.null, .int 0, .int 0, .int 0]), .inl (ev 1, 12, .inl (fun _ => 0))])) rfl rfl ?_
  refine g_putFP F hn (j := 0) rfl hin9 (ty := tyX2 0) tyX2 tyX2_ok nmX2 rfl (ci := 2) rfl inlX2 (k := 0) (by decide) wd_5_13 rfl rfl rfl rfl rfl rfl (Nat.le_of_ble_eq_true rfl) dX2_init_9 ?_
  refine g_sw (st' := []) (ws' := (w ++ [.inr (2, [.ref (ev 0 + (n + 1)), .int 0, .int 0, .int 0]), .inl (ev 1, 12, .inl (fun _ => 0))])) rfl rfl ?_
  refine g_aload_n (i := 0) F dX2_init_12 rfl rfl ?_
  refine g_iconst F dX2_init_13 (v := -1) (by decide) ?_
  refine g_putfP F hn (j := 0) rfl (ty := .int) tyX2 tyX2_ok nmX2 rfl (ci := 2) rfl inlX2 (k := 1) (by decide) wd_5_14 rfl rfl rfl rfl rfl (Nat.le_of_ble_eq_true rfl) dX2_init_14 ?_
  refine g_sw (st' := []) (ws' := (w ++ [.inr (2, [.ref (ev 0 + (n + 1)), .int (-1), .int 0, .int 0]), .inl (ev 1, 12, .inl (fun _ => 0))])) rfl rfl ?_
  refine g_aload_n (i := 0) F dX2_init_17 rfl rfl ?_
  refine g_iconst F dX2_init_18 (v := 0) (by decide) ?_
  refine g_putfP F hn (j := 0) rfl (ty := .int) tyX2 tyX2_ok nmX2 rfl (ci := 2) rfl inlX2 (k := 2) (by decide) wd_5_15 rfl rfl rfl rfl rfl (Nat.le_of_ble_eq_true rfl) dX2_init_19 ?_
  refine g_sw (st' := []) (ws' := (w ++ [.inr (2, [.ref (ev 0 + (n + 1)), .int (-1), .int 0, .int 0]), .inl (ev 1, 12, .inl (fun _ => 0))])) rfl rfl ?_
  refine g_aload_n (i := 0) F dX2_init_22 rfl rfl ?_
  refine g_iconst F dX2_init_23 (v := -1) (by decide) ?_
  refine g_putfP F hn (j := 0) rfl (ty := .int) tyX2 tyX2_ok nmX2 rfl (ci := 2) rfl inlX2 (k := 3) (by decide) wd_5_16 rfl rfl rfl rfl rfl (Nat.le_of_ble_eq_true rfl) dX2_init_24 ?_
  refine g_sw (st' := []) (ws' := (w ++ [.inr (2, [.ref (ev 0 + (n + 1)), .int (-1), .int 0, .int (-1)]), .inl (ev 1, 12, .inl (fun _ => 0))])) rfl rfl ?_
  exact g_vret F hr9 hl9 rfl (Nat.le_of_ble_eq_true rfl) (Nat.le_of_ble_eq_true rfl) dX2_init_27
set_option maxRecDepth 100000 in
set_option maxHeartbeats 4000000 in
theorem c_X8_init {l : Launch} {s0 : State} {D : va_G} {ev : Nat → Nat} (G0 : Gl s0 D ev) {w : List va_E} {n : Nat} (hn : w.length = n) : CT l s0 D ev yX8_init cX8_init 1 none 1 1 40 [.ref (ev 0 + n)] (w ++ [.inr (8, [.null, .int 0, .int 0])]) (QV s0 D ev (w ++ [.inr (8, [.ref (ev 0 + (n + 1)), .int (-1), .int 0]), .inl (ev 1, 40, .inl (fun _ => 0))])) := by
  refine ct_of G0 (by decide) (Nat.le_of_ble_eq_true rfl) ?_
  intro p9 e9 s9 m9 args9 below9 meth9 c9 F hr9 hl9 hin9 hargs9 hts9
  refine g_lv (lv' := [(0, .ref (ev 0 + (n + 0)))]) ⟨rfl, trivial⟩ ?_
  refine g_aload_n (i := 0) F dX8_init_0 rfl rfl ?_
  refine g_obj F wd_5_20 wd_1_10 wd_1_11 (by decide) (Nat.le_of_ble_eq_true rfl) (by decide) dX8_init_1 ?_
  refine g_aload_n (i := 0) F dX8_init_4 rfl rfl ?_
  refine g_bipush F dX8_init_5 (v := 40) (by decide) ?_
  refine g_newiP F (N := 40) hn wd_2_6 (by decide) (by decide) (by decide) (Nat.le_of_ble_eq_true rfl) (Nat.le_of_ble_eq_true rfl) dX8_init_7 ?_
  refine g_sw (st' := .ref (ev 0 + (n + 1)) :: .ref (ev 0 + (n + 0)) :: []) (ws' := (w ++ [.inr (8, [.null, .int 0, .int 0]), .inl (ev 1, 40, .inl (fun _ => 0))])) rfl rfl ?_
  refine g_putFP F hn (j := 0) rfl hin9 (ty := tyX8 0) tyX8 tyX8_ok nmX8 rfl (ci := 8) rfl inlX8 (k := 0) (by decide) wd_5_21 rfl rfl rfl rfl rfl rfl (Nat.le_of_ble_eq_true rfl) dX8_init_9 ?_
  refine g_sw (st' := []) (ws' := (w ++ [.inr (8, [.ref (ev 0 + (n + 1)), .int 0, .int 0]), .inl (ev 1, 40, .inl (fun _ => 0))])) rfl rfl ?_
  refine g_aload_n (i := 0) F dX8_init_12 rfl rfl ?_
  refine g_iconst F dX8_init_13 (v := -1) (by decide) ?_
  refine g_putfP F hn (j := 0) rfl (ty := .int) tyX8 tyX8_ok nmX8 rfl (ci := 8) rfl inlX8 (k := 1) (by decide) wd_5_22 rfl rfl rfl rfl rfl (Nat.le_of_ble_eq_true rfl) dX8_init_14 ?_
  refine g_sw (st' := []) (ws' := (w ++ [.inr (8, [.ref (ev 0 + (n + 1)), .int (-1), .int 0]), .inl (ev 1, 40, .inl (fun _ => 0))])) rfl rfl ?_
  refine g_aload_n (i := 0) F dX8_init_17 rfl rfl ?_
  refine g_iconst F dX8_init_18 (v := 0) (by decide) ?_
  refine g_putfP F hn (j := 0) rfl (ty := .int) tyX8 tyX8_ok nmX8 rfl (ci := 8) rfl inlX8 (k := 2) (by decide) wd_5_23 rfl rfl rfl rfl rfl (Nat.le_of_ble_eq_true rfl) dX8_init_19 ?_
  refine g_sw (st' := []) (ws' := (w ++ [.inr (8, [.ref (ev 0 + (n + 1)), .int (-1), .int 0]), .inl (ev 1, 40, .inl (fun _ => 0))])) rfl rfl ?_
  exact g_vret F hr9 hl9 rfl (Nat.le_of_ble_eq_true rfl) (Nat.le_of_ble_eq_true rfl) dX8_init_22
set_option maxRecDepth 100000 in
set_option maxHeartbeats 4000000 in
theorem c_X5_init {l : Launch} {s0 : State} {D : va_G} {ev : Nat → Nat} (G0 : Gl s0 D ev) {w : List va_E} {n : Nat} (hn : w.length = n) : CT l s0 D ev yX5_init cX5_init 1 none 1 2 163 [.ref (ev 0 + n)] (w ++ [.inr (5, [.null, .null, .int 0])]) (QV s0 D ev (w ++ [.inr (5, [.ref (ev 0 + (n + 1)), .ref (ev 0 + (n + 2)), .int 0]), .inl (ev 1, 160, .inl (fun _ => 0)), .inl (ev 1, 3, .inl (fun _ => 0))])) := by
  refine ct_of G0 (by decide) (Nat.le_of_ble_eq_true rfl) ?_
  intro p9 e9 s9 m9 args9 below9 meth9 c9 F hr9 hl9 hin9 hargs9 hts9
  refine g_lv (lv' := [(0, .ref (ev 0 + (n + 0)))]) ⟨rfl, trivial⟩ ?_
  refine g_aload_n (i := 0) F dX5_init_0 rfl rfl ?_
  refine g_obj F wd_6_2 wd_1_10 wd_1_11 (by decide) (Nat.le_of_ble_eq_true rfl) (by decide) dX5_init_1 ?_
  refine g_aload_n (i := 0) F dX5_init_4 rfl rfl ?_
  refine g_sipush F dX5_init_5 (v := 160) (by decide) ?_
  refine g_newiP F (N := 160) hn wd_2_6 (by decide) (by decide) (by decide) (Nat.le_of_ble_eq_true rfl) (Nat.le_of_ble_eq_true rfl) dX5_init_8 ?_
  refine g_sw (st' := .ref (ev 0 + (n + 1)) :: .ref (ev 0 + (n + 0)) :: []) (ws' := (w ++ [.inr (5, [.null, .null, .int 0]), .inl (ev 1, 160, .inl (fun _ => 0))])) rfl rfl ?_
  refine g_putFP F hn (j := 0) rfl hin9 (ty := tyX5 0) tyX5 tyX5_ok nmX5 rfl (ci := 5) rfl inlX5 (k := 0) (by decide) wd_6_3 rfl rfl rfl rfl rfl rfl (Nat.le_of_ble_eq_true rfl) dX5_init_10 ?_
  refine g_sw (st' := []) (ws' := (w ++ [.inr (5, [.ref (ev 0 + (n + 1)), .null, .int 0]), .inl (ev 1, 160, .inl (fun _ => 0))])) rfl rfl ?_
  refine g_aload_n (i := 0) F dX5_init_13 rfl rfl ?_
  refine g_iconst F dX5_init_14 (v := 3) (by decide) ?_
  refine g_newiP F (N := 3) hn wd_2_6 (by decide) (by decide) (by decide) (Nat.le_of_ble_eq_true rfl) (Nat.le_of_ble_eq_true rfl) dX5_init_15 ?_
  refine g_sw (st' := .ref (ev 0 + (n + 2)) :: .ref (ev 0 + (n + 0)) :: []) (ws' := (w ++ [.inr (5, [.ref (ev 0 + (n + 1)), .null, .int 0]), .inl (ev 1, 160, .inl (fun _ => 0)), .inl (ev 1, 3, .inl (fun _ => 0))])) rfl rfl ?_
  refine g_putFP F hn (j := 0) rfl hin9 (ty := tyX5 1) tyX5 tyX5_ok nmX5 rfl (ci := 5) rfl inlX5 (k := 1) (by decide) wd_6_4 rfl rfl rfl rfl rfl rfl (Nat.le_of_ble_eq_true rfl) dX5_init_17 ?_
  refine g_sw (st' := []) (ws' := (w ++ [.inr (5, [.ref (ev 0 + (n + 1)), .ref (ev 0 + (n + 2)), .int 0]), .inl (ev 1, 160, .inl (fun _ => 0)), .inl (ev 1, 3, .inl (fun _ => 0))])) rfl rfl ?_
  refine g_aload_n (i := 0) F dX5_init_20 rfl rfl ?_
  refine g_iconst F dX5_init_21 (v := 0) (by decide) ?_
  refine g_putfP F hn (j := 0) rfl (ty := .int) tyX5 tyX5_ok nmX5 rfl (ci := 5) rfl inlX5 (k := 2) (by decide) wd_6_5 rfl rfl rfl rfl rfl (Nat.le_of_ble_eq_true rfl) dX5_init_22 ?_
  refine g_sw (st' := []) (ws' := (w ++ [.inr (5, [.ref (ev 0 + (n + 1)), .ref (ev 0 + (n + 2)), .int 0]), .inl (ev 1, 160, .inl (fun _ => 0)), .inl (ev 1, 3, .inl (fun _ => 0))])) rfl rfl ?_
  exact g_vret F hr9 hl9 rfl (Nat.le_of_ble_eq_true rfl) (Nat.le_of_ble_eq_true rfl) dX5_init_25

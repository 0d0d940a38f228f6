
/-! raw worlds: the heap from ev 0 on, an entry a cell; below it nothing has changed since the law's entry -/
def Wst (D : va_G) (z : Nat) (hz : Heap) (ws : List va_E) (H : Heap) : Prop := H.size = z + ws.length ∧ (∀ q : Nat, q < z → H[q]? = hz[q]?) ∧ ∀ (k : Nat) (e : va_E), ws[k]? = some e → va_at D vwCl (z + k, e) H
def tysE (ev : Nat → Nat) : List (ClassId × FieldType) := [(ev 1, .int), (ev 2, .object RX1), (ev 3, .object RX2), (ev 4, .object RX5), (ev 5, .object RX8)]
/-- the class's texts: who holds them, at which entry, which -/
def srO (i : Nat) : String := if i = 12 then RX9 else RX6
def srK (i : Nat) : Nat := if i = 12 then 93 else 105 + 2 * i
def srT (i : Nat) : String := (["wind", "area", "deep", "out", "bed", "heavy", "pull", "hold", "jerk", "or", "and", "not", "pull wind * area ; hold 60 + heavy * 10 - bed * 20 ; jerk wind - out ;"] : List String).getD i ""
/-- what nest mates link -/
def nwL : List Cond := [.methodLinkNest "AnchorThatDrags" 90 yX2_init "AnchorThatDrags", .methodLinkNest "AnchorThatDrags" 92 yX5_init "AnchorThatDrags", .methodLinkNest "AnchorThatDrags$Reader" 64 yX9_within "AnchorThatDrags", .methodLinkNest "AnchorThatDrags$Program" 22 yX9_within "AnchorThatDrags", .methodLinkNest "AnchorThatDrags$Scales" 34 yX9_within "AnchorThatDrags", .fieldLinkNest "AnchorThatDrags$Scales" 38 "AnchorThatDrags" "MOST_SAID" "[I" "AnchorThatDrags", .methodLinkNest "AnchorThatDrags$Bay" 33 yX9_within "AnchorThatDrags", .methodLinkNest "AnchorThatDrags$Scales" 83 yX9_isHour "AnchorThatDrags", .methodLinkNest "AnchorThatDrags$Scales" 93 yX9_isCell "AnchorThatDrags", .methodLinkNest "AnchorThatDrags$Bay" 50 yX9_isHour "AnchorThatDrags", .methodLinkNest "AnchorThatDrags$Bay" 63 yX9_isCell "AnchorThatDrags", .fieldLinkNest "AnchorThatDrags$Bay" 66 "AnchorThatDrags" "STEP_Y" "[I" "AnchorThatDrags", .fieldLinkNest "AnchorThatDrags$Bay" 69 "AnchorThatDrags" "STEP_X" "[I" "AnchorThatDrags", .methodLinkNest "AnchorThatDrags$Course" 59 yX9_isHour "AnchorThatDrags", .methodLinkNest "AnchorThatDrags$Forms" 18 yX9_isFormIn "AnchorThatDrags", .methodLinkNest "AnchorThatDrags$Sheet" 37 yX9_within "AnchorThatDrags"]
theorem nwL_tab : ∀ w ∈ nwL, w.onTables = true := by decide +kernel
def Nws (U : State) : Prop := ∀ w ∈ nwL, va_Nw w U
theorem Nws.same {u U : State} (h : u.vm = U.vm) (hz : Nws u) : Nws U := fun w hw => va_Nw.same (nwL_tab w hw) h (hz w hw)
theorem Nws.warm {s U : State} (hW : s.WarmedH U.vm) (hz : Nws s) : Nws U := List.forall_mem_cons.mpr ⟨va_Nw.warmM hW (hz _ (List.mem_of_getElem? (i := 0) rfl)), List.forall_mem_cons.mpr ⟨va_Nw.warmM hW (hz _ (List.mem_of_getElem? (i := 1) rfl)), List.forall_mem_cons.mpr ⟨va_Nw.warmM hW (hz _ (List.mem_of_getElem? (i := 2) rfl)), List.forall_mem_cons.mpr ⟨va_Nw.warmM hW (hz _ (List.mem_of_getElem? (i := 3) rfl)), List.forall_mem_cons.mpr ⟨va_Nw.warmM hW (hz _ (List.mem_of_getElem? (i := 4) rfl)), List.forall_mem_cons.mpr ⟨va_Nw.warmF hW (hz _ (List.mem_of_getElem? (i := 5) rfl)), List.forall_mem_cons.mpr ⟨va_Nw.warmM hW (hz _ (List.mem_of_getElem? (i := 6) rfl)), List.forall_mem_cons.mpr ⟨va_Nw.warmM hW (hz _ (List.mem_of_getElem? (i := 7) rfl)), List.forall_mem_cons.mpr ⟨va_Nw.warmM hW (hz _ (List.mem_of_getElem? (i := 8) rfl)), List.forall_mem_cons.mpr ⟨va_Nw.warmM hW (hz _ (List.mem_of_getElem? (i := 9) rfl)), List.forall_mem_cons.mpr ⟨va_Nw.warmM hW (hz _ (List.mem_of_getElem? (i := 10) rfl)), List.forall_mem_cons.mpr ⟨va_Nw.warmF hW (hz _ (List.mem_of_getElem? (i := 11) rfl)), List.forall_mem_cons.mpr ⟨va_Nw.warmF hW (hz _ (List.mem_of_getElem? (i := 12) rfl)), List.forall_mem_cons.mpr ⟨va_Nw.warmM hW (hz _ (List.mem_of_getElem? (i := 13) rfl)), List.forall_mem_cons.mpr ⟨va_Nw.warmM hW (hz _ (List.mem_of_getElem? (i := 14) rfl)), List.forall_mem_cons.mpr ⟨va_Nw.warmM hW (hz _ (List.mem_of_getElem? (i := 15) rfl)), fun _ h => absurd h List.not_mem_nil⟩⟩⟩⟩⟩⟩⟩⟩⟩⟩⟩⟩⟩⟩⟩⟩
def Sr (ev : Nat → Nat) (U : State) : Prop := (∀ i : Nat, i < 13 → vk_R (srO i) (srK i) (srT i) (ev (30 + i)) U) ∧ Nws U
def frA (ev : Nat → Nat) : Nat → Prop := fun q => ev 0 ≤ q
/-- the class's static rows: names, lengths, numbers -/
def stN (i : Nat) : String := (["STEP_Y", "STEP_X", "MOST_SAID", "ACT_COST", "BORNE"] : List String).getD i ""
def stR (i : Nat) : List Int32 := ([[1, 1, 0, -1, -1, -1, 0, 1], [0, 1, 1, 1, 0, -1, -1, -1], [999, 999, 100], [0, 1, 2, 4, 9], [50, 54, 71, 131]] : List (List Int32)).getD i []
def St (ev : Nat → Nat) (s : State) (H : Heap) : Prop := ∀ i : Nat, i < 5 → va_Z RX9 (stN i) "[I" (.ref (ev (10 + i))) (frA ev) s H ∧ va_T .int (ev (10 + i)) (stR i).length (fun j => .int ((stR i).getD j 0)) (frA ev) s H
/-- the bytes of the class's texts -/
def srB (i : Nat) : List Int32 := ([[119, 105, 110, 100], [97, 114, 101, 97], [100, 101, 101, 112], [111, 117, 116], [98, 101, 100], [104, 101, 97, 118, 121], [112, 117, 108, 108], [104, 111, 108, 100], [106, 101, 114, 107], [111, 114], [97, 110, 100], [110, 111, 116], [112, 117, 108, 108, 32, 119, 105, 110, 100, 32, 42, 32, 97, 114, 101, 97, 32, 59, 32, 104, 111, 108, 100, 32, 54, 48, 32, 43, 32, 104, 101, 97, 118, 121, 32, 42, 32, 49, 48, 32, 45, 32, 98, 101, 100, 32, 42, 32, 50, 48, 32, 59, 32, 106, 101, 114, 107, 32, 119, 105, 110, 100, 32, 45, 32, 111, 117, 116, 32, 59]] : List (List Int32)).getD i []
def Gl (s0 : State) (D : va_G) (ev : Nat → Nat) : Prop := ev 0 = s0.heap.size ∧ va_K D vwCl (tysE ev) s0 ∧ St ev s0 s0.heap ∧ vk_S 13 ((List.range 13).map fun i => (srB i).length) ((List.range 13).map srB) (fun i => ev (30 + i)) (fun i => ev (50 + i)) (frA ev) s0 s0.heap ∧ (∀ C ∈ ([RX1, RX2, RX5, RX8] : List String), va_AO C s0) ∧ va_Z "java/lang/String" "COMPACT_STRINGS" "Z" (.int 1) (frA ev) s0 s0.heap ∧ va_Zq "jdk/internal/util/Preconditions" "SIOOBE_FORMATTER" "Ljava/util/function/BiFunction;" (frA ev) s0 s0.heap
/-- the world, as contracts have it -/
def Wr (s0 : State) (D : va_G) (ev : Nat → Nat) (ws : List va_E) (U : State) : Prop := s0.vm.Alike U.vm ∧ Sr ev U ∧ Wst D (ev 0) s0.heap ws U.heap
/-- what holds all through a method's body -/
def Fx (p : Program) (s : State) (m : MethodId) (args : Array Value) (c : Code) (s0 : State) (D : va_G) (ev : Nat → Nat) (cc : ByteArray) (nL : Nat) (own : String) : Prop :=
  Gl s0 D ev ∧ p.tables.exec = Jvm.exec ∧ c.code = cc ∧ c.maxLocals = nL ∧ s.vm.findClass own = some m.cls ∧ (∀ w ∈ wsL_law, w.before args s = true) ∧ s0.vm.Alike s.vm ∧ Sr ev s ∧ (∀ q : Nat, q < ev 0 → s.heap[q]? = s0.heap[q]?) ∧ ev 0 ≤ s.heap.size
/-- the heap at a point -/
def Hc (s : State) (s0 : State) (D : va_G) (ev : Nat → Nat) (ws : List va_E) (H : Heap) (locs : List Loc) : Prop := Wst D (ev 0) s0.heap ws H ∧ s.heap.size ≤ H.size ∧ ∀ q ∈ locs, ev 0 ≤ q.base
def GJ (p : Program) (l : Launch) (e : Env) (R : Room) (s : State) (m : MethodId) (args : Array Value) (below : List Frame) (meth : Method) (c : Code) (Q : State → Prop) (s0 : State) (D : va_G) (ev : Nat → Nat) (nL : Nat) (cells slots pc : Nat) (lv : List (Nat × Value)) (st : List Value) (ws : List va_E) : Prop :=
  ∀ (H : Heap) (locs : List Loc) (ls : Array Slot), lv_has ls nL lv → Hc s s0 D ev ws H locs → W p l e R s m args below meth c H locs cells slots Q (F0 m pc ls st)
def lget : List (Nat × Value) → Nat → Option Value
  | [], _ => none
  | q :: r, i => if q.1 = i then some q.2 else lget r i
theorem lget_mem : ∀ (lv : List (Nat × Value)) {i : Nat} {v : Value}, lget lv i = some v → (i, v) ∈ lv
  | [], _, _, h => by cases h
  | q :: r, i, v, h => by
    by_cases hq : q.1 = i
    · rw [lget, if_pos hq] at h
      cases h
      subst hq
      exact List.mem_cons_self
    · rw [lget, if_neg hq] at h
      exact List.mem_cons_of_mem _ (lget_mem r h)
theorem lget_has {ls : Array Slot} {n : Nat} {lv : List (Nat × Value)} (h : lv_has ls n lv) {i : Nat} {v : Value} (hk : lget lv i = some v) : ls[i]? = some (.val v) := h.2.2 (i, v) (lget_mem lv hk)
def lin (lv : List (Nat × Value)) : List (Nat × Value) → Prop
  | [] => True
  | q :: r => lget lv q.1 = some q.2 ∧ lin lv r
theorem lin_has {ls : Array Slot} {n : Nat} {lv : List (Nat × Value)} (h : lv_has ls n lv) : ∀ (lv' : List (Nat × Value)), lin lv lv' → lv_has ls n lv'
  | [], _ => ⟨h.1, h.2.1, fun q hq => absurd hq List.not_mem_nil⟩
  | q :: r, h1 => ⟨h.1, h.2.1, fun q' hq => by
    rcases List.mem_cons.mp hq with e | e
    · rw [e]; exact h.2.2 (q.1, q.2) (lget_mem lv h1.1)
    · exact (lin_has h r h1.2).2.2 q' e⟩
/-- a value's name, that simp may take away again -/
def bd {α : Type} {β : Type} (a : α) (k : α → β) : β := k a
section G6
variable {p : Program} {l : Launch} {e : Env} {R : Room} {s : State} {m : MethodId} {args : Array Value} {below : List Frame} {meth : Method} {c : Code} {Q : State → Prop} {s0 : State} {D : va_G} {ev : Nat → Nat} {nL cells slots pc : Nat} {lv lv' : List (Nat × Value)} {st : List Value} {ws : List va_E} {cc : ByteArray} {own : String}
theorem Fx.gl (F : Fx p s m args c s0 D ev cc nL own) : Gl s0 D ev := F.1
theorem Fx.ex (F : Fx p s m args c s0 D ev cc nL own) : p.tables.exec = Jvm.exec := F.2.1
theorem Fx.co (F : Fx p s m args c s0 D ev cc nL own) : c.code = cc := F.2.2.1
theorem Fx.ml (F : Fx p s m args c s0 D ev cc nL own) : c.maxLocals = nL := F.2.2.2.1
theorem Fx.ow (F : Fx p s m args c s0 D ev cc nL own) : s.vm.findClass own = some m.cls := F.2.2.2.2.1
theorem Fx.ts (F : Fx p s m args c s0 D ev cc nL own) : ∀ w ∈ wsL_law, w.before args s = true := F.2.2.2.2.2.1
theorem Fx.al (F : Fx p s m args c s0 D ev cc nL own) : s0.vm.Alike s.vm := F.2.2.2.2.2.2.1
theorem Fx.sr (F : Fx p s m args c s0 D ev cc nL own) : Sr ev s := F.2.2.2.2.2.2.2.1
theorem Fx.lo (F : Fx p s m args c s0 D ev cc nL own) : ∀ q : Nat, q < ev 0 → s.heap[q]? = s0.heap[q]? := F.2.2.2.2.2.2.2.2.1
theorem Fx.hi (F : Fx p s m args c s0 D ev cc nL own) : ev 0 ≤ s.heap.size := F.2.2.2.2.2.2.2.2.2
theorem Fx.K (F : Fx p s m args c s0 D ev cc nL own) : va_K D vwCl (tysE ev) s := F.gl.2.1.moved F.al
theorem g_lv (h : lin lv lv') (k : GJ p l e R s m args below meth c Q s0 D ev nL cells slots pc lv' st ws) : GJ p l e R s m args below meth c Q s0 D ev nL cells slots pc lv st ws := fun H locs ls hl hc => k H locs ls (lin_has hl lv' h) hc
theorem g_st {st' : List Value} (h : st = st') (k : GJ p l e R s m args below meth c Q s0 D ev nL cells slots pc lv st' ws) : GJ p l e R s m args below meth c Q s0 D ev nL cells slots pc lv st ws := h ▸ k
theorem g_wd {cells' slots' : Nat} (h1 : cells ≤ cells') (h2 : slots ≤ slots') (k : GJ p l e R s m args below meth c Q s0 D ev nL cells' slots' pc lv st ws) : GJ p l e R s m args below meth c Q s0 D ev nL cells slots pc lv st ws := fun H locs ls hl hc => W.widen h1 h2 (k H locs ls hl hc)
theorem bd_at {α β : Type} {a : α} {k : α → β} {o : β} (h : bd a k = o) : ∃ y, y = a ∧ k y = o := ⟨a, rfl, h⟩
theorem bind_at {α β : Type} {x : Option α} {k : α → Option β} {o : β} (h : x.bind k = some o) : ∃ y, x = some y ∧ k y = some o := by
  cases x with
  | none => cases h
  | some y => exact ⟨y, rfl, h⟩

def jrem (x y : Int32) : Int32 := x - x / y * y
def lrem (x y : Int64) : Int64 := x - x / y * y
def jmax (x y : Int32) : Int32 := if x < y then y else x
def jmin (x y : Int32) : Int32 := if y < x then y else x
def jabs (x : Int32) : Int32 := if 0 ≤ x then x else 0 - x
theorem g_iconst (F : Fx p s m args c s0 D ev cc nL own) {n : Int} {v : Int32} (hd : decode cc pc = .ok (.iconst n, 1)) (hv : Int32.ofInt n = v) (k : GJ p l e R s m args below meth c Q s0 D ev nL cells slots (pc + 1) lv (.int v :: st) ws) : GJ p l e R s m args below meth c Q s0 D ev nL cells slots pc lv (st) ws := fun H locs ls hl hc => lv_iconst F.ex F.co hd hv (k H locs ls hl hc)
theorem g_bipush (F : Fx p s m args c s0 D ev cc nL own) {n : Int} {v : Int32} (hd : decode cc pc = .ok (.bipush n, 2)) (hv : (Int8.ofInt n).toInt32 = v) (k : GJ p l e R s m args below meth c Q s0 D ev nL cells slots (pc + 2) lv (.int v :: st) ws) : GJ p l e R s m args below meth c Q s0 D ev nL cells slots pc lv (st) ws := fun H locs ls hl hc => lv_bipush F.ex F.co hd hv (k H locs ls hl hc)
theorem g_sipush (F : Fx p s m args c s0 D ev cc nL own) {n : Int} {v : Int32} (hd : decode cc pc = .ok (.sipush n, 3)) (hv : (Int16.ofInt n).toInt32 = v) (k : GJ p l e R s m args below meth c Q s0 D ev nL cells slots (pc + 3) lv (.int v :: st) ws) : GJ p l e R s m args below meth c Q s0 D ev nL cells slots pc lv (st) ws := fun H locs ls hl hc => lv_sipush F.ex F.co hd hv (k H locs ls hl hc)
theorem g_lconst (F : Fx p s m args c s0 D ev cc nL own) {n : Fin 2} {v : Int64} (hd : decode cc pc = .ok (.lconst n, 1)) (hv : Int64.ofNat (n : Nat) = v) (k : GJ p l e R s m args below meth c Q s0 D ev nL cells slots (pc + 1) lv (.long v :: st) ws) : GJ p l e R s m args below meth c Q s0 D ev nL cells slots pc lv (st) ws := fun H locs ls hl hc => lv_lconst F.ex F.co hd hv (k H locs ls hl hc)
theorem g_ldc (F : Fx p s m args c s0 D ev cc nL own) {i : Nat} {v : Int32} (hd : decode cc pc = .ok (.ldc i, 2)) (hw : Cond.constant own i v ∈ wsL_law) (k : GJ p l e R s m args below meth c Q s0 D ev nL cells slots (pc + 2) lv (.int v :: st) ws) : GJ p l e R s m args below meth c Q s0 D ev nL cells slots pc lv (st) ws := fun H locs ls hl hc => lv_ldc F.ex F.co F.ow (F.ts _ hw) hd (k H locs ls hl hc)
theorem g_ldcw (F : Fx p s m args c s0 D ev cc nL own) {i : Nat} {v : Int32} (hd : decode cc pc = .ok (.ldc_w i, 3)) (hw : Cond.constant own i v ∈ wsL_law) (k : GJ p l e R s m args below meth c Q s0 D ev nL cells slots (pc + 3) lv (.int v :: st) ws) : GJ p l e R s m args below meth c Q s0 D ev nL cells slots pc lv (st) ws := fun H locs ls hl hc => lv_ldcw F.ex F.co F.ow (F.ts _ hw) hd (k H locs ls hl hc)
theorem g_ldc2 (F : Fx p s m args c s0 D ev cc nL own) {i : Nat} {v : Int64} (hd : decode cc pc = .ok (.ldc2_w i, 3)) (hw : Cond.constantLong own i v ∈ wsL_law) (k : GJ p l e R s m args below meth c Q s0 D ev nL cells slots (pc + 3) lv (.long v :: st) ws) : GJ p l e R s m args below meth c Q s0 D ev nL cells slots pc lv (st) ws := fun H locs ls hl hc => lv_ldc2 F.ex F.co F.ow (F.ts _ hw) hd (k H locs ls hl hc)
theorem g_null (F : Fx p s m args c s0 D ev cc nL own) (hd : decode cc pc = .ok (.aconst_null, 1)) (k : GJ p l e R s m args below meth c Q s0 D ev nL cells slots (pc + 1) lv (.null :: st) ws) : GJ p l e R s m args below meth c Q s0 D ev nL cells slots pc lv (st) ws := fun H locs ls hl hc => lv_null F.ex F.co hd (k H locs ls hl hc)
theorem g_iload_n (F : Fx p s m args c s0 D ev cc nL own) {k : Fin 4} {i : Nat} {x : Int32} (hd : decode cc pc = .ok (.iload_n k, 1)) (hi : (k : Nat) = i) (hx : lget lv i = some (.int x)) (k : GJ p l e R s m args below meth c Q s0 D ev nL cells slots (pc + 1) lv (.int x :: st) ws) : GJ p l e R s m args below meth c Q s0 D ev nL cells slots pc lv (st) ws := fun H locs ls hl hc => lv_iload_n F.ex F.co hd hi (lget_has hl hx) (k H locs ls hl hc)
theorem g_iload (F : Fx p s m args c s0 D ev cc nL own) {i : Nat} {x : Int32} (hd : decode cc pc = .ok (.iload i, 2)) (hx : lget lv i = some (.int x)) (k : GJ p l e R s m args below meth c Q s0 D ev nL cells slots (pc + 2) lv (.int x :: st) ws) : GJ p l e R s m args below meth c Q s0 D ev nL cells slots pc lv (st) ws := fun H locs ls hl hc => lv_iload F.ex F.co hd (lget_has hl hx) (k H locs ls hl hc)
theorem g_istore_n (F : Fx p s m args c s0 D ev cc nL own) {kf : Fin 4} {i : Nat} {x : Int32} (hd : decode cc pc = .ok (.istore_n kf, 1)) (hi : (kf : Nat) = i) (hn : i < nL) (hv : (i, .int x) :: lv.filter (fun q => !(q.1 == i) && !(q.1 + 1 == i && q.2.category == 2)) = lv') (k : GJ p l e R s m args below meth c Q s0 D ev nL cells slots (pc + 1) lv' st ws) : GJ p l e R s m args below meth c Q s0 D ev nL cells slots pc lv (.int x :: st) ws := fun H locs ls hl hc => lv_istore_n F.ex F.co hd hi hl hn hv (fun ls' hl' => k H locs ls' hl' hc)
theorem g_istore (F : Fx p s m args c s0 D ev cc nL own) {i : Nat} {x : Int32} (hd : decode cc pc = .ok (.istore i, 2)) (hn : i < nL) (hv : (i, .int x) :: lv.filter (fun q => !(q.1 == i) && !(q.1 + 1 == i && q.2.category == 2)) = lv') (k : GJ p l e R s m args below meth c Q s0 D ev nL cells slots (pc + 2) lv' st ws) : GJ p l e R s m args below meth c Q s0 D ev nL cells slots pc lv (.int x :: st) ws := fun H locs ls hl hc => lv_istore F.ex F.co hd hl hn hv (fun ls' hl' => k H locs ls' hl' hc)
theorem g_lload_n (F : Fx p s m args c s0 D ev cc nL own) {k : Fin 4} {i : Nat} {x : Int64} (hd : decode cc pc = .ok (.lload_n k, 1)) (hi : (k : Nat) = i) (hx : lget lv i = some (.long x)) (k : GJ p l e R s m args below meth c Q s0 D ev nL cells slots (pc + 1) lv (.long x :: st) ws) : GJ p l e R s m args below meth c Q s0 D ev nL cells slots pc lv (st) ws := fun H locs ls hl hc => lv_lload_n F.ex F.co hd hi (lget_has hl hx) (k H locs ls hl hc)
theorem g_lload (F : Fx p s m args c s0 D ev cc nL own) {i : Nat} {x : Int64} (hd : decode cc pc = .ok (.lload i, 2)) (hx : lget lv i = some (.long x)) (k : GJ p l e R s m args below meth c Q s0 D ev nL cells slots (pc + 2) lv (.long x :: st) ws) : GJ p l e R s m args below meth c Q s0 D ev nL cells slots pc lv (st) ws := fun H locs ls hl hc => lv_lload F.ex F.co hd (lget_has hl hx) (k H locs ls hl hc)
theorem g_lstore_n (F : Fx p s m args c s0 D ev cc nL own) {kf : Fin 4} {i : Nat} {x : Int64} (hd : decode cc pc = .ok (.lstore_n kf, 1)) (hi : (kf : Nat) = i) (hn : i + 1 < nL) (hv : (i, .long x) :: lv.filter (fun q => !(q.1 == i) && (!(q.1 == i + 1) && !(q.1 + 1 == i && q.2.category == 2))) = lv') (k : GJ p l e R s m args below meth c Q s0 D ev nL cells slots (pc + 1) lv' st ws) : GJ p l e R s m args below meth c Q s0 D ev nL cells slots pc lv (.long x :: st) ws := fun H locs ls hl hc => lv_lstore_n F.ex F.co hd hi hl hn hv (fun ls' hl' => k H locs ls' hl' hc)
theorem g_lstore (F : Fx p s m args c s0 D ev cc nL own) {i : Nat} {x : Int64} (hd : decode cc pc = .ok (.lstore i, 2)) (hn : i + 1 < nL) (hv : (i, .long x) :: lv.filter (fun q => !(q.1 == i) && (!(q.1 == i + 1) && !(q.1 + 1 == i && q.2.category == 2))) = lv') (k : GJ p l e R s m args below meth c Q s0 D ev nL cells slots (pc + 2) lv' st ws) : GJ p l e R s m args below meth c Q s0 D ev nL cells slots pc lv (.long x :: st) ws := fun H locs ls hl hc => lv_lstore F.ex F.co hd hl hn hv (fun ls' hl' => k H locs ls' hl' hc)
theorem g_aload_n (F : Fx p s m args c s0 D ev cc nL own) {k : Fin 4} {i : Nat} {x : Nat} (hd : decode cc pc = .ok (.aload_n k, 1)) (hi : (k : Nat) = i) (hx : lget lv i = some (.ref x)) (k : GJ p l e R s m args below meth c Q s0 D ev nL cells slots (pc + 1) lv (.ref x :: st) ws) : GJ p l e R s m args below meth c Q s0 D ev nL cells slots pc lv (st) ws := fun H locs ls hl hc => lv_aload_n F.ex F.co hd hi (lget_has hl hx) (k H locs ls hl hc)
theorem g_aload (F : Fx p s m args c s0 D ev cc nL own) {i : Nat} {x : Nat} (hd : decode cc pc = .ok (.aload i, 2)) (hx : lget lv i = some (.ref x)) (k : GJ p l e R s m args below meth c Q s0 D ev nL cells slots (pc + 2) lv (.ref x :: st) ws) : GJ p l e R s m args below meth c Q s0 D ev nL cells slots pc lv (st) ws := fun H locs ls hl hc => lv_aload F.ex F.co hd (lget_has hl hx) (k H locs ls hl hc)
theorem g_astore_n (F : Fx p s m args c s0 D ev cc nL own) {kf : Fin 4} {i : Nat} {x : Nat} (hd : decode cc pc = .ok (.astore_n kf, 1)) (hi : (kf : Nat) = i) (hn : i < nL) (hv : (i, .ref x) :: lv.filter (fun q => !(q.1 == i) && !(q.1 + 1 == i && q.2.category == 2)) = lv') (k : GJ p l e R s m args below meth c Q s0 D ev nL cells slots (pc + 1) lv' st ws) : GJ p l e R s m args below meth c Q s0 D ev nL cells slots pc lv (.ref x :: st) ws := fun H locs ls hl hc => lv_astore_n F.ex F.co hd hi hl hn hv (fun ls' hl' => k H locs ls' hl' hc)
theorem g_astore (F : Fx p s m args c s0 D ev cc nL own) {i : Nat} {x : Nat} (hd : decode cc pc = .ok (.astore i, 2)) (hn : i < nL) (hv : (i, .ref x) :: lv.filter (fun q => !(q.1 == i) && !(q.1 + 1 == i && q.2.category == 2)) = lv') (k : GJ p l e R s m args below meth c Q s0 D ev nL cells slots (pc + 2) lv' st ws) : GJ p l e R s m args below meth c Q s0 D ev nL cells slots pc lv (.ref x :: st) ws := fun H locs ls hl hc => lv_astore F.ex F.co hd hl hn hv (fun ls' hl' => k H locs ls' hl' hc)
theorem g_iinc (F : Fx p s m args c s0 D ev cc nL own) {i : Nat} {n : Int} {x v : Int32} (hd : decode cc pc = .ok (.iinc i n, 3)) (hx : lget lv i = some (.int x)) (hv0 : x + Int32.ofInt n = v) (hn : i < nL) (hv : (i, Value.int v) :: lv.filter (fun q => !(q.1 == i) && !(q.1 + 1 == i && q.2.category == 2)) = lv') (k : GJ p l e R s m args below meth c Q s0 D ev nL cells slots (pc + 3) lv' st ws) : GJ p l e R s m args below meth c Q s0 D ev nL cells slots pc lv st ws := fun H locs ls hl hc => by
  obtain ⟨j, hj⟩ := List.mem_iff_getElem?.mp (lget_mem lv hx)
  exact lv_iinc F.ex F.co hd hl hj hv0 hn hv (fun ls' hl' => k H locs ls' hl' hc)
theorem g_iadd (F : Fx p s m args c s0 D ev cc nL own) {x y : Int32} (hd : decode cc pc = .ok (.iadd, 1)) (k : GJ p l e R s m args below meth c Q s0 D ev nL cells slots (pc + 1) lv (.int (x + y) :: st) ws) : GJ p l e R s m args below meth c Q s0 D ev nL cells slots pc lv (.int y :: .int x :: st) ws := fun H locs ls hl hc => lv_iadd F.ex F.co hd (k H locs ls hl hc)
theorem g_isub (F : Fx p s m args c s0 D ev cc nL own) {x y : Int32} (hd : decode cc pc = .ok (.isub, 1)) (k : GJ p l e R s m args below meth c Q s0 D ev nL cells slots (pc + 1) lv (.int (x - y) :: st) ws) : GJ p l e R s m args below meth c Q s0 D ev nL cells slots pc lv (.int y :: .int x :: st) ws := fun H locs ls hl hc => lv_isub F.ex F.co hd (k H locs ls hl hc)
theorem g_imul (F : Fx p s m args c s0 D ev cc nL own) {x y : Int32} (hd : decode cc pc = .ok (.imul, 1)) (k : GJ p l e R s m args below meth c Q s0 D ev nL cells slots (pc + 1) lv (.int (x * y) :: st) ws) : GJ p l e R s m args below meth c Q s0 D ev nL cells slots pc lv (.int y :: .int x :: st) ws := fun H locs ls hl hc => lv_imul F.ex F.co hd (k H locs ls hl hc)
theorem g_iand (F : Fx p s m args c s0 D ev cc nL own) {x y : Int32} (hd : decode cc pc = .ok (.iand, 1)) (k : GJ p l e R s m args below meth c Q s0 D ev nL cells slots (pc + 1) lv (.int (x &&& y) :: st) ws) : GJ p l e R s m args below meth c Q s0 D ev nL cells slots pc lv (.int y :: .int x :: st) ws := fun H locs ls hl hc => lv_iand F.ex F.co hd (k H locs ls hl hc)
theorem g_ior (F : Fx p s m args c s0 D ev cc nL own) {x y : Int32} (hd : decode cc pc = .ok (.ior, 1)) (k : GJ p l e R s m args below meth c Q s0 D ev nL cells slots (pc + 1) lv (.int (x ||| y) :: st) ws) : GJ p l e R s m args below meth c Q s0 D ev nL cells slots pc lv (.int y :: .int x :: st) ws := fun H locs ls hl hc => lv_ior F.ex F.co hd (k H locs ls hl hc)
theorem g_ishl (F : Fx p s m args c s0 D ev cc nL own) {x y : Int32} (hd : decode cc pc = .ok (.ishl, 1)) (k : GJ p l e R s m args below meth c Q s0 D ev nL cells slots (pc + 1) lv (.int (x <<< (y &&& 31)) :: st) ws) : GJ p l e R s m args below meth c Q s0 D ev nL cells slots pc lv (.int y :: .int x :: st) ws := fun H locs ls hl hc => lv_ishl F.ex F.co hd (k H locs ls hl hc)
theorem g_idiv (F : Fx p s m args c s0 D ev cc nL own) {x y : Int32} (hd : decode cc pc = .ok (.idiv, 1)) (hne : ¬ y = 0) (k : GJ p l e R s m args below meth c Q s0 D ev nL cells slots (pc + 1) lv (.int (x / y) :: st) ws) : GJ p l e R s m args below meth c Q s0 D ev nL cells slots pc lv (.int y :: .int x :: st) ws := fun H locs ls hl hc => lv_idiv F.ex F.co hd hne (k H locs ls hl hc)
theorem g_irem (F : Fx p s m args c s0 D ev cc nL own) {x y : Int32} (hd : decode cc pc = .ok (.irem, 1)) (hne : ¬ y = 0) (k : GJ p l e R s m args below meth c Q s0 D ev nL cells slots (pc + 1) lv (.int (jrem x y) :: st) ws) : GJ p l e R s m args below meth c Q s0 D ev nL cells slots pc lv (.int y :: .int x :: st) ws := fun H locs ls hl hc => lv_irem F.ex F.co hd hne (k H locs ls hl hc)
theorem g_ineg (F : Fx p s m args c s0 D ev cc nL own) {x : Int32} (hd : decode cc pc = .ok (.ineg, 1)) (k : GJ p l e R s m args below meth c Q s0 D ev nL cells slots (pc + 1) lv (.int (-x) :: st) ws) : GJ p l e R s m args below meth c Q s0 D ev nL cells slots pc lv (.int x :: st) ws := fun H locs ls hl hc => lv_ineg F.ex F.co hd (k H locs ls hl hc)
theorem g_ladd (F : Fx p s m args c s0 D ev cc nL own) {x y : Int64} (hd : decode cc pc = .ok (.ladd, 1)) (k : GJ p l e R s m args below meth c Q s0 D ev nL cells slots (pc + 1) lv (.long (x + y) :: st) ws) : GJ p l e R s m args below meth c Q s0 D ev nL cells slots pc lv (.long y :: .long x :: st) ws := fun H locs ls hl hc => lv_ladd F.ex F.co hd (k H locs ls hl hc)
theorem g_lsub (F : Fx p s m args c s0 D ev cc nL own) {x y : Int64} (hd : decode cc pc = .ok (.lsub, 1)) (k : GJ p l e R s m args below meth c Q s0 D ev nL cells slots (pc + 1) lv (.long (x - y) :: st) ws) : GJ p l e R s m args below meth c Q s0 D ev nL cells slots pc lv (.long y :: .long x :: st) ws := fun H locs ls hl hc => lv_lsub F.ex F.co hd (k H locs ls hl hc)
theorem g_lmul (F : Fx p s m args c s0 D ev cc nL own) {x y : Int64} (hd : decode cc pc = .ok (.lmul, 1)) (k : GJ p l e R s m args below meth c Q s0 D ev nL cells slots (pc + 1) lv (.long (x * y) :: st) ws) : GJ p l e R s m args below meth c Q s0 D ev nL cells slots pc lv (.long y :: .long x :: st) ws := fun H locs ls hl hc => lv_lmul F.ex F.co hd (k H locs ls hl hc)
theorem g_ldiv (F : Fx p s m args c s0 D ev cc nL own) {x y : Int64} (hd : decode cc pc = .ok (.ldiv, 1)) (hne : ¬ y = 0) (k : GJ p l e R s m args below meth c Q s0 D ev nL cells slots (pc + 1) lv (.long (x / y) :: st) ws) : GJ p l e R s m args below meth c Q s0 D ev nL cells slots pc lv (.long y :: .long x :: st) ws := fun H locs ls hl hc => lv_ldiv F.ex F.co hd hne (k H locs ls hl hc)
theorem g_lrem (F : Fx p s m args c s0 D ev cc nL own) {x y : Int64} (hd : decode cc pc = .ok (.lrem, 1)) (hne : ¬ y = 0) (k : GJ p l e R s m args below meth c Q s0 D ev nL cells slots (pc + 1) lv (.long (lrem x y) :: st) ws) : GJ p l e R s m args below meth c Q s0 D ev nL cells slots pc lv (.long y :: .long x :: st) ws := fun H locs ls hl hc => lv_lrem F.ex F.co hd hne (k H locs ls hl hc)
theorem g_lcmp (F : Fx p s m args c s0 D ev cc nL own) {x y : Int64} (hd : decode cc pc = .ok (.lcmp, 1)) (k : GJ p l e R s m args below meth c Q s0 D ev nL cells slots (pc + 1) lv (.int (lg_cmp x y) :: st) ws) : GJ p l e R s m args below meth c Q s0 D ev nL cells slots pc lv (.long y :: .long x :: st) ws := fun H locs ls hl hc => W.lcmp F.ex F.co hd (k H locs ls hl hc)
theorem g_i2l (F : Fx p s m args c s0 D ev cc nL own) {x : Int32} (hd : decode cc pc = .ok (.i2l, 1)) (k : GJ p l e R s m args below meth c Q s0 D ev nL cells slots (pc + 1) lv (.long x.toInt64 :: st) ws) : GJ p l e R s m args below meth c Q s0 D ev nL cells slots pc lv (.int x :: st) ws := fun H locs ls hl hc => lv_i2l F.ex F.co hd rfl (k H locs ls hl hc)
theorem g_l2i (F : Fx p s m args c s0 D ev cc nL own) {x : Int64} (hd : decode cc pc = .ok (.l2i, 1)) (k : GJ p l e R s m args below meth c Q s0 D ev nL cells slots (pc + 1) lv (.int x.toInt32 :: st) ws) : GJ p l e R s m args below meth c Q s0 D ev nL cells slots pc lv (.long x :: st) ws := fun H locs ls hl hc => lv_l2i F.ex F.co hd rfl (k H locs ls hl hc)
theorem g_i2b (F : Fx p s m args c s0 D ev cc nL own) {x : Int32} (hd : decode cc pc = .ok (.i2b, 1)) (k : GJ p l e R s m args below meth c Q s0 D ev nL cells slots (pc + 1) lv (.int x.toInt8.toInt32 :: st) ws) : GJ p l e R s m args below meth c Q s0 D ev nL cells slots pc lv (.int x :: st) ws := fun H locs ls hl hc => lv_i2b F.ex F.co hd rfl (k H locs ls hl hc)
theorem g_i2s (F : Fx p s m args c s0 D ev cc nL own) {x : Int32} (hd : decode cc pc = .ok (.i2s, 1)) (k : GJ p l e R s m args below meth c Q s0 D ev nL cells slots (pc + 1) lv (.int x.toInt16.toInt32 :: st) ws) : GJ p l e R s m args below meth c Q s0 D ev nL cells slots pc lv (.int x :: st) ws := fun H locs ls hl hc => lv_i2s F.ex F.co hd rfl (k H locs ls hl hc)
theorem g_dup (F : Fx p s m args c s0 D ev cc nL own) {v : Value} (hd : decode cc pc = .ok (.dup, 1)) (hc1 : v.category = 1) (k : GJ p l e R s m args below meth c Q s0 D ev nL cells slots (pc + 1) lv (v :: v :: st) ws) : GJ p l e R s m args below meth c Q s0 D ev nL cells slots pc lv (v :: st) ws := fun H locs ls hl hc => lv_dup F.ex F.co hd hc1 (k H locs ls hl hc)
theorem g_pop (F : Fx p s m args c s0 D ev cc nL own) {v : Value} (hd : decode cc pc = .ok (.pop, 1)) (hc1 : v.category = 1) (k : GJ p l e R s m args below meth c Q s0 D ev nL cells slots (pc + 1) lv (st) ws) : GJ p l e R s m args below meth c Q s0 D ev nL cells slots pc lv (v :: st) ws := fun H locs ls hl hc => lv_pop F.ex F.co hd hc1 (k H locs ls hl hc)
theorem g_dup2 (F : Fx p s m args c s0 D ev cc nL own) {v w : Value} (hd : decode cc pc = .ok (.dup2, 1)) (hc1 : v.category = 1) (hc2 : w.category = 1) (k : GJ p l e R s m args below meth c Q s0 D ev nL cells slots (pc + 1) lv (v :: w :: v :: w :: st) ws) : GJ p l e R s m args below meth c Q s0 D ev nL cells slots pc lv (v :: w :: st) ws := fun H locs ls hl hc => lv_dup2_11 F.ex F.co hd hc1 hc2 (k H locs ls hl hc)
theorem g_goto (F : Fx p s m args c s0 D ev cc nL own) {off : Int} {tgt : Nat} (hd : decode cc pc = .ok (.goto off, 3)) (ht : (pc : Int) + off = (tgt : Int)) (k : GJ p l e R s m args below meth c Q s0 D ev nL cells slots tgt lv (st) ws) : GJ p l e R s m args below meth c Q s0 D ev nL cells slots pc lv (st) ws := fun H locs ls hl hc => lv_goto F.ex F.co hd ht (k H locs ls hl hc)
theorem g_if_eq (F : Fx p s m args c s0 D ev cc nL own) {x : Int32} {ρ : Type} {tgt : Nat} {off : Int} {ta tb o : ρ} {dc : Decidable (x = 0)} (hd : decode cc pc = .ok (.ifCond .eq off, 3)) (ht : (pc : Int) + off = (tgt : Int)) (h : @ite ρ (x = 0) dc ta tb = o) (kt : x = 0 → ta = o → GJ p l e R s m args below meth c Q s0 D ev nL cells slots tgt lv st ws) (kf : ¬ (x = 0) → tb = o → GJ p l e R s m args below meth c Q s0 D ev nL cells slots (pc + 3) lv st ws) : GJ p l e R s m args below meth c Q s0 D ev nL cells slots pc lv (.int x :: st) ws := fun H locs ls hl hc => lv_if_eq F.ex F.co hd ht (fun q => kt q (by rw [if_pos q] at h; exact h) H locs ls hl hc) (fun q => kf q (by rw [if_neg q] at h; exact h) H locs ls hl hc)
theorem g_if_lt (F : Fx p s m args c s0 D ev cc nL own) {x : Int32} {ρ : Type} {tgt : Nat} {off : Int} {ta tb o : ρ} {dc : Decidable (x < 0)} (hd : decode cc pc = .ok (.ifCond .lt off, 3)) (ht : (pc : Int) + off = (tgt : Int)) (h : @ite ρ (x < 0) dc ta tb = o) (kt : x < 0 → ta = o → GJ p l e R s m args below meth c Q s0 D ev nL cells slots tgt lv st ws) (kf : ¬ (x < 0) → tb = o → GJ p l e R s m args below meth c Q s0 D ev nL cells slots (pc + 3) lv st ws) : GJ p l e R s m args below meth c Q s0 D ev nL cells slots pc lv (.int x :: st) ws := fun H locs ls hl hc => lv_if_lt F.ex F.co hd ht (fun q => kt q (by rw [if_pos q] at h; exact h) H locs ls hl hc) (fun q => kf q (by rw [if_neg q] at h; exact h) H locs ls hl hc)
theorem g_if_ge (F : Fx p s m args c s0 D ev cc nL own) {x : Int32} {ρ : Type} {tgt : Nat} {off : Int} {ta tb o : ρ} {dc : Decidable (0 ≤ x)} (hd : decode cc pc = .ok (.ifCond .ge off, 3)) (ht : (pc : Int) + off = (tgt : Int)) (h : @ite ρ (0 ≤ x) dc ta tb = o) (kt : 0 ≤ x → ta = o → GJ p l e R s m args below meth c Q s0 D ev nL cells slots tgt lv st ws) (kf : ¬ (0 ≤ x) → tb = o → GJ p l e R s m args below meth c Q s0 D ev nL cells slots (pc + 3) lv st ws) : GJ p l e R s m args below meth c Q s0 D ev nL cells slots pc lv (.int x :: st) ws := fun H locs ls hl hc => lv_if_ge F.ex F.co hd ht (fun q => kt q (by rw [if_pos q] at h; exact h) H locs ls hl hc) (fun q => kf q (by rw [if_neg q] at h; exact h) H locs ls hl hc)
theorem g_if_gt (F : Fx p s m args c s0 D ev cc nL own) {x : Int32} {ρ : Type} {tgt : Nat} {off : Int} {ta tb o : ρ} {dc : Decidable (0 < x)} (hd : decode cc pc = .ok (.ifCond .gt off, 3)) (ht : (pc : Int) + off = (tgt : Int)) (h : @ite ρ (0 < x) dc ta tb = o) (kt : 0 < x → ta = o → GJ p l e R s m args below meth c Q s0 D ev nL cells slots tgt lv st ws) (kf : ¬ (0 < x) → tb = o → GJ p l e R s m args below meth c Q s0 D ev nL cells slots (pc + 3) lv st ws) : GJ p l e R s m args below meth c Q s0 D ev nL cells slots pc lv (.int x :: st) ws := fun H locs ls hl hc => lv_if_gt F.ex F.co hd ht (fun q => kt q (by rw [if_pos q] at h; exact h) H locs ls hl hc) (fun q => kf q (by rw [if_neg q] at h; exact h) H locs ls hl hc)
theorem g_if_le (F : Fx p s m args c s0 D ev cc nL own) {x : Int32} {ρ : Type} {tgt : Nat} {off : Int} {ta tb o : ρ} {dc : Decidable (x ≤ 0)} (hd : decode cc pc = .ok (.ifCond .le off, 3)) (ht : (pc : Int) + off = (tgt : Int)) (h : @ite ρ (x ≤ 0) dc ta tb = o) (kt : x ≤ 0 → ta = o → GJ p l e R s m args below meth c Q s0 D ev nL cells slots tgt lv st ws) (kf : ¬ (x ≤ 0) → tb = o → GJ p l e R s m args below meth c Q s0 D ev nL cells slots (pc + 3) lv st ws) : GJ p l e R s m args below meth c Q s0 D ev nL cells slots pc lv (.int x :: st) ws := fun H locs ls hl hc => lv_if_le F.ex F.co hd ht (fun q => kt q (by rw [if_pos q] at h; exact h) H locs ls hl hc) (fun q => kf q (by rw [if_neg q] at h; exact h) H locs ls hl hc)
theorem g_icmp_eq (F : Fx p s m args c s0 D ev cc nL own) {x y : Int32} {ρ : Type} {tgt : Nat} {off : Int} {ta tb o : ρ} {dc : Decidable (x = y)} (hd : decode cc pc = .ok (.if_icmp .eq off, 3)) (ht : (pc : Int) + off = (tgt : Int)) (h : @ite ρ (x = y) dc ta tb = o) (kt : x = y → ta = o → GJ p l e R s m args below meth c Q s0 D ev nL cells slots tgt lv st ws) (kf : ¬ (x = y) → tb = o → GJ p l e R s m args below meth c Q s0 D ev nL cells slots (pc + 3) lv st ws) : GJ p l e R s m args below meth c Q s0 D ev nL cells slots pc lv (.int y :: .int x :: st) ws := fun H locs ls hl hc => lv_icmp_eq F.ex F.co hd ht (fun q => kt q (by rw [if_pos q] at h; exact h) H locs ls hl hc) (fun q => kf q (by rw [if_neg q] at h; exact h) H locs ls hl hc)
theorem g_icmp_lt (F : Fx p s m args c s0 D ev cc nL own) {x y : Int32} {ρ : Type} {tgt : Nat} {off : Int} {ta tb o : ρ} {dc : Decidable (x < y)} (hd : decode cc pc = .ok (.if_icmp .lt off, 3)) (ht : (pc : Int) + off = (tgt : Int)) (h : @ite ρ (x < y) dc ta tb = o) (kt : x < y → ta = o → GJ p l e R s m args below meth c Q s0 D ev nL cells slots tgt lv st ws) (kf : ¬ (x < y) → tb = o → GJ p l e R s m args below meth c Q s0 D ev nL cells slots (pc + 3) lv st ws) : GJ p l e R s m args below meth c Q s0 D ev nL cells slots pc lv (.int y :: .int x :: st) ws := fun H locs ls hl hc => lv_icmp_lt F.ex F.co hd ht (fun q => kt q (by rw [if_pos q] at h; exact h) H locs ls hl hc) (fun q => kf q (by rw [if_neg q] at h; exact h) H locs ls hl hc)
theorem g_icmp_ge (F : Fx p s m args c s0 D ev cc nL own) {x y : Int32} {ρ : Type} {tgt : Nat} {off : Int} {ta tb o : ρ} {dc : Decidable (y ≤ x)} (hd : decode cc pc = .ok (.if_icmp .ge off, 3)) (ht : (pc : Int) + off = (tgt : Int)) (h : @ite ρ (y ≤ x) dc ta tb = o) (kt : y ≤ x → ta = o → GJ p l e R s m args below meth c Q s0 D ev nL cells slots tgt lv st ws) (kf : ¬ (y ≤ x) → tb = o → GJ p l e R s m args below meth c Q s0 D ev nL cells slots (pc + 3) lv st ws) : GJ p l e R s m args below meth c Q s0 D ev nL cells slots pc lv (.int y :: .int x :: st) ws := fun H locs ls hl hc => lv_icmp_ge F.ex F.co hd ht (fun q => kt q (by rw [if_pos q] at h; exact h) H locs ls hl hc) (fun q => kf q (by rw [if_neg q] at h; exact h) H locs ls hl hc)
theorem g_icmp_gt (F : Fx p s m args c s0 D ev cc nL own) {x y : Int32} {ρ : Type} {tgt : Nat} {off : Int} {ta tb o : ρ} {dc : Decidable (y < x)} (hd : decode cc pc = .ok (.if_icmp .gt off, 3)) (ht : (pc : Int) + off = (tgt : Int)) (h : @ite ρ (y < x) dc ta tb = o) (kt : y < x → ta = o → GJ p l e R s m args below meth c Q s0 D ev nL cells slots tgt lv st ws) (kf : ¬ (y < x) → tb = o → GJ p l e R s m args below meth c Q s0 D ev nL cells slots (pc + 3) lv st ws) : GJ p l e R s m args below meth c Q s0 D ev nL cells slots pc lv (.int y :: .int x :: st) ws := fun H locs ls hl hc => lv_icmp_gt F.ex F.co hd ht (fun q => kt q (by rw [if_pos q] at h; exact h) H locs ls hl hc) (fun q => kf q (by rw [if_neg q] at h; exact h) H locs ls hl hc)
theorem g_icmp_le (F : Fx p s m args c s0 D ev cc nL own) {x y : Int32} {ρ : Type} {tgt : Nat} {off : Int} {ta tb o : ρ} {dc : Decidable (x ≤ y)} (hd : decode cc pc = .ok (.if_icmp .le off, 3)) (ht : (pc : Int) + off = (tgt : Int)) (h : @ite ρ (x ≤ y) dc ta tb = o) (kt : x ≤ y → ta = o → GJ p l e R s m args below meth c Q s0 D ev nL cells slots tgt lv st ws) (kf : ¬ (x ≤ y) → tb = o → GJ p l e R s m args below meth c Q s0 D ev nL cells slots (pc + 3) lv st ws) : GJ p l e R s m args below meth c Q s0 D ev nL cells slots pc lv (.int y :: .int x :: st) ws := fun H locs ls hl hc => lv_icmp_le F.ex F.co hd ht (fun q => kt q (by rw [if_pos q] at h; exact h) H locs ls hl hc) (fun q => kf q (by rw [if_neg q] at h; exact h) H locs ls hl hc)
theorem g_if_ne (F : Fx p s m args c s0 D ev cc nL own) {x : Int32} {ρ : Type} {tgt : Nat} {off : Int} {ta tb o : ρ} {dc : Decidable (x = 0)} (hd : decode cc pc = .ok (.ifCond .ne off, 3)) (ht : (pc : Int) + off = (tgt : Int)) (h : @ite ρ (x = 0) dc tb ta = o) (kt : ¬ (x = 0) → ta = o → GJ p l e R s m args below meth c Q s0 D ev nL cells slots tgt lv st ws) (kf : x = 0 → tb = o → GJ p l e R s m args below meth c Q s0 D ev nL cells slots (pc + 3) lv st ws) : GJ p l e R s m args below meth c Q s0 D ev nL cells slots pc lv (.int x :: st) ws := fun H locs ls hl hc => lv_if_ne F.ex F.co hd ht (fun q => kt q (by rw [if_neg q] at h; exact h) H locs ls hl hc) (fun q => kf q (by rw [if_pos q] at h; exact h) H locs ls hl hc)
theorem g_icmp_ne (F : Fx p s m args c s0 D ev cc nL own) {x y : Int32} {ρ : Type} {tgt : Nat} {off : Int} {ta tb o : ρ} {dc : Decidable (x = y)} (hd : decode cc pc = .ok (.if_icmp .ne off, 3)) (ht : (pc : Int) + off = (tgt : Int)) (h : @ite ρ (x = y) dc tb ta = o) (kt : ¬ (x = y) → ta = o → GJ p l e R s m args below meth c Q s0 D ev nL cells slots tgt lv st ws) (kf : x = y → tb = o → GJ p l e R s m args below meth c Q s0 D ev nL cells slots (pc + 3) lv st ws) : GJ p l e R s m args below meth c Q s0 D ev nL cells slots pc lv (.int y :: .int x :: st) ws := fun H locs ls hl hc => lv_icmp_ne F.ex F.co hd ht (fun q => kt q (by rw [if_neg q] at h; exact h) H locs ls hl hc) (fun q => kf q (by rw [if_pos q] at h; exact h) H locs ls hl hc)
theorem at_keep {D : va_G} {a : Nat} {en : va_E} {H H1 : Heap} (h : va_at D vwCl (a, en) H) (q : H1[a]? = H[a]?) : va_at D vwCl (a, en) H1 := by
  cases en with
  | inl x => exact q.trans h
  | inr o =>
    obtain ⟨r, h1, cell, h2, h3⟩ := h
    exact ⟨r, h1, cell, q.trans h2, h3⟩
theorem Wst.P1 {D : va_G} {z : Nat} {hz : Heap} {ws : List va_E} {H : Heap} {k : Nat} {en : va_E} (h : Wst D z hz ws H) (hk : ws[k]? = some en) : va_P D vwCl [(z + k, en)] H := fun j q hq => by
  match j, hq with
  | 0, hq => cases hq; exact h.2.2 k en hk
theorem Wst.put {D : va_G} {z : Nat} {hz : Heap} {ws : List va_E} {H H1 : Heap} {k : Nat} {e0 en : va_E} (h : Wst D z hz ws H) (hk : ws[k]? = some e0) (he : va_at D vwCl (z + k, en) H1) (hs : H1.size = H.size) (ho : ∀ q : Nat, q ≠ z + k → H1[q]? = H[q]?) : Wst D z hz (ws.set k en) H1 := by
  refine ⟨by rw [hs, h.1, List.length_set], fun q hq => (ho q (by omega)).trans (h.2.1 q hq), fun j e2 hj => ?_⟩
  by_cases hjk : k = j
  · subst hjk
    rw [List.getElem?_set_self (List.getElem?_eq_some_iff.mp hk).1] at hj
    cases hj
    exact he
  · rw [List.getElem?_set_ne hjk] at hj
    exact at_keep (h.2.2 j e2 hj) (ho (z + j) (by omega))
theorem Wst.push {D : va_G} {z : Nat} {hz : Heap} {ws : List va_E} {H H1 : Heap} {en : va_E} (h : Wst D z hz ws H) (he : va_at D vwCl (z + ws.length, en) H1) (hs : H1.size = H.size + 1) (ho : ∀ q : Nat, q < H.size → H1[q]? = H[q]?) : Wst D z hz (ws ++ [en]) H1 := by
  have hz1 := h.1
  refine ⟨by rw [hs, h.1, List.length_append]; rfl, fun q hq => (ho q (by omega)).trans (h.2.1 q hq), fun j e2 hj => ?_⟩
  rcases Nat.lt_or_ge j ws.length with hlt | hge
  · rw [List.getElem?_append_left hlt] at hj
    exact at_keep (h.2.2 j e2 hj) (ho (z + j) (by omega))
  · rw [List.getElem?_append_right hge] at hj
    have hj0 : j - ws.length = 0 := by
      have := (List.getElem?_eq_some_iff.mp hj).1
      simp only [List.length_cons, List.length_nil] at this
      omega
    rw [hj0] at hj
    cases hj
    rw [show j = ws.length by omega]
    exact he
theorem Hc.put {s s0 : State} {D : va_G} {ev : Nat → Nat} {ws : List va_E} {H H1 : Heap} {locs : List Loc} {k f : Nat} {e0 en : va_E} (h : Hc s s0 D ev ws H locs) (hk : ws[k]? = some e0) (he : va_at D vwCl (ev 0 + k, en) H1) (hs : H1.size = H.size) (ho : ∀ q : Nat, q ≠ ev 0 + k → H1[q]? = H[q]?) : Hc s s0 D ev (ws.set k en) H1 (locs ++ [⟨ev 0 + k, f⟩]) :=
  ⟨h.1.put hk he hs ho, by rw [hs]; exact h.2.1, fun q hq => by
    rcases List.mem_append.mp hq with hq | hq
    · exact h.2.2 q hq
    · cases List.mem_singleton.mp hq
      exact Nat.le_add_right _ _⟩
theorem Hc.S {s s0 : State} {D : va_G} {ev : Nat → Nat} {ws : List va_E} {H : Heap} {locs : List Loc} (F : Fx p s m args c s0 D ev cc nL own) (h : Hc s s0 D ev ws H locs) : va_S (frA ev) s.heap H locs :=
  ⟨h.2.1, fun q _ hq => (h.1.2.1 q (Nat.not_le.mp hq)).trans (F.lo q (Nat.not_le.mp hq)).symm, h.2.2⟩
/-- getfield -/
theorem g_getf (F : Fx p s m args c s0 D ev cc nL own) {id ci k N idx : Nat} {fs : List Value} {v : Value} {C ref : String} {T : u_T} (hid : ws[id]? = some (.inr (ci, fs))) (hc : vwCl[ci]? = some (C, T, N)) (hin : ∀ w ∈ u_ws C T N, w ∈ wsL_law) (hkN : k < N) (hw : Cond.fieldLink own idx ref (T k).2.1 (T k).2.2.1 ∈ wsL_law) (href : (T k).1 = ref) (hv : fs[k]? = some v) (hd : decode cc pc = .ok (.getfield idx, 3)) (k9 : GJ p l e R s m args below meth c Q s0 D ev nL cells slots (pc + 3) lv (v :: st) ws) : GJ p l e R s m args below meth c Q s0 D ev nL cells slots pc lv (.ref (ev 0 + id) :: st) ws :=
  fun H locs ls hl h => va_get F.ex F.co F.ts hin F.ow F.K (h.1.P1 hid) 0 rfl hc k hkN (F.ts _ hw) (fun x hx => by rw [href] at hx; exact hx) hv hd (k9 H locs ls hl h)
/-- putfield, not final -/
theorem g_putf (F : Fx p s m args c s0 D ev cc nL own) {id ci k N idx : Nat} {fs : List Value} {v : Value} {C ref : String} {T : u_T} {ty : FieldType} (ty0 : Nat → FieldType) (hty : ∀ k, k < N → parseFieldDescriptor (T k).2.2.1 = some (ty0 k)) (hnm : ∀ a, a < N → ∀ b, b < N → a ≠ b → (T a).2.1 ≠ (T b).2.1) (hid : ws[id]? = some (.inr (ci, fs))) (hc : vwCl[ci]? = some (C, T, N)) (hin : ∀ w ∈ u_ws C T N, w ∈ wsL_law) (hkN : k < N) (hw : Cond.fieldLink own idx ref (T k).2.1 (T k).2.2.1 ∈ wsL_law) (href : (T k).1 = ref) (hfin : (T k).2.2.2 = false) (hd0 : parseFieldDescriptor (T k).2.2.1 = some ty) (hn : narrow ty v = v) (hfit : fits ty v = true) (hlen : k < fs.length) (hd : decode cc pc = .ok (.putfield idx, 3)) (k9 : GJ p l e R s m args below meth c Q s0 D ev nL cells slots (pc + 3) lv st (ws.set id (.inr (ci, fs.set k v)))) : GJ p l e R s m args below meth c Q s0 D ev nL cells slots pc lv (v :: .ref (ev 0 + id) :: st) ws := by
  intro H locs ls hl h
  have hP := h.1.P1 hid
  have hap := va_apart (own := own) F.ts hin ty0 hty hnm F.K hc
  obtain ⟨r, h1, cell, q1, q2, q3, q4⟩ := hP 0 _ rfl
  have hr : r = (C, T, N) := Option.some.inj (h1.symm.trans hc)
  subst hr
  obtain ⟨hS, hfc, kC, hkC, hkind⟩ := F.K.1 ci _ hc
  obtain ⟨cf, kf, fi, f, hi, hsl⟩ := hS k hkN
  have hlay := F.ts _ (hin _ (u_in_lay hkN))
  unfold u_lay at hlay
  rw [if_neg (by rw [hfin]; decide)] at hlay
  have hst := (u_facts hfc hkC (u_lays F.ts hin hkN) hi).1
  have h6 := u_store hfc hkC hkind hlay hi hd0 hn hfit
  refine W.putK F.ex F.co (f := f) ⟨F.ow, F.ts _ hw, ⟨_, _, _, by rw [← href]; exact hi⟩, hst⟩ (by rw [q2]; exact h6) q1 q3 (by rw [hsl]; exact k2_hasslot (q4 k hkN)) rfl rfl hd fun H' e1 e2 e3 => ?_
  rw [hsl] at e1 ⊢
  exact k9 H' _ ls hl (h.put hid ⟨_, hc, t_OB.to (V := updV (vp_V fs) k v) ⟨_, e1, q2, q3, t_set q4 hap hkN v⟩ (fun j _ => vp_updV_set hlen v j)⟩ e2 e3)
/-- putfield of a final field, in a constructor -/
theorem g_putF (F : Fx p s m args c s0 D ev cc nL own) {id ci k N idx : Nat} {fs : List Value} {v : Value} {C ref : String} {T : u_T} {ty : FieldType} (hini : meth.name = "<init>") (ty0 : Nat → FieldType) (hty : ∀ k, k < N → parseFieldDescriptor (T k).2.2.1 = some (ty0 k)) (hnm : ∀ a, a < N → ∀ b, b < N → a ≠ b → (T a).2.1 ≠ (T b).2.1) (hid : ws[id]? = some (.inr (ci, fs))) (hc : vwCl[ci]? = some (C, T, N)) (hin : ∀ w ∈ u_ws C T N, w ∈ wsL_law) (hkN : k < N) (hw : Cond.fieldLink own idx ref (T k).2.1 (T k).2.2.1 ∈ wsL_law) (href : (T k).1 = ref) (hfin : (T k).2.2.2 = true) (hdecl : (T k).1 = own) (hd0 : parseFieldDescriptor (T k).2.2.1 = some ty) (hn : narrow ty v = v) (hfit : fits ty v = true) (hlen : k < fs.length) (hd : decode cc pc = .ok (.putfield idx, 3)) (k9 : GJ p l e R s m args below meth c Q s0 D ev nL cells slots (pc + 3) lv st (ws.set id (.inr (ci, fs.set k v)))) : GJ p l e R s m args below meth c Q s0 D ev nL cells slots pc lv (v :: .ref (ev 0 + id) :: st) ws := by
  intro H locs ls hl h
  have hP := h.1.P1 hid
  have hap := va_apart (own := own) F.ts hin ty0 hty hnm F.K hc
  obtain ⟨r, h1, cell, q1, q2, q3, q4⟩ := hP 0 _ rfl
  have hr : r = (C, T, N) := Option.some.inj (h1.symm.trans hc)
  subst hr
  obtain ⟨hS, hfc, kC, hkC, hkind⟩ := F.K.1 ci _ hc
  obtain ⟨cf, kf, fi, f, hi, hsl⟩ := hS k hkN
  have hlay := F.ts _ (hin _ (u_in_lay hkN))
  unfold u_lay at hlay
  rw [if_pos hfin] at hlay
  have hst := (u_facts hfc hkC (u_lays F.ts hin hkN) hi).1
  have hcf : m.cls = cf := by
    obtain ⟨_, _, c', _, _, _, -, -, hf', -, -, -, hown2, -⟩ := Cond.laysFinal_spec hlay
    have e1 : c' = cf := by have := hi.symm.trans hf'; simp at this; exact this.1.symm
    rw [hdecl] at hown2
    rw [← e1]; exact Option.some.inj (F.ow.symm.trans hown2)
  have h6 := u_fits hfc hkC hkind (Or.inr hlay) hi hd0 hn hfit
  refine W.putFinK F.ex F.co F.ow (F.ts _ hw) (by rw [← href]; exact hi) hst hcf hini (by rw [q2]; exact h6) q1 q3 (by rw [hsl]; exact k2_hasslot (q4 k hkN)) rfl rfl hd fun H' e1 e2 e3 => ?_
  rw [hsl] at e1 ⊢
  exact k9 H' _ ls hl (h.put hid ⟨_, hc, t_OB.to (V := updV (vp_V fs) k v) ⟨_, e1, q2, q3, t_set q4 hap hkN v⟩ (fun j _ => vp_updV_set hlen v j)⟩ e2 e3)
/-- rows of ints -/
theorem g_iald (F : Fx p s m args c s0 D ev cc nL own) {id n : Nat} {f : Nat → Int32} {i : Int32} (hid : ws[id]? = some (.inl (ev 1, n, .inl f))) (hin : vp_in i n) (hd : decode cc pc = .ok (.iaload, 1)) (k9 : GJ p l e R s m args below meth c Q s0 D ev nL cells slots (pc + 1) lv (.int (f i.toNatClampNeg) :: st) ws) : GJ p l e R s m args below meth c Q s0 D ev nL cells slots pc lv (.int i :: .ref (ev 0 + id) :: st) ws :=
  fun H locs ls hl h => va_iald F.ex F.co F.K (h.1.P1 hid) 0 0 rfl rfl hin hd (k9 H locs ls hl h)
theorem g_alen (F : Fx p s m args c s0 D ev cc nL own) {id n : Nat} {f : Nat → Int32} (hid : ws[id]? = some (.inl (ev 1, n, .inl f))) (hd : decode cc pc = .ok (.arraylength, 1)) (k9 : GJ p l e R s m args below meth c Q s0 D ev nL cells slots (pc + 1) lv (.int (Int32.ofNat n) :: st) ws) : GJ p l e R s m args below meth c Q s0 D ev nL cells slots pc lv (.ref (ev 0 + id) :: st) ws :=
  fun H locs ls hl h => va_alen F.ex F.co F.K (h.1.P1 hid) 0 0 rfl rfl rfl hd (k9 H locs ls hl h)
theorem g_iast (F : Fx p s m args c s0 D ev cc nL own) {id n : Nat} {f : Nat → Int32} {i x : Int32} (hid : ws[id]? = some (.inl (ev 1, n, .inl f))) (hin : vp_in i n) (hd : decode cc pc = .ok (.iastore, 1)) (k9 : GJ p l e R s m args below meth c Q s0 D ev nL cells slots (pc + 1) lv st (ws.set id (.inl (ev 1, n, .inl (upd f i.toNatClampNeg x))))) : GJ p l e R s m args below meth c Q s0 D ev nL cells slots pc lv (.int x :: .int i :: .ref (ev 0 + id) :: st) ws := by
  intro H locs ls hl h
  have hP := h.1.P1 hid
  refine W.iast F.ex F.co (hP 0 _ rfl) ((F.K.2 0 (ev 1, .int) rfl).1 n (fun j => .int (f j))) (fun q => by cases q) (by show ¬ (i < 0 ∨ (arrV _ _ _).slots.size ≤ _); rw [arrV_size]; exact hin) rfl rfl hd fun H1 e1 z oq => ?_
  refine k9 H1 _ ls hl (h.put hid ?_ z oq)
  show H1[ev 0 + id]? = some (vp_cell _ _)
  rw [e1]
  show some ((vp_cell _ (n, .inl f)).setSlot _ _) = _
  rw [vp_cell_i, vp_cell_i, arrV_store]
  congr 2
  funext q
  by_cases hq : q = i.toNatClampNeg
  · subst hq
    simp [updV, upd]
  · simp [updV, upd, hq]
/-- rows of references -/
theorem g_aald (F : Fx p s m args c s0 D ev cc nL own) {id n : Nat} {cA : ClassId} {C : String} {f : Nat → Option Nat} {i : Int32} (t0 : Nat) (hid : ws[id]? = some (.inl (cA, n, .inr (.inr (.inr (.inr f)))))) (ht : (tysE ev)[t0]? = some (cA, .object C)) (hin : vp_in i n) (hd : decode cc pc = .ok (.aaload, 1)) (k9 : GJ p l e R s m args below meth c Q s0 D ev nL cells slots (pc + 1) lv (va_rf (f i.toNatClampNeg) :: st) ws) : GJ p l e R s m args below meth c Q s0 D ev nL cells slots pc lv (.int i :: .ref (ev 0 + id) :: st) ws :=
  fun H locs ls hl h => va_aldq F.ex F.co F.K (h.1.P1 hid) 0 t0 rfl ht hin hd (k9 H locs ls hl h)
theorem g_aast (F : Fx p s m args c s0 D ev cc nL own) {id n vid ci : Nat} {cA : ClassId} {r : vw_C} {f : Nat → Option Nat} {vs : List Value} {i : Int32} (t0 : Nat) (hid : ws[id]? = some (.inl (cA, n, .inr (.inr (.inr (.inr f)))))) (ht : (tysE ev)[t0]? = some (cA, .object r.1)) (hv : ws[vid]? = some (.inr (ci, vs))) (hc : vwCl[ci]? = some r) (hin : vp_in i n) (hd : decode cc pc = .ok (.aastore, 1)) (k9 : GJ p l e R s m args below meth c Q s0 D ev nL cells slots (pc + 1) lv st (ws.set id (.inl (cA, n, .inr (.inr (.inr (.inr (va_up f i.toNatClampNeg (some (ev 0 + vid)))))))))) : GJ p l e R s m args below meth c Q s0 D ev nL cells slots pc lv (.ref (ev 0 + vid) :: .int i :: .ref (ev 0 + id) :: st) ws := by
  intro H locs ls hl h
  have hP := h.1.P1 hid
  have hPv := h.1.P1 hv
  have hlt : i.toNatClampNeg < n := Nat.not_le.mp fun q => hin (Or.inr q)
  have h0 : ¬ i < 0 := fun q => hin (Or.inl q)
  obtain ⟨r', hr', cellV, g1, g2, g3, -⟩ := hPv 0 _ rfl
  have hcls := (F.K.1 ci r hc).2
  obtain ⟨kA, comp, k1, k2, k3, -⟩ := (F.K.2 t0 _ ht).2
  have hcomp : comp = D.1 ci := Option.some.inj (k3.symm.trans hcls.1)
  subst hcomp
  obtain ⟨kC, hkC, -⟩ := hcls.2
  refine W.aast F.ex F.co (hP 0 _ rfl) (fun q h => by cases h) (fun h => by cases h) k1 k2 rfl hkC ⟨h0, by show _ < (arrV _ _ _).slots.size; rw [arrV_size]; exact hlt⟩ g1 (fun q h => by rw [g3] at h; cases h) (by rw [g2]; exact hkC) (by rw [g2]; exact va_assign hcls) rfl rfl hd fun H1 e1 z oq => ?_
  refine k9 H1 _ ls hl (h.put hid ?_ z oq)
  show H1[ev 0 + id]? = some (vp_cell _ _)
  rw [e1]
  show some ((vp_cell _ (n, .inr (.inr (.inr (.inr f))))).setSlot _ _) = _
  rw [vp_cell_q, vp_cell_q, arrV_store]
  congr 2
  funext q
  by_cases hq : q = i.toNatClampNeg
  · subst hq
    simp [updV, va_up, va_rf]
  · simp [updV, va_up, hq]
/-- a static row: its reference, its numbers -/
theorem g_gets (F : Fx p s m args c s0 D ev cc nL own) {i idx : Nat} {own2 : String} (hi : i < 5) (he : own2 = RX9) (hw : Cond.fieldLink own idx own2 (stN i) "[I" ∈ wsL_law) (hd : decode cc pc = .ok (.getstatic idx, 3)) (k9 : GJ p l e R s m args below meth c Q s0 D ev nL cells slots (pc + 3) lv (.ref (ev (10 + i)) :: st) ws) : GJ p l e R s m args below meth c Q s0 D ev nL cells slots pc lv st ws :=
  fun H locs ls hl h => va_gets F.ex F.co (((F.gl.2.2.1 i hi).1.moved F.al).kept (fun a _ h2 => F.lo a (Nat.not_le.mp h2))) (h.S F) F.ow (F.ts _ hw) (fun x hx => by rw [he]; exact hx) hd (k9 H locs ls hl h)
theorem g_stld (F : Fx p s m args c s0 D ev cc nL own) {i : Nat} {j : Int32} (hi : i < 5) (hin : vp_in j (stR i).length) (hd : decode cc pc = .ok (.iaload, 1)) (k9 : GJ p l e R s m args below meth c Q s0 D ev nL cells slots (pc + 1) lv (.int ((stR i).getD j.toNatClampNeg 0) :: st) ws) : GJ p l e R s m args below meth c Q s0 D ev nL cells slots pc lv (.int j :: .ref (ev (10 + i)) :: st) ws :=
  fun H locs ls hl h => va_ti F.ex F.co (((F.gl.2.2.1 i hi).2.moved F.al).kept (fun a _ h2 => F.lo a (Nat.not_le.mp h2))) (h.S F) hin rfl hd (k9 H locs ls hl h)
/-- a script's numbers -/
theorem g_sld (F : Fx p s m args c s0 D ev cc nL own) {b L : Nat} {xs : Nat → Int32} {i : Int32} (hX : va_X b L xs s s.heap) (hb : b < ev 0) (hin : vp_in i L) (hd : decode cc pc = .ok (.iaload, 1)) (k9 : GJ p l e R s m args below meth c Q s0 D ev nL cells slots (pc + 1) lv (.int (xs i.toNatClampNeg) :: st) ws) : GJ p l e R s m args below meth c Q s0 D ev nL cells slots pc lv (.int i :: .ref b :: st) ws :=
  fun H locs ls hl h => va_sld F.ex F.co hX (Nat.lt_of_lt_of_le hb F.hi) (Nat.not_le.mpr hb) (h.S F) hin hd (k9 H locs ls hl h)
theorem g_slen (F : Fx p s m args c s0 D ev cc nL own) {b L : Nat} {xs : Nat → Int32} (hX : va_X b L xs s s.heap) (hb : b < ev 0) (hd : decode cc pc = .ok (.arraylength, 1)) (k9 : GJ p l e R s m args below meth c Q s0 D ev nL cells slots (pc + 1) lv (.int (Int32.ofNat L) :: st) ws) : GJ p l e R s m args below meth c Q s0 D ev nL cells slots pc lv (.ref b :: st) ws :=
  fun H locs ls hl h => va_slen F.ex F.co hX (Nat.lt_of_lt_of_le hb F.hi) (Nat.not_le.mpr hb) (h.S F) hd (k9 H locs ls hl h)
/-- Math -/
theorem g_mmax (F : Fx p s m args c s0 D ev cc nL own) {x y : Int32} {idx : Nat} (hw1 : Cond.methodLink own idx Lib.Math.max.name ∈ wsL_law) (hw2 : Cond.static Lib.Math.max.name ∈ wsL_law) (hw3 : Cond.initialized "java/lang/Math" ∈ wsL_law) (hw4 : Cond.code Lib.Math.max.name Lib.Math.max.code 2 (some .int) ∈ wsL_law) (h1 : 1 ≤ R.frames) (h2 : (st.map fun v => v.category).sum + 13 ≤ R.locals) (h3 : cells ≤ R.cells) (h4 : slots ≤ R.slots) (hd : decode cc pc = .ok (.invokestatic idx, 3)) (k9 : GJ p l e R s m args below meth c Q s0 D ev nL cells slots (pc + 3) lv (.int (jmax x y) :: st) ws) : GJ p l e R s m args below meth c Q s0 D ev nL cells slots pc lv (.int y :: .int x :: st) ws :=
  fun H locs ls hl h => va_mmax F.ex F.co (by rw [F.ml]; exact hl.1.symm) F.ow (F.ts _ hw1) (F.ts _ hw2) (F.ts _ hw3) (F.ts _ hw4) h1 h2 h3 h4 hd (k9 H locs ls hl h)
theorem g_mmin (F : Fx p s m args c s0 D ev cc nL own) {x y : Int32} {idx : Nat} (hw1 : Cond.methodLink own idx Lib.Math.min.name ∈ wsL_law) (hw2 : Cond.static Lib.Math.min.name ∈ wsL_law) (hw3 : Cond.initialized "java/lang/Math" ∈ wsL_law) (hw4 : Cond.code Lib.Math.min.name Lib.Math.min.code 2 (some .int) ∈ wsL_law) (h1 : 1 ≤ R.frames) (h2 : (st.map fun v => v.category).sum + 13 ≤ R.locals) (h3 : cells ≤ R.cells) (h4 : slots ≤ R.slots) (hd : decode cc pc = .ok (.invokestatic idx, 3)) (k9 : GJ p l e R s m args below meth c Q s0 D ev nL cells slots (pc + 3) lv (.int (jmin x y) :: st) ws) : GJ p l e R s m args below meth c Q s0 D ev nL cells slots pc lv (.int y :: .int x :: st) ws :=
  fun H locs ls hl h => va_mmin F.ex F.co (by rw [F.ml]; exact hl.1.symm) F.ow (F.ts _ hw1) (F.ts _ hw2) (F.ts _ hw3) (F.ts _ hw4) h1 h2 h3 h4 hd (k9 H locs ls hl h)
theorem g_mabs (F : Fx p s m args c s0 D ev cc nL own) {x : Int32} {idx : Nat} (hw1 : Cond.methodLink own idx Lib.Math.abs.name ∈ wsL_law) (hw2 : Cond.static Lib.Math.abs.name ∈ wsL_law) (hw3 : Cond.initialized "java/lang/Math" ∈ wsL_law) (hw4 : Cond.code Lib.Math.abs.name Lib.Math.abs.code 1 (some .int) ∈ wsL_law) (h1 : 1 ≤ R.frames) (h2 : (st.map fun v => v.category).sum + 13 ≤ R.locals) (h3 : cells ≤ R.cells) (h4 : slots ≤ R.slots) (hd : decode cc pc = .ok (.invokestatic idx, 3)) (k9 : GJ p l e R s m args below meth c Q s0 D ev nL cells slots (pc + 3) lv (.int (jabs x) :: st) ws) : GJ p l e R s m args below meth c Q s0 D ev nL cells slots pc lv (.int x :: st) ws :=
  fun H locs ls hl h => va_mabs F.ex F.co (by rw [F.ml]; exact hl.1.symm) F.ow (F.ts _ hw1) (F.ts _ hw2) (F.ts _ hw3) (F.ts _ hw4) h1 h2 h3 h4 hd (k9 H locs ls hl h)
/-- new -/
theorem g_new (F : Fx p s m args c s0 D ev cc nL own) {ci N idx : Nat} {fs : List Value} {C : String} {T : u_T} (ty : Nat → FieldType) (hty : ∀ k, k < N → parseFieldDescriptor (T k).2.2.1 = some (ty k)) (hc : vwCl[ci]? = some (C, T, N)) (hin : ∀ w ∈ u_ws C T N, w ∈ wsL_law) (hw1 : Cond.classLink own idx C ∈ wsL_law) (hw2 : Cond.instantiable C N ∈ wsL_law) (hw3 : Cond.initialized C ∈ wsL_law) (hfs : ∀ j, j < N → defaultValue (ty j) = vp_V fs j) (h1 : cells + 1 ≤ R.cells) (h2 : slots + N ≤ R.slots) (hd : decode cc pc = .ok (.new idx, 3)) (k9 : GJ p l e R s m args below meth c Q s0 D ev nL (cells + 1) (slots + N) (pc + 3) lv (.ref (ev 0 + ws.length) :: st) (ws ++ [.inr (ci, fs)])) : GJ p l e R s m args below meth c Q s0 D ev nL cells slots pc lv st ws := by
  intro H locs ls hl h
  have hKn := F.K.1 ci _ hc
  refine W.newcK F.ex F.co F.ow (F.ts _ hw1) (F.ts _ hw2) (F.ts _ hw3) rfl hd h1 h2 hKn.2.1 h.1.1 fun H1 kC hkC e1 z1 o1 => ?_
  have hsz := h.1.1
  refine k9 H1 locs ls hl ⟨h.1.push ⟨_, hc, (u_born ty F.ts hin hKn hkC e1 hty).to hfs⟩ (by omega) (fun q hq => o1 q (by omega)), by have := h.2.1; omega, h.2.2⟩
/-- newarray of ints -/
theorem g_newi (F : Fx p s m args c s0 D ev cc nL own) {n : Int32} {N : Nat} (hw : Cond.arrayClass .int ∈ wsL_law) (hn : ¬ n < 0) (hN : n.toNatClampNeg = N) (hby : N * 4 ≤ 536870912) (h1 : cells + 1 ≤ R.cells) (h2 : slots + N ≤ R.slots) (hd : decode cc pc = .ok (.newarray .int, 2)) (k9 : GJ p l e R s m args below meth c Q s0 D ev nL (cells + 1) (slots + N) (pc + 2) lv (.ref (ev 0 + ws.length) :: st) (ws ++ [.inl (ev 1, N, .inl (fun _ => 0))])) : GJ p l e R s m args below meth c Q s0 D ev nL cells slots pc lv (.int n :: st) ws := by
  intro H locs ls hl h
  have hsz := h.1.1
  refine va_newaK (atype := .int) F.ex F.co (F.ts _ hw) rfl hd rfl hn hN hby h1 h2 h.1.1 fun H1 cA e1 z1 o1 hA hf => ?_
  have hcA : cA = ev 1 := Option.some.inj (hf.symm.trans ((F.K.2 0 (ev 1, .int) rfl).2))
  subst hcA
  exact k9 H1 locs ls hl ⟨h.1.push e1 (by omega) (fun q hq => o1 q (by omega)), by have := h.2.1; omega, h.2.2⟩
/-- anewarray -/
theorem g_newa (F : Fx p s m args c s0 D ev cc nL own) {n : Int32} {N idx : Nat} {C : String} {cA : ClassId} (t0 : Nat) (ht : (tysE ev)[t0]? = some (cA, .object C)) (hw1 : Cond.classLink own idx C ∈ wsL_law) (hw2 : C ∈ ([RX1, RX2, RX5, RX8] : List String)) (hn : ¬ n < 0) (hN : n.toNatClampNeg = N) (hby : N * 4 ≤ 536870912) (h1 : cells + 1 ≤ R.cells) (h2 : slots + N ≤ R.slots) (hd : decode cc pc = .ok (.anewarray idx, 3)) (k9 : GJ p l e R s m args below meth c Q s0 D ev nL (cells + 1) (slots + N) (pc + 3) lv (.ref (ev 0 + ws.length) :: st) (ws ++ [.inl (cA, N, .inr (.inr (.inr (.inr (fun _ => none)))))])) : GJ p l e R s m args below meth c Q s0 D ev nL cells slots pc lv (.int n :: st) ws := by
  intro H locs ls hl h
  have hsz := h.1.1
  subst hN
  refine W.anew F.ex F.co F.ow (F.ts _ hw1) ((F.gl.2.2.2.2.1 C hw2).moved F.al).use rfl hd rfl hn hby h1 h2 fun cA' kA comp e1 e2 e3 e4 => ?_
  obtain ⟨kB, compB, k1, k2, k3, k4⟩ := (F.K.2 t0 _ ht).2
  have hcA : cA' = cA := Option.some.inj (e1.symm.trans k4)
  subst hcA
  rw [hsz]
  refine k9 _ locs ls hl ⟨h.1.push ?_ (by rw [Array.size_push]) (fun q hq => ?_), by have := h.2.1; rw [Array.size_push]; omega, h.2.2⟩
  · show (H.push _)[ev 0 + ws.length]? = some (vp_cell _ _)
    rw [← hsz, Array.getElem?_push_size, vp_cell_q, arrV_new]
    rfl
  · rw [Array.getElem?_push]
    rw [if_neg (by omega)]
/-- Object's constructor -/
theorem g_obj (F : Fx p s m args c s0 D ev cc nL own) {a idx : Nat} (hw1 : Cond.methodLink own idx Lib.objectInit ∈ wsL_law) (hw2 : Cond.instanceMethod Lib.objectInit ∈ wsL_law) (hw3 : Cond.code Lib.objectInit ⟨#[0xb1]⟩ 1 none ∈ wsL_law) (h1 : 1 ≤ R.frames) (h2 : (st.map fun v => v.category).sum ≤ 8) (h3 : 20 ≤ R.locals) (hd : decode cc pc = .ok (.invokespecial idx, 3)) (k9 : GJ p l e R s m args below meth c Q s0 D ev nL cells slots (pc + 3) lv st ws) : GJ p l e R s m args below meth c Q s0 D ev nL cells slots pc lv (.ref a :: st) ws :=
  fun H locs ls hl h => W.objInit F.ex F.co F.ow (F.ts _ hw1) (F.ts _ hw2) (F.ts _ hw3) rfl (by rw [F.ml]; exact hl.1) rfl hd h1 (by have := lv_room (m := m) (pc := pc) (ls := ls) (rest := .ref a :: st) h2; omega) (W.eq (g2 := F0 m (pc + 3) ls st) rfl (k9 H locs ls hl h))
/-! contracts -/
def rg (h mc ms : Nat) : Room := { frames := h, cells := mc, slots := ms, locals := 40 * h }
def CT (l : Launch) (s0 : State) (D : va_G) (ev : Nat → Nat) (y : MethodName) (cc : ByteArray) (n : Nat) (ret : Option FieldType) (h mc ms : Nat) (av : List Value) (ws : List va_E) (Qc : Array Value → State → Outcome → State → Prop) : Prop := Met l y (.code y cc n ret :: wsL_law) (rg h mc ms) (va_Pc av (Wr s0 D ev ws)) Qc mc ms (frA ev)
abbrev QI (s0 : State) (D : va_G) (ev : Nat → Nat) (r : Int32) (ws : List va_E) : Array Value → State → Outcome → State → Prop := va_Qi (S := Unit) (fun r' _ => r' = r) (fun _ => Wr s0 D ev ws) (frA ev)
abbrev QL (s0 : State) (D : va_G) (ev : Nat → Nat) (r : Int64) (ws : List va_E) : Array Value → State → Outcome → State → Prop := va_Ql (S := Unit) (fun r' _ => r' = r) (fun _ => Wr s0 D ev ws) (frA ev)
abbrev QV (s0 : State) (D : va_G) (ev : Nat → Nat) (ws : List va_E) : Array Value → State → Outcome → State → Prop := va_Qv (S := Unit) (fun _ => True) (fun _ => Wr s0 D ev ws) (frA ev)
abbrev QR (s0 : State) (D : va_G) (ev : Nat → Nat) (r : Option Nat) (ws : List va_E) : Array Value → State → Outcome → State → Prop := va_Qq (S := Unit) (fun r' _ => r' = r) (fun _ => Wr s0 D ev ws) (frA ev)
theorem ct_of {y : MethodName} {n : Nat} {ret : Option FieldType} {h mc ms : Nat} {av : List Value} {Qc : Array Value → State → Outcome → State → Prop} (G0 : Gl s0 D ev) (hy : plainName y.cls = true) (hn : (lg_sl av).length ≤ n)
    (body : ∀ p e s m args below meth c, Fx p s m args c s0 D ev cc n y.cls → meth.sig.returnType = ret → meth.locks = false → meth.name = y.name → args = av.toArray → (∀ w ∈ wsL_law, w.before args s = true) → GJ p l e (rg h mc ms) s m args below meth c (MQ below Qc args s mc ms (frA ev)) s0 D ev n 0 0 0 (lv_args 0 av) [] ws) : CT l s0 D ev y cc n ret h mc ms av ws Qc := by
  refine Met.ofW (cc := cc) (maxL := n) (ret := ret) hy rfl ?_
  intro p e s m args below meth c s₁ B hml hv
  obtain ⟨rfl, hal, hsr, hW⟩ := hv
  have hts := atoms_spec (ws := .code y cc n ret :: wsL_law) B.pre
  have hts' : ∀ w ∈ wsL_law, w.before av.toArray s = true := fun w hw => hts w (List.mem_cons_of_mem _ hw)
  have F : Fx p s m av.toArray c s0 D ev cc n y.cls := ⟨G0, B.exec, B.bytes, hml, findClass_of_methodNamed B.named, hts', hal, hsr, hW.2.1, by rw [hW.1]; exact Nat.le_add_right _ _⟩
  have hl := lv_entry av (n := n) hn
  rw [lg_entry_eq]
  exact body p e s m av.toArray below meth c F B.returns B.notSynchronized (name_of_methodNamed B.named B.method).1 rfl hts' s.heap [] _ hl ⟨hW, Nat.le_refl _, fun q hq => absurd hq List.not_mem_nil⟩
theorem fr_end (F : Fx p s m args c s0 D ev cc nL own) {H : Heap} {locs : List Loc} {t : State} (h : Hc s s0 D ev ws H locs) (ht : t.heap = H) : va_F (frA ev) s t := by
  subst ht
  exact ⟨h.2.1, fun q _ hq => (h.1.2.1 q (Nat.not_le.mp hq)).trans (F.lo q (Nat.not_le.mp hq)).symm⟩
theorem wr_end (F : Fx p s m args c s0 D ev cc nL own) {H : Heap} {locs : List Loc} {t : State} (h : Hc s s0 D ev ws H locs) (ht : t.heap = H) (hW : s.WarmedH t.vm) : Wr s0 D ev ws t := by
  subst ht
  exact ⟨F.al.trans hW.alike, ⟨fun i hi => (F.sr.1 i hi).warm hW, F.sr.2.warm hW⟩, h.1⟩
theorem g_iret (F : Fx p s m args c s0 D ev cc nL own) {mc ms : Nat} {r v : Int32} {ty : FieldType} {ws' : List va_E} (hr : meth.sig.returnType = some ty) (hn : narrow ty (.int v) = .int v) (hl0 : meth.locks = false) (hv : v = r) (hws : ws = ws') (h1 : cells ≤ mc) (h2 : slots ≤ ms) (hd : decode cc pc = .ok (.ireturn, 1)) : GJ p l e R s m args below meth c (MQ below (QI s0 D ev r ws') args s mc ms (frA ev)) s0 D ev nL cells slots pc lv [.int v] ws := by
  subst hv hws
  exact fun H locs ls hl h => W.widen h1 h2 (W.zret F.ex F.co hr hn (fun t ht hW => ⟨⟨v, (), rfl, rfl, wr_end F h ht hW⟩, fr_end F h ht⟩) h.2.2 hd hl0)
theorem g_lret (F : Fx p s m args c s0 D ev cc nL own) {mc ms : Nat} {r v : Int64} {ws' : List va_E} (hr : meth.sig.returnType = some .long) (hl0 : meth.locks = false) (hv : v = r) (hws : ws = ws') (h1 : cells ≤ mc) (h2 : slots ≤ ms) (hd : decode cc pc = .ok (.lreturn, 1)) : GJ p l e R s m args below meth c (MQ below (QL s0 D ev r ws') args s mc ms (frA ev)) s0 D ev nL cells slots pc lv [.long v] ws := by
  subst hv hws
  exact fun H locs ls hl h => W.widen h1 h2 (W.lret F.ex F.co hr (fun t ht hW => ⟨⟨v, (), rfl, rfl, wr_end F h ht hW⟩, fr_end F h ht⟩) h.2.2 hd hl0)
theorem g_vret (F : Fx p s m args c s0 D ev cc nL own) {mc ms : Nat} {ws' : List va_E} (hr : meth.sig.returnType = none) (hl0 : meth.locks = false) (hws : ws = ws') (h1 : cells ≤ mc) (h2 : slots ≤ ms) (hd : decode cc pc = .ok (.return_, 1)) : GJ p l e R s m args below meth c (MQ below (QV s0 D ev ws') args s mc ms (frA ev)) s0 D ev nL cells slots pc lv [] ws := by
  subst hws
  exact fun H locs ls hl h => W.widen h1 h2 (W.vret F.ex F.co hr (fun t ht hW => ⟨⟨(), rfl, trivial, wr_end F h ht hW⟩, fr_end F h ht⟩) h.2.2 hd hl0)
theorem g_aret (F : Fx p s m args c s0 D ev cc nL own) {mc ms : Nat} {r : Option Nat} {rt : FieldType} {v : Value} {ws' : List va_E} (hr : meth.sig.returnType = some rt) (hrt : (∃ n, rt = .object n) ∨ ∃ t, rt = .array t) (hl0 : meth.locks = false) (hv : v = va_rf r) (hws : ws = ws') (h1 : cells ≤ mc) (h2 : slots ≤ ms) (hd : decode cc pc = .ok (.areturn, 1)) : GJ p l e R s m args below meth c (MQ below (QR s0 D ev r ws') args s mc ms (frA ev)) s0 D ev nL cells slots pc lv [v] ws := by
  subst hv hws
  exact fun H locs ls hl h => W.widen h1 h2 (W.aret F.ex F.co hr hrt (by cases r with | none => exact Or.inl rfl | some a => exact Or.inr ⟨a, rfl⟩) (fun t ht hW => ⟨⟨r, (), rfl, rfl, wr_end F h ht hW⟩, fr_end F h ht⟩) h.2.2 hd hl0)
/-! calls -/
theorem wsL_good : ∀ w ∈ wsL_law, (w.onTables && w.keeps) = true ∨ ∃ ty, w = .arrayClass ty := fun w hw => good_of_word (wsL_good0 w hw)
theorem gi_c {y : MethodName} {n : Nat} {ret : Option FieldType} (h : Cond.code y cc n ret ∈ wsL_law) : GoodIn wsL_law (Cond.code y cc n ret :: wsL_law) := fun w hw => by
  rcases List.mem_cons.mp hw with e1 | e1
  · rw [e1]; exact ⟨h, wsL_good _ h⟩
  · exact ⟨e1, wsL_good _ e1⟩
theorem gi_v {y : MethodName} {n idx : Nat} {ret : Option FieldType} {C : String} (h : Cond.code y cc n ret ∈ wsL_law) (h1 : Cond.methodLink own idx y ∈ wsL_law) (h2 : Cond.instanceMethod y ∈ wsL_law) (h3 : Cond.selects C y y ∈ wsL_law) (h4 : Cond.initialized C ∈ wsL_law) : GoodIn wsL_law (wsV own idx C y (Cond.code y cc n ret :: wsL_law)) := fun w hw => by
  rcases List.mem_append.mp hw with e1 | e1
  · have hm : w ∈ wsL_law := by
      rcases List.mem_cons.mp e1 with e2 | e1
      · rw [e2]; exact h1
      rcases List.mem_cons.mp e1 with e2 | e1
      · rw [e2]; exact h2
      rcases List.mem_cons.mp e1 with e2 | e1
      · rw [e2]; exact h3
      rcases List.mem_cons.mp e1 with e2 | e1
      · rw [e2]; exact h4
      · exact absurd e1 List.not_mem_nil
    exact ⟨hm, wsL_good _ hm⟩
  · exact gi_c h w e1
theorem gi_s {y : MethodName} {n idx : Nat} {ret : Option FieldType} (h : Cond.code y cc n ret ∈ wsL_law) (h1 : Cond.methodLink own idx y ∈ wsL_law) (h2 : Cond.static y ∈ wsL_law) (h4 : Cond.initialized y.cls ∈ wsL_law) : GoodIn wsL_law (va_wsS own idx y (Cond.code y cc n ret :: wsL_law)) := fun w hw => by
  rcases List.mem_append.mp hw with e1 | e1
  · have hm : w ∈ wsL_law := by
      rcases List.mem_cons.mp e1 with e2 | e1
      · rw [e2]; exact h1
      rcases List.mem_cons.mp e1 with e2 | e1
      · rw [e2]; exact h2
      rcases List.mem_cons.mp e1 with e2 | e1
      · rw [e2]; exact h4
      · exact absurd e1 List.not_mem_nil
    exact ⟨hm, wsL_good _ hm⟩
  · exact gi_c h w e1
theorem wr_blind {av : List Value} : FrameBlind (va_Pc av (Wr s0 D ev ws)) := fun a U g mk q => ⟨q.1, q.2.1, ⟨fun i hi => (q.2.2.1.1 i hi).same rfl, q.2.2.1.2.same (u := U) rfl⟩, q.2.2.2⟩
theorem Hc.wr {H : Heap} {locs : List Loc} (F : Fx p s m args c s0 D ev cc nL own) (h : Hc s s0 D ev ws H locs) {U : State} (hU : U.heap = H) (hW : s.WarmedH U.vm) : Wr s0 D ev ws U := wr_end F h hU hW
theorem Hc.back {H H1 : Heap} {locs locs1 : List Loc} {ws1 : List va_E} {t : State} (h : Hc s s0 D ev ws H locs) (ht : t.heap = H1) (hB : Wr s0 D ev ws1 t) (hz : H.size ≤ H1.size) (hS : va_S (frA ev) s.heap H1 locs1) : Hc s s0 D ev ws1 H1 locs1 := ⟨by rw [← ht]; exact hB.2.2, hS.1, hS.2.2⟩
theorem g_callVI (F : Fx p s m args c s0 D ev cc nL own) {y : MethodName} {cc2 : ByteArray} {ret : Option FieldType} {n2 h2 mc2 ms2 idx nn hR mcR msR : Nat} {As stk : List Value} {r : Int32} {ws1 : List va_E} {id ci : Nat} {fs : List Value} {q : vw_C} {C : String} (hid : ws[id]? = some (.inr (ci, fs))) (hc : vwCl[ci]? = some q) (hq : q.1 = C) (hy : y.cls = C) (hM : CT l s0 D ev y cc2 n2 ret h2 mc2 ms2 (.ref (ev 0 + id) :: As) ws (QI s0 D ev r ws1)) (w0 : Cond.code y cc2 n2 ret ∈ wsL_law) (w1 : Cond.methodLink own idx y ∈ wsL_law) (w2 : Cond.instanceMethod y ∈ wsL_law) (w3 : Cond.selects C y y ∈ wsL_law) (w4 : Cond.initialized C ∈ wsL_law) (hmh : y.cls ≠ "java/lang/invoke/MethodHandle" ∧ y.cls ≠ "java/lang/invoke/VarHandle") (hnp : (parseMethodDescriptor y.desc).map (fun d => d.parameters.length) = some nn) (hAs : As.length = nn) (hst : stk = As.reverse ++ .ref (ev 0 + id) :: st) (hcat : (st.map fun v => v.category).sum ≤ 8) (hR1 : h2 + 1 ≤ hR) (hR2 : 8 + (n2 + 11) + 40 * h2 ≤ 40 * hR) (hf : cells + mc2 ≤ mcR ∧ slots + ms2 ≤ msR) (hd : decode cc pc = .ok (.invokevirtual idx, 3)) (k9 : GJ p l e (rg hR mcR msR) s m args below meth c Q s0 D ev nL (cells + mc2) (slots + ms2) (pc + 3) lv (.int r :: st) ws1) : GJ p l e (rg hR mcR msR) s m args below meth c Q s0 D ev nL cells slots pc lv stk ws := by
  intro H locs ls hl h
  subst hst
  refine va_calli (va_runV (As := As) (rest := st) ⟨F.ex, F.co, F.ml, F.ow, F.ts⟩ hM (cwV nn F.ts (gi_v w0 w1 w2 w3 w4) rfl rfl rfl ⟨hy, hmh.1, hmh.2, hnp⟩ ⟨hR1, hR2⟩) ⟨wr_blind, by subst hq; exact va_recv F.K (h.1.P1 hid) (q0 := 0) hc rfl, fun U hU hW => ⟨rfl, h.wr F hU hW⟩⟩ rfl hAs hl.1 rfl (lv_room hcat) hd hf) (h.S F) (fun q _ hq => hq) (fun q hq => hq) (fun r' u t H1 locs1 ht hvm hw hB hz hk hS => ?_)
  have hw : r' = r := hw
  subst hw
  exact k9 H1 locs1 ls hl (h.back ht hB hz hS)
theorem g_callVL (F : Fx p s m args c s0 D ev cc nL own) {y : MethodName} {cc2 : ByteArray} {ret : Option FieldType} {n2 h2 mc2 ms2 idx nn hR mcR msR : Nat} {As stk : List Value} {r : Int64} {ws1 : List va_E} {id ci : Nat} {fs : List Value} {q : vw_C} {C : String} (hid : ws[id]? = some (.inr (ci, fs))) (hc : vwCl[ci]? = some q) (hq : q.1 = C) (hy : y.cls = C) (hM : CT l s0 D ev y cc2 n2 ret h2 mc2 ms2 (.ref (ev 0 + id) :: As) ws (QL s0 D ev r ws1)) (w0 : Cond.code y cc2 n2 ret ∈ wsL_law) (w1 : Cond.methodLink own idx y ∈ wsL_law) (w2 : Cond.instanceMethod y ∈ wsL_law) (w3 : Cond.selects C y y ∈ wsL_law) (w4 : Cond.initialized C ∈ wsL_law) (hmh : y.cls ≠ "java/lang/invoke/MethodHandle" ∧ y.cls ≠ "java/lang/invoke/VarHandle") (hnp : (parseMethodDescriptor y.desc).map (fun d => d.parameters.length) = some nn) (hAs : As.length = nn) (hst : stk = As.reverse ++ .ref (ev 0 + id) :: st) (hcat : (st.map fun v => v.category).sum ≤ 8) (hR1 : h2 + 1 ≤ hR) (hR2 : 8 + (n2 + 11) + 40 * h2 ≤ 40 * hR) (hf : cells + mc2 ≤ mcR ∧ slots + ms2 ≤ msR) (hd : decode cc pc = .ok (.invokevirtual idx, 3)) (k9 : GJ p l e (rg hR mcR msR) s m args below meth c Q s0 D ev nL (cells + mc2) (slots + ms2) (pc + 3) lv (.long r :: st) ws1) : GJ p l e (rg hR mcR msR) s m args below meth c Q s0 D ev nL cells slots pc lv stk ws := by
  intro H locs ls hl h
  subst hst
  refine va_calll (va_runV (As := As) (rest := st) ⟨F.ex, F.co, F.ml, F.ow, F.ts⟩ hM (cwV nn F.ts (gi_v w0 w1 w2 w3 w4) rfl rfl rfl ⟨hy, hmh.1, hmh.2, hnp⟩ ⟨hR1, hR2⟩) ⟨wr_blind, by subst hq; exact va_recv F.K (h.1.P1 hid) (q0 := 0) hc rfl, fun U hU hW => ⟨rfl, h.wr F hU hW⟩⟩ rfl hAs hl.1 rfl (lv_room hcat) hd hf) (h.S F) (fun q _ hq => hq) (fun q hq => hq) (fun r' u t H1 locs1 ht hvm hw hB hz hk hS => ?_)
  have hw : r' = r := hw
  subst hw
  exact k9 H1 locs1 ls hl (h.back ht hB hz hS)
theorem g_callVV (F : Fx p s m args c s0 D ev cc nL own) {y : MethodName} {cc2 : ByteArray} {ret : Option FieldType} {n2 h2 mc2 ms2 idx nn hR mcR msR : Nat} {As stk : List Value} {ws1 : List va_E} {id ci : Nat} {fs : List Value} {q : vw_C} {C : String} (hid : ws[id]? = some (.inr (ci, fs))) (hc : vwCl[ci]? = some q) (hq : q.1 = C) (hy : y.cls = C) (hM : CT l s0 D ev y cc2 n2 ret h2 mc2 ms2 (.ref (ev 0 + id) :: As) ws (QV s0 D ev ws1)) (w0 : Cond.code y cc2 n2 ret ∈ wsL_law) (w1 : Cond.methodLink own idx y ∈ wsL_law) (w2 : Cond.instanceMethod y ∈ wsL_law) (w3 : Cond.selects C y y ∈ wsL_law) (w4 : Cond.initialized C ∈ wsL_law) (hmh : y.cls ≠ "java/lang/invoke/MethodHandle" ∧ y.cls ≠ "java/lang/invoke/VarHandle") (hnp : (parseMethodDescriptor y.desc).map (fun d => d.parameters.length) = some nn) (hAs : As.length = nn) (hst : stk = As.reverse ++ .ref (ev 0 + id) :: st) (hcat : (st.map fun v => v.category).sum ≤ 8) (hR1 : h2 + 1 ≤ hR) (hR2 : 8 + (n2 + 11) + 40 * h2 ≤ 40 * hR) (hf : cells + mc2 ≤ mcR ∧ slots + ms2 ≤ msR) (hd : decode cc pc = .ok (.invokevirtual idx, 3)) (k9 : GJ p l e (rg hR mcR msR) s m args below meth c Q s0 D ev nL (cells + mc2) (slots + ms2) (pc + 3) lv (st) ws1) : GJ p l e (rg hR mcR msR) s m args below meth c Q s0 D ev nL cells slots pc lv stk ws := by
  intro H locs ls hl h
  subst hst
  refine va_callv (va_runV (As := As) (rest := st) ⟨F.ex, F.co, F.ml, F.ow, F.ts⟩ hM (cwV nn F.ts (gi_v w0 w1 w2 w3 w4) rfl rfl rfl ⟨hy, hmh.1, hmh.2, hnp⟩ ⟨hR1, hR2⟩) ⟨wr_blind, by subst hq; exact va_recv F.K (h.1.P1 hid) (q0 := 0) hc rfl, fun U hU hW => ⟨rfl, h.wr F hU hW⟩⟩ rfl hAs hl.1 rfl (lv_room hcat) hd hf) (h.S F) (fun q _ hq => hq) (fun q hq => hq) (fun u t H1 locs1 ht hvm hw hB hz hk hS => ?_)
  exact k9 H1 locs1 ls hl (h.back ht hB hz hS)
theorem g_callVR (F : Fx p s m args c s0 D ev cc nL own) {y : MethodName} {cc2 : ByteArray} {ret : Option FieldType} {n2 h2 mc2 ms2 idx nn hR mcR msR : Nat} {As stk : List Value} {r : Option Nat} {ws1 : List va_E} {id ci : Nat} {fs : List Value} {q : vw_C} {C : String} (hid : ws[id]? = some (.inr (ci, fs))) (hc : vwCl[ci]? = some q) (hq : q.1 = C) (hy : y.cls = C) (hM : CT l s0 D ev y cc2 n2 ret h2 mc2 ms2 (.ref (ev 0 + id) :: As) ws (QR s0 D ev r ws1)) (w0 : Cond.code y cc2 n2 ret ∈ wsL_law) (w1 : Cond.methodLink own idx y ∈ wsL_law) (w2 : Cond.instanceMethod y ∈ wsL_law) (w3 : Cond.selects C y y ∈ wsL_law) (w4 : Cond.initialized C ∈ wsL_law) (hmh : y.cls ≠ "java/lang/invoke/MethodHandle" ∧ y.cls ≠ "java/lang/invoke/VarHandle") (hnp : (parseMethodDescriptor y.desc).map (fun d => d.parameters.length) = some nn) (hAs : As.length = nn) (hst : stk = As.reverse ++ .ref (ev 0 + id) :: st) (hcat : (st.map fun v => v.category).sum ≤ 8) (hR1 : h2 + 1 ≤ hR) (hR2 : 8 + (n2 + 11) + 40 * h2 ≤ 40 * hR) (hf : cells + mc2 ≤ mcR ∧ slots + ms2 ≤ msR) (hd : decode cc pc = .ok (.invokevirtual idx, 3)) (k9 : GJ p l e (rg hR mcR msR) s m args below meth c Q s0 D ev nL (cells + mc2) (slots + ms2) (pc + 3) lv (va_rf r :: st) ws1) : GJ p l e (rg hR mcR msR) s m args below meth c Q s0 D ev nL cells slots pc lv stk ws := by
  intro H locs ls hl h
  subst hst
  refine va_callq (va_runV (As := As) (rest := st) ⟨F.ex, F.co, F.ml, F.ow, F.ts⟩ hM (cwV nn F.ts (gi_v w0 w1 w2 w3 w4) rfl rfl rfl ⟨hy, hmh.1, hmh.2, hnp⟩ ⟨hR1, hR2⟩) ⟨wr_blind, by subst hq; exact va_recv F.K (h.1.P1 hid) (q0 := 0) hc rfl, fun U hU hW => ⟨rfl, h.wr F hU hW⟩⟩ rfl hAs hl.1 rfl (lv_room hcat) hd hf) (h.S F) (fun q _ hq => hq) (fun q hq => hq) (fun r' u t H1 locs1 ht hvm hw hB hz hk hS => ?_)
  have hw : r' = r := hw
  subst hw
  exact k9 H1 locs1 ls hl (h.back ht hB hz hS)
theorem g_callSI (F : Fx p s m args c s0 D ev cc nL own) {y : MethodName} {cc2 : ByteArray} {ret : Option FieldType} {n2 h2 mc2 ms2 idx nn hR mcR msR : Nat} {As stk : List Value} {r : Int32} {ws1 : List va_E}  (hM : CT l s0 D ev y cc2 n2 ret h2 mc2 ms2 As ws (QI s0 D ev r ws1)) (w0 : Cond.code y cc2 n2 ret ∈ wsL_law) (w1 : Cond.methodLink own idx y ∈ wsL_law) (w2 : Cond.static y ∈ wsL_law) (w4 : Cond.initialized y.cls ∈ wsL_law) (hmh : y.cls ≠ "java/lang/invoke/MethodHandle" ∧ y.cls ≠ "java/lang/invoke/VarHandle") (hnp : (parseMethodDescriptor y.desc).map (fun d => d.parameters.length) = some nn) (hAs : As.length = nn) (hst : stk = As.reverse ++ st) (hcat : (st.map fun v => v.category).sum ≤ 8) (hR1 : h2 + 1 ≤ hR) (hR2 : 8 + (n2 + 11) + 40 * h2 ≤ 40 * hR) (hf : cells + mc2 ≤ mcR ∧ slots + ms2 ≤ msR) (hd : decode cc pc = .ok (.invokestatic idx, 3)) (k9 : GJ p l e (rg hR mcR msR) s m args below meth c Q s0 D ev nL (cells + mc2) (slots + ms2) (pc + 3) lv (.int r :: st) ws1) : GJ p l e (rg hR mcR msR) s m args below meth c Q s0 D ev nL cells slots pc lv stk ws := by
  intro H locs ls hl h
  subst hst
  refine va_calli (va_runS (As := As) (rest := st) ⟨F.ex, F.co, F.ml, F.ow, F.ts⟩ hM (va_cwS nn F.ts (gi_s w0 w1 w2 w4) rfl rfl rfl ⟨hmh.1, hmh.2, hnp⟩ ⟨hR1, hR2⟩) ⟨wr_blind, fun U hU hW => ⟨rfl, h.wr F hU hW⟩⟩ rfl hAs hl.1 rfl (lv_room hcat) hd hf) (h.S F) (fun q _ hq => hq) (fun q hq => hq) (fun r' u t H1 locs1 ht hvm hw hB hz hk hS => ?_)
  have hw : r' = r := hw
  subst hw
  exact k9 H1 locs1 ls hl (h.back ht hB hz hS)
theorem g_callSL (F : Fx p s m args c s0 D ev cc nL own) {y : MethodName} {cc2 : ByteArray} {ret : Option FieldType} {n2 h2 mc2 ms2 idx nn hR mcR msR : Nat} {As stk : List Value} {r : Int64} {ws1 : List va_E}  (hM : CT l s0 D ev y cc2 n2 ret h2 mc2 ms2 As ws (QL s0 D ev r ws1)) (w0 : Cond.code y cc2 n2 ret ∈ wsL_law) (w1 : Cond.methodLink own idx y ∈ wsL_law) (w2 : Cond.static y ∈ wsL_law) (w4 : Cond.initialized y.cls ∈ wsL_law) (hmh : y.cls ≠ "java/lang/invoke/MethodHandle" ∧ y.cls ≠ "java/lang/invoke/VarHandle") (hnp : (parseMethodDescriptor y.desc).map (fun d => d.parameters.length) = some nn) (hAs : As.length = nn) (hst : stk = As.reverse ++ st) (hcat : (st.map fun v => v.category).sum ≤ 8) (hR1 : h2 + 1 ≤ hR) (hR2 : 8 + (n2 + 11) + 40 * h2 ≤ 40 * hR) (hf : cells + mc2 ≤ mcR ∧ slots + ms2 ≤ msR) (hd : decode cc pc = .ok (.invokestatic idx, 3)) (k9 : GJ p l e (rg hR mcR msR) s m args below meth c Q s0 D ev nL (cells + mc2) (slots + ms2) (pc + 3) lv (.long r :: st) ws1) : GJ p l e (rg hR mcR msR) s m args below meth c Q s0 D ev nL cells slots pc lv stk ws := by
  intro H locs ls hl h
  subst hst
  refine va_calll (va_runS (As := As) (rest := st) ⟨F.ex, F.co, F.ml, F.ow, F.ts⟩ hM (va_cwS nn F.ts (gi_s w0 w1 w2 w4) rfl rfl rfl ⟨hmh.1, hmh.2, hnp⟩ ⟨hR1, hR2⟩) ⟨wr_blind, fun U hU hW => ⟨rfl, h.wr F hU hW⟩⟩ rfl hAs hl.1 rfl (lv_room hcat) hd hf) (h.S F) (fun q _ hq => hq) (fun q hq => hq) (fun r' u t H1 locs1 ht hvm hw hB hz hk hS => ?_)
  have hw : r' = r := hw
  subst hw
  exact k9 H1 locs1 ls hl (h.back ht hB hz hS)
theorem g_callSV (F : Fx p s m args c s0 D ev cc nL own) {y : MethodName} {cc2 : ByteArray} {ret : Option FieldType} {n2 h2 mc2 ms2 idx nn hR mcR msR : Nat} {As stk : List Value} {ws1 : List va_E}  (hM : CT l s0 D ev y cc2 n2 ret h2 mc2 ms2 As ws (QV s0 D ev ws1)) (w0 : Cond.code y cc2 n2 ret ∈ wsL_law) (w1 : Cond.methodLink own idx y ∈ wsL_law) (w2 : Cond.static y ∈ wsL_law) (w4 : Cond.initialized y.cls ∈ wsL_law) (hmh : y.cls ≠ "java/lang/invoke/MethodHandle" ∧ y.cls ≠ "java/lang/invoke/VarHandle") (hnp : (parseMethodDescriptor y.desc).map (fun d => d.parameters.length) = some nn) (hAs : As.length = nn) (hst : stk = As.reverse ++ st) (hcat : (st.map fun v => v.category).sum ≤ 8) (hR1 : h2 + 1 ≤ hR) (hR2 : 8 + (n2 + 11) + 40 * h2 ≤ 40 * hR) (hf : cells + mc2 ≤ mcR ∧ slots + ms2 ≤ msR) (hd : decode cc pc = .ok (.invokestatic idx, 3)) (k9 : GJ p l e (rg hR mcR msR) s m args below meth c Q s0 D ev nL (cells + mc2) (slots + ms2) (pc + 3) lv (st) ws1) : GJ p l e (rg hR mcR msR) s m args below meth c Q s0 D ev nL cells slots pc lv stk ws := by
  intro H locs ls hl h
  subst hst
  refine va_callv (va_runS (As := As) (rest := st) ⟨F.ex, F.co, F.ml, F.ow, F.ts⟩ hM (va_cwS nn F.ts (gi_s w0 w1 w2 w4) rfl rfl rfl ⟨hmh.1, hmh.2, hnp⟩ ⟨hR1, hR2⟩) ⟨wr_blind, fun U hU hW => ⟨rfl, h.wr F hU hW⟩⟩ rfl hAs hl.1 rfl (lv_room hcat) hd hf) (h.S F) (fun q _ hq => hq) (fun q hq => hq) (fun u t H1 locs1 ht hvm hw hB hz hk hS => ?_)
  exact k9 H1 locs1 ls hl (h.back ht hB hz hS)
theorem g_callSR (F : Fx p s m args c s0 D ev cc nL own) {y : MethodName} {cc2 : ByteArray} {ret : Option FieldType} {n2 h2 mc2 ms2 idx nn hR mcR msR : Nat} {As stk : List Value} {r : Option Nat} {ws1 : List va_E}  (hM : CT l s0 D ev y cc2 n2 ret h2 mc2 ms2 As ws (QR s0 D ev r ws1)) (w0 : Cond.code y cc2 n2 ret ∈ wsL_law) (w1 : Cond.methodLink own idx y ∈ wsL_law) (w2 : Cond.static y ∈ wsL_law) (w4 : Cond.initialized y.cls ∈ wsL_law) (hmh : y.cls ≠ "java/lang/invoke/MethodHandle" ∧ y.cls ≠ "java/lang/invoke/VarHandle") (hnp : (parseMethodDescriptor y.desc).map (fun d => d.parameters.length) = some nn) (hAs : As.length = nn) (hst : stk = As.reverse ++ st) (hcat : (st.map fun v => v.category).sum ≤ 8) (hR1 : h2 + 1 ≤ hR) (hR2 : 8 + (n2 + 11) + 40 * h2 ≤ 40 * hR) (hf : cells + mc2 ≤ mcR ∧ slots + ms2 ≤ msR) (hd : decode cc pc = .ok (.invokestatic idx, 3)) (k9 : GJ p l e (rg hR mcR msR) s m args below meth c Q s0 D ev nL (cells + mc2) (slots + ms2) (pc + 3) lv (va_rf r :: st) ws1) : GJ p l e (rg hR mcR msR) s m args below meth c Q s0 D ev nL cells slots pc lv stk ws := by
  intro H locs ls hl h
  subst hst
  refine va_callq (va_runS (As := As) (rest := st) ⟨F.ex, F.co, F.ml, F.ow, F.ts⟩ hM (va_cwS nn F.ts (gi_s w0 w1 w2 w4) rfl rfl rfl ⟨hmh.1, hmh.2, hnp⟩ ⟨hR1, hR2⟩) ⟨wr_blind, fun U hU hW => ⟨rfl, h.wr F hU hW⟩⟩ rfl hAs hl.1 rfl (lv_room hcat) hd hf) (h.S F) (fun q _ hq => hq) (fun q hq => hq) (fun r' u t H1 locs1 ht hvm hw hB hz hk hS => ?_)
  have hw : r' = r := hw
  subst hw
  exact k9 H1 locs1 ls hl (h.back ht hB hz hS)
theorem g_callIV (F : Fx p s m args c s0 D ev cc nL own) {y : MethodName} {cc2 : ByteArray} {n2 h2 mc2 ms2 idx nn hR mcR msR : Nat} {As stk : List Value} {ws1 : List va_E} {id : Nat} (hin : y.name = "<init>") (hM : CT l s0 D ev y cc2 n2 none h2 mc2 ms2 (.ref (ev 0 + id) :: As) ws (QV s0 D ev ws1)) (w0 : Cond.code y cc2 n2 none ∈ wsL_law) (w1 : Cond.methodLink own idx y ∈ wsL_law) (w2 : Cond.instanceMethod y ∈ wsL_law) (w4 : Cond.initialized y.cls ∈ wsL_law) (hmh : y.cls ≠ "java/lang/invoke/MethodHandle" ∧ y.cls ≠ "java/lang/invoke/VarHandle") (hnp : (parseMethodDescriptor y.desc).map (fun d => d.parameters.length) = some nn) (hAs : As.length = nn) (hst : stk = As.reverse ++ .ref (ev 0 + id) :: st) (hcat : (st.map fun v => v.category).sum ≤ 8) (hR1 : h2 + 1 ≤ hR) (hR2 : 8 + (n2 + 11) + 40 * h2 ≤ 40 * hR) (hf : cells + mc2 ≤ mcR ∧ slots + ms2 ≤ msR) (hd : decode cc pc = .ok (.invokespecial idx, 3)) (k9 : GJ p l e (rg hR mcR msR) s m args below meth c Q s0 D ev nL (cells + mc2) (slots + ms2) (pc + 3) lv (st) ws1) : GJ p l e (rg hR mcR msR) s m args below meth c Q s0 D ev nL cells slots pc lv stk ws := by
  intro H locs ls hl h
  subst hst
  refine va_callv (va_runI (As := As) (rest := st) ⟨F.ex, F.co, F.ml, F.ow, F.ts⟩ hM (cwI nn F.ts (gi_c w0) rfl rfl rfl (F.ts _ w4) (F.ts _ w1) (F.ts _ w2) hin ⟨hmh.1, hmh.2, hnp⟩ ⟨hR1, hR2⟩) ⟨wr_blind, fun U hU hW => ⟨rfl, h.wr F hU hW⟩⟩ rfl hAs hl.1 rfl (lv_room hcat) hd hf) (h.S F) (fun q _ hq => hq) (fun q hq => hq) (fun u t H1 locs1 ht hvm hw hB hz hk hS => ?_)
  exact k9 H1 locs1 ls hl (h.back ht hB hz hS)
theorem g_getsN (F : Fx p s m args c s0 D ev cc nL own) {i idx : Nat} {own2 host : String} (hi : i < 5) (he : own2 = RX9) (hw : Cond.fieldLinkNest own idx own2 (stN i) "[I" host ∈ nwL) (hd : decode cc pc = .ok (.getstatic idx, 3)) (k9 : GJ p l e R s m args below meth c Q s0 D ev nL cells slots (pc + 3) lv (.ref (ev (10 + i)) :: st) ws) : GJ p l e R s m args below meth c Q s0 D ev nL cells slots pc lv st ws :=
  fun H locs ls hl h => va_getsN F.ex F.co (((F.gl.2.2.1 i hi).1.moved F.al).kept (fun a _ h2 => F.lo a (Nat.not_le.mp h2))) (h.S F) F.ow ((F.sr.2 _ hw).use (nwL_tab _ hw)) (fun x hx => by rw [he]; exact hx) hd (k9 H locs ls hl h)
theorem g_stldr (F : Fx p s m args c s0 D ev cc nL own) {i n : Nat} {j : Int32} (hi : i < 5) (hn : (stR i).length = n) (hin : vp_in j n) (hd : decode cc pc = .ok (.iaload, 1)) (k9 : GJ p l e R s m args below meth c Q s0 D ev nL cells slots (pc + 1) lv (.int ((stR i).getD j.toNatClampNeg 0) :: st) ws) : GJ p l e R s m args below meth c Q s0 D ev nL cells slots pc lv (.int j :: .ref (ev (10 + i)) :: st) ws := by
  subst hn
  exact g_stld F hi hin hd k9
theorem g_callSNI (F : Fx p s m args c s0 D ev cc nL own) {y : MethodName} {cc2 : ByteArray} {host : String} {ret : Option FieldType} {n2 h2 mc2 ms2 idx nn hR mcR msR : Nat} {As stk : List Value} {r : Int32} {ws1 : List va_E}  (hM : CT l s0 D ev y cc2 n2 ret h2 mc2 ms2 As ws (QI s0 D ev r ws1)) (w0 : Cond.code y cc2 n2 ret ∈ wsL_law) (w1 : Cond.methodLinkNest own idx y host ∈ nwL) (w2 : Cond.static y ∈ wsL_law) (w4 : Cond.initialized y.cls ∈ wsL_law) (hmh : y.cls ≠ "java/lang/invoke/MethodHandle" ∧ y.cls ≠ "java/lang/invoke/VarHandle") (hnp : (parseMethodDescriptor y.desc).map (fun d => d.parameters.length) = some nn) (hAs : As.length = nn) (hst : stk = As.reverse ++ st) (hcat : (st.map fun v => v.category).sum ≤ 8) (hR1 : h2 + 1 ≤ hR) (hR2 : 8 + (n2 + 11) + 40 * h2 ≤ 40 * hR) (hf : cells + mc2 ≤ mcR ∧ slots + ms2 ≤ msR) (hd : decode cc pc = .ok (.invokestatic idx, 3)) (k9 : GJ p l e (rg hR mcR msR) s m args below meth c Q s0 D ev nL (cells + mc2) (slots + ms2) (pc + 3) lv (.int r :: st) ws1) : GJ p l e (rg hR mcR msR) s m args below meth c Q s0 D ev nL cells slots pc lv stk ws := by
  intro H locs ls hl h
  subst hst
  refine va_calli (va_runSN (As := As) (rest := st) ⟨F.ex, F.co, F.ml, F.ow, F.ts⟩ hM ⟨va_cnB nn F.ts (gi_c w0) rfl rfl rfl (F.sr.2 _ w1) (F.ts _ w4) ⟨hmh.1, hmh.2, hnp⟩ ⟨hR1, hR2⟩, F.ts _ w2, trivial⟩ ⟨wr_blind, fun U hU hW => ⟨rfl, h.wr F hU hW⟩⟩ rfl hAs hl.1 rfl (lv_room hcat) hd hf) (h.S F) (fun q _ hq => hq) (fun q hq => hq) (fun r' u t H1 locs1 ht hvm hw hB hz hk hS => ?_)
  have hw : r' = r := hw
  subst hw
  exact k9 H1 locs1 ls hl (h.back ht hB hz hS)
theorem g_callSNL (F : Fx p s m args c s0 D ev cc nL own) {y : MethodName} {cc2 : ByteArray} {host : String} {ret : Option FieldType} {n2 h2 mc2 ms2 idx nn hR mcR msR : Nat} {As stk : List Value} {r : Int64} {ws1 : List va_E}  (hM : CT l s0 D ev y cc2 n2 ret h2 mc2 ms2 As ws (QL s0 D ev r ws1)) (w0 : Cond.code y cc2 n2 ret ∈ wsL_law) (w1 : Cond.methodLinkNest own idx y host ∈ nwL) (w2 : Cond.static y ∈ wsL_law) (w4 : Cond.initialized y.cls ∈ wsL_law) (hmh : y.cls ≠ "java/lang/invoke/MethodHandle" ∧ y.cls ≠ "java/lang/invoke/VarHandle") (hnp : (parseMethodDescriptor y.desc).map (fun d => d.parameters.length) = some nn) (hAs : As.length = nn) (hst : stk = As.reverse ++ st) (hcat : (st.map fun v => v.category).sum ≤ 8) (hR1 : h2 + 1 ≤ hR) (hR2 : 8 + (n2 + 11) + 40 * h2 ≤ 40 * hR) (hf : cells + mc2 ≤ mcR ∧ slots + ms2 ≤ msR) (hd : decode cc pc = .ok (.invokestatic idx, 3)) (k9 : GJ p l e (rg hR mcR msR) s m args below meth c Q s0 D ev nL (cells + mc2) (slots + ms2) (pc + 3) lv (.long r :: st) ws1) : GJ p l e (rg hR mcR msR) s m args below meth c Q s0 D ev nL cells slots pc lv stk ws := by
  intro H locs ls hl h
  subst hst
  refine va_calll (va_runSN (As := As) (rest := st) ⟨F.ex, F.co, F.ml, F.ow, F.ts⟩ hM ⟨va_cnB nn F.ts (gi_c w0) rfl rfl rfl (F.sr.2 _ w1) (F.ts _ w4) ⟨hmh.1, hmh.2, hnp⟩ ⟨hR1, hR2⟩, F.ts _ w2, trivial⟩ ⟨wr_blind, fun U hU hW => ⟨rfl, h.wr F hU hW⟩⟩ rfl hAs hl.1 rfl (lv_room hcat) hd hf) (h.S F) (fun q _ hq => hq) (fun q hq => hq) (fun r' u t H1 locs1 ht hvm hw hB hz hk hS => ?_)
  have hw : r' = r := hw
  subst hw
  exact k9 H1 locs1 ls hl (h.back ht hB hz hS)
theorem g_callSNV (F : Fx p s m args c s0 D ev cc nL own) {y : MethodName} {cc2 : ByteArray} {host : String} {ret : Option FieldType} {n2 h2 mc2 ms2 idx nn hR mcR msR : Nat} {As stk : List Value} {ws1 : List va_E}  (hM : CT l s0 D ev y cc2 n2 ret h2 mc2 ms2 As ws (QV s0 D ev ws1)) (w0 : Cond.code y cc2 n2 ret ∈ wsL_law) (w1 : Cond.methodLinkNest own idx y host ∈ nwL) (w2 : Cond.static y ∈ wsL_law) (w4 : Cond.initialized y.cls ∈ wsL_law) (hmh : y.cls ≠ "java/lang/invoke/MethodHandle" ∧ y.cls ≠ "java/lang/invoke/VarHandle") (hnp : (parseMethodDescriptor y.desc).map (fun d => d.parameters.length) = some nn) (hAs : As.length = nn) (hst : stk = As.reverse ++ st) (hcat : (st.map fun v => v.category).sum ≤ 8) (hR1 : h2 + 1 ≤ hR) (hR2 : 8 + (n2 + 11) + 40 * h2 ≤ 40 * hR) (hf : cells + mc2 ≤ mcR ∧ slots + ms2 ≤ msR) (hd : decode cc pc = .ok (.invokestatic idx, 3)) (k9 : GJ p l e (rg hR mcR msR) s m args below meth c Q s0 D ev nL (cells + mc2) (slots + ms2) (pc + 3) lv (st) ws1) : GJ p l e (rg hR mcR msR) s m args below meth c Q s0 D ev nL cells slots pc lv stk ws := by
  intro H locs ls hl h
  subst hst
  refine va_callv (va_runSN (As := As) (rest := st) ⟨F.ex, F.co, F.ml, F.ow, F.ts⟩ hM ⟨va_cnB nn F.ts (gi_c w0) rfl rfl rfl (F.sr.2 _ w1) (F.ts _ w4) ⟨hmh.1, hmh.2, hnp⟩ ⟨hR1, hR2⟩, F.ts _ w2, trivial⟩ ⟨wr_blind, fun U hU hW => ⟨rfl, h.wr F hU hW⟩⟩ rfl hAs hl.1 rfl (lv_room hcat) hd hf) (h.S F) (fun q _ hq => hq) (fun q hq => hq) (fun u t H1 locs1 ht hvm hw hB hz hk hS => ?_)
  exact k9 H1 locs1 ls hl (h.back ht hB hz hS)
theorem g_callSNR (F : Fx p s m args c s0 D ev cc nL own) {y : MethodName} {cc2 : ByteArray} {host : String} {ret : Option FieldType} {n2 h2 mc2 ms2 idx nn hR mcR msR : Nat} {As stk : List Value} {r : Option Nat} {ws1 : List va_E}  (hM : CT l s0 D ev y cc2 n2 ret h2 mc2 ms2 As ws (QR s0 D ev r ws1)) (w0 : Cond.code y cc2 n2 ret ∈ wsL_law) (w1 : Cond.methodLinkNest own idx y host ∈ nwL) (w2 : Cond.static y ∈ wsL_law) (w4 : Cond.initialized y.cls ∈ wsL_law) (hmh : y.cls ≠ "java/lang/invoke/MethodHandle" ∧ y.cls ≠ "java/lang/invoke/VarHandle") (hnp : (parseMethodDescriptor y.desc).map (fun d => d.parameters.length) = some nn) (hAs : As.length = nn) (hst : stk = As.reverse ++ st) (hcat : (st.map fun v => v.category).sum ≤ 8) (hR1 : h2 + 1 ≤ hR) (hR2 : 8 + (n2 + 11) + 40 * h2 ≤ 40 * hR) (hf : cells + mc2 ≤ mcR ∧ slots + ms2 ≤ msR) (hd : decode cc pc = .ok (.invokestatic idx, 3)) (k9 : GJ p l e (rg hR mcR msR) s m args below meth c Q s0 D ev nL (cells + mc2) (slots + ms2) (pc + 3) lv (va_rf r :: st) ws1) : GJ p l e (rg hR mcR msR) s m args below meth c Q s0 D ev nL cells slots pc lv stk ws := by
  intro H locs ls hl h
  subst hst
  refine va_callq (va_runSN (As := As) (rest := st) ⟨F.ex, F.co, F.ml, F.ow, F.ts⟩ hM ⟨va_cnB nn F.ts (gi_c w0) rfl rfl rfl (F.sr.2 _ w1) (F.ts _ w4) ⟨hmh.1, hmh.2, hnp⟩ ⟨hR1, hR2⟩, F.ts _ w2, trivial⟩ ⟨wr_blind, fun U hU hW => ⟨rfl, h.wr F hU hW⟩⟩ rfl hAs hl.1 rfl (lv_room hcat) hd hf) (h.S F) (fun q _ hq => hq) (fun q hq => hq) (fun r' u t H1 locs1 ht hvm hw hB hz hk hS => ?_)
  have hw : r' = r := hw
  subst hw
  exact k9 H1 locs1 ls hl (h.back ht hB hz hS)
theorem g_callINV (F : Fx p s m args c s0 D ev cc nL own) {y : MethodName} {cc2 : ByteArray} {host : String} {n2 h2 mc2 ms2 idx nn hR mcR msR : Nat} {As stk : List Value} {ws1 : List va_E} {id : Nat} (hin : y.name = "<init>") (hM : CT l s0 D ev y cc2 n2 none h2 mc2 ms2 (.ref (ev 0 + id) :: As) ws (QV s0 D ev ws1)) (w0 : Cond.code y cc2 n2 none ∈ wsL_law) (w1 : Cond.methodLinkNest own idx y host ∈ nwL) (w2 : Cond.instanceMethod y ∈ wsL_law) (w4 : Cond.initialized y.cls ∈ wsL_law) (hmh : y.cls ≠ "java/lang/invoke/MethodHandle" ∧ y.cls ≠ "java/lang/invoke/VarHandle") (hnp : (parseMethodDescriptor y.desc).map (fun d => d.parameters.length) = some nn) (hAs : As.length = nn) (hst : stk = As.reverse ++ .ref (ev 0 + id) :: st) (hcat : (st.map fun v => v.category).sum ≤ 8) (hR1 : h2 + 1 ≤ hR) (hR2 : 8 + (n2 + 11) + 40 * h2 ≤ 40 * hR) (hf : cells + mc2 ≤ mcR ∧ slots + ms2 ≤ msR) (hd : decode cc pc = .ok (.invokespecial idx, 3)) (k9 : GJ p l e (rg hR mcR msR) s m args below meth c Q s0 D ev nL (cells + mc2) (slots + ms2) (pc + 3) lv (st) ws1) : GJ p l e (rg hR mcR msR) s m args below meth c Q s0 D ev nL cells slots pc lv stk ws := by
  intro H locs ls hl h
  subst hst
  refine va_callv (va_runIN (As := As) (rest := st) ⟨F.ex, F.co, F.ml, F.ow, F.ts⟩ hM ⟨va_cnB nn F.ts (gi_c w0) rfl rfl rfl (F.sr.2 _ w1) (F.ts _ w4) ⟨hmh.1, hmh.2, hnp⟩ ⟨hR1, hR2⟩, hin, F.ts _ w2⟩ ⟨wr_blind, fun U hU hW => ⟨rfl, h.wr F hU hW⟩⟩ rfl hAs hl.1 rfl (lv_room hcat) hd hf) (h.S F) (fun q _ hq => hq) (fun q hq => hq) (fun u t H1 locs1 ht hvm hw hB hz hk hS => ?_)
  exact k9 H1 locs1 ls hl (h.back ht hB hz hS)

end G6

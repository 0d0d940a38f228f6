/-! what holds at the start -/
def tp0 (k : Nat) (j : Nat) : Int32 := if j < k then sF 12 j else 0
def Xk (k : Nat) : XW := xI (xG xw0 8 (tp0 k)) 7 1 (nI k)
def Mk (k : Nat) : MW := (mw0.1, fun i => if i = 81 then tp0 k else mw0.2 i)
theorem rd_0 : (fX6_read (Xk 70) 47).map Prod.fst = some (-1) := by decide +kernel
theorem tp_tab : ∀ j : Fin 70, sF 12 j = lf lt292 j := by decide +kernel
theorem tp_pos : ∀ j : Fin 70, 0 ≤ (sF 12 j).toInt := by decide +kernel
theorem tp_nn (k j : Nat) : 0 ≤ (tp0 70 j).toInt := by
  unfold tp0
  by_cases q : j < 70
  · rw [if_pos q]; exact tp_pos ⟨j, q⟩
  · rw [if_neg q]; decide
theorem tp_suc (k : Nat) : upd (tp0 k) k (sF 12 k) = tp0 (k + 1) := by
  funext j
  unfold upd tp0
  by_cases q : j = k
  · subst q; rw [if_pos rfl, if_pos (by omega)]
  · rw [if_neg q]
    by_cases c : j < k
    · rw [if_pos c, if_pos (by omega)]
    · rw [if_neg c, if_neg (by omega)]
theorem Xk_0 : Xk 0 = xw0 := by
  have e : tp0 0 = fun _ => 0 := funext fun j => if_neg (by omega)
  refine Prod.ext (funext fun i => funext fun k => ?_) (Prod.ext (funext fun i => ?_) rfl)
  · by_cases c : i = 7
    · subst c
      by_cases d : k = 1
      · subst d; exact (xI_at _ 7 1 _).trans (by decide)
      · exact xI_k _ _ _ d
    · exact congrFun (xI_ne _ 1 _ c) k
  · show (xG xw0 8 (tp0 0)).2.1 i = _
    rw [e]
    by_cases c : i = 8
    · subst c; rfl
    · simp [xG, c]
theorem Xk_suc (k : Nat) (hk : k < 70) : fX6_add (Xk k) (sF 12 k) = some (Xk (k + 1)) := by
  unfold fX6_add
  have e1 : (Xk k).1 7 1 = nI k := xI_at _ _ _ _
  rw [e1, if_neg (show ¬ (160 : Int32) ≤ nI k from nI_ge (b := 160) (by omega) (by omega)), if_pos (in_nI (by omega) (by omega)), bd, bd]
  refine congrArg some (Prod.ext (funext fun i => funext fun q => ?_) (Prod.ext (funext fun i => ?_) rfl))
  · by_cases c : i = 7
    · subst c
      by_cases d : q = 1
      · subst d
        rw [xI_at]
        refine Eq.trans ?_ (xI_at _ 7 1 _).symm
        show (Xk k).1 7 1 + 1 = _
        rw [e1, nI_1]
      · rw [xI_k _ _ _ d]
        refine Eq.trans ?_ (xI_k _ 7 _ d).symm
        exact xI_k _ 7 _ d
    · rw [xI_ne _ _ _ c]
      refine Eq.trans ?_ (congrFun (xI_ne _ 1 _ c).symm q)
      exact congrFun (xI_ne _ 1 _ c) q
  · show (xA (Xk k) 8 (nI k) (sF 12 k)).2.1 i = (xG xw0 8 (tp0 (k + 1))).2.1 i
    by_cases c : i = 8
    · subst c
      rw [xA_at, cl_nI (by omega)]
      show upd (tp0 k) k (sF 12 k) = tp0 (k + 1)
      exact tp_suc k
    · rw [xA_ne _ _ _ c]
      show (xG xw0 8 (tp0 k)).2.1 i = _
      simp [xG, c]
theorem init_X : ∀ m k, k ≤ 70 → 70 < m + k → lo2 fX9_init_l217 m (Xk k) (nI k) = fX9_init_b245 (Xk 70) := by
  intro m
  induction m with
  | zero => intro k h1 h2; omega
  | succ m ih =>
    intro k h1 h2
    show fX9_init_l217 (lo2 fX9_init_l217 m) (Xk k) (nI k) = _
    have s70 : sN 12 = 70 := by decide +kernel
    unfold fX9_init_l217
    rw [if_pos (by decide), s70]
    by_cases q : k = 70
    · subst q; rw [if_pos (by decide)]
    · rw [if_neg (show ¬ nI 70 ≤ nI k from nI_ge (by omega) (by omega)), rd_in (in_nI (by omega) (by omega)), cl_nI (by omega), bs_I, Xk_suc k (by omega), bs_X, nI_1]
      exact ih (k + 1) (by omega) (by omega)
theorem Mk_0 : Mk 0 = mw0 := by
  have e : tp0 0 = fun _ => 0 := funext fun j => if_neg (by omega)
  refine Prod.ext rfl (funext fun i => ?_)
  show (if i = 81 then tp0 0 else mw0.2 i) = _
  rw [e]
  by_cases c : i = 81
  · subst c; rfl
  · rw [if_neg c]
theorem Mk_suc (k : Nat) (hk : k < 70) : mA (Mk k) 81 (nI k) (sF 12 k) = Mk (k + 1) := by
  refine Prod.ext rfl (funext fun i => ?_)
  by_cases c : i = 81
  · subst c
    rw [mA_at, cl_nI (by omega)]
    exact tp_suc k
  · rw [mA_ne _ _ _ c]
    show (if i = 81 then tp0 k else mw0.2 i) = (if i = 81 then tp0 (k + 1) else mw0.2 i)
    rw [if_neg c, if_neg c]
theorem init_M : ∀ m k, k ≤ 70 → 70 < m + k → lo2 fX10_init_l1384 m (Mk k) (nI k) = fX10_init_b1408 (Mk 70) := by
  intro m
  induction m with
  | zero => intro k h1 h2; omega
  | succ m ih =>
    intro k h1 h2
    show fX10_init_l1384 (lo2 fX10_init_l1384 m) (Mk k) (nI k) = _
    have e91 : (Mk k).2 91 = lf lt292 := rfl
    unfold fX10_init_l1384
    by_cases q : k = 70
    · subst q; rw [if_pos (by decide)]
    · rw [if_neg (show ¬ (70 : Int32) ≤ nI k from nI_ge (b := 70) (by omega) (by omega)), e91, rd_in (in_nI (by omega) (by omega)), cl_nI (by omega), bs_I, if_pos (in_nI (by omega) (by omega)), ← tp_tab ⟨k, by omega⟩, bd, Mk_suc k (by omega), nI_1]
      exact ih (k + 1) (by omega) (by omega)
theorem str_loop : ∀ m k (M : MW), k ≤ 12 → 12 < m + k → ∃ M', lo2 fX10_init_l1442 m M (nI k) = some M' ∧ M'.1 = M.1 ∧ (∀ i, i ≠ 69 → M'.2 i = M.2 i) ∧ ∀ j, M'.2 69 j = if k ≤ j ∧ j < 12 then 20 else M.2 69 j := by
  intro m
  induction m with
  | zero => intro k M h1 h2; omega
  | succ m ih =>
    intro k M h1 h2
    show ∃ M', fX10_init_l1442 (lo2 fX10_init_l1442 m) M (nI k) = some M' ∧ _
    unfold fX10_init_l1442
    by_cases q : k = 12
    · subst q
      rw [if_pos (by decide)]
      exact ⟨M, rfl, rfl, fun _ _ => rfl, fun j => (if_neg (by omega)).symm⟩
    · rw [if_neg (show ¬ (12 : Int32) ≤ nI k from nI_ge (b := 12) (by omega) (by omega)), if_pos (in_nI (by omega) (by omega)), bd, nI_1]
      obtain ⟨M', g1, g2, g3, g4⟩ := ih (k + 1) (mA M 69 (nI k) 20) (by omega) (by omega)
      refine ⟨M', g1, g2, fun i hi => (g3 i hi).trans (mA_ne _ _ _ hi), fun j => ?_⟩
      rw [g4 j, mA_at, cl_nI (by omega)]
      unfold upd
      by_cases c : j = k
      · subst c; rw [if_neg (by omega), if_pos rfl, if_pos (by omega)]
      · rw [if_neg c]
        by_cases d : k ≤ j ∧ j < 12
        · rw [if_pos d, if_pos (by omega)]
        · rw [if_neg d, if_neg (by omega)]
theorem dep_loop : ∀ m k (M : MW), k ≤ 100 → 100 < m + k → ∃ M', lo2 fX10_init_l1421 m M (nI k) = fX10_init_b1440 M' ∧ M'.1 = M.1 ∧ (∀ i, i ≠ 66 → M'.2 i = M.2 i) ∧ ∀ j, M'.2 66 j = if k ≤ j ∧ j < 100 then 5 else M.2 66 j := by
  intro m
  induction m with
  | zero => intro k M h1 h2; omega
  | succ m ih =>
    intro k M h1 h2
    show ∃ M', fX10_init_l1421 (lo2 fX10_init_l1421 m) M (nI k) = fX10_init_b1440 M' ∧ _
    unfold fX10_init_l1421
    by_cases q : k = 100
    · subst q
      rw [if_pos (by decide)]
      exact ⟨M, rfl, rfl, fun _ _ => rfl, fun j => (if_neg (by omega)).symm⟩
    · rw [if_neg (show ¬ (100 : Int32) ≤ nI k from nI_ge (b := 100) (by omega) (by omega)), if_pos (in_nI (by omega) (by omega)), bd, nI_1]
      obtain ⟨M', g1, g2, g3, g4⟩ := ih (k + 1) (mA M 66 (nI k) 5) (by omega) (by omega)
      refine ⟨M', g1, g2, fun i hi => (g3 i hi).trans (mA_ne _ _ _ hi), fun j => ?_⟩
      rw [g4 j, mA_at, cl_nI (by omega)]
      unfold upd
      by_cases c : j = k
      · subst c; rw [if_neg (by omega), if_pos rfl, if_pos (by omega)]
      · rw [if_neg c]
        by_cases d : k ≤ j ∧ j < 100
        · rw [if_pos d, if_pos (by omega)]
        · rw [if_neg d, if_neg (by omega)]

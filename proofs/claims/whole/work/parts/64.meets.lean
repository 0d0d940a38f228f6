/-! who meets whom: the list -/
def mJ (L : Nat → Int32) (i j : Nat) : List (Nat × Nat) := (List.range j).filterMap fun k => if i < k ∧ ¬ L i = -1 ∧ L i = L k then some (i, k) else none
def mIs (L : Nat → Int32) (nB i : Nat) : List (Nat × Nat) := (List.range i).flatMap fun k => mJ L k nB
def mts (ly : Nat → Nat → Int32) (h0 nB n : Nat) : List (Nat × Nat × Nat) := (List.range n).flatMap fun k => (mIs (fun i => ly i k) nB nB).map fun q => (h0 + k, q)
theorem mJ_suc (L : Nat → Int32) (i j : Nat) : mJ L i (j + 1) = mJ L i j ++ (if i < j ∧ ¬ L i = -1 ∧ L i = L j then [(i, j)] else []) := by
  unfold mJ
  rw [List.range_succ, List.filterMap_append]
  by_cases c : i < j ∧ ¬ L i = -1 ∧ L i = L j
  · rw [if_pos c, List.filterMap_cons_some (f := fun k => if i < k ∧ ¬ L i = -1 ∧ L i = L k then some (i, k) else none) (b := (i, j)) (if_pos c), List.filterMap_nil]
  · rw [if_neg c, List.filterMap_cons_none (f := fun k => if i < k ∧ ¬ L i = -1 ∧ L i = L k then some (i, k) else none) (if_neg c), List.filterMap_nil]
theorem mJ_nil (L : Nat → Int32) (i : Nat) : ∀ j, j ≤ i + 1 → mJ L i j = [] := by
  intro j
  induction j with
  | zero => intro _; rfl
  | succ j ih => intro h; rw [mJ_suc, ih (by omega), if_neg (by omega)]; rfl
theorem mJ_len (L : Nat → Int32) (i : Nat) : ∀ j, (mJ L i j).length ≤ j - (i + 1) := by
  intro j
  induction j with
  | zero => exact Nat.zero_le _
  | succ j ih =>
    rw [mJ_suc, List.length_append]
    by_cases c : i < j ∧ ¬ L i = -1 ∧ L i = L j
    · rw [if_pos c, List.length_singleton]; omega
    · rw [if_neg c, List.length_nil]; omega
theorem mIs_suc (L : Nat → Int32) (nB i : Nat) : mIs L nB (i + 1) = mIs L nB i ++ mJ L i nB := by
  unfold mIs
  rw [List.range_succ, List.flatMap_append, List.flatMap_cons, List.flatMap_nil, List.append_nil]
def trN (nB : Nat) : Nat → Nat
  | 0 => 0
  | i + 1 => trN nB i + (nB - (i + 1))
theorem mIs_len (L : Nat → Int32) (nB : Nat) : ∀ i, (mIs L nB i).length ≤ trN nB i := by
  intro i
  induction i with
  | zero => exact Nat.zero_le _
  | succ i ih =>
    rw [mIs_suc, List.length_append]
    have := mJ_len L i nB
    show _ ≤ trN nB i + (nB - (i + 1))
    omega
theorem trN_tab : ∀ nB : Fin 7, ∀ i : Fin 6, ∀ j : Fin 6, i.1 < nB.1 → j.1 < nB.1 → i.1 < j.1 → trN nB.1 i.1 + (j.1 - (i.1 + 1)) < 15 := by decide
theorem trN_lt {nB i j : Nat} (h : nB ≤ 6) (hj : j < nB) (hi : i < j) : trN nB i + (j - (i + 1)) < 15 := trN_tab ⟨nB, by omega⟩ ⟨i, by omega⟩ ⟨j, by omega⟩ (by show i < nB; omega) hj hi
theorem trN_all : ∀ nB : Fin 7, trN nB.1 nB.1 ≤ 15 := by decide
theorem mts_suc (ly : Nat → Nat → Int32) (h0 nB n : Nat) : mts ly h0 nB (n + 1) = mts ly h0 nB n ++ (mIs (fun i => ly i n) nB nB).map fun q => (h0 + n, q) := by
  unfold mts
  rw [List.range_succ, List.flatMap_append, List.flatMap_cons, List.flatMap_nil, List.append_nil]
theorem mts_len (ly : Nat → Nat → Int32) (h0 : Nat) {nB : Nat} (hB : nB ≤ 6) : ∀ n, (mts ly h0 nB n).length ≤ 15 * n := by
  intro n
  induction n with
  | zero => exact Nat.zero_le _
  | succ n ih =>
    rw [mts_suc, List.length_append, List.length_map]
    have h1 := mIs_len (fun i => ly i n) nB nB
    have h2 := trN_all ⟨nB, by omega⟩
    have h3 : trN nB nB ≤ 15 := h2
    omega
/-- who is in the list -/
theorem mJ_mem {L : Nat → Int32} {i j : Nat} {q : Nat × Nat} : q ∈ mJ L i j ↔ ∃ k, k < j ∧ i < k ∧ ¬ L i = -1 ∧ L i = L k ∧ q = (i, k) := by
  unfold mJ
  rw [List.mem_filterMap]
  constructor
  · rintro ⟨k, hk, h⟩
    by_cases c : i < k ∧ ¬ L i = -1 ∧ L i = L k
    · rw [if_pos c] at h
      exact ⟨k, List.mem_range.mp hk, c.1, c.2.1, c.2.2, (Option.some.inj h).symm⟩
    · rw [if_neg c] at h; cases h
  · rintro ⟨k, hk, h1, h2, h3, rfl⟩
    exact ⟨k, List.mem_range.mpr hk, if_pos ⟨h1, h2, h3⟩⟩
theorem mts_mem {ly : Nat → Nat → Int32} {h0 nB n : Nat} {a : Nat × Nat × Nat} : a ∈ mts ly h0 nB n ↔ ∃ k i j, k < n ∧ i < j ∧ j < nB ∧ ¬ ly i k = -1 ∧ ly i k = ly j k ∧ a = (h0 + k, i, j) := by
  unfold mts mIs
  rw [List.mem_flatMap]
  constructor
  · rintro ⟨k, hk, h⟩
    obtain ⟨q, hq, rfl⟩ := List.mem_map.mp h
    obtain ⟨i, hi, hq⟩ := List.mem_flatMap.mp hq
    obtain ⟨j, hj, h1, h2, h3, rfl⟩ := mJ_mem.mp hq
    exact ⟨k, i, j, List.mem_range.mp hk, h1, hj, h2, h3, rfl⟩
  · rintro ⟨k, i, j, hk, h1, hj, h2, h3, rfl⟩
    exact ⟨k, List.mem_range.mpr hk, List.mem_map.mpr ⟨(i, j), List.mem_flatMap.mpr ⟨i, List.mem_range.mpr (by omega), mJ_mem.mpr ⟨j, hj, h1, h2, h3, rfl⟩⟩, rfl⟩⟩
/-- the list on the model's rows, and on the class's -/
def repM (M : MW) (A : List (Nat × Nat × Nat)) : Prop := M.1 55 = nI A.length ∧ ∀ t a, A[t]? = some a → M.2 101 t = nI a.1 ∧ M.2 102 t = nI a.2.1 ∧ M.2 103 t = nI a.2.2
def repX (X : XW) (A : List (Nat × Nat × Nat)) : Prop := ∀ t a, A[t]? = some a → X.2.1 15 t = nI (100 * a.1 + 10 * a.2.1 + a.2.2)
theorem app_at {A : List (Nat × Nat × Nat)} {x : Nat × Nat × Nat} {t : Nat} {a : Nat × Nat × Nat} (h : (A ++ [x])[t]? = some a) : (t = A.length ∧ a = x) ∨ (t ≠ A.length ∧ A[t]? = some a) := by
  by_cases c : t < A.length
  · rw [List.getElem?_append_left c] at h
    exact Or.inr ⟨by omega, h⟩
  · rw [List.getElem?_append_right (by omega)] at h
    by_cases e : t = A.length
    · rw [e, Nat.sub_self] at h
      exact Or.inl ⟨e, (Option.some.inj h).symm⟩
    · rw [List.getElem?_eq_none (by simp; omega)] at h; cases h
theorem repM.push {M : MW} {A : List (Nat × Nat × Nat)} (r : repM M A) (hl : A.length < 2 ^ 30) (a b c : Nat) : repM (mI (mA (mA (mA M 101 (M.1 55) (nI a)) 102 (M.1 55) (nI b)) 103 (M.1 55) (nI c)) 55 (M.1 55 + 1)) (A ++ [(a, b, c)]) := by
  obtain ⟨r1, r2⟩ := r
  have hcl : (M.1 55).toNatClampNeg = A.length := by rw [r1]; exact cl_nI (by omega)
  refine ⟨?_, fun t x hx => ?_⟩
  · show va_up M.1 55 (M.1 55 + 1) 55 = _
    rw [va_up_self, r1, nI_1, List.length_append, List.length_singleton]
  · show (mA (mA (mA M 101 (M.1 55) (nI a)) 102 (M.1 55) (nI b)) 103 (M.1 55) (nI c)).2 101 t = _ ∧ (mA (mA (mA M 101 (M.1 55) (nI a)) 102 (M.1 55) (nI b)) 103 (M.1 55) (nI c)).2 102 t = _ ∧ (mA (mA (mA M 101 (M.1 55) (nI a)) 102 (M.1 55) (nI b)) 103 (M.1 55) (nI c)).2 103 t = _
    rw [mA_ne _ _ _ (by decide : 101 ≠ 103), mA_ne _ _ _ (by decide : 101 ≠ 102), mA_at, mA_ne _ _ _ (by decide : 102 ≠ 103), mA_at, mA_ne _ _ _ (by decide : 102 ≠ 101), mA_at, mA_ne _ _ _ (by decide : 103 ≠ 102), mA_ne _ _ _ (by decide : 103 ≠ 101), hcl]
    unfold upd
    rcases app_at hx with ⟨h1, rfl⟩ | ⟨h1, h2⟩
    · rw [if_pos h1, if_pos h1, if_pos h1]; exact ⟨rfl, rfl, rfl⟩
    · rw [if_neg h1, if_neg h1, if_neg h1]; exact r2 t x h2
theorem repX.push {X : XW} {A : List (Nat × Nat × Nat)} (r : repX X A) (hl : A.length < 2 ^ 30) (a b c : Nat) : repX (xA X 15 (nI A.length) (nI (100 * a + 10 * b + c))) (A ++ [(a, b, c)]) := by
  intro t x hx
  rw [xA_at, cl_nI (by omega)]
  unfold upd
  rcases app_at hx with ⟨h1, rfl⟩ | ⟨h1, h2⟩
  · rw [if_pos h1]
  · rw [if_neg h1]; exact r t x h2

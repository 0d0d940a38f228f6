/-! the tape's tokens: the class's advance and the model's next -/
def zX (X X' : XW) : Prop := (∀ i k, ¬ (i = 7 ∧ 3 ≤ k ∧ k ≤ 6) → X'.1 i k = X.1 i k) ∧ X'.2 = X.2
def zL (M M' : MW) : Prop := (∀ k, ¬ (35 ≤ k ∧ k ≤ 38) → M'.1 k = M.1 k) ∧ M'.2 = M.2
theorem zX.rf (X : XW) : zX X X := ⟨fun _ _ _ => rfl, rfl⟩
theorem zL.rf (M : MW) : zL M M := ⟨fun _ _ => rfl, rfl⟩
theorem zX.tr {X Y Z : XW} (a : zX X Y) (b : zX Y Z) : zX X Z := ⟨fun i k h => (b.1 i k h).trans (a.1 i k h), b.2.trans a.2⟩
theorem zL.tr {X Y Z : MW} (a : zL X Y) (b : zL Y Z) : zL X Z := ⟨fun k h => (b.1 k h).trans (a.1 k h), b.2.trans a.2⟩
theorem zX.w {X X' : XW} (a : zX X X') {k : Nat} (hk : 3 ≤ k ∧ k ≤ 6) (v : Int32) : zX X (xI X' 7 k v) := by
  refine ⟨fun i q h => ?_, a.2⟩
  by_cases e : i = 7
  · subst e
    rw [xI_k _ _ _ (by omega)]; exact a.1 7 q h
  · rw [xI_ne _ _ _ e]; exact a.1 i q h
theorem mI_ne (M : MW) {k q : Nat} (v : Int32) (h : q ≠ k) : (mI M k v).1 q = M.1 q := va_up_ne M.1 v h
theorem zL.w {M M' : MW} (a : zL M M') {k : Nat} (hk : 35 ≤ k ∧ k ≤ 38) (v : Int32) : zL M (mI M' k v) := ⟨fun q h => (mI_ne M' v (by omega)).trans (a.1 q h), a.2⟩
def TP (X : XW) (M : MW) (n : Nat) : Prop := X.1 7 1 = nI n ∧ M.1 18 = nI n ∧ n ≤ 160 ∧ X.2.1 8 = M.2 81 ∧ (∀ k, 0 ≤ (M.2 81 k).toInt) ∧ M.2 92 = lf lt714
theorem TP.z {X X' : XW} {M M' : MW} {n : Nat} (h : TP X M n) (a : zX X X') (b : zL M M') : TP X' M' n := by
  unfold TP at h ⊢
  rw [a.1 7 1 (by omega), b.1 18 (by omega), a.2, b.2]
  exact h
theorem by_in {X : XW} {M : MW} {n a : Nat} (h : TP X M n) (ha : a < n) : fX6_byteAt X (nI a) = some (M.2 81 a) := by
  obtain ⟨h1, h2, h3, h4, h5, h6⟩ := h
  unfold fX6_byteAt
  rw [if_neg (nI_pos (by omega)), h1, if_neg (nI_ge ha (by omega)), if_neg (show ¬ (160 : Int32) ≤ nI a from nI_ge (b := 160) (by omega) (by omega)), rd_in (in_nI (by omega) (by omega)), cl_nI (by omega), h4, Option.bind_some]
theorem by_out {X : XW} {M : MW} {n a : Nat} (h : TP X M n) (ha : n ≤ a) (h31 : a < 2 ^ 31) : fX6_byteAt X (nI a) = some (-1) := by
  unfold fX6_byteAt
  rw [if_neg (nI_pos (by omega)), h.1, if_pos (nI_le ha h31)]
theorem md_in {X : XW} {M : MW} {n a : Nat} (h : TP X M n) (ha : a < n) : rd (M.2 81) 160 (nI a) = some (M.2 81 a) := by
  have := h.2.2.1
  rw [rd_in (in_nI (by omega) (by omega)), cl_nI (by omega)]
theorem tp_ne {X : XW} {M : MW} {n : Nat} (h : TP X M n) (a : Nat) : ¬ M.2 81 a = -1 := by
  intro e
  have := h.2.2.2.2.1 a
  rw [e] at this
  exact absurd this (by decide)
theorem skip {n : Nat} : ∀ (m m' k a : Nat) (X : XW) (M : MW), n < m + a → n < m' + a → k ≤ a → a ≤ n → TP X M n → X.1 7 3 = nI a → M.1 35 = nI a → ∃ p X' M', lo2 (fX6_advance_l2) m X (nI k) = fX6_advance_b51 X' ∧ lo1 (fX10_next_l0) m' M = fX10_next_b52 M' ∧ zX X X' ∧ zL M M' ∧ X'.1 7 3 = nI p ∧ M'.1 35 = nI p ∧ a ≤ p ∧ p ≤ n := by
  intro m
  induction m with
  | zero => intro m' k a X M h1 h2 h3 h4; omega
  | succ m ih =>
    intro m' k a X M h1 h2 h3 h4 T x3 m35
    obtain ⟨m2, rfl⟩ : ∃ q, m' = q + 1 := ⟨m' - 1, by omega⟩
    show ∃ p X' M', fX6_advance_l2 (lo2 (fX6_advance_l2) m) X (nI k) = fX6_advance_b51 X' ∧ fX10_next_l0 (lo1 (fX10_next_l0) m2) M = fX10_next_b52 M' ∧ _
    have ih' := ih m2
    generalize hG : lo2 (fX6_advance_l2) m = G at ih' ⊢
    generalize hK : lo1 (fX10_next_l0) m2 = K at ih' ⊢
    have n160 := T.2.2.1
    dsimp only [fX6_advance_l2, fX10_next_l0, fX6_advance_b35, fX10_next_b39, bd]
    rw [x3, m35, T.2.1]
    by_cases ha : a = n
    · refine ⟨a, X, M, ?_, ?_, zX.rf X, zL.rf M, x3, m35, Nat.le_refl _, h4⟩
      · by_cases k160 : 160 ≤ k
        · rw [if_pos (show (160 : Int32) ≤ nI k from nI_le (a := 160) k160 (by omega))]
        · rw [if_neg (show ¬ (160 : Int32) ≤ nI k from nI_ge (b := 160) (by omega) (by omega)), by_out T (by omega) (by omega), Option.bind_some, if_neg (by decide), Option.bind_some, if_neg (by decide)]
      · rw [if_pos (nI_le (by omega) (by omega))]
    have han : a < n := by omega
    have go : ∃ p X' M', G (xI X 7 3 (nI a + 1)) (nI k + 1) = fX6_advance_b51 X' ∧ K (mI M 35 (nI a + 1)) = fX10_next_b52 M' ∧ zX X X' ∧ zL M M' ∧ X'.1 7 3 = nI p ∧ M'.1 35 = nI p ∧ a ≤ p ∧ p ≤ n := by
      have a1 := (zX.rf X).w (k := 3) (by omega) (nI a + 1)
      have b1 := (zL.rf M).w (k := 35) (by omega) (nI a + 1)
      obtain ⟨p, X', M', g1, g2, g3, g4, g5, g6, g7, g8⟩ := ih' (k + 1) (a + 1) _ _ (by omega) (by omega) (by omega) (by omega) (T.z a1 b1) (by rw [xI_at, nI_1]) (by rw [mI_at, nI_1])
      rw [nI_1 k]
      exact ⟨p, X', M', g1, g2, a1.tr g3, b1.tr g4, g5, g6, by omega, g8⟩
    rw [if_neg (show ¬ (160 : Int32) ≤ nI k from nI_ge (b := 160) (by omega) (by omega)), if_neg (nI_ge han (by omega)), by_in T han, md_in T han, Option.bind_some, Option.bind_some, Option.bind_some, Option.bind_some]
    by_cases c1 : M.2 81 a = 32
    · rw [if_pos c1, if_pos c1]; exact go
    rw [if_neg c1, if_neg c1]
    by_cases c2 : M.2 81 a = 10
    · rw [if_pos c2, if_pos c2]; exact go
    rw [if_neg c2, if_neg c2]
    exact ⟨a, X, M, rfl, rfl, zX.rf X, zL.rf M, x3, m35, Nat.le_refl _, h4⟩
/-- a word's end -/
def isL (c : Int32) : Prop := ¬ fX9_within c 97 122 = 0
theorem let_eq (c : Int32) : fX6_isLetter c = fX9_within c 97 122 := rfl
theorem dig_eq (c : Int32) : fX6_isDigit c = fX9_within c 48 57 := rfl
theorem word_run {n : Nat} : ∀ (m m' k a : Nat) (X : XW) (M : MW), n < m + a → n < m' + a → k ≤ a → a ≤ n → TP X M n → X.1 7 3 = nI a → M.1 35 = nI a → ∃ p X' M', lo2 (fX6_readWord_l2) m X (nI k) = fX6_readWord_b39 X' ∧ lo1 (fX10_next_l103) m' M = fX10_next_b146 M' ∧ zX X X' ∧ zL M M' ∧ X'.1 7 3 = nI p ∧ M'.1 35 = nI p ∧ X'.1 7 4 = X.1 7 4 ∧ M'.1 36 = M.1 36 ∧ a ≤ p ∧ p ≤ n ∧ (∀ j, a ≤ j → j < p → isL (M.2 81 j)) ∧ (a < n → isL (M.2 81 a) → a < p) := by
  intro m
  induction m with
  | zero => intro m' k a X M h1 h2 h3 h4; omega
  | succ m ih =>
    intro m' k a X M h1 h2 h3 h4 T x3 m35
    obtain ⟨m2, rfl⟩ : ∃ q, m' = q + 1 := ⟨m' - 1, by omega⟩
    show ∃ p X' M', fX6_readWord_l2 (lo2 (fX6_readWord_l2) m) X (nI k) = fX6_readWord_b39 X' ∧ fX10_next_l103 (lo1 (fX10_next_l103) m2) M = fX10_next_b146 M' ∧ _
    have ih' := ih m2
    generalize hG : lo2 (fX6_readWord_l2) m = G at ih' ⊢
    generalize hK : lo1 (fX10_next_l103) m2 = K at ih' ⊢
    have n160 := T.2.2.1
    dsimp only [fX6_readWord_l2, fX10_next_l103, bd]
    rw [x3, m35, T.2.1, in_eq]
    by_cases ha : a = n
    · refine ⟨a, X, M, ?_, ?_, zX.rf X, zL.rf M, x3, m35, rfl, rfl, Nat.le_refl _, h4, fun j j1 j2 => by omega, fun q => by omega⟩
      · by_cases k160 : 160 ≤ k
        · rw [if_pos (show (160 : Int32) ≤ nI k from nI_le (a := 160) k160 (by omega))]
        · rw [if_neg (show ¬ (160 : Int32) ≤ nI k from nI_ge (b := 160) (by omega) (by omega)), by_out T (by omega) (by omega), Option.bind_some, let_eq, if_pos (by decide)]
      · rw [if_pos (nI_le (by omega) (by omega))]
    have han : a < n := by omega
    rw [if_neg (show ¬ (160 : Int32) ≤ nI k from nI_ge (b := 160) (by omega) (by omega)), if_neg (nI_ge han (by omega)), by_in T han, md_in T han, Option.bind_some, Option.bind_some, let_eq]
    by_cases c1 : fX9_within (M.2 81 a) 97 122 = 0
    · rw [if_pos c1, if_pos c1]
      exact ⟨a, X, M, rfl, rfl, zX.rf X, zL.rf M, x3, m35, rfl, rfl, Nat.le_refl _, h4, fun j j1 j2 => by omega, fun _ q => absurd c1 q⟩
    rw [if_neg c1, if_neg c1]
    have a1 := (zX.rf X).w (k := 3) (by omega) (nI a + 1)
    have b1 := (zL.rf M).w (k := 35) (by omega) (nI a + 1)
    obtain ⟨p, X', M', g1, g2, g3, g4, g5, g6, g7, g8, g9, g10, g11, -⟩ := ih' (k + 1) (a + 1) _ _ (by omega) (by omega) (by omega) (by omega) (T.z a1 b1) (by rw [xI_at, nI_1]) (by rw [mI_at, nI_1])
    rw [nI_1 k]
    refine ⟨p, X', M', g1, g2, a1.tr g3, b1.tr g4, g5, g6, by rw [g7, xI_k _ _ _ (by decide)], by rw [g8, mI_ne _ _ (by decide)], by omega, g10, fun j j1 j2 => ?_, fun _ _ => by omega⟩
    by_cases e : j = a
    · rw [e]; exact c1
    · exact g11 j (by omega) j2
/-- the words -/
def wmt (T : Nat → Int32) (s e i : Nat) : Prop := e - s = sN i ∧ ∀ j, j < sN i → T (s + j) = sF i j
theorem wn_tab : ∀ i : Fin 12, 2 ≤ sN i ∧ sN i ≤ 5 := by decide
theorem wu_tab : ∀ i j : Fin 12, i = j ∨ sN i ≠ sN j ∨ ∃ c : Fin 5, c.1 < sN i ∧ sF i c ≠ sF j c := by decide +kernel
theorem wmt_un {T : Nat → Int32} {s e i j : Nat} (hi : i < 12) (hj : j < 12) (a : wmt T s e i) (b : wmt T s e j) : i = j := by
  rcases wu_tab ⟨i, hi⟩ ⟨j, hj⟩ with q | q | ⟨c, q1, q2⟩
  · exact congrArg Fin.val q
  · exact absurd (a.1.symm.trans b.1) q
  · have q1 : c.1 < sN i := q1
    have e1 := a.2 c q1
    have e2 := b.2 c (by rw [← b.1, a.1]; exact q1)
    exact absurd (e1.symm.trans e2) q2
theorem word_tab : ∀ i : Fin 12, fX6_word (nI i) = i.1 := by decide
theorem stands_ok {X : XW} {M : MW} {n s e i : Nat} (T : TP X M n) (x3 : X.1 7 3 = nI e) (x4 : X.1 7 4 = nI s) (hse : s ≤ e) (hen : e ≤ n) (hi : i < 12) : ∃ v, fX6_stands X i = some v ∧ ((v = 1 ∧ wmt (M.2 81) s e i) ∨ (v = 0 ∧ ¬ wmt (M.2 81) s e i)) := by
  have n160 := T.2.2.1
  obtain ⟨w1, w2⟩ : 2 ≤ sN i ∧ sN i ≤ 5 := wn_tab ⟨i, hi⟩
  unfold fX6_stands
  rw [if_pos (by omega), x3, x4, pk_sub hse]
  by_cases hl : sN i = e - s
  rotate_left
  · rw [if_neg (fun q => hl ((nI_eq (by omega) (by omega)).mp q))]
    exact ⟨0, rfl, Or.inr ⟨rfl, fun q => hl q.1.symm⟩⟩
  rw [if_pos (by rw [hl])]
  have lo : ∀ (m t : Nat), sN i < m + t → t ≤ sN i → (∀ j, j < t → M.2 81 (s + j) = sF i j) → ∃ v, lo1 (fX6_stands_l20 X i) m (nI t) = some v ∧ ((v = 1 ∧ wmt (M.2 81) s e i) ∨ (v = 0 ∧ ¬ wmt (M.2 81) s e i)) := by
    intro m
    induction m with
    | zero => intro t h1 h2; omega
    | succ m ih =>
      intro t h1 h2 hz
      show ∃ v, fX6_stands_l20 X i (lo1 (fX6_stands_l20 X i) m) (nI t) = some v ∧ _
      generalize hG : lo1 (fX6_stands_l20 X i) m = G at ih ⊢
      unfold fX6_stands_l20
      rw [if_pos (by omega), x4, nI_1, nI_add]
      by_cases ht : t = sN i
      · rw [if_pos (nI_le (by omega) (by omega))]
        exact ⟨1, rfl, Or.inl ⟨rfl, hl.symm, fun j hj => hz j (by omega)⟩⟩
      rw [if_neg (nI_ge (by omega) (by omega)), rd_in (in_nI (by omega) (by omega)), cl_nI (by omega), Option.bind_some, by_in T (by omega), Option.bind_some]
      by_cases q : sF i t = M.2 81 (s + t)
      · rw [if_pos q]
        refine ih (t + 1) (by omega) (by omega) (fun j hj => ?_)
        by_cases e1 : j = t
        · rw [e1, q]
        · exact hz j (by omega)
      · rw [if_neg q]
        exact ⟨0, rfl, Or.inr ⟨rfl, fun z => q (z.2 t (by omega)).symm⟩⟩
  exact lo FU 0 (by unfold FU; omega) (by omega) (fun j hj => by omega)
theorem words_X {X : XW} {M : MW} {n s e : Nat} (T : TP X M n) (x3 : X.1 7 3 = nI e) (x4 : X.1 7 4 = nI s) (hse : s ≤ e) (hen : e ≤ n) : ∃ X' c, fX6_readWord_b39 X = some X' ∧ zX X X' ∧ X'.1 7 3 = nI e ∧ X'.1 7 4 = nI s ∧ X'.1 7 5 = c ∧ ((c = 1 ∧ ∀ j, j < 12 → ¬ wmt (M.2 81) s e j) ∨ ∃ j, j < 12 ∧ c = nI (20 + j) ∧ wmt (M.2 81) s e j) := by
  have lo : ∀ (m t : Nat) (X1 : XW), 12 < m + t → t ≤ 12 → zX X X1 → X1.1 7 3 = nI e → X1.1 7 4 = nI s → ((X1.1 7 5 = 1 ∧ ∀ j, j < t → ¬ wmt (M.2 81) s e j) ∨ ∃ j, j < t ∧ X1.1 7 5 = nI (20 + j) ∧ wmt (M.2 81) s e j) → ∃ X' c, lo2 (fX6_readWord_l46) m X1 (nI t) = some X' ∧ zX X X' ∧ X'.1 7 3 = nI e ∧ X'.1 7 4 = nI s ∧ X'.1 7 5 = c ∧ ((c = 1 ∧ ∀ j, j < 12 → ¬ wmt (M.2 81) s e j) ∨ ∃ j, j < 12 ∧ c = nI (20 + j) ∧ wmt (M.2 81) s e j) := by
    intro m
    induction m with
    | zero => intro t X1 h1 h2; omega
    | succ m ih =>
      intro t X1 h1 h2 a y3 y4 hz
      show ∃ X' c, fX6_readWord_l46 (lo2 (fX6_readWord_l46) m) X1 (nI t) = some X' ∧ _
      generalize hG : lo2 (fX6_readWord_l46) m = G at ih ⊢
      dsimp only [fX6_readWord_l46, bd]
      by_cases ht : t = 12
      · subst ht
        rw [if_pos (show (12 : Int32) ≤ nI 12 by decide)]
        exact ⟨X1, _, rfl, a, y3, y4, rfl, hz⟩
      have hw : fX6_word (nI t) = t := word_tab ⟨t, by omega⟩
      obtain ⟨v, s1, s2⟩ := stands_ok (T.z a (zL.rf M)) y3 y4 hse hen (show t < 12 by omega)
      rw [if_neg (show ¬ (12 : Int32) ≤ nI t from nI_ge (b := 12) (by omega) (by omega)), hw, s1, Option.bind_some, nI_1]
      rcases s2 with ⟨rfl, s2⟩ | ⟨rfl, s2⟩
      · rw [if_neg n10, show (20 : Int32) + nI t = nI (20 + t) from nI_add 20 t]
        exact ih (t + 1) _ (by omega) (by omega) (a.w (by omega) _) (by rw [xI_k _ _ _ (by decide)]; exact y3) (by rw [xI_k _ _ _ (by decide)]; exact y4) (Or.inr ⟨t, by omega, xI_at _ _ _ _, s2⟩)
      · rw [if_pos rfl]
        refine ih (t + 1) X1 (by omega) (by omega) a y3 y4 ?_
        rcases hz with ⟨z1, z2⟩ | ⟨j, hj, z1, z2⟩
        · refine Or.inl ⟨z1, fun j hj => ?_⟩
          by_cases e1 : j = t
          · rw [e1]; exact s2
          · exact z2 j (by omega)
        · exact Or.inr ⟨j, by omega, z1, z2⟩
  dsimp only [fX6_readWord_b39, bd]
  exact lo FU 0 _ (by unfold FU; omega) (by omega) ((zX.rf X).w (by omega) _) (by rw [xI_k _ _ _ (by decide)]; exact x3) (by rw [xI_k _ _ _ (by decide)]; exact x4) (Or.inl ⟨xI_at _ _ _ _, fun j hj => by omega⟩)
def pmW (k : Nat) : Nat := if k < 3 then 6 + k else if k < 9 then k - 3 else k
theorem wt_tab : ∀ k : Fin 12, ∀ c : Fin 8, lf lt714 (8 * k + c) = if c.1 < sN (pmW k) then sF (pmW k) c else 32 := by decide +kernel
theorem pm_tab : ∀ k : Fin 12, pmW k < 12 := by decide
theorem wl_tab : ∀ i : Fin 12, ∀ c : Fin 5, c.1 < sN i → ¬ sF i c = 32 := by decide +kernel
theorem isL_32 {c : Int32} (h : isL c) : ¬ c = 32 := fun q => h (by rw [q]; decide)
theorem like_iff {T : Nat → Int32} {s e k : Nat} (hk : k < 12) (hse : s < e) (h8 : e - s ≤ 8) (hL : ∀ j, s ≤ j → j < e → isL (T j)) : (∀ c, c < 8 → lf lt714 (8 * k + c) = if s + c < e then T (s + c) else 32) ↔ wmt T s e (pmW k) := by
  have hp : pmW k < 12 := pm_tab ⟨k, hk⟩
  obtain ⟨w1, w2⟩ : 2 ≤ sN (pmW k) ∧ sN (pmW k) ≤ 5 := wn_tab ⟨pmW k, hp⟩
  have tb : ∀ c, c < 8 → lf lt714 (8 * k + c) = if c < sN (pmW k) then sF (pmW k) c else 32 := fun c hc => wt_tab ⟨k, hk⟩ ⟨c, hc⟩
  have lt : ∀ c, c < sN (pmW k) → ¬ sF (pmW k) c = 32 := fun c hc => wl_tab ⟨pmW k, hp⟩ ⟨c, by omega⟩ hc
  constructor
  · intro h
    have hlen : e - s = sN (pmW k) := by
      by_cases q1 : sN (pmW k) < e - s
      · have := h (sN (pmW k)) (by omega)
        rw [tb _ (by omega), if_neg (by omega), if_pos (by omega)] at this
        exact absurd this.symm (isL_32 (hL _ (by omega) (by omega)))
      · by_cases q2 : e - s < sN (pmW k)
        · have := h (e - s) (by omega)
          rw [tb _ (by omega), if_pos q2, if_neg (by omega)] at this
          exact absurd this (lt _ q2)
        · omega
    refine ⟨hlen, fun j hj => ?_⟩
    have := h j (by omega)
    rw [tb _ (by omega), if_pos hj, if_pos (by omega)] at this
    exact this.symm
  · rintro ⟨h1, h2⟩ c hc
    rw [tb c hc]
    by_cases q : c < sN (pmW k)
    · rw [if_pos q, if_pos (by omega), h2 c q]
    · rw [if_neg q, if_neg (by omega)]
theorem words_M {X : XW} {M : MW} {n s e : Nat} (T : TP X M n) (hse : s < e) (hen : e ≤ n) (hL : ∀ j, s ≤ j → j < e → isL (M.2 81 j)) : ∃ v, fX10_wordFrom M (nI s) (nI e) = some (nI v) ∧ ((v = 12 ∧ ∀ k, k < 12 → ¬ wmt (M.2 81) s e (pmW k)) ∨ (v < 12 ∧ wmt (M.2 81) s e (pmW v))) := by
  have n160 := T.2.2.1
  have inner : ∀ (K : Int32 → Option Int32) (k : Nat), k < 12 → e - s ≤ 8 → ∀ (m c : Nat) (l : Int32), 8 < m + c → c ≤ 8 → ((¬ l = 0 ∧ ∀ j, j < c → lf lt714 (8 * k + j) = if s + j < e then M.2 81 (s + j) else 32) ∨ (l = 0 ∧ ¬ wmt (M.2 81) s e (pmW k))) → ∃ l', lo2 (fX10_wordFrom_l26 M (nI s) (nI e) (nI k) K) m l (nI c) = fX10_wordFrom_b88 M (nI s) (nI e) K (nI k) l' ∧ ((¬ l' = 0 ∧ wmt (M.2 81) s e (pmW k)) ∨ (l' = 0 ∧ ¬ wmt (M.2 81) s e (pmW k))) := by
    intro K k hk h8 m
    induction m with
    | zero => intro c l h1 h2; omega
    | succ m ih =>
      intro c l h1 h2 hz
      show ∃ l', fX10_wordFrom_l26 M (nI s) (nI e) (nI k) K (lo2 (fX10_wordFrom_l26 M (nI s) (nI e) (nI k) K) m) l (nI c) = fX10_wordFrom_b88 M (nI s) (nI e) K (nI k) l' ∧ _
      generalize hG : lo2 (fX10_wordFrom_l26 M (nI s) (nI e) (nI k) K) m = G at ih ⊢
      dsimp only [fX10_wordFrom_l26, fX10_wordFrom_b72]
      by_cases hc : c = 8
      · subst hc
        rw [if_pos (show (8 : Int32) ≤ nI 8 by decide)]
        rcases hz with ⟨z1, z2⟩ | z
        · exact ⟨l, rfl, Or.inl ⟨z1, (like_iff hk hse h8 hL).mp z2⟩⟩
        · exact ⟨l, rfl, Or.inr z⟩
      rw [if_neg (show ¬ (8 : Int32) ≤ nI c from nI_ge (b := 8) (by omega) (by omega))]
      rcases hz with ⟨z1, z2⟩ | ⟨z1, z2⟩
      rotate_left
      · rw [if_pos z1]; exact ⟨l, rfl, Or.inr ⟨z1, z2⟩⟩
      have e8 : (8 : Int32) * nI k + nI c = nI (8 * k + c) := by rw [show (8 : Int32) * nI k = nI (8 * k) from pk_mul 8 k, nI_add]
      rw [if_neg z1, e8, nI_add, nI_1, rd_in (in_nI (by omega) (by omega)), cl_nI (by omega), Option.bind_some, T.2.2.2.2.2]
      have tail : ∀ w, w = (if s + c < e then M.2 81 (s + c) else 32) → ∃ l', (if lf lt714 (8 * k + c) = w then G 1 (nI (c + 1)) else G 0 (nI (c + 1))) = fX10_wordFrom_b88 M (nI s) (nI e) K (nI k) l' ∧ ((¬ l' = 0 ∧ wmt (M.2 81) s e (pmW k)) ∨ (l' = 0 ∧ ¬ wmt (M.2 81) s e (pmW k))) := by
        intro w hw
        by_cases q : lf lt714 (8 * k + c) = w
        · rw [if_pos q]
          refine ih (c + 1) 1 (by omega) (by omega) (Or.inl ⟨n10, fun j hj => ?_⟩)
          by_cases e1 : j = c
          · rw [e1, q, hw]
          · exact z2 j (by omega)
        · rw [if_neg q]
          exact ih (c + 1) 0 (by omega) (by omega) (Or.inr ⟨rfl, fun z => q (by rw [hw]; exact (like_iff hk hse h8 hL).mpr z c (by omega))⟩)
      by_cases q : e ≤ s + c
      · rw [if_pos (nI_le q (by omega))]
        exact tail 32 (by rw [if_neg (by omega)])
      · rw [if_neg (nI_ge (by omega) (by omega)), md_in T (by omega), Option.bind_some]
        exact tail _ (by rw [if_pos (by omega)])
  have lo : ∀ (m k : Nat), 12 < m + k → k ≤ 12 → (∀ j, j < k → ¬ wmt (M.2 81) s e (pmW j)) → ∃ v, lo1 (fX10_wordFrom_l2 M (nI s) (nI e)) m (nI k) = some (nI v) ∧ ((v = 12 ∧ ∀ k, k < 12 → ¬ wmt (M.2 81) s e (pmW k)) ∨ (v < 12 ∧ wmt (M.2 81) s e (pmW v))) := by
    intro m
    induction m with
    | zero => intro k h1 h2; omega
    | succ m ih =>
      intro k h1 h2 hz
      show ∃ v, fX10_wordFrom_l2 M (nI s) (nI e) (lo1 (fX10_wordFrom_l2 M (nI s) (nI e)) m) (nI k) = some (nI v) ∧ _
      generalize hG : lo1 (fX10_wordFrom_l2 M (nI s) (nI e)) m = G at ih ⊢
      dsimp only [fX10_wordFrom_l2, fX10_wordFrom_b21]
      by_cases hk : k = 12
      · subst hk
        rw [if_pos (show (12 : Int32) ≤ nI 12 by decide)]
        exact ⟨12, rfl, Or.inl ⟨rfl, hz⟩⟩
      rw [if_neg (show ¬ (12 : Int32) ≤ nI k from nI_ge (b := 12) (by omega) (by omega)), pk_sub (show s ≤ e by omega)]
      have no : ¬ wmt (M.2 81) s e (pmW k) → ∃ v, G (nI (k + 1)) = some (nI v) ∧ ((v = 12 ∧ ∀ k, k < 12 → ¬ wmt (M.2 81) s e (pmW k)) ∨ (v < 12 ∧ wmt (M.2 81) s e (pmW v))) := by
        intro q
        refine ih (k + 1) (by omega) (by omega) (fun j hj => ?_)
        by_cases e1 : j = k
        · rw [e1]; exact q
        · exact hz j (by omega)
      by_cases h8 : 8 < e - s
      · have hp : pmW k < 12 := pm_tab ⟨k, by omega⟩
        obtain ⟨-, w2⟩ : 2 ≤ sN (pmW k) ∧ sN (pmW k) ≤ 5 := wn_tab ⟨pmW k, hp⟩
        rw [if_pos (show (8 : Int32) < nI (e - s) from nI_lt (a := 8) h8 (by omega))]
        have h0 : lo2 (fX10_wordFrom_l26 M (nI s) (nI e) (nI k) G) FU 0 0 = G (nI k + 1) := by
          show fX10_wordFrom_l26 M (nI s) (nI e) (nI k) G (lo2 (fX10_wordFrom_l26 M (nI s) (nI e) (nI k) G) 3999) 0 0 = _
          generalize lo2 (fX10_wordFrom_l26 M (nI s) (nI e) (nI k) G) 3999 = L
          unfold fX10_wordFrom_l26 fX10_wordFrom_b88
          rw [if_neg (by decide), if_pos rfl, if_pos rfl]
        rw [h0, nI_1]
        exact no (fun q => by have := q.1; omega)
      · rw [if_neg (show ¬ (8 : Int32) < nI (e - s) from nI_nlt (a := 8) (by omega) (by omega))]
        obtain ⟨l', g1, g2⟩ := inner G k (by omega) (by omega) FU 0 1 (by unfold FU; omega) (by omega) (Or.inl ⟨n10, fun j hj => by omega⟩)
        have g1 : lo2 (fX10_wordFrom_l26 M (nI s) (nI e) (nI k) G) FU 1 0 = fX10_wordFrom_b88 M (nI s) (nI e) G (nI k) l' := g1
        rw [g1]
        unfold fX10_wordFrom_b88
        rw [nI_1]
        rcases g2 with ⟨q1, q2⟩ | ⟨q1, q2⟩
        · rw [if_neg q1]; exact ⟨k, rfl, Or.inr ⟨by omega, q2⟩⟩
        · rw [if_pos q1]; exact no q2
  unfold fX10_wordFrom
  exact lo FU 0 (by unfold FU; omega) (by omega) (fun j hj => by omega)

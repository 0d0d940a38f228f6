/-! codes, signs held, what is written: what one step of either reader does -/
theorem snoc_at {A : List Int32} {x : Int32} {t : Nat} {a : Int32} (h : (A ++ [x])[t]? = some a) : (t = A.length ∧ a = x) ∨ (t ≠ A.length ∧ A[t]? = some a) := by
  by_cases c : t < A.length
  · rw [List.getElem?_append_left c] at h
    exact Or.inr ⟨by omega, h⟩
  · rw [List.getElem?_append_right (by omega)] at h
    by_cases e : t = A.length
    · rw [e, Nat.sub_self] at h
      exact Or.inl ⟨e, (Option.some.inj h).symm⟩
    · rw [List.getElem?_eq_none (by simp; omega)] at h; cases h
theorem at_snoc {A : List Int32} {x : Int32} : (A ++ [x])[A.length]? = some x := by
  rw [List.getElem?_append_right (Nat.le_refl _), Nat.sub_self]; rfl
theorem at_pre {A B : List Int32} {t : Nat} {a : Int32} (h : A[t]? = some a) : (A ++ B)[t]? = some a := by
  have ht : t < A.length := by
    by_cases c : t < A.length
    · exact c
    · rw [List.getElem?_eq_none (by omega)] at h; cases h
  rw [List.getElem?_append_left ht]; exact h
theorem at_lt {A : List Int32} {t : Nat} {a : Int32} (h : A[t]? = some a) : t < A.length := by
  by_cases c : t < A.length
  · exact c
  · rw [List.getElem?_eq_none (by omega)] at h; cases h
def pcX (tx : Nat) (X : XW) (C : List Int32) : Prop := X.1 (47 + 3 * tx) 2 = nI C.length ∧ ∀ i c, C[i]? = some c → X.2.1 (48 + 3 * tx) i = c
def stM (M : MW) (S : List Int32) : Prop := M.1 41 = nI S.length ∧ ∀ i c, S[i]? = some c → M.2 93 i = c
def ouM (tx : Nat) (M : MW) (O : List Int32) : Prop := M.1 43 = nI O.length ∧ ∀ i c, O[i]? = some c → M.2 82 (200 * tx + i) = c
def EV (tx n : Nat) (X : XW) (M : MW) : Prop := TP X M n ∧ X.2.2 7 2 = some (47 + 3 * tx) ∧ M.1 21 = nI tx ∧ tx < 6
def PD (tx n : Nat) (X : XW) (M : MW) (e : Nat) (C S : List Int32) (o : Nat) (O : List Int32) : Prop := EV tx n X M ∧ X.1 7 3 = nI e ∧ M.1 35 = nI e ∧ e ≤ n ∧ pcX tx X C ∧ stM M S ∧ M.1 42 = nI o ∧ ouM tx M O
def TK (X : XW) (M : MW) (s e : Nat) : Prop := X.1 7 4 = nI s ∧ M.1 36 = nI s ∧ s ≤ e ∧ (X.1 7 5 = 0 ∨ s < e) ∧ tkR (X.1 7 5) (X.1 7 6) (M.1 37) (M.1 38)
def pX (tx : Nat) (X X' : XW) : Prop := (∀ i k, ¬ (i = 7 ∧ 3 ≤ k ∧ k ≤ 6) → ¬ (i = 47 + 3 * tx ∧ k = 2) → X'.1 i k = X.1 i k) ∧ X'.2.2 = X.2.2 ∧ ∀ i, i ≠ 48 + 3 * tx → X'.2.1 i = X.2.1 i
def pM (tx : Nat) (M M' : MW) : Prop := (∀ k, ¬ (35 ≤ k ∧ k ≤ 38) → ¬ (41 ≤ k ∧ k ≤ 43) → M'.1 k = M.1 k) ∧ (∀ i, i ≠ 82 → i ≠ 93 → M'.2 i = M.2 i) ∧ ∀ q, (q < 200 * tx ∨ 200 * tx + 200 ≤ q) → M'.2 82 q = M.2 82 q
theorem pX.rf (tx : Nat) (X : XW) : pX tx X X := ⟨fun _ _ _ _ => rfl, rfl, fun _ _ => rfl⟩
theorem pM.rf (tx : Nat) (M : MW) : pM tx M M := ⟨fun _ _ _ => rfl, fun _ _ _ => rfl, fun _ _ => rfl⟩
theorem pX.tr {tx : Nat} {X Y Z : XW} (a : pX tx X Y) (b : pX tx Y Z) : pX tx X Z := ⟨fun i k h1 h2 => (b.1 i k h1 h2).trans (a.1 i k h1 h2), b.2.1.trans a.2.1, fun i h => (b.2.2 i h).trans (a.2.2 i h)⟩
theorem pM.tr {tx : Nat} {X Y Z : MW} (a : pM tx X Y) (b : pM tx Y Z) : pM tx X Z := ⟨fun k h1 h2 => (b.1 k h1 h2).trans (a.1 k h1 h2), fun i h1 h2 => (b.2.1 i h1 h2).trans (a.2.1 i h1 h2), fun q h => (b.2.2 q h).trans (a.2.2 q h)⟩
theorem zX.p {X X' : XW} (tx : Nat) (a : zX X X') : pX tx X X' := ⟨fun i k h _ => a.1 i k h, by rw [a.2], fun i _ => by rw [a.2]⟩
theorem zL.p {M M' : MW} (tx : Nat) (a : zL M M') : pM tx M M' := ⟨fun k h _ => a.1 k h, fun i _ _ => by rw [a.2], fun q _ => by rw [a.2]⟩
theorem EV.p {tx n : Nat} {X X' : XW} {M M' : MW} (h : EV tx n X M) (a : pX tx X X') (b : pM tx M M') : EV tx n X' M' := by
  obtain ⟨h1, h2, h3, h4⟩ := h
  refine ⟨?_, by rw [a.2.1]; exact h2, by rw [b.1 21 (by omega) (by omega)]; exact h3, h4⟩
  unfold TP at h1 ⊢
  rw [a.1 7 1 (by omega) (by omega), b.1 18 (by omega) (by omega), a.2.2 8 (by omega), b.2.1 81 (by omega) (by omega), b.2.1 92 (by omega) (by omega)]
  exact h1
/-- the next token -/
theorem adv {tx n : Nat} {X : XW} {M : MW} {e : Nat} {C S : List Int32} {o : Nat} {O : List Int32} (h : PD tx n X M e C S o O) : ∃ X' M' s' e', fX6_advance X = some X' ∧ fX10_next M = some M' ∧ PD tx n X' M' e' C S o O ∧ TK X' M' s' e' ∧ e ≤ s' ∧ s' ≤ n ∧ pX tx X X' ∧ pM tx M M' := by
  obtain ⟨h1, h2, h3, h4, h5, h6, h7, h8⟩ := h
  obtain ⟨X', M', s', e', g1, g2, g3, g4, g5, g6, g7, g8, g9, g10, g11, g12, g13⟩ := lex_ok h1.1 h4 h2 h3
  have h16 := h1.2.2.2
  refine ⟨X', M', s', e', g1, g2, ⟨h1.p (g3.p tx) (g4.p tx), g7, g8, g11, ?_, ?_, ?_, ?_⟩, ⟨g5, g6, g10, g12, g13⟩, g9, by omega, g3.p tx, g4.p tx⟩
  · unfold pcX at h5 ⊢
    rw [g3.1 _ 2 (by omega), g3.2]; exact h5
  · unfold stM at h6 ⊢
    rw [g4.1 41 (by omega), g4.2]; exact h6
  · rw [g4.1 42 (by omega)]; exact h7
  · unfold ouM at h8 ⊢
    rw [g4.1 43 (by omega), g4.2]; exact h8
/-- the class's add -/
theorem cadd {tx n : Nat} {X : XW} {M : MW} {e : Nat} {C S : List Int32} {o : Nat} {O : List Int32} (h : PD tx n X M e C S o O) (hC : C.length < 160) (c : Int32) : ∃ X', fX5_add X (47 + 3 * tx) c = some X' ∧ PD tx n X' M e (C ++ [c]) S o O ∧ pX tx X X' ∧ X'.1 7 = X.1 7 := by
  obtain ⟨h1, h2, h3, h4, ⟨h5, h5'⟩, h6⟩ := h
  have h16 := h1.2.2.2
  refine ⟨xI (xA X (48 + 3 * tx) (nI C.length) c) (47 + 3 * tx) 2 (nI (C.length + 1)), ?_, ?_, ?_, ?_⟩
  · dsimp only [fX5_add, bd]
    rw [if_pos (kd_pr h16), h5, if_neg (show ¬ (160 : Int32) ≤ nI C.length from nI_ge (b := 160) hC (by omega)), if_pos (in_nI hC (by omega)), show 47 + 3 * tx + 1 = 48 + 3 * tx by omega]
    show some (xI (xA X (48 + 3 * tx) (nI C.length) c) (47 + 3 * tx) 2 (X.1 (47 + 3 * tx) 2 + 1)) = _
    rw [h5, nI_1]
  · have p : pX tx X (xI (xA X (48 + 3 * tx) (nI C.length) c) (47 + 3 * tx) 2 (nI (C.length + 1))) := by
      refine ⟨fun i k q1 q2 => ?_, rfl, fun i hi => xA_ne _ _ _ hi⟩
      by_cases q : i = 47 + 3 * tx
      · subst q; rw [xI_k _ _ _ (by omega)]; rfl
      · rw [xI_ne _ _ _ q]; rfl
    refine ⟨h1.p p (pM.rf tx M), by rw [xI_ne _ _ _ (by omega)]; exact h2, h3, h4, ⟨?_, fun i x hx => ?_⟩, h6⟩
    · rw [xI_at, List.length_append, List.length_singleton]
    · show (xA X (48 + 3 * tx) (nI C.length) c).2.1 (48 + 3 * tx) i = x
      rw [xA_at, cl_nI (by omega)]
      unfold upd
      rcases snoc_at hx with ⟨q1, rfl⟩ | ⟨q1, q2⟩
      · rw [if_pos q1]
      · rw [if_neg q1]; exact h5' i x q2
  · refine ⟨fun i k q1 q2 => ?_, rfl, fun i hi => xA_ne _ _ _ hi⟩
    by_cases q : i = 47 + 3 * tx
    · subst q; rw [xI_k _ _ _ (by omega)]; rfl
    · rw [xI_ne _ _ _ q]; rfl
  · rw [xI_ne _ _ _ (by omega)]; rfl
theorem cemit {tx n : Nat} {X : XW} {M : MW} {e : Nat} {C S : List Int32} {o : Nat} {O : List Int32} (h : PD tx n X M e C S o O) (hC : C.length < 160) (c : Int32) : ∃ X', fX6_emit X c = some X' ∧ PD tx n X' M e (C ++ [20000 + c]) S o O ∧ pX tx X X' ∧ X'.1 7 = X.1 7 := by
  obtain ⟨X', g1, g2, g3, g4⟩ := cadd h hC (20000 + c)
  refine ⟨X', ?_, g2, g3, g4⟩
  dsimp only [fX6_emit, bd]
  rw [h.1.2.1, Option.bind_some, if_pos (kd_pr h.1.2.2.2), g1, Option.bind_some]
/-- an emit behind a fault -/
def bad (tx : Nat) (X : XW) : Prop := X.2.2 7 2 = some (47 + 3 * tx) ∧ tx < 6 ∧ ∃ c, c ≤ 160 ∧ X.1 (47 + 3 * tx) 2 = nI c
theorem bemit {tx : Nat} {X : XW} (h : bad tx X) (c : Int32) : ∃ X', fX6_emit X c = some X' ∧ bad tx X' ∧ pX tx X X' ∧ X'.1 7 = X.1 7 := by
  obtain ⟨h1, h2, k, hk, h3⟩ := h
  dsimp only [fX6_emit, fX5_add, bd]
  rw [h1, Option.bind_some, if_pos (kd_pr h2), if_pos (kd_pr h2), h3]
  by_cases q : 160 ≤ k
  · rw [if_pos (show (160 : Int32) ≤ nI k from nI_le (a := 160) q (by omega)), Option.bind_some]
    exact ⟨X, rfl, ⟨h1, h2, k, hk, h3⟩, pX.rf tx X, rfl⟩
  · rw [if_neg (show ¬ (160 : Int32) ≤ nI k from nI_ge (b := 160) (by omega) (by omega)), if_pos (in_nI (show k < 160 by omega) (by omega)), Option.bind_some, show 47 + 3 * tx + 1 = 48 + 3 * tx by omega]
    refine ⟨_, rfl, ⟨h1, h2, k + 1, by omega, ?_⟩, ⟨fun i f q1 q2 => ?_, rfl, fun i hi => xA_ne _ _ _ hi⟩, ?_⟩
    · rw [xI_at]
      show X.1 (47 + 3 * tx) 2 + 1 = _
      rw [h3, nI_1]
    · by_cases q : i = 47 + 3 * tx
      · subst q; rw [xI_k _ _ _ (by omega)]; rfl
      · rw [xI_ne _ _ _ q]; rfl
    · rw [xI_ne _ _ _ (by omega)]; rfl
theorem PD.bad {tx n : Nat} {X : XW} {M : MW} {e : Nat} {C S : List Int32} {o : Nat} {O : List Int32} (h : PD tx n X M e C S o O) (hC : C.length ≤ 160) : bad tx X := ⟨h.1.2.1, h.1.2.2.2, C.length, hC, h.2.2.2.2.1.1⟩
/-- the signs held -/
def VV (c : Int32) : Prop := c = 0 ∨ c = 11 ∨ c = 12 ∨ c = 13 ∨ c = 14 ∨ c = 15 ∨ c = 16 ∨ c = 17 ∨ c = 18 ∨ c = 19
def rN (c : Int32) : Nat := (fX10_rank c).toInt.toNat
theorem rN_eq {c : Int32} (h : VV c) : fX10_rank c = nI (rN c) ∧ rN c ≤ 7 := by
  unfold VV at h
  rcases h with rfl | rfl | rfl | rfl | rfl | rfl | rfl | rfl | rfl | rfl <;> decide
def cN : List Int32 → Nat
  | [] => 0
  | c :: Q => (if c = 13 ∨ c = 19 then 1 else 0) + cN Q
theorem cN_app (A B : List Int32) : cN (A ++ B) = cN A + cN B := by
  induction A with
  | nil => exact (Nat.zero_add _).symm
  | cons c A ih =>
    show (if c = 13 ∨ c = 19 then 1 else 0) + cN (A ++ B) = (if c = 13 ∨ c = 19 then 1 else 0) + cN A + cN B
    rw [ih, Nat.add_assoc]
theorem cN_le (A : List Int32) : cN A ≤ A.length := by
  induction A with
  | nil => exact Nat.le_refl _
  | cons c A ih =>
    show (if c = 13 ∨ c = 19 then 1 else 0) + cN A ≤ A.length + 1
    by_cases q : c = 13 ∨ c = 19
    · rw [if_pos q]; omega
    · rw [if_neg q]; omega
theorem mputs {tx n : Nat} {X : XW} {M : MW} {e : Nat} {C S : List Int32} {o : Nat} {O : List Int32} (h : PD tx n X M e C S o O) (hO : O.length < 200) (c : Int32) : ∃ M', fX10_puts M c = some M' ∧ PD tx n X M' e C S o (O ++ [c]) ∧ M'.1 36 = M.1 36 ∧ pM tx M M' ∧ (∀ k, k ≠ 43 → M'.1 k = M.1 k) := by
  obtain ⟨h1, h2, h3, h4, h5, ⟨h6, h6'⟩, h7, ⟨h8, h8'⟩⟩ := h
  have h16 := h1.2.2.2
  have e2 : (200 : Int32) * nI tx + nI O.length = nI (200 * tx + O.length) := by rw [show (200 : Int32) * nI tx = nI (200 * tx) from pk_mul 200 tx, nI_add]
  have p : pM tx M (mI (mA M 82 (nI (200 * tx + O.length)) c) 43 (nI (O.length + 1))) := by
    refine ⟨fun k q1 q2 => mI_ne _ _ (by omega), fun i q1 q2 => mA_ne _ _ _ q1, fun q hq => ?_⟩
    show (mA M 82 (nI (200 * tx + O.length)) c).2 82 q = _
    rw [mA_at, cl_nI (by omega)]
    exact if_neg (by omega)
  refine ⟨mI (mA M 82 (nI (200 * tx + O.length)) c) 43 (nI (O.length + 1)), ?_, ⟨h1.p (pX.rf tx X) p, h2, by rw [mI_ne _ _ (by decide)]; exact h3, h4, h5, ⟨by rw [mI_ne _ _ (by decide)]; exact h6, fun i x hx => ?_⟩, by rw [mI_ne _ _ (by decide)]; exact h7, ⟨?_, fun i x hx => ?_⟩⟩, mI_ne _ _ (by decide), p, fun k hk => mI_ne _ _ hk⟩
  · dsimp only [fX10_puts, bd]
    rw [h1.2.2.1, h8, e2, if_pos (in_nI (by omega) (by omega))]
    show some (mI (mA M 82 (nI (200 * tx + O.length)) c) 43 (M.1 43 + 1)) = _
    rw [h8, nI_1]
  · show (mA M 82 (nI (200 * tx + O.length)) c).2 93 i = x
    rw [mA_ne _ _ _ (by decide)]; exact h6' i x hx
  · rw [mI_at, List.length_append, List.length_singleton]
  · show (mA M 82 (nI (200 * tx + O.length)) c).2 82 (200 * tx + i) = x
    rw [mA_at, cl_nI (by omega)]
    unfold upd
    rcases snoc_at hx with ⟨q1, rfl⟩ | ⟨q1, q2⟩
    · rw [if_pos (by omega)]
    · rw [if_neg (by omega)]; exact h8' i x q2
theorem mkeep {tx n : Nat} {X : XW} {M : MW} {e : Nat} {C S : List Int32} {o : Nat} {O : List Int32} (h : PD tx n X M e C S o O) (hS : S.length < 200) (c : Int32) : ∃ M', fX10_keeps M c = some M' ∧ PD tx n X M' e C (S ++ [c]) o O ∧ M'.1 36 = M.1 36 ∧ pM tx M M' := by
  obtain ⟨h1, h2, h3, h4, h5, ⟨h6, h6'⟩, h7, ⟨h8, h8'⟩⟩ := h
  have p : pM tx M (mI (mA M 93 (nI S.length) c) 41 (nI (S.length + 1))) := ⟨fun k q1 q2 => mI_ne _ _ (by omega), fun i q1 q2 => mA_ne _ _ _ q2, fun q hq => by
    show (mA M 93 (nI S.length) c).2 82 q = _
    rw [mA_ne _ _ _ (by decide)]⟩
  refine ⟨mI (mA M 93 (nI S.length) c) 41 (nI (S.length + 1)), ?_, ⟨h1.p (pX.rf tx X) p, h2, by rw [mI_ne _ _ (by decide)]; exact h3, h4, h5, ⟨?_, fun i x hx => ?_⟩, by rw [mI_ne _ _ (by decide)]; exact h7, ⟨by rw [mI_ne _ _ (by decide)]; exact h8, fun i x hx => ?_⟩⟩, mI_ne _ _ (by decide), p⟩
  · dsimp only [fX10_keeps, bd]
    rw [h6, if_pos (in_nI hS (by omega))]
    show some (mI (mA M 93 (nI S.length) c) 41 (M.1 41 + 1)) = _
    rw [h6, nI_1]
  · rw [mI_at, List.length_append, List.length_singleton]
  · show (mA M 93 (nI S.length) c).2 93 i = x
    rw [mA_at, cl_nI (by omega)]
    unfold upd
    rcases snoc_at hx with ⟨q1, rfl⟩ | ⟨q1, q2⟩
    · rw [if_pos q1]
    · rw [if_neg q1]; exact h6' i x q2
  · show (mA M 93 (nI S.length) c).2 82 (200 * tx + i) = x
    rw [mA_ne _ _ _ (by decide)]; exact h8' i x hx
theorem PD.m42 {tx n : Nat} {X : XW} {M : MW} {e : Nat} {C S : List Int32} {o : Nat} {O : List Int32} (h : PD tx n X M e C S o O) (o' : Nat) : PD tx n X (mI M 42 (nI o')) e C S o' O ∧ pM tx M (mI M 42 (nI o')) := by
  obtain ⟨h1, h2, h3, h4, h5, ⟨h6, h6'⟩, h7, ⟨h8, h8'⟩⟩ := h
  have p : pM tx M (mI M 42 (nI o')) := ⟨fun k q1 q2 => mI_ne _ _ (by omega), fun _ _ _ => rfl, fun _ _ => rfl⟩
  exact ⟨⟨h1.p (pX.rf tx X) p, h2, by rw [mI_ne _ _ (by decide)]; exact h3, h4, h5, ⟨by rw [mI_ne _ _ (by decide)]; exact h6, h6'⟩, mI_at _ _ _, ⟨by rw [mI_ne _ _ (by decide)]; exact h8, h8'⟩⟩, p⟩
theorem PD.pop {tx n : Nat} {X : XW} {M : MW} {e : Nat} {C S : List Int32} {c : Int32} {o : Nat} {O : List Int32} (h : PD tx n X M e C (S ++ [c]) o O) : PD tx n X (mI M 41 (nI S.length)) e C S o O ∧ pM tx M (mI M 41 (nI S.length)) ∧ M.2 93 S.length = c ∧ M.1 41 = nI (S.length + 1) := by
  obtain ⟨h1, h2, h3, h4, h5, ⟨h6, h6'⟩, h7, ⟨h8, h8'⟩⟩ := h
  have p : pM tx M (mI M 41 (nI S.length)) := ⟨fun k q1 q2 => mI_ne _ _ (by omega), fun _ _ _ => rfl, fun _ _ => rfl⟩
  exact ⟨⟨h1.p (pX.rf tx X) p, h2, by rw [mI_ne _ _ (by decide)]; exact h3, h4, h5, ⟨mI_at _ _ _, fun i x hx => h6' i x (at_pre hx)⟩, by rw [mI_ne _ _ (by decide)]; exact h7, ⟨by rw [mI_ne _ _ (by decide)]; exact h8, h8'⟩⟩, p, h6' _ _ at_snoc, by rw [h6, List.length_append, List.length_singleton]⟩
/-- the model's opensOne -/
theorem mopen {tx n : Nat} {X : XW} {M : MW} {e : Nat} {C S : List Int32} {o : Nat} {O : List Int32} (h : PD tx n X M e C S o O) (hS : S.length < 200) (ho : o < 5) (c : Int32) : ∃ M', fX10_opensOne M c = some (1, M') ∧ PD tx n X M' e C (S ++ [c]) (o + 1) O ∧ M'.1 36 = M.1 36 ∧ pM tx M M' := by
  have h7 := h.2.2.2.2.2.2.1
  obtain ⟨h42, p42⟩ := h.m42 (o + 1)
  obtain ⟨M', g1, g2, g3, g4⟩ := mkeep h42 hS c
  refine ⟨M', ?_, g2, by rw [g3, mI_ne _ _ (by decide)], p42.tr g4⟩
  dsimp only [fX10_opensOne, bd]
  rw [h7, if_neg (show ¬ nI o = 5 from fun q => by have := (nI_eq (a := o) (b := 5) (by omega) (by omega)).mp q; omega), nI_1, g1, Option.bind_some]
/-- the model's unwinds -/
def tO (r : Nat) (S : List Int32) : Prop := ∀ S' c, S = S' ++ [c] → VV c ∧ rN c < r
theorem unw {tx n : Nat} {X : XW} {e r : Nat} {C S : List Int32} (hr : 1 ≤ r ∧ r ≤ 7) (hT : tO r S) : ∀ (Q : List Int32) (m o : Nat) (M : MW) (O : List Int32), Q.length < m → PD tx n X M e C (S ++ Q.reverse) (o + cN Q) O → (∀ x, x ∈ Q → VV x ∧ r ≤ rN x) → S.length + Q.length + O.length < 200 → o + cN Q < 1000 → ∃ M', lo1 (fX10_unwinds_l0 (nI r)) m M = some M' ∧ PD tx n X M' e C S o (O ++ Q) ∧ M'.1 36 = M.1 36 ∧ pM tx M M' := by
  intro Q
  induction Q with
  | nil =>
    intro m o M O hm h hQ hlen ho
    obtain ⟨m, rfl⟩ : ∃ q, m = q + 1 := ⟨m - 1, by simp at hm; omega⟩
    rw [List.reverse_nil, List.append_nil] at h
    have h : PD tx n X M e C S o O := h
    show ∃ M', fX10_unwinds_l0 (nI r) (lo1 (fX10_unwinds_l0 (nI r)) m) M = some M' ∧ _
    generalize lo1 (fX10_unwinds_l0 (nI r)) m = G
    obtain ⟨h6, h6'⟩ := h.2.2.2.2.2.1
    unfold fX10_unwinds_l0
    rw [h6, List.append_nil]
    by_cases hS : S = []
    · subst hS
      rw [if_pos (by decide)]
      exact ⟨M, rfl, h, rfl, pM.rf tx M⟩
    · obtain ⟨S', c, rfl⟩ : ∃ S' c, S = S' ++ [c] := ⟨S.dropLast, S.getLast hS, (List.dropLast_concat_getLast hS).symm⟩
      obtain ⟨v1, v2⟩ := hT S' c rfl
      have hl : (S' ++ [c]).length = S'.length + 1 := by rw [List.length_append, List.length_singleton]
      have hc : M.2 93 S'.length = c := h6' _ _ at_snoc
      rw [hl] at hlen ⊢
      rw [if_neg (nI_nle (by omega) (by omega)), show nI (S'.length + 1) - 1 = nI S'.length from nI_pred _, rd_in (in_nI (by omega) (by omega)), cl_nI (by omega), hc, Option.bind_some, (rN_eq v1).1, if_pos (nI_lt v2 (by omega))]
      exact ⟨M, rfl, h, rfl, pM.rf tx M⟩
  | cons c Q ih =>
    intro m o M O hm h hQ hlen ho
    obtain ⟨m, rfl⟩ : ∃ q, m = q + 1 := ⟨m - 1, by simp at hm; omega⟩
    have hm' : Q.length < m := by simp at hm; omega
    rw [List.length_cons] at hlen
    rw [List.reverse_cons, ← List.append_assoc] at h
    obtain ⟨v1, v2⟩ := hQ c (List.mem_cons_self)
    show ∃ M', fX10_unwinds_l0 (nI r) (lo1 (fX10_unwinds_l0 (nI r)) m) M = some M' ∧ _
    have ih' := ih m
    generalize lo1 (fX10_unwinds_l0 (nI r)) m = G at ih' ⊢
    obtain ⟨p1, p2, p3, p4⟩ := h.pop
    have hl : (S ++ Q.reverse).length = S.length + Q.length := by rw [List.length_append, List.length_reverse]
    rw [hl] at p1 p2 p3 p4
    have hcN : cN (c :: Q) = (if c = 13 ∨ c = 19 then 1 else 0) + cN Q := rfl
    have h42 := h.2.2.2.2.2.2.1
    have tail : ∀ d : Nat, (if c = 13 ∨ c = 19 then 1 else 0) = d → ∃ M', (fX10_unwinds_b67 (nI r) G (mI M 41 (nI (S.length + Q.length))) c (nI (o + cN (c :: Q))) (nI d)) = some M' ∧ PD tx n X M' e C S o (O ++ c :: Q) ∧ M'.1 36 = M.1 36 ∧ pM tx M M' := by
      intro d hd
      dsimp only [fX10_unwinds_b67, bd]
      rw [hd] at hcN
      rw [hcN, pk_sub (show d ≤ o + (d + cN Q) by omega), show o + (d + cN Q) - d = o + cN Q by omega]
      obtain ⟨q1, q2⟩ := p1.m42 (o + cN Q)
      obtain ⟨M1, g1, g2, g3, g4, -⟩ := mputs q1 (by omega) c
      rw [g1, Option.bind_some]
      obtain ⟨M2, k1, k2, k3, k4⟩ := ih' o M1 (O ++ [c]) hm' g2 (fun x hx => hQ x (List.mem_cons_of_mem _ hx)) (by rw [List.length_append, List.length_singleton]; omega) (by omega)
      refine ⟨M2, k1, ?_, ?_, ((p2.tr q2).tr g4).tr k4⟩
      · rw [show O ++ c :: Q = O ++ [c] ++ Q by simp]; exact k2
      · rw [k3, g3, mI_ne _ _ (by decide), mI_ne _ _ (by decide)]
    dsimp only [fX10_unwinds_l0, fX10_unwinds_b62, bd]
    rw [p4, if_neg (nI_nle (by omega) (by omega)), show nI (S.length + Q.length + 1) - 1 = nI (S.length + Q.length) from nI_pred _, rd_in (in_nI (by omega) (by omega)), cl_nI (show S.length + Q.length < 2 ^ 31 by omega), p3, Option.bind_some, (rN_eq v1).1, if_neg (nI_nlt v2 (by have := (rN_eq v1).2; omega))]
    have e41 : (mI M 41 (nI (S.length + Q.length))).1 41 = nI (S.length + Q.length) := mI_at _ _ _
    have e42 : (mI M 41 (nI (S.length + Q.length))).1 42 = nI (o + cN (c :: Q)) := by rw [mI_ne _ _ (by decide)]; exact h42
    have e93 : (mI M 41 (nI (S.length + Q.length))).2 93 (S.length + Q.length) = c := p3
    rw [e41, rd_in (in_nI (by omega) (by omega)), cl_nI (show S.length + Q.length < 2 ^ 31 by omega), e93, Option.bind_some, e42]
    by_cases c13 : c = 13
    · rw [if_pos c13]
      exact tail 1 (if_pos (Or.inl c13))
    · rw [if_neg c13]
      by_cases c19 : c = 19
      · rw [if_pos c19]
        exact tail 1 (if_pos (Or.inr c19))
      · rw [if_neg c19]
        exact tail 0 (if_neg (fun q => q.elim c13 c19))
theorem munw {tx n : Nat} {X : XW} {M : MW} {e r : Nat} {C S Q : List Int32} {o : Nat} {O : List Int32} (h : PD tx n X M e C (S ++ Q.reverse) (o + cN Q) O) (hr : 1 ≤ r ∧ r ≤ 7) (hT : tO r S) (hQ : ∀ x, x ∈ Q → VV x ∧ r ≤ rN x) (hlen : S.length + Q.length + O.length < 200) (ho : o < 400) : ∃ M', fX10_unwinds M (nI r) = some M' ∧ PD tx n X M' e C S o (O ++ Q) ∧ M'.1 36 = M.1 36 ∧ pM tx M M' := by
  have := cN_le Q
  unfold fX10_unwinds
  exact unw hr hT Q FU o M O (by unfold FU; omega) h hQ hlen (by omega)

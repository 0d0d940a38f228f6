/-! a text read -/
def rX (tx : Nat) (X X' : XW) : Prop := (∀ i k, ¬ (i = 7 ∧ 3 ≤ k ∧ k ≤ 6) → ¬ (i = 47 + 3 * tx ∧ k = 2) → X'.1 i k = X.1 i k) ∧ (∀ j k, ¬ (j = 7 ∧ k = 2) → X'.2.2 j k = X.2.2 j k) ∧ ∀ i, i ≠ 48 + 3 * tx → i ≠ 49 + 3 * tx → X'.2.1 i = X.2.1 i
def rM (tx : Nat) (M M' : MW) : Prop := (∀ k, k ≠ 18 → k ≠ 21 → ¬ (35 ≤ k ∧ k ≤ 38) → ¬ (41 ≤ k ∧ k ≤ 43) → M'.1 k = M.1 k) ∧ (∀ i, i ≠ 82 → i ≠ 83 → i ≠ 93 → M'.2 i = M.2 i) ∧ (∀ q, (q < 200 * tx ∨ 200 * tx + 200 ≤ q) → M'.2 82 q = M.2 82 q) ∧ ∀ q, (q < 4 * tx ∨ 4 * tx + 4 ≤ q) → M'.2 83 q = M.2 83 q
theorem rX.tr {tx : Nat} {X Y Z : XW} (a : rX tx X Y) (b : rX tx Y Z) : rX tx X Z := ⟨fun i k h1 h2 => (b.1 i k h1 h2).trans (a.1 i k h1 h2), fun j k h => (b.2.1 j k h).trans (a.2.1 j k h), fun i h1 h2 => (b.2.2 i h1 h2).trans (a.2.2 i h1 h2)⟩
theorem rM.tr {tx : Nat} {X Y Z : MW} (a : rM tx X Y) (b : rM tx Y Z) : rM tx X Z := ⟨fun k h1 h2 h3 h4 => (b.1 k h1 h2 h3 h4).trans (a.1 k h1 h2 h3 h4), fun i h1 h2 h3 => (b.2.1 i h1 h2 h3).trans (a.2.1 i h1 h2 h3), fun q h => (b.2.2.1 q h).trans (a.2.2.1 q h), fun q h => (b.2.2.2 q h).trans (a.2.2.2 q h)⟩
theorem pX.r {tx : Nat} {X X' : XW} (a : pX tx X X') : rX tx X X' := ⟨a.1, fun j k _ => by rw [a.2.1], fun i h _ => a.2.2 i h⟩
theorem pM.r {tx : Nat} {M M' : MW} (a : pM tx M M') : rM tx M M' := ⟨fun k _ _ h3 h4 => a.1 k h3 h4, fun i h1 _ h3 => a.2.1 i h1 h3, a.2.2, fun q _ => by rw [a.2.1 83 (by decide) (by decide)]⟩
theorem rX.rf (tx : Nat) (X : XW) : rX tx X X := (pX.rf tx X).r
theorem rM.rf (tx : Nat) (M : MW) : rM tx M M := (pM.rf tx M).r
theorem tkW {c num t v : Int32} {p : Nat} (h : tkR c num t v) (hp : p < 3) : c = nI (26 + p) ↔ (t = 3 ∧ v = nI p) := by
  unfold tkR at h
  have hp3 : p = 0 ∨ p = 1 ∨ p = 2 := by omega
  rcases h with ⟨rfl, rfl⟩ | ⟨rfl, rfl⟩ | ⟨rfl, rfl, -⟩ | ⟨rfl, rfl⟩ | ⟨rfl, rfl⟩ | ⟨rfl, rfl⟩ | ⟨rfl, rfl⟩ | ⟨rfl, rfl⟩ | ⟨rfl, rfl⟩ | ⟨rfl, rfl⟩ | ⟨rfl, rfl⟩ | ⟨k, hk, rfl, rfl, -⟩ | ⟨k, hk, rfl, rfl, rfl⟩ | ⟨rfl, rfl⟩ | ⟨rfl, rfl⟩ | ⟨rfl, rfl⟩
  case inr.inr.inr.inr.inr.inr.inr.inr.inr.inr.inr.inr.inl =>
    constructor
    · intro q
      have := (nI_eq (by omega) (by omega)).mp q
      exact ⟨rfl, by rw [show k = p by omega]⟩
    · rintro ⟨-, q⟩
      have := (nI_eq (by omega) (by omega)).mp q
      rw [this]
  case inr.inr.inr.inr.inr.inr.inr.inr.inr.inr.inr.inl =>
    constructor
    · intro q
      have := (nI_eq (by omega) (by omega)).mp q
      omega
    · rintro ⟨q, -⟩; exact absurd q (by decide)
  all_goals
    constructor
    · intro q
      exfalso
      revert q
      rcases hp3 with rfl | rfl | rfl <;> decide
    · rintro ⟨q, -⟩; exact absurd q (by decide)
/-- the data without what is held -/
def PW (tx n : Nat) (X : XW) (M : MW) (e : Nat) (C O : List Int32) : Prop := EV tx n X M ∧ X.1 7 3 = nI e ∧ M.1 35 = nI e ∧ e ≤ n ∧ pcX tx X C ∧ ouM tx M O
theorem PD.w {tx n : Nat} {X : XW} {M : MW} {e : Nat} {C S : List Int32} {o : Nat} {O : List Int32} (h : PD tx n X M e C S o O) : PW tx n X M e C O := ⟨h.1, h.2.1, h.2.2.1, h.2.2.2.1, h.2.2.2.2.1, h.2.2.2.2.2.2.2⟩
theorem advW {tx n : Nat} {X : XW} {M : MW} {e : Nat} {C O : List Int32} (h : PW tx n X M e C O) : ∃ X' M' s' e', fX6_advance X = some X' ∧ fX10_next M = some M' ∧ PW tx n X' M' e' C O ∧ TK X' M' s' e' ∧ e ≤ s' ∧ s' ≤ n ∧ zX X X' ∧ zL M M' := by
  obtain ⟨h1, h2, h3, h4, h5, h8⟩ := h
  obtain ⟨X', M', s', e', g1, g2, g3, g4, g5, g6, g7, g8, g9, g10, g11, g12, g13⟩ := lex_ok h1.1 h4 h2 h3
  have h16 := h1.2.2.2
  refine ⟨X', M', s', e', g1, g2, ⟨h1.p (g3.p tx) (g4.p tx), g7, g8, g11, ?_, ?_⟩, ⟨g5, g6, g10, g12, g13⟩, g9, by omega, g3, g4⟩
  · unfold pcX at h5 ⊢
    rw [g3.1 _ 2 (by omega), g3.2]; exact h5
  · unfold ouM at h8 ⊢
    rw [g4.1 43 (by omega), g4.2]; exact h8
/-- the parts that are read -/
def EN (tx p : Nat) (X : XW) (M : MW) (C : List Int32) : Prop := ∃ ee : Nat → Nat, ee 0 = 0 ∧ ee p = C.length ∧ ∀ q, q < p → X.2.1 (49 + 3 * tx) q = nI (ee (q + 1)) ∧ M.2 83 (4 * tx + q) = nI (ee q) ∧ ∃ A D B, C = A ++ D ++ B ∧ EC D ∧ A.length = ee q ∧ (A ++ D).length = ee (q + 1)
def RES (tx : Nat) (X : XW) (M : MW) (a : Option (Int32 × XW)) (b : Option (Int32 × MW)) : Prop := ∃ v X' w M', a = some (v, X') ∧ b = some (w, M') ∧ rX tx X X' ∧ rM tx M M' ∧ M'.1 18 = 0 ∧ ((∃ s, s ≤ 160 ∧ v = nI s ∧ w = -100 - nI s ∧ M'.1 21 = nI tx) ∨ (v = -1 ∧ w = nI (tx + 1) - 1 ∧ M'.1 21 = nI (tx + 1) ∧ STx X' M' tx))
theorem fail_M {tx : Nat} {M : MW} {s : Nat} (h21 : M.1 21 = nI tx) (htx : tx < 6) (h36 : M.1 36 = nI s) : ∃ M', fX10_text_b101 M 0 = some (-100 - nI s, M') ∧ rM tx M M' ∧ M'.1 18 = 0 ∧ M'.1 21 = nI tx := by
  have e3 : (4 : Int32) * nI tx + 3 = nI (4 * tx + 3) := by rw [show (4 : Int32) * nI tx = nI (4 * tx) from pk_mul 4 tx]; exact nI_add _ 3
  dsimp only [fX10_text_b101, fX10_text_b122, bd]
  rw [if_pos rfl, h21, e3, if_pos (in_nI (by omega) (by omega)), if_pos rfl]
  refine ⟨mI (mA M 83 (nI (4 * tx + 3)) (M.1 43)) 18 0, ?_, ⟨fun k k1 k2 k3 k4 => ?_, fun i i1 i2 i3 => mA_ne _ _ _ i2, fun q hq => ?_, fun q hq => ?_⟩, mI_at _ _ _, ?_⟩
  · rw [show (mI (mA M 83 (nI (4 * tx + 3)) (M.1 43)) 18 0).1 36 = M.1 36 from mI_ne _ _ (by decide), h36]
  · rw [mI_ne _ _ k1]; rfl
  · show (mA M 83 (nI (4 * tx + 3)) (M.1 43)).2 82 q = _
    rw [mA_ne _ _ _ (by decide)]
  · show (mA M 83 (nI (4 * tx + 3)) (M.1 43)).2 83 q = _
    rw [mA_at, cl_nI (by omega)]
    exact if_neg (by omega)
  · rw [mI_ne _ _ (by decide)]; exact h21
/-- a list's depth is the row's -/
theorem dp_list {f : Nat → Int32} : ∀ (D : List Int32) (s d0 : Nat) (A : Option Nat), dpS f s d0 0 = A → (∀ i c, D[i]? = some c → f (s + d0 + i) = c) → dpS f s (d0 + D.length) 0 = A.bind (dpL D) := by
  intro D
  induction D with
  | nil => intro s d0 A h _; rw [List.length_nil, Nat.add_zero, h]; cases A <;> rfl
  | cons c D ih =>
    intro s d0 A h hD
    have h1 : dpS f s (d0 + 1) 0 = A.bind (stC c) := by
      show (dpS f s d0 0).bind _ = _
      rw [h, show f (s + d0) = c from hD 0 c rfl]
      rfl
    have := ih s (d0 + 1) _ h1 (fun i x hx => by
      rw [show s + (d0 + 1) + i = s + d0 + (i + 1) by omega]
      exact hD (i + 1) x hx)
    rw [List.length_cons, show d0 + (D.length + 1) = d0 + 1 + D.length by omega, this]
    cases A with
    | none => rfl
    | some a => rfl
theorem stx_of {tx : Nat} {X : XW} {M : MW} {C : List Int32} (hC : C.length ≤ 160) (hp : pcX tx X C) (ho : ouM tx M (C.map cvC)) (hE : EN tx 3 X M C) (h3 : M.2 83 (4 * tx + 3) = nI C.length) : STx X M tx := by
  obtain ⟨ee, e0, e3, hE⟩ := hE
  have hle : ∀ q, q < 3 → ee q ≤ ee (q + 1) := fun q hq => by
    obtain ⟨-, -, A, D, B, -, -, a1, a2⟩ := hE q hq
    rw [List.length_append] at a2
    omega
  have l0 := hle 0 (by omega)
  have l1 := hle 1 (by omega)
  have l2 := hle 2 (by omega)
  refine ⟨ee, e0, l0, l1, l2, by omega, ?_, fun p hp3 => ?_, fun j hj => ?_⟩
  · have := (hE 0 (by omega)).2.1
    exact this
  · obtain ⟨b1, b2, A, D, B, b3, b4, b5, b6⟩ := hE p hp3
    refine ⟨b1, ?_, ?_⟩
    · by_cases q : p = 2
      · subst q; rw [e3]; exact h3
      · exact (hE (p + 1) (by omega)).2.1
    · rw [List.length_append] at b6
      have hd : ee (p + 1) - ee p = D.length := by omega
      rw [hd]
      have := dp_list (f := X.2.1 (48 + 3 * tx)) D (ee p) 0 (some 0) rfl (fun i c hc => by
        rw [Nat.add_zero]
        refine hp.2 _ _ ?_
        rw [b3, List.append_assoc, ← b5, List.getElem?_append_right (by omega), show A.length + i - A.length = i by omega]
        exact at_pre hc)
      rw [Nat.zero_add] at this
      rw [this]
      exact b4 0
  · rw [e3] at hj
    have hc : C[j]? = some C[j] := List.getElem?_eq_getElem hj
    rw [hp.2 j _ hc]
    refine ho.2 j _ ?_
    rw [List.getElem?_map, hc]; rfl

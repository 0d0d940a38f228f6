/-! the claim of one expression -/
def stC (c : Int32) (d : Nat) : Option Nat := if kiC c = 0 then some (d + 1) else if kiC c = 1 ∧ 1 ≤ d then some d else if kiC c = 2 ∧ 2 ≤ d then some (d - 1) else none
def dpL : List Int32 → Nat → Option Nat
  | [], d => some d
  | c :: D, d => (stC c d).bind (dpL D)
theorem dpL_app (A B : List Int32) : ∀ d, dpL (A ++ B) d = (dpL A d).bind (dpL B) := by
  induction A with
  | nil => intro d; rfl
  | cons c A ih =>
    intro d
    show (stC c d).bind (dpL (A ++ B)) = ((stC c d).bind (dpL A)).bind (dpL B)
    cases stC c d with
    | none => rfl
    | some q => exact ih q
def EC (D : List Int32) : Prop := ∀ d, dpL D d = some (d + 1)
theorem EC.un {D : List Int32} {c : Int32} (h : EC D) (hc : kiC c = 1) : EC (D ++ [c]) := by
  intro d
  rw [dpL_app, h d]
  show (stC c (d + 1)).bind (dpL []) = _
  unfold stC
  rw [if_neg (by rw [hc]; decide), if_pos ⟨hc, by omega⟩]
  rfl
theorem EC.bin {D E : List Int32} {c : Int32} (h : EC D) (h2 : EC E) (hc : kiC c = 2) : EC (D ++ E ++ [c]) := by
  intro d
  rw [dpL_app, dpL_app, h d]
  show ((dpL E (d + 1))).bind (dpL [c]) = _
  rw [h2]
  show (stC c (d + 1 + 1)).bind (dpL []) = _
  unfold stC
  rw [if_neg (by rw [hc]; decide), if_neg (by rw [hc]; exact fun q => absurd q.1 (by decide)), if_pos ⟨hc, by omega⟩]
  rfl
theorem EC.one {c : Int32} (hc : kiC c = 0) : EC [c] := by
  intro d
  show (stC c d).bind (dpL []) = _
  unfold stC
  rw [if_pos hc]
  rfl
/-- the model's step behind the token -/
def eB (K14 : MW → Int32 → Int32 → Option (Int32 × MW)) (M5 : MW) (l1 l2 : Int32) : Option (Int32 × MW) :=
  if l1 = 0 then if (M5.1 37) = (59 : Int32) then fX10_eRead_b159 M5
  else if (M5.1 37) = (41 : Int32) then (fX10_unwinds M5 (1 : Int32)).bind fun M17 =>
  if (M17.1 41) = 0 then some ((0 : Int32), M17)
  else bd (mI M17 41 ((M17.1 41) - (1 : Int32))) fun M19 =>
  bd (mI M19 42 ((M19.1 42) - (1 : Int32))) fun M21 =>
  (fX10_unwinds M21 (7 : Int32)).bind fun M23 =>
  K14 M23 l1 l2
  else bd (fX10_signOf M5) fun v9 =>
  if v9 = (-1 : Int32) then some ((0 : Int32), M5)
  else bd2 (fX10_between M5 v9) fun v12 M11 =>
  if v12 = 0 then some ((0 : Int32), M11)
  else if (12 : Int32) < v9 then K14 M11 (1 : Int32) (0 : Int32)
  else K14 M11 (1 : Int32) (1 : Int32)
  else if (M5.1 37) = (1 : Int32) then fX10_eRead_b38 K14 M5 l2
  else if (M5.1 37) = (2 : Int32) then fX10_eRead_b38 K14 M5 l2
  else if (M5.1 37) = (6 : Int32) then if l2 = 0 then fX10_eRead_b99 K14 M5 l1
  else bd2 (fX10_opensOne M5 (13 : Int32)) fun v47 M46 =>
  if v47 = 0 then some ((0 : Int32), M46)
  else K14 M46 l1 l2
  else fX10_eRead_b99 K14 M5 l1
theorem l14_eq (K14 : MW → Int32 → Int32 → Option (Int32 × MW)) (M : MW) (l1 l2 : Int32) : fX10_eRead_l14 K14 M l1 l2 = (fX10_next M).bind fun M5 => eB K14 M5 l1 l2 := rfl
def RUN (m : Nat) (M : MW) (l1 l2 : Int32) : Option (Int32 × MW) := eB (lo3 fX10_eRead_l14 m) M l1 l2
theorem kstep {m : Nat} {M M5 : MW} (h : fX10_next M = some M5) (l1 l2 : Int32) : lo3 fX10_eRead_l14 (m + 1) M l1 l2 = RUN m M5 l1 l2 := by
  have hs : lo3 fX10_eRead_l14 (m + 1) = fX10_eRead_l14 (lo3 fX10_eRead_l14 m) := rfl
  rw [hs, l14_eq, h, Option.bind_some]
  rfl
def th (L : Nat) : Nat := if L < 2 then L + 1 else L + 2
def rk (L : Nat) : Nat := if L < 3 then L + 1 else L + 2
def eOK (L : Nat) (t : Int32) (Q : List Int32) : Prop := (L ≤ 0 → ¬ t = 29) ∧ (L ≤ 1 → ¬ t = 30) ∧ (L ≤ 2 → (t = 9 ∨ t = 10) → ∃ Q1 c Q2, Q = Q1 ++ c :: Q2 ∧ rN c = 4 ∧ ∀ x, x ∈ Q1 → 5 ≤ rN x) ∧ (L ≤ 3 → ¬ t = 6 ∧ ¬ t = 7) ∧ (L ≤ 4 → ¬ t = 8)
def BAD (tx : Nat) (X' : XW) (M : MW) (r : Option (Int32 × MW)) : Prop := bad tx X' ∧ ∃ s' M', X'.1 7 4 = nI s' ∧ r = some (0, M') ∧ M'.1 36 = nI s' ∧ s' ≤ 160 ∧ pM tx M M'
def OKF (tx n L o : Nat) (X' : XW) (M : MW) (C S : List Int32) (r : Option (Int32 × MW)) : Prop := ∃ M' s' e' D Q m' l2' O', PD tx n X' M' e' (C ++ D) (S ++ Q.reverse) (o + cN Q) O' ∧ TK X' M' s' e' ∧ s' ≤ n ∧ r = RUN m' M' 0 l2' ∧ 200 ≤ m' + s' ∧ O' ++ Q = (C ++ D).map cvC ∧ EC D ∧ (∀ x, x ∈ Q → VV x ∧ rk L ≤ rN x) ∧ eOK L (X'.1 7 5) Q ∧ S.length + Q.length + O'.length ≤ s' ∧ pM tx M M'
def OKO (tx n o k : Nat) (X' : XW) (M : MW) (C S : List Int32) (r : Option (Int32 × MW)) : Prop := ∃ M' s' e' D m' l2', PD tx n X' M' e' (C ++ D) S (o - k) ((C ++ D ++ List.replicate k 20011).map cvC) ∧ TK X' M' s' e' ∧ s' ≤ n ∧ r = RUN m' M' 0 l2' ∧ 200 ≤ m' + s' ∧ EC D ∧ S.length + C.length + D.length + k ≤ s' ∧ pM tx M M'
def clF (tx n d : Nat) : Prop := ∀ (L o : Nat) (X : XW) (M : MW) (s e : Nat) (C S O : List Int32) (mn : Int32) (m : Nat), L ≤ 5 → o ≤ 5 → 7 * (5 - o) + (7 - L) ≤ d → PD tx n X M e C S o O → TK X M s e → s ≤ n → O = C.map cvC → S.length + O.length ≤ s → 200 ≤ m + s → tO (th L) S → (L ≤ 2 → ¬ mn = 0) → (2 < L → X.1 7 5 = 31 → mn = 0) → ∃ v X', fX6_readFrom d X (nI L) (nI o) = some (v, X') ∧ pX tx X X' ∧ ((v = 0 ∧ BAD tx X' M (RUN m M 1 mn)) ∨ (v = 1 ∧ OKF tx n L o X' M C S (RUN m M 1 mn)))
def clO (tx n d : Nat) : Prop := ∀ (o k : Nat) (X : XW) (M : MW) (s e : Nat) (C S O : List Int32) (mn : Int32) (m : Nat), o ≤ 5 → k ≤ o → 7 * (5 - o) + 1 ≤ d → PD tx n X M e C (S ++ List.replicate k 19) o O → TK X M s e → s ≤ n → O = C.map cvC → S.length + k + O.length ≤ s → 200 ≤ m + s → tO 7 S → (X.1 7 5 = 31 → mn = 0) → ∃ v X', fX6_readOne d X (nI o) = some (v, X') ∧ pX tx X X' ∧ ((v = 0 ∧ BAD tx X' M (RUN m M 1 mn)) ∨ (v = 1 ∧ OKO tx n o k X' M C S (RUN m M 1 mn)))
theorem PD.n160 {tx n : Nat} {X : XW} {M : MW} {e : Nat} {C S : List Int32} {o : Nat} {O : List Int32} (h : PD tx n X M e C S o O) : n ≤ 160 := h.1.1.2.2.1
/-- what the model does at a token that can't stand where a ONE is wanted -/
theorem eb_w (K : MW → Int32 → Int32 → Option (Int32 × MW)) (M : MW) (l2 : Int32) (h1 : ¬ M.1 37 = 1) (h2 : ¬ M.1 37 = 2) (h45 : ¬ M.1 37 = 45) (h40 : ¬ M.1 37 = 40) (h6 : M.1 37 = 6 → l2 = 0) : eB K M 1 l2 = some (0, M) := by
  unfold eB fX10_eRead_b99
  rw [if_neg n10, if_neg h1, if_neg h2, if_neg h45, if_neg h40]
  by_cases q : M.1 37 = 6
  · rw [if_pos q, if_pos (h6 q)]
  · rw [if_neg q]
/-- signs: the class's token and the model's -/
def sgT (t c : Int32) : Prop := (t = 29 ∧ c = 11) ∨ (t = 30 ∧ c = 12) ∨ (t = 9 ∧ c = 14) ∨ (t = 10 ∧ c = 15) ∨ (t = 6 ∧ c = 16) ∨ (t = 7 ∧ c = 17) ∨ (t = 8 ∧ c = 18)
theorem sg_of {X : XW} {M : MW} (h : tkR (X.1 7 5) (X.1 7 6) (M.1 37) (M.1 38)) : (sgT (X.1 7 5) (fX10_signOf M) ∧ ¬ M.1 37 = 59 ∧ ¬ M.1 37 = 41) ∨ (fX10_signOf M = -1 ∧ ¬ M.1 37 = 59 ∧ ¬ M.1 37 = 41 ∧ ¬ (X.1 7 5 = 29 ∨ X.1 7 5 = 30 ∨ X.1 7 5 = 9 ∨ X.1 7 5 = 10 ∨ X.1 7 5 = 6 ∨ X.1 7 5 = 7 ∨ X.1 7 5 = 8) ∧ ¬ X.1 7 5 = 5 ∧ ¬ X.1 7 5 = 4) ∨ (X.1 7 5 = 5 ∧ M.1 37 = 59) ∨ (X.1 7 5 = 4 ∧ M.1 37 = 41) := by
  unfold tkR at h
  unfold sgT fX10_signOf
  generalize X.1 7 5 = c at h ⊢
  generalize M.1 37 = t at h ⊢
  rcases h with ⟨rfl, rfl⟩ | ⟨rfl, rfl⟩ | ⟨rfl, rfl, -⟩ | ⟨rfl, rfl⟩ | ⟨rfl, rfl⟩ | ⟨rfl, rfl⟩ | ⟨rfl, rfl⟩ | ⟨rfl, rfl⟩ | ⟨rfl, rfl⟩ | ⟨rfl, rfl⟩ | ⟨rfl, rfl⟩ | ⟨k, hk, rfl, rfl, -⟩ | ⟨k, hk, rfl, rfl, -⟩ | ⟨rfl, rfl⟩ | ⟨rfl, rfl⟩ | ⟨rfl, rfl⟩
  · decide
  · decide
  · decide
  · decide
  · decide
  · decide
  · decide
  · decide
  · decide
  · decide
  · decide
  · have : k = 0 ∨ k = 1 ∨ k = 2 ∨ k = 3 ∨ k = 4 ∨ k = 5 := by omega
    rcases this with rfl | rfl | rfl | rfl | rfl | rfl <;> decide
  · have : k = 0 ∨ k = 1 ∨ k = 2 := by omega
    rcases this with rfl | rfl | rfl <;> decide
  · decide
  · decide
  · decide
theorem sgT_v {t c : Int32} (h : sgT t c) : VV c ∧ ¬ c = -1 ∧ ¬ c = 13 ∧ ¬ c = 19 ∧ cvC (20000 + t) = c ∧ kiC (20000 + t) = 2 := by
  unfold sgT at h
  unfold VV
  rcases h with ⟨rfl, rfl⟩ | ⟨rfl, rfl⟩ | ⟨rfl, rfl⟩ | ⟨rfl, rfl⟩ | ⟨rfl, rfl⟩ | ⟨rfl, rfl⟩ | ⟨rfl, rfl⟩ <;> decide
/-- the model's between -/
theorem mbet {tx n : Nat} {X : XW} {M : MW} {e : Nat} {C S Q : List Int32} {o : Nat} {O : List Int32} {t c : Int32} (hs : sgT t c) (h : PD tx n X M e C (S ++ Q.reverse) (o + cN Q) O) (hT : tO (if rN c = 4 then 4 else rN c) S) (hQ : ∀ x, x ∈ Q → VV x ∧ (if rN c = 4 then 5 else rN c) ≤ rN x) (hlen : S.length + Q.length + O.length < 199) (ho : o < 100) : ∃ M', fX10_between M c = some (1, M') ∧ PD tx n X M' e C (S ++ [c]) o (O ++ Q) ∧ M'.1 36 = M.1 36 ∧ pM tx M M' := by
  have hv := (sgT_v hs).1
  have hr : 1 ≤ rN c := by
    unfold sgT at hs
    rcases hs with ⟨-, rfl⟩ | ⟨-, rfl⟩ | ⟨-, rfl⟩ | ⟨-, rfl⟩ | ⟨-, rfl⟩ | ⟨-, rfl⟩ | ⟨-, rfl⟩ <;> decide
  obtain ⟨hre, hr7⟩ := rN_eq hv
  have e4 : fX10_rank c = 4 ↔ rN c = 4 := by
    rw [hre]
    exact nI_eq (b := 4) (by omega) (by omega)
  dsimp only [fX10_between, fX10_between_b17, fX10_between_b55]
  by_cases q : rN c = 4
  · rw [if_pos q] at hT
    simp only [if_pos q] at hQ
    obtain ⟨M1, g1, g2, g3, g4⟩ := munw (r := 5) h (by omega) (fun S' x hx => ⟨(hT S' x hx).1, by have := (hT S' x hx).2; omega⟩) hQ (by omega) (by omega)
    have g1 : fX10_unwinds M 5 = some M1 := g1
    have hS200 : S.length < 200 := by omega
    obtain ⟨M2, k1, k2, k3, k4⟩ := mkeep g2 hS200 c
    rw [if_pos (e4.mpr q), g1, Option.bind_some, if_pos (e4.mpr q)]
    obtain ⟨h6, h6'⟩ := g2.2.2.2.2.2.1
    rw [h6]
    by_cases hS : S = []
    · subst hS
      rw [if_pos (by decide), k1, Option.bind_some]
      exact ⟨M2, rfl, k2, k3.trans g3, g4.tr k4⟩
    · obtain ⟨S', x, rfl⟩ : ∃ S' c, S = S' ++ [c] := ⟨S.dropLast, S.getLast hS, (List.dropLast_concat_getLast hS).symm⟩
      obtain ⟨v1, v2⟩ := hT S' x rfl
      have hl : (S' ++ [x]).length = S'.length + 1 := by rw [List.length_append, List.length_singleton]
      have hx : M1.2 93 S'.length = x := h6' _ _ at_snoc
      rw [hl] at hlen
      rw [hl, if_neg (nI_nle (by omega) (by omega)), show nI (S'.length + 1) - 1 = nI S'.length from nI_pred _, rd_in (in_nI (by omega) (by omega)), cl_nI (by omega), hx, Option.bind_some, (rN_eq v1).1, if_neg (show ¬ nI (rN x) = 4 from fun z => by have := (nI_eq (a := rN x) (b := 4) (by omega) (by omega)).mp z; omega), k1, Option.bind_some]
      exact ⟨M2, rfl, k2, k3.trans g3, g4.tr k4⟩
  · rw [if_neg q] at hT
    simp only [if_neg q] at hQ
    obtain ⟨M1, g1, g2, g3, g4⟩ := munw (r := rN c) h ⟨hr, hr7⟩ hT hQ (by omega) (by omega)
    obtain ⟨M2, k1, k2, k3, k4⟩ := mkeep g2 (by omega) c
    have q' : ¬ fX10_rank c = 4 := fun z => q (e4.mp z)
    rw [if_neg q', hre, g1, Option.bind_some, if_neg (by rw [← hre]; exact q'), k1, Option.bind_some]
    exact ⟨M2, rfl, k2, k3.trans g3, g4.tr k4⟩
/-- where an expression ends, and neither its ) nor its ; stands there -/
theorem eb_end {tx n : Nat} {X : XW} {M : MW} {s e : Nat} {C S Q : List Int32} {o : Nat} {O : List Int32} (m : Nat) (l2 : Int32) (h : PD tx n X M e C (S ++ Q.reverse) (o + cN Q) O) (hk : TK X M s e) (hT : tO 1 S) (hQ : ∀ x, x ∈ Q → VV x ∧ 1 ≤ rN x) (hE : eOK 0 (X.1 7 5) Q) (hlen : S.length + Q.length + O.length < 199) (ho : o < 100) (h4 : X.1 7 5 = 4 → S = []) (h5 : X.1 7 5 = 5 → ¬ S = []) : ∃ M', RUN m M 0 l2 = some (0, M') ∧ M'.1 36 = M.1 36 ∧ pM tx M M' := by
  unfold RUN eB
  rw [if_pos rfl]
  rcases sg_of hk.2.2.2.2 with ⟨q1, q2, q3⟩ | ⟨q1, q2, q3, q4, q5, q6⟩ | ⟨q1, q2⟩ | ⟨q1, q2⟩
  · rw [if_neg q2, if_neg q3, bd, if_neg (sgT_v q1).2.1]
    obtain ⟨e1, e2, e3, e4, e5⟩ := hE
    have hcmp : (X.1 7 5 = 9 ∧ fX10_signOf M = 14) ∨ (X.1 7 5 = 10 ∧ fX10_signOf M = 15) := by
      unfold sgT at q1
      rcases q1 with z | z | z | z | z | z | z
      · exact absurd z.1 (e1 (by omega))
      · exact absurd z.1 (e2 (by omega))
      · exact Or.inl z
      · exact Or.inr z
      · exact absurd z.1 (e4 (by omega)).1
      · exact absurd z.1 (e4 (by omega)).2
      · exact absurd z.1 (e5 (by omega))
    have hr4 : fX10_rank (fX10_signOf M) = 4 := by rcases hcmp with z | z <;> rw [z.2] <;> decide
    obtain ⟨Q1, c, Q2, rfl, hc4, hQ1⟩ := e3 (by omega) (by rcases hcmp with z | z; exact Or.inl z.1; exact Or.inr z.1)
    have hsp : S ++ (Q1 ++ c :: Q2).reverse = (S ++ Q2.reverse ++ [c]) ++ Q1.reverse := by simp
    have hcn : o + cN (Q1 ++ c :: Q2) = (o + cN (c :: Q2)) + cN Q1 := by rw [cN_app]; omega
    rw [hsp, hcn] at h
    rw [List.length_append, List.length_cons] at hlen
    have hcl := cN_le (c :: Q2)
    rw [List.length_cons] at hcl
    have vc := (hQ c (by simp)).1
    obtain ⟨M1, g1, g2, g3, g4⟩ := munw (r := 5) h (by omega) (fun S' x hx => by
      have := List.append_inj_right' hx rfl
      have hx : c = x := by simpa using this
      subst hx
      exact ⟨vc, by omega⟩) (fun x hx => ⟨(hQ x (by simp [hx])).1, hQ1 x hx⟩) (by rw [List.length_append, List.length_append, List.length_reverse, List.length_singleton]; omega) (by omega)
    have g1 : fX10_unwinds M 5 = some M1 := g1
    obtain ⟨h6, h6'⟩ := g2.2.2.2.2.2.1
    have hl : (S ++ Q2.reverse ++ [c]).length = S.length + Q2.length + 1 := by rw [List.length_append, List.length_append, List.length_reverse, List.length_singleton]
    have hx : M1.2 93 (S ++ Q2.reverse).length = c := h6' _ _ at_snoc
    rw [List.length_append, List.length_reverse] at hx
    dsimp only [fX10_between, fX10_between_b17]
    rw [if_pos hr4, g1, Option.bind_some, if_pos hr4, h6, hl, if_neg (nI_nle (by omega) (by omega)), show nI (S.length + Q2.length + 1) - 1 = nI (S.length + Q2.length) from nI_pred _, rd_in (in_nI (by omega) (by omega)), cl_nI (by omega), hx, Option.bind_some, (rN_eq vc).1, hc4, if_pos (show nI 4 = 4 from rfl), bd2_s, if_pos rfl]
    exact ⟨M1, rfl, g3, g4⟩
  · rw [if_neg q2, if_neg q3, bd, if_pos q1]
    exact ⟨M, rfl, rfl, pM.rf tx M⟩
  · rw [if_pos q2]
    unfold fX10_eRead_b159
    obtain ⟨M1, g1, g2, g3, g4⟩ := munw (r := 1) h (by omega) hT hQ (by omega) (by omega)
    have g1 : fX10_unwinds M 1 = some M1 := g1
    have hS : ¬ S = [] := h5 q1
    have hS0 : 0 < S.length := by
      cases S with
      | nil => exact absurd rfl hS
      | cons a S => rw [List.length_cons]; omega
    rw [g1, Option.bind_some, g2.2.2.2.2.2.1.1, if_neg (nI_ne0 hS0 (by omega))]
    exact ⟨M1, rfl, g3, g4⟩
  · rw [if_neg (by rw [q2]; decide), if_pos q2]
    obtain ⟨M1, g1, g2, g3, g4⟩ := munw (r := 1) h (by omega) hT hQ (by omega) (by omega)
    have g1 : fX10_unwinds M 1 = some M1 := g1
    rw [g1, Option.bind_some, g2.2.2.2.2.2.1.1, h4 q1, if_pos (show nI ([] : List Int32).length = 0 from rfl)]
    exact ⟨M1, rfl, g3, g4⟩

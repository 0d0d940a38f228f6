/-! the forms: trial, form, joined -/
theorem isTrial_eq : fX10_isTrial = fX9_isFormIn := rfl
theorem form_in {a b : Int32} (h : ¬ fX9_isFormIn a b = 0) : ∃ f d : Nat, f < 5 ∧ d < 4 ∧ a = nI f ∧ b = nI d := by
  unfold fX9_isFormIn at h
  by_cases c1 : fX9_within a 0 4 = 0
  · rw [if_pos c1] at h; exact absurd rfl h
  rw [if_neg c1] at h
  by_cases c2 : fX9_within b 0 3 = 0
  · rw [if_pos c2] at h; exact absurd rfl h
  have w1 := wi_ne c1
  have w2 := wi_ne c2
  have e0 : (0 : Int32).toInt = 0 := rfl
  have e4 : (4 : Int32).toInt = 4 := rfl
  have e3 : (3 : Int32).toInt = 3 := rfl
  rw [e0] at w1 w2
  obtain ⟨f, ef, -, hf⟩ := nn_ge w1.1
  obtain ⟨d, ed, -, hd⟩ := nn_ge w2.1
  exact ⟨f, d, by omega, by omega, ef, ed⟩
theorem form_ok {f d : Nat} (hf : f < 5) (hd : d < 4) : ¬ fX9_isFormIn (nI f) (nI d) = 0 := by
  unfold fX9_isFormIn
  have e1 : fX9_within (nI f) 0 4 = if 0 ≤ f ∧ f ≤ 4 then 1 else 0 := wi_nI (a := 0) (b := 4) (by omega) (by decide) (by decide)
  have e2 : fX9_within (nI d) 0 3 = if 0 ≤ d ∧ d ≤ 3 then 1 else 0 := wi_nI (a := 0) (b := 3) (by omega) (by decide) (by decide)
  rw [e1, e2, if_pos (show 0 ≤ f ∧ f ≤ 4 by omega), if_pos (show 0 ≤ d ∧ d ≤ 3 by omega), if_neg n10, if_neg n10]
  decide
theorem t4 (f d : Nat) : (4 : Int32) * nI f + nI d = nI (4 * f + d) := by
  rw [show (4 : Int32) * nI f = nI (4 * f) from pk_mul 4 f, nI_add]
theorem Sim.form_w {X : XW} {M : MW} {nb k : Nat} {a b : Int32} (h : Sim X M nb) (hk : k < 20) (hr : 0 ≤ b.toInt ∧ b.toInt ≤ a.toInt ∧ a.toInt ≤ 9999) : Sim (xA (xA X 19 (nI k) a) 18 (nI k) b) (mA (mA M 79 (nI k) a) 80 (nI k) b) nb := by
  obtain ⟨h1, h2, h3, h4, h5, h6, h7, h8, h9⟩ := h
  have eX : ∀ j, j ≠ 18 → j ≠ 19 → (xA (xA X 19 (nI k) a) 18 (nI k) b).2.1 j = X.2.1 j := fun j q1 q2 => (xA_ne _ _ _ q1).trans (xA_ne _ _ _ q2)
  refine ⟨h1, h2, h3.c rfl (fun i _ _ => eX i (by omega) (by omega)) rfl rfl rfl, h4, h5, h6, ⟨?_, ?_, fun j => ?_, h7.2.2.2⟩, h8.c (fun i _ _ => rfl) (fun i _ _ => eX i (by omega) (by omega)) rfl rfl rfl, h9⟩
  · rw [xA_at, mA_at, xA_ne _ _ _ (by decide), mA_ne _ _ _ (by decide), h7.1]
  · rw [xA_ne _ _ _ (by decide), mA_ne _ _ _ (by decide), xA_at, mA_at, h7.2.1]
  · rw [mA_at, mA_ne _ _ _ (by decide : 79 ≠ 80), mA_ne _ _ _ (by decide : 80 ≠ 79), mA_at]
    unfold upd
    by_cases q : j = (nI k).toNatClampNeg
    · rw [if_pos q, if_pos q]; exact hr
    · rw [if_neg q, if_neg q]; exact h7.2.2.1 j
theorem p_trial {X : XW} {M : MW} {nb : Nat} (h : Sim X M nb) (a b c d : Int32) : R2 nb (fX9_trial X a b c d) (fX10_trial M a b c d) := by
  dsimp only [fX9_trial, fX10_trial, bd]
  rw [in_eq, isTrial_eq]
  by_cases c1 : fX9_isFormIn a b = 0
  · rw [if_pos c1, if_pos c1]; exact R2.mk h
  rw [if_neg c1, if_neg c1]
  by_cases c2 : fX9_within d 1 99 = 0
  · rw [if_pos c2, if_pos c2]; exact R2.mk h
  rw [if_neg c2, if_neg c2]
  by_cases c3 : fX9_within c 0 d = 0
  · rw [if_pos c3, if_pos c3]; exact R2.mk h
  rw [if_neg c3, if_neg c3]
  obtain ⟨f, e, hf, he, rfl, rfl⟩ := form_in c1
  have hin : inb (nI (4 * f + e)) 20 := in_nI (by omega) (by omega)
  obtain ⟨s1, s2, s3, -⟩ := h.2.2.2.2.2.2.1
  rw [t4]
  have hcl : (nI (4 * f + e)).toNatClampNeg = 4 * f + e := cl_nI (by omega)
  have e1 : (xA X 19 (nI (4 * f + e)) (M.2 79 (4 * f + e) + d)).2.1 18 = X.2.1 18 := xA_ne _ _ _ (by decide)
  have e2 : (mA M 79 (nI (4 * f + e)) (M.2 79 (4 * f + e) + d)).2 80 = M.2 80 := mA_ne _ _ _ (by decide)
  simp only [if_pos hin, rd_in hin, Option.bind_some, s2, hcl, e1, e2, s1]
  by_cases c4 : ¬ (M.2 79 (4 * f + e) + d ≤ 9999)
  · rw [if_neg c4, if_neg c4]; exact R2.mk h
  have c4 := Decidable.not_not.mp c4
  rw [if_pos c4, if_pos c4]
  have w2 := wi_ne c2
  have w3 := wi_ne c3
  have g := s3 (4 * f + e)
  have e99 : (99 : Int32).toInt = 99 := rfl
  have e01 : (1 : Int32).toInt = 1 := rfl
  have e00 : (0 : Int32).toInt = 0 := rfl
  have e9 : (9999 : Int32).toInt = 9999 := rfl
  have a1 := i_add (a := M.2 79 (4 * f + e)) (b := d) (by omega) (by omega)
  have a2 := i_add (a := M.2 80 (4 * f + e)) (b := c) (by omega) (by omega)
  rw [i_le, a1, e9] at c4
  have hS := h.form_w (k := 4 * f + e) (a := M.2 79 (4 * f + e) + d) (b := M.2 80 (4 * f + e) + c) (by omega) (by rw [a1, a2]; omega)
  refine ⟨_, _, _, rfl, ?_, hS⟩
  rw [hS.2.2.2.2.2.2.1.2.1]
theorem l_nI {a : Nat} (h : a < 2 ^ 31) : (nI a).toInt64.toInt = a := by
  rw [Int32.toInt_toInt64, nI_toInt h]
theorem l_mul {a b : Nat} (ha : a ≤ 20000) (hb : b ≤ 20000) : ((nI a).toInt64 * (nI b).toInt64).toInt = ((a * b : Nat) : Int) := by
  have h1 : a * b ≤ 20000 * 20000 := Nat.mul_le_mul ha hb
  rw [Int64.toInt_mul, l_nI (by omega), l_nI (by omega), ← Int.natCast_mul]
  apply Int.bmod_eq_of_le <;> omega
theorem l_cmp {x y : Int64} : lg_cmp x y ≤ 0 ↔ x.toInt ≤ y.toInt := by
  unfold lg_cmp
  by_cases c1 : x > y
  · rw [if_pos c1]
    have := Int64.lt_iff_toInt_lt.mp c1
    exact ⟨fun q => absurd q (by decide), fun q => by omega⟩
  · rw [if_neg c1]
    have h1 : ¬ y.toInt < x.toInt := fun q => c1 (Int64.lt_iff_toInt_lt.mpr q)
    by_cases c2 : x = y
    · rw [if_pos c2]
      exact ⟨fun _ => by omega, fun _ => by decide⟩
    · rw [if_neg c2]
      exact ⟨fun _ => by omega, fun _ => by decide⟩
theorem g_form {X : XW} {M : MW} (h : SForm X M) (k : Nat) : ∃ p q : Nat, p ≤ q ∧ q ≤ 9999 ∧ M.2 80 k = nI p ∧ M.2 79 k = nI q := by
  have g := h.2.2.1 k
  obtain ⟨p, ep, -, hp⟩ := nn_ge g.1
  obtain ⟨q, eq, -, hq⟩ := nn_ge (i := M.2 79 k) (by omega)
  exact ⟨p, q, by omega, by omega, ep, eq⟩
theorem g_abv {X : XW} {M : MW} (h : SForm X M) {f d : Nat} (hf : f < 5) (hd : d < 4) : fX3_above X 17 (nI f) (nI d) = some (M.2 80 (4 * f + d) + 1) ∧ fX3_below X 17 (nI f) (nI d) = some (M.2 79 (4 * f + d) + 2) := by
  have hin : inb (nI (4 * f + d)) 20 := in_nI (by omega) (by omega)
  have hcl : (nI (4 * f + d)).toNatClampNeg = 4 * f + d := cl_nI (by omega)
  unfold fX3_above fX3_below
  rw [if_neg (form_ok hf hd), if_neg (form_ok hf hd), if_pos (by decide), if_pos (by decide), t4, rd_in hin, rd_in hin, hcl]
  simp only [Option.bind_some]
  rw [show 17 + 1 = 18 from rfl, show 17 + 2 = 19 from rfl, h.1, h.2.1]
  exact ⟨rfl, rfl⟩
theorem g_lk {X : XW} {M : MW} (h : SForm X M) {f d f' d' : Nat} (hf : f < 5) (hd : d < 4) (hf' : f' < 5) (hd' : d' < 4) : R1 (fX3_isLikelier X 17 (nI f) (nI d) (nI f') (nI d')) (fX10_isLikelier M (nI (4 * f + d)) (nI (4 * f' + d'))) := by
  have i1 : inb (nI (4 * f + d)) 20 := in_nI (by omega) (by omega)
  have i2 : inb (nI (4 * f' + d')) 20 := in_nI (by omega) (by omega)
  unfold fX3_isLikelier fX10_isLikelier
  rw [if_pos (by decide), (g_abv h hf hd).1, (g_abv h hf hd).2, (g_abv h hf' hd').1, (g_abv h hf' hd').2, rd_in i1, rd_in i1, rd_in i2, rd_in i2, cl_nI (show 4 * f + d < 2 ^ 31 by omega), cl_nI (show 4 * f' + d' < 2 ^ 31 by omega)]
  simp only [Option.bind_some]
  obtain ⟨p, q, hpq, hq, ep, eq⟩ := g_form h (4 * f + d)
  obtain ⟨p', q', hpq', hq', ep', eq'⟩ := g_form h (4 * f' + d')
  have m1 : (p + 1) * (q' + 2) ≤ 20000 * 20000 := Nat.mul_le_mul (by omega) (by omega)
  have m2 : (p' + 1) * (q + 2) ≤ 20000 * 20000 := Nat.mul_le_mul (by omega) (by omega)
  rw [ep, eq, ep', eq', nI_1, nI_1, show nI q + 2 = nI (q + 2) from nI_add q 2, show nI q' + 2 = nI (q' + 2) from nI_add q' 2, pk_mul, pk_mul]
  simp only [l_cmp, l_mul (show p + 1 ≤ 20000 by omega) (show q' + 2 ≤ 20000 by omega), l_mul (show p' + 1 ≤ 20000 by omega) (show q + 2 ≤ 20000 by omega), nI_leI (show (p + 1) * (q' + 2) < 2 ^ 31 by omega) (show (p' + 1) * (q + 2) < 2 ^ 31 by omega), Int.ofNat_le]
  by_cases c : (p + 1) * (q' + 2) ≤ (p' + 1) * (q + 2)
  · rw [if_pos c]; exact ⟨_, rfl, rfl⟩
  · rw [if_neg c]; exact ⟨_, rfl, rfl⟩
theorem g_form_lo {X : XW} {M : MW} (h : SForm X M) {d : Nat} (hd : d < 4) : ∀ (n k b : Nat), 5 < n + k → k ≤ 5 → b < 5 → R1 (lo2 (fX9_form_l16 X (nI d)) n (nI b) (nI k)) (lo2 (fX10_form_l16 M (nI d)) n (nI b) (nI k)) := by
  intro n
  induction n with
  | zero => intro k b h1 h2; omega
  | succ n ih =>
    intro k b h1 h2 hb
    show R1 (fX9_form_l16 X (nI d) (lo2 (fX9_form_l16 X (nI d)) n) (nI b) (nI k)) (fX10_form_l16 M (nI d) (lo2 (fX10_form_l16 M (nI d)) n) (nI b) (nI k))
    generalize hL : lo2 (fX9_form_l16 X (nI d)) n = L at ih ⊢
    generalize hG : lo2 (fX10_form_l16 M (nI d)) n = G at ih ⊢
    unfold fX9_form_l16 fX10_form_l16
    rw [t4, t4, nI_1]
    by_cases hk : 5 ≤ k
    · rw [if_pos (show (5 : Int32) ≤ nI k from nI_le (a := 5) hk (by omega)), if_pos (show (4 : Int32) < nI k from nI_lt (a := 4) (by omega) (by omega))]; exact ⟨_, rfl, rfl⟩
    rw [if_neg (show ¬ (5 : Int32) ≤ nI k from nI_ge (b := 5) (by omega) (by omega)), if_neg (show ¬ (4 : Int32) < nI k from nI_nlt (a := 4) (by omega) (by omega))]
    obtain ⟨v, e1, e2⟩ := g_lk h (show k < 5 by omega) hd hb hd
    rw [e1, e2, Option.bind_some, Option.bind_some]
    by_cases hv : v = 0
    · rw [if_pos hv, if_pos hv]; exact ih (k + 1) b (by omega) (by omega) hb
    · rw [if_neg hv, if_neg hv]; exact ih (k + 1) k (by omega) (by omega) (by omega)
theorem p_form {X : XW} {M : MW} {nb : Nat} (h : Sim X M nb) (a : Int32) : R1 (fX9_form X a) (fX10_form M a) := by
  unfold fX9_form fX10_form
  rw [in_eq]
  by_cases c1 : fX9_within a 0 3 = 0
  · rw [if_pos c1, if_pos c1]; exact ⟨_, rfl, rfl⟩
  rw [if_neg c1, if_neg c1]
  have w := wi_ne c1
  have e0 : (0 : Int32).toInt = 0 := rfl
  have e3 : (3 : Int32).toInt = 3 := rfl
  rw [e0] at w
  obtain ⟨d, rfl, -, hd⟩ := nn_ge w.1
  exact g_form_lo h.2.2.2.2.2.2.1 (show d < 4 by omega) FU 1 0 (by unfold FU; omega) (by omega) (by omega)
theorem g_worst {X : XW} {M : MW} (h : SForm X M) {f : Nat} (hf : f < 5) : ∀ (n k b : Nat), 4 < n + k → k ≤ 4 → b < 4 → ∃ z, z < 4 ∧ lo2 (fX3_worstBed_l4 X 17 (nI f)) n (nI b) (nI k) = some (nI z) ∧ lo2 (fX10_leastLikely_l6 M (nI f)) n (nI (4 * f + b)) (nI k) = some (nI (4 * f + z)) := by
  intro n
  induction n with
  | zero => intro k b h1 h2; omega
  | succ n ih =>
    intro k b h1 h2 hb
    show ∃ z, z < 4 ∧ fX3_worstBed_l4 X 17 (nI f) (lo2 (fX3_worstBed_l4 X 17 (nI f)) n) (nI b) (nI k) = some (nI z) ∧ fX10_leastLikely_l6 M (nI f) (lo2 (fX10_leastLikely_l6 M (nI f)) n) (nI (4 * f + b)) (nI k) = some (nI (4 * f + z))
    generalize hL : lo2 (fX3_worstBed_l4 X 17 (nI f)) n = L at ih ⊢
    generalize hG : lo2 (fX10_leastLikely_l6 M (nI f)) n = G at ih ⊢
    dsimp only [fX3_worstBed_l4, fX10_leastLikely_l6, bd]
    rw [t4, nI_1]
    by_cases hk : 4 ≤ k
    · rw [if_pos (show (4 : Int32) ≤ nI k from nI_le (a := 4) hk (by omega)), if_pos (show (3 : Int32) < nI k from nI_lt (a := 3) (by omega) (by omega))]; exact ⟨b, hb, rfl, rfl⟩
    rw [if_neg (show ¬ (4 : Int32) ≤ nI k from nI_ge (b := 4) (by omega) (by omega)), if_neg (show ¬ (3 : Int32) < nI k from nI_nlt (a := 3) (by omega) (by omega)), if_pos (by decide)]
    obtain ⟨v, e1, e2⟩ := g_lk h hf hb hf (show k < 4 by omega)
    rw [e1, e2, Option.bind_some, Option.bind_some]
    by_cases hv : v = 0
    · rw [if_pos hv, if_pos hv]; exact ih (k + 1) b (by omega) (by omega) hb
    · rw [if_neg hv, if_neg hv]; exact ih (k + 1) k (by omega) (by omega) (by omega)
theorem g_wb {X : XW} {M : MW} (h : SForm X M) {f : Nat} (hf : f < 5) : ∃ z, z < 4 ∧ fX3_worstBed X 17 (nI f) = some (nI z) ∧ fX10_leastLikely M (nI f) = some (nI (4 * f + z)) := by
  dsimp only [fX3_worstBed, fX10_leastLikely, bd]
  rw [show (4 : Int32) * nI f = nI (4 * f + 0) from pk_mul 4 f]
  exact g_worst h hf FU 1 0 (by unfold FU; omega) (by omega) (by omega)
theorem g_join {X : XW} {M : MW} (h : SForm X M) : ∀ (n k b : Nat), 5 < n + k → k ≤ 5 → b < 5 → R1 (lo2 (fX9_joined_l4 X) n (nI b) (nI k)) (lo2 (fX10_joined_l4 M) n (nI b) (nI k)) := by
  intro n
  induction n with
  | zero => intro k b h1 h2; omega
  | succ n ih =>
    intro k b h1 h2 hb
    show R1 (fX9_joined_l4 X (lo2 (fX9_joined_l4 X) n) (nI b) (nI k)) (fX10_joined_l4 M (lo2 (fX10_joined_l4 M) n) (nI b) (nI k))
    generalize hL : lo2 (fX9_joined_l4 X) n = L at ih ⊢
    generalize hG : lo2 (fX10_joined_l4 M) n = G at ih ⊢
    unfold fX9_joined_l4 fX10_joined_l4
    rw [nI_1]
    by_cases hk : 5 ≤ k
    · rw [if_pos (show (5 : Int32) ≤ nI k from nI_le (a := 5) hk (by omega)), if_pos (show (4 : Int32) < nI k from nI_lt (a := 4) (by omega) (by omega))]; exact ⟨_, rfl, rfl⟩
    rw [if_neg (show ¬ (5 : Int32) ≤ nI k from nI_ge (b := 5) (by omega) (by omega)), if_neg (show ¬ (4 : Int32) < nI k from nI_nlt (a := 4) (by omega) (by omega))]
    obtain ⟨y, hy, f1, f2⟩ := g_wb h (show k < 5 by omega)
    obtain ⟨z, hz, f3, f4⟩ := g_wb h hb
    rw [f1, f2, Option.bind_some, Option.bind_some, f3, f4, Option.bind_some, Option.bind_some]
    obtain ⟨v, e1, e2⟩ := g_lk h (show k < 5 by omega) hy hb hz
    rw [e1, e2, Option.bind_some, Option.bind_some]
    by_cases hv : v = 0
    · rw [if_pos hv, if_pos hv]; exact ih (k + 1) b (by omega) (by omega) hb
    · rw [if_neg hv, if_neg hv]; exact ih (k + 1) k (by omega) (by omega) (by omega)
theorem p_joined {X : XW} {M : MW} {nb : Nat} (h : Sim X M nb) : R1 (fX9_joined X) (fX10_joined M) := g_join h.2.2.2.2.2.2.1 FU 1 0 (by unfold FU; omega) (by omega) (by omega)

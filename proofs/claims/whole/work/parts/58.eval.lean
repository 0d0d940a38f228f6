/-! a text worked off on a stack: the class's and the model's -/
def eX (X X' : XW) : Prop := X'.1 = X.1 ∧ X'.2.2 = X.2.2 ∧ ∀ i, i ≠ 11 → i ≠ 12 → X'.2.1 i = X.2.1 i
def eM (M M' : MW) : Prop := M'.1 = M.1 ∧ ∀ i, i ≠ 94 → i ≠ 95 → M'.2 i = M.2 i
theorem eX.rf (X : XW) : eX X X := ⟨rfl, rfl, fun _ _ _ => rfl⟩
theorem eM.rf (M : MW) : eM M M := ⟨rfl, fun _ _ _ => rfl⟩
theorem eX.tr {X Y Z : XW} (a : eX X Y) (b : eX Y Z) : eX X Z := ⟨b.1.trans a.1, b.2.1.trans a.2.1, fun i h1 h2 => (b.2.2 i h1 h2).trans (a.2.2 i h1 h2)⟩
theorem eM.tr {X Y Z : MW} (a : eM X Y) (b : eM Y Z) : eM X Z := ⟨b.1.trans a.1, fun i h1 h2 => (b.2 i h1 h2).trans (a.2 i h1 h2)⟩
theorem eX.up {X Y : XW} (a : eX X Y) {i : Nat} (hi : i = 11 ∨ i = 12) (k v : Int32) : eX X (xA Y i k v) := ⟨a.1, a.2.1, fun j h1 h2 => (xA_ne _ _ _ (by omega)).trans (a.2.2 j h1 h2)⟩
theorem eM.up {X Y : MW} (a : eM X Y) {i : Nat} (hi : i = 94 ∨ i = 95) (k v : Int32) : eM X (mA Y i k v) := ⟨a.1, fun j h1 h2 => (mA_ne _ _ _ (by omega)).trans (a.2 j h1 h2)⟩
theorem dp_suc {f : Nat → Int32} {s n d : Nat} (h : dpS f s (n + 1) 0 = some d) : ∃ q, dpS f s n 0 = some q ∧ (kiC (f (s + n)) = 0 ∧ d = q + 1 ∨ kiC (f (s + n)) = 1 ∧ 1 ≤ q ∧ d = q ∨ kiC (f (s + n)) = 2 ∧ 2 ≤ q ∧ d = q - 1) := by
  change (dpS f s n 0).bind _ = some d at h
  cases hq : dpS f s n 0 with
  | none => rw [hq] at h; cases h
  | some q =>
    rw [hq, Option.bind_some] at h
    refine ⟨q, rfl, ?_⟩
    by_cases c0 : kiC (f (s + n)) = 0
    · rw [if_pos c0] at h; exact Or.inl ⟨c0, (Option.some.inj h).symm⟩
    rw [if_neg c0] at h
    by_cases c1 : kiC (f (s + n)) = 1 ∧ 1 ≤ q
    · rw [if_pos c1] at h; exact Or.inr (Or.inl ⟨c1.1, c1.2, (Option.some.inj h).symm⟩)
    rw [if_neg c1] at h
    by_cases c2 : kiC (f (s + n)) = 2 ∧ 2 ≤ q
    · rw [if_pos c2] at h; exact Or.inr (Or.inr ⟨c2.1, c2.2, (Option.some.inj h).symm⟩)
    rw [if_neg c2] at h; cases h
theorem dp_le {f : Nat → Int32} {s : Nat} : ∀ (n d : Nat), dpS f s n 0 = some d → d ≤ n := by
  intro n
  induction n with
  | zero => intro d h; have := Option.some.inj h; omega
  | succ n ih =>
    intro d h
    obtain ⟨q, h1, h2⟩ := dp_suc h
    have := ih q h1
    omega
theorem dp_pre {f : Nat → Int32} {s n : Nat} : ∀ (m d : Nat), dpS f s (n + m) 0 = some d → ∃ q, dpS f s n 0 = some q := by
  intro m
  induction m with
  | zero => intro d h; exact ⟨d, h⟩
  | succ m ih =>
    intro d h
    obtain ⟨q, h1, -⟩ := dp_suc (n := n + m) h
    exact ih q h1
theorem ki0 {c : Int32} (h : kiC c = 0) : (0 ≤ c.toInt ∧ c.toInt ≤ 9999) ∨ (10000 ≤ c.toInt ∧ c.toInt ≤ 10005) := by
  unfold kiC at h
  by_cases c0 : (0 ≤ c ∧ c ≤ 9999) ∨ (10000 ≤ c ∧ c ≤ 10005)
  · simp only [i_le] at c0
    exact c0
  · rw [if_neg c0] at h
    by_cases c1 : c = 20011 ∨ c = 20031
    · rw [if_pos c1] at h; cases h
    · rw [if_neg c1] at h
      split at h <;> cases h
theorem ki1 {c : Int32} (h : kiC c = 1) : c = 20011 ∨ c = 20031 := by
  unfold kiC at h
  by_cases c0 : (0 ≤ c ∧ c ≤ 9999) ∨ (10000 ≤ c ∧ c ≤ 10005)
  · rw [if_pos c0] at h; cases h
  · rw [if_neg c0] at h
    by_cases c1 : c = 20011 ∨ c = 20031
    · exact c1
    · rw [if_neg c1] at h
      split at h <;> cases h
theorem ki2 {c : Int32} (h : kiC c = 2) : c = 20006 ∨ c = 20007 ∨ c = 20008 ∨ c = 20009 ∨ c = 20010 ∨ c = 20029 ∨ c = 20030 := by
  unfold kiC at h
  by_cases c0 : (0 ≤ c ∧ c ≤ 9999) ∨ (10000 ≤ c ∧ c ≤ 10005)
  · rw [if_pos c0] at h; cases h
  · rw [if_neg c0] at h
    by_cases c1 : c = 20011 ∨ c = 20031
    · rw [if_pos c1] at h; cases h
    · rw [if_neg c1] at h
      by_cases c2 : (20006 ≤ c ∧ c ≤ 20010) ∨ c = 20029 ∨ c = 20030
      · simp only [i_le, i_eq] at c2 ⊢
        have e1 : (20006 : Int32).toInt = 20006 := rfl
        have e2 : (20010 : Int32).toInt = 20010 := rfl
        have e3 : (20029 : Int32).toInt = 20029 := rfl
        have e4 : (20030 : Int32).toInt = 20030 := rfl
        have e5 : (20007 : Int32).toInt = 20007 := rfl
        have e6 : (20008 : Int32).toInt = 20008 := rfl
        have e7 : (20009 : Int32).toInt = 20009 := rfl
        omega
      · rw [if_neg c2] at h; cases h
theorem kd_pr {r : Nat} (h : r < 6) : kd (47 + 3 * r) = 5 := by
  have : r = 0 ∨ r = 1 ∨ r = 2 ∨ r = 3 ∨ r = 4 ∨ r = 5 := by omega
  rcases this with rfl | rfl | rfl | rfl | rfl | rfl <;> decide
theorem vx_hd {X : XW} {r p E k : Nat} {K : XW → Int32 → Int32 → Option (Int32 × XW)} {d c : Int32} (hr : r < 6) (hp : p < 3) (hE : X.2.1 (49 + 3 * r) p = nI E) (hE2 : E ≤ 160) (hk : k < E) (hc : X.2.1 (48 + 3 * r) k = c) : fX5_valueOf_l32 (47 + 3 * r) (nI p) 11 12 K X d (nI k) = if 0 ≤ c - 20000 then if c - 20000 = 31 then fX5_valueOf_b98 (47 + 3 * r) (nI p) 11 12 K X d (nI k) c (c - 20000) 1 else if c - 20000 = 11 then fX5_valueOf_b98 (47 + 3 * r) (nI p) 11 12 K X d (nI k) c (c - 20000) 1 else fX5_valueOf_b98 (47 + 3 * r) (nI p) 11 12 K X d (nI k) c (c - 20000) 2 else fX5_valueOf_b98 (47 + 3 * r) (nI p) 11 12 K X d (nI k) c (c - 20000) 0 := by
  unfold fX5_valueOf_l32 fX5_valueOf_b93
  rw [if_pos (kd_pr hr), show 47 + 3 * r + 2 = 49 + 3 * r by omega, show 47 + 3 * r + 1 = 48 + 3 * r by omega, rd_in (in_nI hp (by omega)), cl_nI (show p < 2 ^ 31 by omega), hE, Option.bind_some, if_neg (nI_ge hk (by omega)), if_neg (show ¬ (160 : Int32) ≤ nI k from nI_ge (b := 160) (by omega) (by omega)), rd_in (in_nI (show k < 160 by omega) (by omega)), cl_nI (show k < 2 ^ 31 by omega), hc, Option.bind_some]
  rfl
theorem vx_b147 {X : XW} {a d k t : Nat} {l1 l7 : Int32} {K : XW → Int32 → Int32 → Option (Int32 × XW)} (ht : 1 ≤ t) (htd : t ≤ d) (hd : d ≤ 160) (hk : k < 2000) : fX5_valueOf_b147 a l1 11 12 K X (nI d) (nI k) l7 (nI t) = K (xA X 12 (nI (d - t)) (fX5_outcome l7 (X.2.1 12 (d - t)) (X.2.1 12 (d - 1)))) (nI (d - t + 1)) (nI (k + 1)) := by
  have hl : ln 12 = 160 := rfl
  dsimp only [fX5_valueOf_b147, bd]
  rw [if_neg (show ¬ nI t ≤ 0 from nI_nle (by omega) (by omega)), if_neg (nI_nlt htd (by omega)), if_pos (show kd 12 = 11 by decide), hl, pk_sub htd, show nI d - 1 = nI (d - 1) from pk_sub (b := 1) (by omega), rd_in (in_nI (by omega) (by omega)), rd_in (in_nI (by omega) (by omega)), Option.bind_some, Option.bind_some, if_pos (in_nI (by omega) (by omega)), cl_nI (show d - t < 2 ^ 31 by omega), cl_nI (show d - 1 < 2 ^ 31 by omega), nI_1, nI_1]
theorem vx_push {X : XW} {a d k : Nat} {l1 l6 l7 v : Int32} {K : XW → Int32 → Int32 → Option (Int32 × XW)} (hd : d < 160) (hv : (l6.toInt < 10000 ∧ v = l6) ∨ (10000 ≤ l6.toInt ∧ l6.toInt ≤ 10005 ∧ v = X.2.1 11 (l6.toInt - 10000).toNat)) : fX5_valueOf_b98 a l1 11 12 K X (nI d) (nI k) l6 l7 0 = K (xA X 12 (nI d) v) (nI (d + 1)) (nI (k + 1)) := by
  have hl : ln 12 = 160 := rfl
  have hl2 : ln 11 = 6 := rfl
  have e : (10000 : Int32).toInt = 10000 := rfl
  dsimp only [fX5_valueOf_b98, fX5_valueOf_b140, bd]
  rw [if_pos rfl, if_pos (show kd 12 = 11 by decide), hl, if_neg (show ¬ Int32.ofNat 160 ≤ nI d from nI_ge (b := 160) hd (by omega)), if_pos (show kd 12 = 11 by decide), if_pos (in_nI hd (by omega)), nI_1, nI_1]
  rcases hv with ⟨h1, h2⟩ | ⟨h1, h2, h3⟩
  · rw [if_neg (by rw [i_le, e]; omega), h2]
  · have hs := i_sub (a := l6) (b := 10000) (by omega) (by omega)
    have hm : jmin (l6 - 10000) 5 = l6 - 10000 := by
      unfold jmin
      rw [if_neg]
      rw [i_lt, hs, e, show (5 : Int32).toInt = 5 from rfl]
      omega
    have hi : inb (l6 - 10000) 6 := by unfold inb; rw [hs, e]; omega
    have hcl : (l6 - 10000).toNatClampNeg = (l6.toInt - 10000).toNat := by
      have : (l6 - 10000).toNatClampNeg = (l6 - 10000).toInt.toNat := rfl
      rw [this, hs, e]
    rw [if_pos (by rw [i_le, e]; omega), if_pos (show kd 11 = 11 by decide), hl2, hm, rd_in hi, Option.bind_some, hcl, h3, if_pos (show kd 12 = 11 by decide), if_pos (in_nI hd (by omega))]
theorem wm_hd {M : MW} {r p E k : Nat} {K : MW → Int32 → Int32 → Option (Int32 × MW)} {d c : Int32} (hr : r < 6) (hM : M.1 22 = nI r) (hp : p < 3) (hE : M.2 83 (4 * r + (p + 1)) = nI E) (hE2 : E ≤ 160) (hk : k < E) (hc : M.2 82 (200 * r + k) = c) : fX10_worth_l16 (nI p) K M d (nI k) = if 100000 ≤ c then fX10_worth_b66 (nI p) K M d (nI k) c else if 11 ≤ c then if c = 13 then (rd (M.2 94) 200 (d - 1)).bind fun v33 => if v33 = 0 then fX10_worth_b130 (nI p) K M d (nI k) (d - 1) 1 else fX10_worth_b130 (nI p) K M d (nI k) (d - 1) 0 else if c = 19 then (rd (M.2 94) 200 (d - 1)).bind fun v27 => if inb (d - 1) 200 then K (mA M 94 (d - 1) (-v27)) d (nI k + 1) else none else (rd (M.2 94) 200 ((d + -1) - 1)).bind fun v18 => (rd (M.2 94) 200 (d + -1)).bind fun v20 => if inb ((d + -1) - 1) 200 then K (mA M 94 ((d + -1) - 1) (fX10_two c v18 v20)) (d + -1) (nI k + 1) else none else fX10_worth_b66 (nI p) K M d (nI k) c := by
  have e1 : (4 : Int32) * nI r + nI p + 1 = nI (4 * r + (p + 1)) := by rw [show (4 : Int32) * nI r = nI (4 * r) from pk_mul 4 r, nI_add, nI_1, Nat.add_assoc]
  have e2 : (200 : Int32) * nI r + nI k = nI (200 * r + k) := by rw [show (200 : Int32) * nI r = nI (200 * r) from pk_mul 200 r, nI_add]
  unfold fX10_worth_l16
  rw [hM, e1, e2, rd_in (in_nI (show 4 * r + (p + 1) < 24 by omega) (by omega)), cl_nI (show 4 * r + (p + 1) < 2 ^ 31 by omega), hE, Option.bind_some, if_neg (nI_ge hk (by omega)), rd_in (in_nI (show 200 * r + k < 1200 by omega) (by omega)), cl_nI (show 200 * r + k < 2 ^ 31 by omega), hc, Option.bind_some]
  rfl
theorem cv_num {c : Int32} (h1 : 0 ≤ c.toInt) (h2 : c.toInt ≤ 9999) : 100000 ≤ cvC c ∧ 11 ≤ cvC c ∧ cvC c - 100000 = c := by
  have e : (100000 : Int32).toInt = 100000 := rfl
  have e0 : (10000 : Int32).toInt = 10000 := rfl
  have e11 : (11 : Int32).toInt = 11 := rfl
  have hv : cvC c = 100000 + c := if_pos (by rw [i_lt, e0]; omega)
  have ha := i_add (a := 100000) (b := c) (by omega) (by omega)
  rw [hv]
  refine ⟨by rw [i_le, ha]; omega, by rw [i_le, ha]; omega, ?_⟩
  rw [i_eq, i_sub (by omega) (by omega), ha]
  omega
theorem cv_name {c : Int32} (h1 : 10000 ≤ c.toInt) (h2 : c.toInt ≤ 10005) : ¬ 100000 ≤ cvC c ∧ ¬ 11 ≤ cvC c ∧ inb (cvC c) 6 ∧ (cvC c).toNatClampNeg = (c.toInt - 10000).toNat := by
  have e : (100000 : Int32).toInt = 100000 := rfl
  have e0 : (10000 : Int32).toInt = 10000 := rfl
  have e2 : (20000 : Int32).toInt = 20000 := rfl
  have e11 : (11 : Int32).toInt = 11 := rfl
  have hv : cvC c = c - 10000 := (if_neg (by rw [i_lt, e0]; omega)).trans (if_pos (by rw [i_lt, e2]; omega))
  have ha := i_sub (a := c) (b := 10000) (by omega) (by omega)
  rw [hv]
  refine ⟨by rw [i_le, ha]; omega, by rw [i_le, ha]; omega, by unfold inb; rw [ha]; omega, ?_⟩
  have : (c - 10000).toNatClampNeg = (c - 10000).toInt.toNat := rfl
  rw [this, ha, e0]
theorem wm_push {M : MW} {d k : Nat} {l1 c v : Int32} {K : MW → Int32 → Int32 → Option (Int32 × MW)} (hd : d < 160) (hv : (0 ≤ c.toInt ∧ c.toInt ≤ 9999 ∧ v = c) ∨ (10000 ≤ c.toInt ∧ c.toInt ≤ 10005 ∧ v = M.2 95 (c.toInt - 10000).toNat)) : fX10_worth_b66 l1 K M (nI d) (nI k) (cvC c) = K (mA M 94 (nI d) v) (nI (d + 1)) (nI (k + 1)) := by
  dsimp only [fX10_worth_b66, fX10_worth_b93, bd]
  rw [if_pos (in_nI (show d < 200 by omega) (by omega)), nI_1, nI_1]
  rcases hv with ⟨h1, h2, h3⟩ | ⟨h1, h2, h3⟩
  · rw [if_pos (cv_num h1 h2).2.1, (cv_num h1 h2).2.2, h3]
  · rw [if_neg (cv_name h1 h2).2.1, rd_in (cv_name h1 h2).2.2.1, Option.bind_some, (cv_name h1 h2).2.2.2, h3, if_pos (in_nI (show d < 200 by omega) (by omega))]

/-! the class's course of one boat -/
def cX (q : Nat) (X X' : XW) : Prop := (∀ i, i ≠ q → X'.1 i = X.1 i) ∧ X'.2.2 = X.2.2 ∧ ∀ i, i ≠ 11 → i ≠ 12 → i ≠ q + 1 → X'.2.1 i = X.2.1 i
theorem cX.rf (q : Nat) (X : XW) : cX q X X := ⟨fun _ _ => rfl, rfl, fun _ _ _ _ => rfl⟩
theorem cX.tr {q : Nat} {X Y Z : XW} (a : cX q X Y) (b : cX q Y Z) : cX q X Z := ⟨fun i h => (b.1 i h).trans (a.1 i h), b.2.1.trans a.2.1, fun i h1 h2 h3 => (b.2.2 i h1 h2 h3).trans (a.2.2 i h1 h2 h3)⟩
theorem eX.c {X X' : XW} (q : Nat) (a : eX X X') : cX q X X' := ⟨fun i _ => by rw [a.1], a.2.1, fun i h1 h2 _ => a.2.2 i h1 h2⟩
theorem cX.n {j : Nat} (hj : j < 6) {X X' : XW} (a : cX (27 + 2 * j) X X') : nX X X' := ⟨fun i h => a.1 i (by omega), a.2.1, fun i h1 h2 _ h4 => a.2.2 i h1 h2 (by omega)⟩
theorem cX_I (q : Nat) (X : XW) (k : Nat) (v : Int32) : cX q X (xI X q k v) := ⟨fun i h => xI_ne X k v h, rfl, fun _ _ _ _ => rfl⟩
theorem cX_A (q : Nat) (X : XW) (k v : Int32) : cX q X (xA X (q + 1) k v) := ⟨fun _ _ => rfl, rfl, fun i _ _ h => xA_ne X k v h⟩
theorem kd_co {j : Nat} (h : j < 6) : kd (27 + 2 * j) = 2 ∧ kd (27 + 2 * j + 1) = 11 ∧ ln (27 + 2 * j + 1) = 12 := by
  have : j = 0 ∨ j = 1 ∨ j = 2 ∨ j = 3 ∨ j = 4 ∨ j = 5 := by omega
  rcases this with rfl | rfl | rfl | rfl | rfl | rfl <;> decide
def tr3 (X' : XW) (q : Nat) (s : Int32 × Int32 × Int32) : Prop := X'.1 q 1 = s.1 ∧ X'.1 q 2 = s.2.1 ∧ X'.1 q 3 = s.2.2
theorem sail_b {X X2 : XW} {M : MW} {nb b p q j k : Nat} {l4 c : Int32} {K : XW → Int32 → Option XW} (hB : SBay X M) (hN : NS ≤ b ∧ b < TT nb) (hj : j < 6) (hq : q = 27 + 2 * j) (a : nX X X2) (hk : k < 12) (hp : p ≤ 40) (hb5 : X2.1 b 5 = nI p) (hc : cOk c) (h1 : X2.1 q 1 = c) : fX2_sail_b115 nb q b l4 K X2 (nI k) = K (xA X2 (q + 1) (nI k) (if c = -1 then -1 else lyX X c (nI p) k)) (nI (k + 1)) := by
  subst hq
  obtain ⟨k1, k2, k3⟩ := kd_co hj
  dsimp only [fX2_sail_b115, fX2_sail_b160, bd]
  have ik : inb (nI k) 12 := in_nI hk (by omega)
  rw [if_pos k1, if_pos k2, k3, if_pos ik, h1, hb5, nI_1]
  rcases hc with rfl | ⟨cc, hcc, rfl⟩
  · rw [if_pos rfl, if_pos rfl]
  · have hm : ¬ nI cc = -1 := nI_m1 (by omega)
    obtain ⟨w, g1, g2, -⟩ := ly_X hB a hcc hk hp
    rw [if_neg hm, if_neg hm, if_pos hN, g1, Option.bind_some, g2, Option.bind_some, if_pos k2, if_pos ik]
theorem sail_lo {X X0 : XW} {M : MW} {H : Nat → Prop} {nb i b p q j h0 n : Nat} {c0 : Int32} (E : ESim X M H) (k : kAt X M nb i b) (hj : j < 6) (hq : q = 27 + 2 * j) (a0 : nX X X0) (hb5 : X.1 b 5 = nI p) (hp : p ≤ 40) (hc0 : cOk c0) (hn : h0 + n ≤ 12) (hH : ∀ h, h0 ≤ h → h < h0 + n → H h) : ∀ (m t : Nat) (X' : XW), n < m + t → t ≤ n → cX q X0 X' → tr3 X' q (trj X nb b (nI p) c0 h0 t) → (∀ u, u < t → X'.2.1 (q + 1) (h0 + u) = lyT X nb b (nI p) c0 h0 u) → ∃ X'', lo2 (fX2_sail_l25 nb q b (nI (h0 + n))) m X' (nI (h0 + t)) = some X'' ∧ cX q X0 X'' ∧ tr3 X'' q (trj X nb b (nI p) c0 h0 n) ∧ ∀ u, u < n → X''.2.1 (q + 1) (h0 + u) = lyT X nb b (nI p) c0 h0 u := by
  have hN : NS ≤ b ∧ b < TT nb := ⟨k.2.1, k.2.2.1⟩
  have hbq : b ≠ q := by have := hN.1; unfold NS at this; omega
  have hkd := kd_co hj
  rw [← hq] at hkd
  intro m
  induction m with
  | zero => intro t X' h1 h2; omega
  | succ m ih =>
    intro t X' h1 h2 aX h3 h4
    show ∃ X'', fX2_sail_l25 nb q b (nI (h0 + n)) (lo2 (fX2_sail_l25 nb q b (nI (h0 + n))) m) X' (nI (h0 + t)) = some X'' ∧ _
    generalize hL : lo2 (fX2_sail_l25 nb q b (nI (h0 + n))) m = L at ih ⊢
    dsimp only [fX2_sail_l25, bd]
    by_cases hd : t = n
    · subst hd
      rw [if_pos (nI_le (Nat.le_refl _) (by omega))]
      exact ⟨X', rfl, aX, h3, h4⟩
    rw [if_neg (nI_ge (by omega) (by omega)), if_neg (show ¬ (12 : Int32) ≤ nI (h0 + t) from nI_ge (b := 12) (by omega) (by omega)), if_pos hkd.1]
    have hs := trj_c (nb := nb) (b := b) (p := nI p) (h0 := h0) E.1 hc0 t (by omega)
    have hs' := trj_c (nb := nb) (b := b) (p := nI p) (h0 := h0) E.1 hc0 (t + 1) (by omega)
    have hn' : nX X X' := a0.tr (by subst hq; exact aX.n hj)
    have fin : ∀ X2, cX q X0 X2 → tr3 X2 q (trj X nb b (nI p) c0 h0 (t + 1)) → (∀ u, u < t → X2.2.1 (q + 1) (h0 + u) = lyT X nb b (nI p) c0 h0 u) → ∃ X'', fX2_sail_b115 nb q b (nI (h0 + n)) L X2 (nI (h0 + t)) = some X'' ∧ cX q X0 X'' ∧ tr3 X'' q (trj X nb b (nI p) c0 h0 n) ∧ ∀ u, u < n → X''.2.1 (q + 1) (h0 + u) = lyT X nb b (nI p) c0 h0 u := by
      intro X2 b1 b2 b3
      have b4 : nX X X2 := a0.tr (by subst hq; exact b1.n hj)
      rw [sail_b E.1 hN hj hq b4 (show h0 + t < 12 by omega) hp (by rw [b4.1 b (by have := hN.1; unfold NS at this; omega)]; exact hb5) hs' b2.1]
      refine ih (t + 1) _ (by omega) (by omega) (b1.tr (cX_A q X2 _ _)) b2 (fun u hu => ?_)
      rw [xA_at, cl_nI (show h0 + t < 2 ^ 31 by omega)]
      unfold upd
      by_cases e : u = t
      · rw [e, if_pos rfl]; rfl
      · rw [if_neg (by omega)]; exact b3 u (by omega)
    have hst : trj X nb b (nI p) c0 h0 (t + 1) = tst X nb b (nI p) (h0 + t) (trj X nb b (nI p) c0 h0 t) := rfl
    generalize hS : trj X nb b (nI p) c0 h0 t = S at hs h3 hst
    obtain ⟨e1, e2, e3⟩ := h3
    rw [e1]
    unfold tst at hst
    rcases hs with hs | ⟨cc, hcc, hs⟩
    · rw [if_pos hs]
      rw [if_pos hs] at hst
      exact fin X' aX (by rw [hst]; exact ⟨e1, e2, e3⟩) h4
    · have hm : ¬ S.1 = -1 := by rw [hs]; exact nI_m1 (by omega)
      rw [if_neg hm, if_pos hN]
      rw [if_neg hm] at hst
      have hb5' : X'.1 b 5 = nI p := by rw [hn'.1 b (by have := hN.1; unfold NS at this; omega)]; exact hb5
      obtain ⟨X2, g1, g2⟩ := go_X E k hn' hcc (show h0 + t < 12 by omega) (hH _ (by omega) (by omega)) (show p ≤ 45 by omega)
      rw [hb5', hs, g1, bd2_s]
      rw [hs] at hst
      by_cases hv : dvX X nb b (nI cc) (nI p) (h0 + t) = 0
      · rw [if_pos hv]
        rw [if_pos hv] at hst
        refine fin X2 (aX.tr (g2.c q)) ?_ (fun u hu => ?_)
        · rw [hst]; unfold tr3; rw [g2.1]; exact ⟨e1, e2, e3⟩
        · rw [g2.2.2 _ (by omega) (by omega)]; exact h4 u hu
      · rw [if_neg hv]
        rw [if_neg hv] at hst
        have f1 : X2.1 q 1 = nI cc := by rw [g2.1, e1, hs]
        have hfu := fu_X (X' := X2) (h := h0 + t) E.1 (hn'.tr g2.n) hcc (by omega)
        rw [f1, hfu, Option.bind_some]
        have s3 : (xI (xI X2 q 1 (fuX X (nI cc) (h0 + t))) q 2 ((xI X2 q 1 (fuX X (nI cc) (h0 + t))).1 q 2 + 1)).1 q 3 = S.2.2 := by
          rw [xI_k _ _ _ (by decide), xI_k _ _ _ (by decide), g2.1, e3]
        have s2 : (xI X2 q 1 (fuX X (nI cc) (h0 + t))).1 q 2 = S.2.1 := by
          rw [xI_k _ _ _ (by decide), g2.1, e2]
        rw [s3, s2]
        have tail : ∀ z, z = (if S.2.2 = -1 then nI (h0 + t) else S.2.2) → ∃ X'', fX2_sail_b112 nb q b (nI (h0 + n)) L (xI (xI X2 q 1 (fuX X (nI cc) (h0 + t))) q 2 (S.2.1 + 1)) (nI (h0 + t)) q z = some X'' ∧ cX q X0 X'' ∧ tr3 X'' q (trj X nb b (nI p) c0 h0 n) ∧ ∀ u, u < n → X''.2.1 (q + 1) (h0 + u) = lyT X nb b (nI p) c0 h0 u := by
          intro z hz
          dsimp only [fX2_sail_b112, bd]
          rw [if_pos hkd.1]
          refine fin _ ((((aX.tr (g2.c q)).tr (cX_I q _ 1 _)).tr (cX_I q _ 2 _)).tr (cX_I q _ 3 _)) ?_ (fun u hu => ?_)
          · rw [hst]
            refine ⟨?_, ?_, ?_⟩
            · rw [xI_k _ _ _ (by decide), xI_k _ _ _ (by decide), xI_at]
            · rw [xI_k _ _ _ (by decide), xI_at]
            · rw [xI_at]; exact hz
          · show X2.2.1 (q + 1) (h0 + u) = _
            rw [g2.2.2 _ (by omega) (by omega)]; exact h4 u hu
        by_cases hf : S.2.2 = -1
        · rw [if_pos hf]
          exact tail _ (by rw [if_pos hf])
        · rw [if_neg hf]
          exact tail _ (by rw [if_neg hf])
theorem sail_ok {X X0 : XW} {M : MW} {H : Nat → Prop} {nb i b p j h0 n : Nat} {c0 : Int32} (E : ESim X M H) (k : kAt X M nb i b) (hj : j < 6) (a0 : nX X X0) (hb4 : X.1 b 4 = c0) (hb5 : X.1 b 5 = nI p) (hp : p ≤ 40) (hc0 : cOk c0) (hn : h0 + n ≤ 12) (hH : ∀ h, h0 ≤ h → h < h0 + n → H h) : ∃ X'', fX2_sail X0 nb (27 + 2 * j) b (nI h0) (nI (h0 + n)) = some X'' ∧ cX (27 + 2 * j) X0 X'' ∧ tr3 X'' (27 + 2 * j) (trj X nb b (nI p) c0 h0 n) ∧ ∀ u, u < n → X''.2.1 (27 + 2 * j + 1) (h0 + u) = lyT X nb b (nI p) c0 h0 u := by
  have hN : NS ≤ b ∧ b < TT nb := ⟨k.2.1, k.2.2.1⟩
  dsimp only [fX2_sail, bd]
  rw [if_pos hN, if_pos (kd_co hj).1, show (0 : Int32) = nI 0 from rfl, jmax_nI (by omega) (by omega), show max 0 h0 = h0 by omega]
  have hb4' : X0.1 b 4 = c0 := by rw [a0.1 b (by have := hN.1; unfold NS at this; omega)]; exact hb4
  refine sail_lo E k hj rfl a0 hb5 hp hc0 hn hH FU 0 _ (by unfold FU; omega) (by omega) (((cX_I _ X0 1 _).tr (cX_I _ _ 2 _)).tr (cX_I _ _ 3 _)) ⟨?_, ?_, ?_⟩ (fun u hu => by omega)
  · rw [xI_k _ _ _ (by decide), xI_k _ _ _ (by decide), xI_at]; exact hb4'
  · rw [xI_k _ _ _ (by decide), xI_at]; rfl
  · rw [xI_at]; rfl

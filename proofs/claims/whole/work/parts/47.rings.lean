/-! rings, late, line -/
theorem g_cell {X : XW} {M : MW} {nb i : Nat} (h : Sim X M nb) (hi : (i : Int) < (M.1 8).toInt) : (M.2 77 i = -1 ∨ ∃ c, c < 100 ∧ M.2 77 i = nI c) ∧ ∃ p, 1 ≤ p ∧ p ≤ 40 ∧ M.2 78 i = nI p := by
  obtain ⟨⟨a1, a2⟩, ⟨a3, a4⟩, -⟩ := h.2.1.2.2.2.2 i hi
  constructor
  · by_cases h0 : 0 ≤ (M.2 77 i).toInt
    · obtain ⟨c, e, -, ei⟩ := nn_ge h0
      exact Or.inr ⟨c, by omega, e⟩
    · refine Or.inl ?_
      rw [i_eq]
      have : (-1 : Int32).toInt = -1 := rfl
      omega
  · obtain ⟨p, e, -, ei⟩ := nn_ge (i := M.2 78 i) (by omega)
    exact ⟨p, by omega, by omega, e⟩
theorem g_now {X : XW} {M : MW} {nb : Nat} (h : Sim X M nb) : ∃ t, t < 12 ∧ M.1 7 = nI t ∧ X.1 0 11 = nI t := by
  obtain ⟨-, -, -, -, -, -, -, -, h1, h2, -⟩ := h.1
  obtain ⟨t, e, -, ei⟩ := nn_ge h2.1
  exact ⟨t, by omega, e, h1.trans e⟩
theorem or0 (x : Int32) : x ||| 0 = x := by simp
theorem g_ways {X : XW} {M : MW} {nb i j a b c d : Nat} (h : Sim X M nb) (hi : (i : Int) < (M.1 8).toInt) (hj : (j : Int) < (M.1 8).toInt) (ha : boatAt X M nb i a) (hb : boatAt X M nb j b) (hc : c < 100) (ec : M.2 77 i = nI c) (hd : d < 100) (ed : M.2 77 j = nI d) : ∀ (n k : Nat) (v : Int32), 8 < n + k → k ≤ 8 → ∃ z, lo2 (fX9_waysToMeet_l5 X nb a b) n v (nI k) = some z ∧ lo2 (fX10_ringsOf_l5 M (nI i) (nI j)) n v (nI k) = some z := by
  obtain ⟨t, ht, et, eX⟩ := g_now h
  obtain ⟨p, hp1, hp, ep⟩ := (g_cell h hi).2
  obtain ⟨q, hq1, hq, eq⟩ := (g_cell h hj).2
  have hn6 := h.2.1.2.1.2
  have ii : inb (nI i) 6 := in_nI (by omega) (by omega)
  have ij : inb (nI j) 6 := in_nI (by omega) (by omega)
  have Na : NS ≤ a ∧ a < TT nb := ⟨ha.2.1, ha.2.2.1⟩
  have Nb : NS ≤ b ∧ b < TT nb := ⟨hb.2.1, hb.2.2.1⟩
  have a4 : X.1 a 4 = nI c := ha.2.2.2.2.2.2.2.1.trans ec
  have a5 : X.1 a 5 = nI p := ha.2.2.2.2.2.2.2.2.trans ep
  have b4 : X.1 b 4 = nI d := hb.2.2.2.2.2.2.2.1.trans ed
  have b5 : X.1 b 5 = nI q := hb.2.2.2.2.2.2.2.2.trans eq
  intro n
  induction n with
  | zero => intro k v h1 h2; omega
  | succ n ih =>
    intro k v h1 h2
    show ∃ z, fX9_waysToMeet_l5 X nb a b (lo2 (fX9_waysToMeet_l5 X nb a b) n) v (nI k) = some z ∧ fX10_ringsOf_l5 M (nI i) (nI j) (lo2 (fX10_ringsOf_l5 M (nI i) (nI j)) n) v (nI k) = some z
    generalize hL : lo2 (fX9_waysToMeet_l5 X nb a b) n = L
    generalize hG : lo2 (fX10_ringsOf_l5 M (nI i) (nI j)) n = G
    dsimp only [fX9_waysToMeet_l5, fX10_ringsOf_l5, bd]
    by_cases hk : 8 ≤ k
    · rw [if_pos (show (8 : Int32) ≤ nI k from nI_le (a := 8) hk (by omega)), if_pos (show (8 : Int32) ≤ nI k from nI_le (a := 8) hk (by omega))]
      exact ⟨v, rfl, rfl⟩
    rw [if_neg (show ¬ (8 : Int32) ≤ nI k from nI_ge (b := 8) (by omega) (by omega)), if_neg (show ¬ (8 : Int32) ≤ nI k from nI_ge (b := 8) (by omega) (by omega))]
    obtain ⟨r1, y1, hr1, hy1, e1, e2, e3⟩ := g_lies h.1 hc ht hp (show k < 8 by omega)
    obtain ⟨r2, y2, hr2, hy2, f1, f2, f3⟩ := g_lies h.1 hd ht hq (show k < 8 by omega)
    rw [if_pos Na, a4, a5, eX, e1, Option.bind_some, if_pos Nb, b4, b5, f1, Option.bind_some, rd_in ii, rd_in ii, rd_in ij, rd_in ij, cl_nI (show i < 2 ^ 31 by omega), cl_nI (show j < 2 ^ 31 by omega), ec, ed, ep, eq, et]
    simp only [Option.bind_some]
    rw [e2, Option.bind_some, e3, Option.bind_some, f2, Option.bind_some, f3, Option.bind_some, or0, nI_1]
    subst hL hG
    by_cases hyy : nI y1 = nI y2
    · rw [if_pos hyy, if_pos hyy]; exact ih (k + 1) _ (by omega) (by omega)
    · rw [if_neg hyy, if_neg hyy]; exact ih (k + 1) _ (by omega) (by omega)
theorem g_gone {X : XW} {M : MW} {nb i b : Nat} (hb : boatAt X M nb i b) : fX1_isGone X nb b = some (if M.2 77 i = -1 then 1 else 0) := by
  unfold fX1_isGone
  rw [if_pos ⟨hb.2.1, hb.2.2.1⟩, hb.2.2.2.2.2.2.2.1]
  by_cases c : M.2 77 i = -1
  · rw [if_pos c, if_pos c]
  · rw [if_neg c, if_neg c]
theorem p_rings {X : XW} {M : MW} {nb : Nat} (h : Sim X M nb) (x y : Int32) : R1 (fX9_rings X nb x y) (fX10_rings M x y) := by
  dsimp only [fX9_rings, fX10_rings, fX9_waysToMeet, fX10_ringsOf]
  rcases boat_of h x with ⟨c1, c2⟩ | ⟨c1, i, a, rfl, hi, hi2, ha, c2⟩
  · rcases boat_of h y with ⟨c3, c4⟩ | ⟨c3, j, b, rfl, hj, hj2, hb, c4⟩
    · rw [c2, c4, if_pos c1]; exact ⟨_, rfl, rfl⟩
    · rw [c2, c4, if_pos c1]; exact ⟨_, rfl, rfl⟩
  rcases boat_of h y with ⟨c3, c4⟩ | ⟨c3, j, b, rfl, hj, hj2, hb, c4⟩
  · rw [c2, c4, if_neg c1, if_pos c3]; exact ⟨_, rfl, rfl⟩
  rw [c2, c4, if_neg c1, if_neg c3, Option.bind_some, Option.bind_some]
  dsimp only [oc]
  have ii : inb (nI i) 6 := in_nI (by omega) (by omega)
  have ij : inb (nI j) 6 := in_nI (by omega) (by omega)
  by_cases c5 : nI i = nI j
  · rw [if_pos c5, if_pos c5]; exact ⟨_, rfl, rfl⟩
  rw [if_neg c5, if_neg c5, if_pos ⟨ha.2.1, ha.2.2.1⟩, if_pos ⟨hb.2.1, hb.2.2.1⟩, g_gone ha, g_gone hb, rd_in ii, rd_in ij, cl_nI (show i < 2 ^ 31 by omega), cl_nI (show j < 2 ^ 31 by omega)]
  simp only [Option.bind_some]
  rcases (g_cell h hi2).1 with e1 | ⟨c, hc, ec⟩
  · rw [if_pos e1, if_pos e1, if_neg n10]; exact ⟨_, rfl, rfl⟩
  rw [ec, if_neg (nI_m1 (by omega)), if_neg (nI_m1 (by omega)), if_pos rfl]
  rcases (g_cell h hj2).1 with e1 | ⟨d, hd, ed⟩
  · rw [if_pos e1, if_pos e1, if_neg n10]; exact ⟨_, rfl, rfl⟩
  rw [ed, if_neg (nI_m1 (by omega)), if_neg (nI_m1 (by omega)), if_pos rfl]
  obtain ⟨z, z1, z2⟩ := g_ways h hi2 hj2 ha hb hc ec hd ed FU 0 0 (by unfold FU; omega) (by omega)
  rw [show (0 : Int32) = nI 0 from rfl] at z1 z2 ⊢
  rw [z1, z2]
  exact ⟨z, rfl, rfl⟩
theorem g_late {X : XW} {M : MW} {nb : Nat} (h : Sim X M nb) {n8 : Nat} (hn : M.1 8 = nI n8) (hn6 : n8 ≤ 6) : ∀ (n k : Nat), 6 < n + k → k ≤ 6 → R1 (lo1 (fX9_late_l2 X nb) n (nI k)) (lo1 (fX10_late_l2 M) n (nI k)) := by
  have hnI : (M.1 8).toInt = n8 := by rw [hn, nI_toInt (by omega)]
  intro n
  induction n with
  | zero => intro k h1 h2; omega
  | succ n ih =>
    intro k h1 h2
    show R1 (fX9_late_l2 X nb (lo1 (fX9_late_l2 X nb) n) (nI k)) (fX10_late_l2 M (lo1 (fX10_late_l2 M) n) (nI k))
    generalize hL : lo1 (fX9_late_l2 X nb) n = L at ih ⊢
    generalize hG : lo1 (fX10_late_l2 M) n = G at ih ⊢
    unfold fX9_late_l2 fX10_late_l2
    rw [h.2.1.1, hn]
    by_cases hk : n8 ≤ k
    · rw [if_pos (nI_le hk (by omega)), if_pos (nI_le hk (by omega))]; exact ⟨_, rfl, rfl⟩
    rw [if_neg (nI_ge (by omega) (by omega)), if_neg (nI_ge (by omega) (by omega))]
    obtain ⟨a, ha⟩ := h.2.1.2.2.1 k (by omega)
    have ik : inb (nI k) 6 := in_nI (by omega) (by omega)
    have inner : ∀ (m j : Nat), 6 < m + j → j ≤ k → R1 (lo1 (fX9_late_l12 X nb (nI k) L) m (nI j)) (lo1 (fX10_late_l12 M (nI k) G) m (nI j)) := by
      intro m
      induction m with
      | zero => intro j g1 g2; omega
      | succ m im =>
        intro j g1 g2
        show R1 (fX9_late_l12 X nb (nI k) L (lo1 (fX9_late_l12 X nb (nI k) L) m) (nI j)) (fX10_late_l12 M (nI k) G (lo1 (fX10_late_l12 M (nI k) G) m) (nI j))
        generalize hL2 : lo1 (fX9_late_l12 X nb (nI k) L) m = L2 at im ⊢
        generalize hG2 : lo1 (fX10_late_l12 M (nI k) G) m = G2 at im ⊢
        dsimp only [fX9_late_l12, fX10_late_l12, fX9_waysToMeet, fX10_ringsOf]
        rw [nI_1, nI_1]
        by_cases hj : k ≤ j
        · rw [if_pos (nI_le hj (by omega)), if_pos (nI_le hj (by omega))]; exact ih (k + 1) (by omega) (by omega)
        rw [if_neg (nI_ge (by omega) (by omega)), if_neg (nI_ge (by omega) (by omega))]
        obtain ⟨b, hb⟩ := h.2.1.2.2.1 j (by omega)
        have ij : inb (nI j) 6 := in_nI (by omega) (by omega)
        rw [rdR_in ik, rdR_in ij, rd_in ik, rd_in ij, cl_nI (show k < 2 ^ 31 by omega), cl_nI (show j < 2 ^ 31 by omega), ha.1, hb.1]
        simp only [Option.bind_some]
        rw [if_pos ⟨ha.2.1, ha.2.2.1⟩, if_pos ⟨hb.2.1, hb.2.2.1⟩, g_gone ha, g_gone hb]
        simp only [Option.bind_some]
        rcases (g_cell h (i := k) (by omega)).1 with e1 | ⟨c, hc, ec⟩
        · rw [if_pos e1, if_pos e1, if_neg n10]; exact im (j + 1) (by omega) (by omega)
        rw [ec, if_neg (nI_m1 (by omega)), if_neg (nI_m1 (by omega)), if_pos rfl]
        rcases (g_cell h (i := j) (by omega)).1 with e1 | ⟨d, hd, ed⟩
        · rw [if_pos e1, if_pos e1, if_neg n10]; exact im (j + 1) (by omega) (by omega)
        rw [ed, if_neg (nI_m1 (by omega)), if_neg (nI_m1 (by omega)), if_pos rfl]
        obtain ⟨z, z1, z2⟩ := g_ways h (show (k : Int) < _ by omega) (show (j : Int) < _ by omega) ha hb hc ec hd ed FU 0 0 (by unfold FU; omega) (by omega)
        rw [show nI 0 = (0 : Int32) from rfl] at z1 z2
        rw [z1, z2]
        simp only [Option.bind_some]
        by_cases hz : z = 0
        · rw [if_pos hz, if_pos hz]; exact im (j + 1) (by omega) (by omega)
        · rw [if_neg hz, if_neg hz]; exact ⟨_, rfl, rfl⟩
    exact inner FU 0 (by unfold FU; omega) (by omega)
theorem p_late {X : XW} {M : MW} {nb : Nat} (h : Sim X M nb) : R1 (fX9_late X nb) (fX10_late M) := by
  obtain ⟨n8, hn, -, hne⟩ := nn_ge h.2.1.2.1.1
  have := h.2.1.2.1.2
  exact g_late h hn (by omega) FU 1 (by unfold FU; omega) (by omega)
theorem p_line (a b c : Int32) : fX9_line a b c = fX10_line a b c := rfl

/-! the chart -/
theorem ch_in {a b s v : Int32} {id nb col w r cl : Nat} {l6 : Int32} {K : XW → Int32 → Int32 → Option (Int32 × XW)} {K' : MW → Int32 → Int32 → Option (Int32 × MW)}
    (hk : kd id = 11) (hl : ln id = 100) (hs : ∀ X M k, k < 100 → Sim X M nb → ∃ M', fX10_sounds M (nI k) s v = some M' ∧ Sim (xA X id (nI k) v) M' nb)
    (hr : r < 10) (hJ : jrem a 10 + jrem b 10 = nI (col + w)) (hw : col + w < 100) (hcl : cl = min 10 (col + w))
    (hK : ∀ X M cnt, Sim X M nb → R2 nb (K X cnt (nI r + 1)) (K' M cnt (nI r + 1))) :
    ∀ (n c : Nat) (X : XW) (M : MW) (cnt : Int32), 10 < n + c → c ≤ cl → Sim X M nb → R2 nb (lo3 (fX9_chart_l117 a v id l6 (nI cl) (nI r) K) n X cnt (nI c)) (lo3 (fX10_chart_l88 a b s v (nI r) K') n M cnt (nI c)) := by
  intro n
  induction n with
  | zero => intro c X M cnt h1 h2; omega
  | succ n ih =>
    intro c X M cnt h1 h2 hS
    show R2 nb (fX9_chart_l117 a v id l6 (nI cl) (nI r) K (lo3 (fX9_chart_l117 a v id l6 (nI cl) (nI r) K) n) X cnt (nI c)) (fX10_chart_l88 a b s v (nI r) K' (lo3 (fX10_chart_l88 a b s v (nI r) K') n) M cnt (nI c))
    generalize hL : lo3 (fX9_chart_l117 a v id l6 (nI cl) (nI r) K) n = L
    generalize hG : lo3 (fX10_chart_l88 a b s v (nI r) K') n = G
    unfold fX9_chart_l117 fX10_chart_l88
    dsimp only [bd]
    rw [hJ, t10, nI_add]
    by_cases hc : cl ≤ c
    · rw [if_pos (nI_le hc (by omega))]
      by_cases hd : col + w ≤ c
      · rw [if_pos (nI_le hd (by omega))]; exact hK X M cnt hS
      · rw [if_neg (nI_ge (by omega) (by omega)), if_pos (show (10 : Int32) ≤ nI c from nI_le (a := 10) (by omega) (by omega))]
        exact hK X M cnt hS
    · have hin : inb (nI (10 * r + c)) 100 := in_nI (by omega) (by omega)
      rw [if_neg (nI_ge (by omega) (by omega)), if_neg (nI_ge (by omega) (by omega)), if_neg (show ¬ (10 : Int32) ≤ nI c from nI_ge (b := 10) (by omega) (by omega)), if_pos hk, hl, if_pos hin]
      obtain ⟨M', h3, h4⟩ := hs X M (10 * r + c) (by omega) hS
      rw [h3, Option.bind_some, nI_1]
      subst hL hG
      exact ih (c + 1) _ _ _ (by omega) (by omega) h4
theorem ch_out {a b s v : Int32} {id nb col w row h rl cl : Nat} 
    (hk : kd id = 11) (hl : ln id = 100) (hs : ∀ X M k, k < 100 → Sim X M nb → ∃ M', fX10_sounds M (nI k) s v = some M' ∧ Sim (xA X id (nI k) v) M' nb)
    (hC : jrem a 10 = nI col) (hc9 : col < 10) (hJ : jrem a 10 + jrem b 10 = nI (col + w)) (hw : col + w < 100) (hcl : cl = min 10 (col + w))
    (hR : a / 10 + b / 10 = nI (row + h)) (hh : row + h < 100) (hrl : rl = min 10 (row + h)) :
    ∀ (n c : Nat) (X : XW) (M : MW) (cnt : Int32), 10 < n + c → c ≤ rl → Sim X M nb → R2 nb (lo3 (fX9_chart_l104 a v id (nI rl) (nI cl)) n X cnt (nI c)) (lo3 (fX10_chart_l61 a b s v) n M cnt (nI c)) := by
  intro n
  induction n with
  | zero => intro c X M cnt h1 h2; omega
  | succ n ih =>
    intro c X M cnt h1 h2 hS
    show R2 nb (fX9_chart_l104 a v id (nI rl) (nI cl) (lo3 (fX9_chart_l104 a v id (nI rl) (nI cl)) n) X cnt (nI c)) (fX10_chart_l61 a b s v (lo3 (fX10_chart_l61 a b s v) n) M cnt (nI c))
    generalize hL : lo3 (fX9_chart_l104 a v id (nI rl) (nI cl)) n = L
    generalize hG : lo3 (fX10_chart_l61 a b s v) n = G
    unfold fX9_chart_l104 fX10_chart_l61
    dsimp only [bd]
    rw [hR, hC]
    by_cases hc : rl ≤ c
    · rw [if_pos (nI_le hc (by omega))]
      by_cases hd : row + h ≤ c
      · rw [if_pos (nI_le hd (by omega))]; exact R2.mk hS
      · rw [if_neg (nI_ge (by omega) (by omega)), if_pos (show (10 : Int32) ≤ nI c from nI_le (a := 10) (by omega) (by omega))]
        exact R2.mk hS
    · rw [if_neg (nI_ge (by omega) (by omega)), if_neg (nI_ge (by omega) (by omega)), if_neg (show ¬ (10 : Int32) ≤ nI c from nI_ge (b := 10) (by omega) (by omega))]
      refine ch_in (col := col) (w := w) hk hl hs (by omega) hJ hw hcl (fun X M cnt hS => ?_) FU col X M cnt (by unfold FU; omega) (by omega) hS
      rw [nI_1]
      subst hL hG
      exact ih (c + 1) X M cnt (by omega) (by omega) hS
theorem ch_tab : ∀ k : Fin 100, (fX9_within (nI k) 11 99 = 0 ∨ jrem (nI k) 10 = 0) ∧ (fX9_within (nI k / 10) 1 9 = 0 ∨ fX9_within (jrem (nI k) 10) 1 9 = 0) ∨ (¬ fX9_within (nI k) 11 99 = 0 ∧ ¬ jrem (nI k) 10 = 0 ∧ ¬ fX9_within (nI k / 10) 1 9 = 0 ∧ ¬ fX9_within (jrem (nI k) 10) 1 9 = 0) := by decide +kernel
theorem ch_sz (b : Int32) : ((fX9_within b 11 99 = 0 ∨ jrem b 10 = 0) ∧ (b < 0 ∨ fX9_within (b / 10) 1 9 = 0 ∨ fX9_within (jrem b 10) 1 9 = 0)) ∨ (¬ fX9_within b 11 99 = 0 ∧ ¬ jrem b 10 = 0 ∧ ¬ b < 0 ∧ ¬ fX9_within (b / 10) 1 9 = 0 ∧ ¬ fX9_within (jrem b 10) 1 9 = 0 ∧ ∃ k : Nat, k < 100 ∧ b = nI k) := by
  have e0 : (0 : Int32).toInt = 0 := rfl
  have e11 : (11 : Int32).toInt = 11 := rfl
  have e99 : (99 : Int32).toInt = 99 := rfl
  by_cases h0 : b < 0
  · refine Or.inl ⟨Or.inl ?_, Or.inl h0⟩
    refine Decidable.byContradiction fun hc => ?_
    have := wi_ne hc
    rw [i_lt, e0] at h0
    rw [e11, e99] at this
    omega
  · have h0' : 0 ≤ b.toInt := by rw [i_lt, e0] at h0; omega
    obtain ⟨k, rfl, hk, -⟩ := nn_ge h0'
    by_cases h1 : k < 100
    · rcases ch_tab ⟨k, h1⟩ with ⟨h2, h3⟩ | ⟨h2, h3, h4, h5⟩
      · exact Or.inl ⟨h2, Or.inr h3⟩
      · exact Or.inr ⟨h2, h3, h0, h4, h5, k, h1, rfl⟩
    · refine Or.inl ⟨Or.inl ?_, Or.inr (Or.inl ?_)⟩
      · rw [show (11 : Int32) = nI 11 from rfl, show (99 : Int32) = nI 99 from rfl, wi_nI hk (by decide) (by decide), if_neg (by omega)]
      · rw [d10 hk, show (1 : Int32) = nI 1 from rfl, show (9 : Int32) = nI 9 from rfl, wi_nI (by omega) (by decide) (by decide), if_neg (by omega)]
theorem ch_go {X : XW} {M : MW} {nb : Nat} (hS : Sim X M nb) {a b s v : Int32} {id k j : Nat} (ha : a = nI k) (hk : k < 100) (hb : b = nI j) (hj : j < 100)
    (h1 : kd id = 11) (h2 : ln id = 100) (hs : ∀ X M k, k < 100 → Sim X M nb → ∃ M', fX10_sounds M (nI k) s v = some M' ∧ Sim (xA X id (nI k) v) M' nb) (h10 : 1 ≤ j / 10) :
    R2 nb (fX9_chart_b61 X a b v id) (bd (a / 10) fun v9 => lo3 (fX10_chart_l61 a b s v) FU M 0 v9) := by
  unfold fX9_chart_b61
  dsimp only [bd]
  subst ha hb
  rw [d10 (by omega), d10 (by omega), r10 (by omega), r10 (by omega), nI_add, nI_add]
  rw [show (10 : Int32) = nI 10 from rfl, jmin_nI (by decide) (by omega), jmin_nI (by decide) (by omega)]
  exact ch_out (col := k % 10) (w := j % 10) (row := k / 10) (h := j / 10) h1 h2 hs (r10 (by omega)) (by omega) (by rw [r10 (by omega), r10 (by omega), nI_add]) (by omega) rfl (by rw [d10 (by omega), d10 (by omega), nI_add]) (by omega) rfl FU (k / 10) X M 0 (by unfold FU; omega) (by omega) hS
theorem p_chart {X : XW} {M : MW} {nb : Nat} (h : Sim X M nb) (a b s v : Int32) : R2 nb (fX9_chart X a b s v) (fX10_chart M a b s v) := by
  unfold fX9_chart fX10_chart
  rw [isCell_eq, in_eq]
  by_cases c1 : fX9_isCell a = 0
  · rw [if_pos c1, if_pos c1]; exact R2.mk h
  rw [if_neg c1, if_neg c1]
  rcases ch_sz b with ⟨c2, c3⟩ | ⟨c2, c3, c4, c5, c6, j, hj, hb⟩
  · have eX : ∀ {t : Option (Int32 × XW)}, (if fX9_within b 11 99 = 0 then some (-2, X) else if jrem b 10 = 0 then some (-2, X) else t) = some (-2, X) := by
      intro t
      by_cases q : fX9_within b 11 99 = 0
      · rw [if_pos q]
      · rw [if_neg q, if_pos (c2.resolve_left q)]
    have eM : ∀ {t : Option (Int32 × MW)}, (if b < 0 then some (-2, M) else if fX9_within (b / 10) 1 9 = 0 then some (-2, M) else if fX9_within (jrem b 10) 1 9 = 0 then some (-2, M) else t) = some (-2, M) := by
      intro t
      by_cases q : b < 0
      · rw [if_pos q]
      · rw [if_neg q]
        by_cases q2 : fX9_within (b / 10) 1 9 = 0
        · rw [if_pos q2]
        · rw [if_neg q2, if_pos ((c3.resolve_left q).resolve_left q2)]
    rw [eX, eM]
    exact R2.mk h
  rw [if_neg c2, if_neg c3, if_neg c4, if_neg c5, if_neg c6]
  by_cases c7 : fX9_isSounding s v = 0
  · rw [if_pos c7, if_pos (so_ne c7)]; exact R2.mk h
  rw [if_neg c7, if_neg (so_eq c7).1]
  obtain ⟨k, hk, ha, -⟩ := nn_in (cell_in c1)
  have h10 : 1 ≤ j / 10 := by
    have := wi_ne c2
    rw [hb, nI_toInt (by omega)] at this
    have e11 : (11 : Int32).toInt = 11 := rfl
    omega
  rcases (so_eq c7).2 with ⟨rfl, hv⟩ | ⟨rfl, -, hv⟩
  · rw [if_pos rfl]
    exact ch_go h ha hk hb hj (by decide) (by decide) (fun X M k hk hS => ⟨_, sounds_0 (in_nI hk (by omega)), hS.bay_d hv⟩) h10
  · rw [if_neg n10]
    exact ch_go h ha hk hb hj (by decide) (by decide) (fun X M k hk hS => ⟨_, sounds_1 (in_nI hk (by omega)), hS.bay_b⟩) h10

/-! what pulls, what holds, who goes on -/
theorem b24_ok {X : XW} {M : MW} {nb b c h : Nat} {p v : Int32} (hB : SBay X M) (hN : NS ≤ b ∧ b < TT nb) (hc : c < 100) (hh : h < 12) : ∃ d : Nat, d ≤ 33 ∧ fX10_deepAt M (nI c) (nI h) = some (nI d) ∧ fX7_tell_b24 nb X b (nI c) p (nI h) 0 v = some (nmX X v (X.1 b 1) (nI d) p (M.2 67 c) (X.1 b 2)) := by
  have hB' : SBay (xA (xA X 11 0 v) 11 1 ((xA X 11 0 v).1 b 1)) M := hB.e (((eX.rf X).up (Or.inl rfl) _ _).up (Or.inl rfl) _ _) (eM.rf M)
  obtain ⟨d, hd, e1, e2⟩ := g_deep hB' hc hh
  refine ⟨d, hd, e2, ?_⟩
  dsimp only [fX7_tell_b24, fX7_tell_b83, bd]
  rw [if_pos (show inb (0 : Int32) 6 by decide), if_pos hN, if_pos (show inb (1 : Int32) 6 by decide), e1, Option.bind_some, if_pos (show inb (2 : Int32) 6 by decide), if_pos (show inb (3 : Int32) 6 by decide), if_neg (show ¬ fX9_isCell (nI c) = 0 from ce_nI hc), rd_in (in_nI hc (by omega)), cl_nI (show c < 2 ^ 31 by omega), Option.bind_some, if_pos (show inb (4 : Int32) 6 by decide), if_pos hN, if_pos (show inb (5 : Int32) 6 by decide)]
  have e3 : (xA (xA (xA (xA X 11 0 v) 11 1 ((xA X 11 0 v).1 b 1)) 11 2 (nI d)) 11 3 p).2.1 3 = M.2 67 := by
    rw [xA_ne _ _ _ (by decide), xA_ne _ _ _ (by decide), xA_ne _ _ _ (by decide), xA_ne _ _ _ (by decide)]
    exact hB.2.1
  rw [e3]
  rfl
theorem tell_ok {X : XW} {M : MW} {H : Nat → Prop} {nb i b c h : Nat} (p : Int32) (E : ESim X M H) (k : kAt X M nb i b) (hc : c < 100) (hh : h < 12) (hH : H h) : ∃ (w : Int32) (d : Nat), d ≤ 33 ∧ fX10_windIn M (nI h) = some w ∧ fX10_deepAt M (nI c) (nI h) = some (nI d) ∧ fX7_tell X nb b (nI c) p (nI h) = some (nmX X w (M.2 74 i) (nI d) p (M.2 67 c) (M.2 75 i)) := by
  obtain ⟨hB, -, w, hw, hw2, hw3⟩ := E
  obtain ⟨hi, hN1, hN2, -, k1, k2, -⟩ := k
  obtain ⟨d, hd, e1, e2⟩ := b24_ok (v := X.2.1 w h) (p := p) hB ⟨hN1, hN2⟩ hc hh
  refine ⟨X.2.1 w h, d, hd, hw3 h hh hH, e1, ?_⟩
  have hk : kd w = 11 ∧ ln w = 12 := by rcases hw with rfl | rfl <;> decide
  dsimp only [fX7_tell, bd]
  rw [if_neg (show ¬ fX9_isHour (nI h) = 0 from ho_nI hh), hw2, Option.bind_some, if_pos hk.1, hk.2, rd_in (in_nI hh (by omega)), cl_nI (show h < 2 ^ 31 by omega), Option.bind_some, e2, k1, k2]
theorem namesOf_ok {M : MW} {i c h : Nat} {p w d : Int32} (hi : i < 6) (hc : c < 100) (hw : fX10_windIn M (nI h) = some w) (hd : fX10_deepAt M (nI c) (nI h) = some d) : fX10_namesOf M (nI i) (nI c) (nI h) p = some (nmM M w (M.2 74 i) d p (M.2 67 c) (M.2 75 i)) := by
  unfold fX10_namesOf
  rw [hw, hd, rd_in (in_nI hi (by omega)), rd_in (in_nI hi (by omega)), rd_in (in_nI hc (by omega)), cl_nI (show i < 2 ^ 31 by omega), cl_nI (show c < 2 ^ 31 by omega)]
  simp only [Option.bind_some]
  rw [names_ok, Option.bind_some]
def pwM (M : MW) (l1 l2 l3 l4 : Int32) : Option (Int32 × MW) :=
  bd2 (fX10_worth M (1 : Int32)) fun v4 M3 =>
  (rd (M3.2 73) 6 l1).bind fun v6 =>
  if v6 = (1 : Int32) then fX10_powerOf_b42 M3 l1 l2 l3 l4 v4 v6
  else if v6 = (4 : Int32) then fX10_powerOf_b42 M3 l1 l2 l3 l4 v4 v6
  else if v6 = (5 : Int32) then fX10_powerOf_b42 M3 l1 l2 l3 l4 v4 v6
  else fX10_powerOf_b70 M3 l2 l3 l4 v4 v6
theorem powerOf_eq (M : MW) (l1 l2 l3 l4 : Int32) : fX10_powerOf M l1 l2 l3 l4 = (fX10_namesOf M l1 l2 l3 l4).bind fun M1 => pwM M1 l1 l2 l3 l4 := rfl
theorem e_pt {X : XW} {M : MW} {H : Nat → Prop} {nb i b c h p d : Nat} (E : ESim X M H) (k : kAt X M nb i b) (hd : d ≤ 33) (hp : p ≤ 45) (hD : fX10_deepAt M (nI c) (nI h) = some (nI d)) (hn : ∀ q, q < 6 → X.2.1 11 q = M.2 95 q) (h2 : X.2.1 11 2 = nI d) (h3 : X.2.1 11 3 = nI p) : ∃ v X' M', fX7_powerTold X nb b = some (v, X') ∧ pwM M (nI i) (nI c) (nI h) (nI p) = some (v, M') ∧ eX X X' ∧ eM M M' := by
  obtain ⟨v, X', M', f1, f2, f3, f4, f5, -⟩ := ev_says (p := 1) E.2.1 (by omega) hn
  have f1 : fX7_says X 1 = some (v, X') := f1
  have f2 : fX10_worth M 1 = some (v, M') := f2
  obtain ⟨hi, hN1, hN2, k0, -, -, k3⟩ := k
  have r2 : rd (X'.2.1 11) 6 2 = some (nI d) := by
    rw [show rd (X'.2.1 11) 6 2 = some (X'.2.1 11 2) from if_pos (by decide), f5, h2]
  have r3 : rd (X'.2.1 11) 6 3 = some (nI p) := by
    rw [show rd (X'.2.1 11) 6 3 = some (X'.2.1 11 3) from if_pos (by decide), f5, h3]
  have m3 : (3 : Int32) * nI d = nI (3 * d) := pk_mul 3 d
  have finX : ∀ t : Int32, ((rd (X'.2.1 11) 6 (2 : Int32)).bind fun v7 => bd ((3 : Int32) * v7) fun v9 => if v9 ≤ 0 then some (t, X') else (rd (X'.2.1 11) 6 (3 : Int32)).bind fun v11 => if v9 ≤ v11 then some (t, X') else (rd (X'.2.1 11) 6 (3 : Int32)).bind fun v13 => if v9 = 0 then none else some (((t * v13) / v9), X')) = some (if 3 * d ≤ p then t else t * nI p / nI (3 * d), X') := by
    intro t
    rw [r2, Option.bind_some, bd, m3, r3, Option.bind_some, Option.bind_some]
    by_cases c1 : 3 * d ≤ p
    · rw [if_pos c1]
      by_cases c2 : nI (3 * d) ≤ 0
      · rw [if_pos c2]
      · rw [if_neg c2, if_pos (nI_le c1 (by omega))]
    · rw [if_neg c1, if_neg (nI_nle (by omega) (by omega)), if_neg (nI_ge (by omega) (by omega)), if_neg (nI_ne0 (by omega) (by omega))]
  have finM : ∀ t : Int32, fX10_powerOf_b85 M' (nI c) (nI h) (nI p) t = some (if 3 * d ≤ p then t else t * nI p / nI (3 * d), M') := by
    intro t
    unfold fX10_powerOf_b85
    rw [deep_c f4, hD, Option.bind_some, bd, m3]
    by_cases c1 : 3 * d ≤ p
    · rw [if_pos c1, if_pos (nI_le c1 (by omega))]
    · rw [if_neg c1, if_neg (nI_ge (by omega) (by omega)), if_neg (nI_ne0 (by omega) (by omega))]
  have g73 : rd (M'.2 73) 6 (nI i) = some (M.2 73 i) := by
    rw [rd_in (in_nI hi (by omega)), cl_nI (show i < 2 ^ 31 by omega), f4.2 73 (by decide) (by decide)]
  have g76 : rd (M'.2 76) 6 (nI i) = some (M.2 76 i) := by
    rw [rd_in (in_nI hi (by omega)), cl_nI (show i < 2 ^ 31 by omega), f4.2 76 (by decide) (by decide)]
  have hX : ∀ t, fX1_gripOf X' nb b v = some t → fX7_powerTold X nb b = some (if 3 * d ≤ p then t else t * nI p / nI (3 * d), X') := by
    intro t ht
    unfold fX7_powerTold
    rw [f1, bd2_s, if_pos ⟨hN1, hN2⟩, ht, Option.bind_some]
    exact finX t
  have hG : fX1_gripOf X' nb b v = (if M.2 73 i = (1 : Int32) then some (((3 : Int32) * v) / (2 : Int32)) else if M.2 73 i = (2 : Int32) then some v else if M.2 73 i = (3 : Int32) then some (v / (4 : Int32)) else if M.2 73 i = (4 : Int32) then some (((3 : Int32) * v) / (2 : Int32)) else if M.2 73 i = (5 : Int32) then some ((((3 : Int32) * v) / (2 : Int32)) + ((10 : Int32) * M.2 76 i)) else some v) := by
    unfold fX1_gripOf
    rw [if_pos ⟨hN1, hN2⟩, f3.1, k0, k3]
    rfl
  have hMM : ∀ t, (if M.2 73 i = (1 : Int32) then fX10_powerOf_b42 M' (nI i) (nI c) (nI h) (nI p) v (M.2 73 i) else if M.2 73 i = (4 : Int32) then fX10_powerOf_b42 M' (nI i) (nI c) (nI h) (nI p) v (M.2 73 i) else if M.2 73 i = (5 : Int32) then fX10_powerOf_b42 M' (nI i) (nI c) (nI h) (nI p) v (M.2 73 i) else fX10_powerOf_b70 M' (nI c) (nI h) (nI p) v (M.2 73 i)) = fX10_powerOf_b85 M' (nI c) (nI h) (nI p) t → pwM M (nI i) (nI c) (nI h) (nI p) = some (if 3 * d ≤ p then t else t * nI p / nI (3 * d), M') := by
    intro t ht
    unfold pwM
    rw [f2, bd2_s, g73, Option.bind_some, ht, finM]
  have fin : ∀ t, fX1_gripOf X' nb b v = some t → (if M.2 73 i = (1 : Int32) then fX10_powerOf_b42 M' (nI i) (nI c) (nI h) (nI p) v (M.2 73 i) else if M.2 73 i = (4 : Int32) then fX10_powerOf_b42 M' (nI i) (nI c) (nI h) (nI p) v (M.2 73 i) else if M.2 73 i = (5 : Int32) then fX10_powerOf_b42 M' (nI i) (nI c) (nI h) (nI p) v (M.2 73 i) else fX10_powerOf_b70 M' (nI c) (nI h) (nI p) v (M.2 73 i)) = fX10_powerOf_b85 M' (nI c) (nI h) (nI p) t → ∃ v X' M', fX7_powerTold X nb b = some (v, X') ∧ pwM M (nI i) (nI c) (nI h) (nI p) = some (v, M') ∧ eX X X' ∧ eM M M' := fun t a1 a2 => ⟨_, X', M', hX t a1, hMM t a2, f3, f4⟩
  dsimp only [fX10_powerOf_b42, fX10_powerOf_b67, fX10_powerOf_b70, bd] at fin
  rw [hG, g76] at fin
  by_cases q1 : M.2 73 i = 1
  · refine fin _ (if_pos q1) ?_
    rw [if_pos q1, q1, if_neg (by decide), if_neg (by decide), Int32.add_zero]
  by_cases q2 : M.2 73 i = 2
  · refine fin _ ((if_neg q1).trans (if_pos q2)) ?_
    rw [q2, if_neg (by decide), if_neg (by decide), if_neg (by decide), if_neg (by decide)]
  by_cases q3 : M.2 73 i = 3
  · refine fin _ ((if_neg q1).trans ((if_neg q2).trans (if_pos q3))) ?_
    rw [q3, if_neg (by decide), if_neg (by decide), if_neg (by decide), if_pos rfl]
  by_cases q4 : M.2 73 i = 4
  · refine fin _ ((if_neg q1).trans ((if_neg q2).trans ((if_neg q3).trans (if_pos q4)))) ?_
    rw [q4, if_neg (by decide), if_pos rfl, if_neg (by decide), if_neg (by decide), Int32.add_zero]
  by_cases q5 : M.2 73 i = 5
  · refine fin _ ((if_neg q1).trans ((if_neg q2).trans ((if_neg q3).trans ((if_neg q4).trans (if_pos q5))))) ?_
    rw [q5, if_neg (by decide), if_neg (by decide), if_pos rfl, if_pos rfl, Option.bind_some, if_neg (by decide)]
  · refine fin _ ((if_neg q1).trans ((if_neg q2).trans ((if_neg q3).trans ((if_neg q4).trans (if_neg q5))))) ?_
    rw [if_neg q1, if_neg q4, if_neg q5, if_neg q3]
/-- pull -/
theorem e_pull {X : XW} {M : MW} {H : Nat → Prop} {nb i b c h : Nat} {p : Int32} (E : ESim X M H) (k : kAt X M nb i b) (hc : c < 100) (hh : h < 12) (hH : H h) : ∃ v X' M', fX7_pullOn X nb b (nI c) p (nI h) = some (v, X') ∧ fX10_pullOf M (nI i) (nI c) (nI h) p = some (v, M') ∧ eX X X' ∧ eM M M' := by
  obtain ⟨w, d, hd, hw, hD, ht⟩ := tell_ok p E k hc hh hH
  have hn := namesOf_ok (p := p) k.1 hc hw hD
  have aX := nmX_e X w (M.2 74 i) (nI d) p (M.2 67 c) (M.2 75 i)
  have aM := nmM_e M w (M.2 74 i) (nI d) p (M.2 67 c) (M.2 75 i)
  obtain ⟨v, X', M', f1, f2, f3, f4, -⟩ := ev_says (p := 0) (E.c aX aM).2.1 (by omega) (nm_eq X M _ _ _ _ _ _)
  have f1 : fX7_says _ 0 = some (v, X') := f1
  have f2 : fX10_worth _ 0 = some (v, M') := f2
  refine ⟨v, X', M', ?_, ?_, aX.tr f3, aM.tr f4⟩
  · unfold fX7_pullOn
    rw [ht, Option.bind_some, f1, bd2_s]
  · unfold fX10_pullOf
    rw [hn, Option.bind_some, f2, bd2_s]
/-- jerk, at most 100 -/
theorem e_jerk {X : XW} {M : MW} {H : Nat → Prop} {nb i b c h : Nat} {p : Int32} (E : ESim X M H) (k : kAt X M nb i b) (hc : c < 100) (hh : h < 12) (hH : H h) : ∃ v X' M0 M', fX7_jerkOn X nb b (nI c) p (nI h) = some (v, X') ∧ fX10_namesOf M (nI i) (nI c) (nI h) p = some M0 ∧ fX10_worth M0 2 = some (v, M') ∧ eX X X' ∧ eM M M' := by
  obtain ⟨w, d, hd, hw, hD, ht⟩ := tell_ok p E k hc hh hH
  have hn := namesOf_ok (p := p) k.1 hc hw hD
  have aX := nmX_e X w (M.2 74 i) (nI d) p (M.2 67 c) (M.2 75 i)
  have aM := nmM_e M w (M.2 74 i) (nI d) p (M.2 67 c) (M.2 75 i)
  obtain ⟨v, X', M', f1, f2, f3, f4, -⟩ := ev_says (p := 2) (E.c aX aM).2.1 (by omega) (nm_eq X M _ _ _ _ _ _)
  have f1 : fX7_says _ 2 = some (v, X') := f1
  have f2 : fX10_worth _ 2 = some (v, M') := f2
  refine ⟨v, X', _, M', ?_, hn, f2, aX.tr f3, aM.tr f4⟩
  unfold fX7_jerkOn
  rw [ht, Option.bind_some, f1, bd2_s]
/-- power -/
theorem e_power {X : XW} {M : MW} {H : Nat → Prop} {nb i b c h p : Nat} (E : ESim X M H) (k : kAt X M nb i b) (hc : c < 100) (hh : h < 12) (hH : H h) (hp : p ≤ 45) : ∃ v X' M', fX7_powerOf X nb b (nI c) (nI p) (nI h) = some (v, X') ∧ fX10_powerOf M (nI i) (nI c) (nI h) (nI p) = some (v, M') ∧ eX X X' ∧ eM M M' := by
  obtain ⟨w, d, hd, hw, hD, ht⟩ := tell_ok (nI p) E k hc hh hH
  have hn := namesOf_ok (p := nI p) k.1 hc hw hD
  have aX := nmX_e X w (M.2 74 i) (nI d) (nI p) (M.2 67 c) (M.2 75 i)
  have aM := nmM_e M w (M.2 74 i) (nI d) (nI p) (M.2 67 c) (M.2 75 i)
  obtain ⟨-, -, n2, n3, -⟩ := nm_X X w (M.2 74 i) (nI d) (nI p) (M.2 67 c) (M.2 75 i)
  obtain ⟨v, X', M', f1, f2, f3, f4⟩ := e_pt (E.c aX aM) (k.c aX aM) hd hp ((deep_c aM _ _).trans hD) (nm_eq X M _ _ _ _ _ _) n2 n3
  refine ⟨v, X', M', ?_, ?_, aX.tr f3, aM.tr f4⟩
  · unfold fX7_powerOf
    rw [ht, Option.bind_some, f1, bd2_s]
  · rw [powerOf_eq, hn, Option.bind_some, f2]
/-- who goes on -/
theorem e_goes {X : XW} {M : MW} {H : Nat → Prop} {nb i b c h p : Nat} (less more : Int32) (E : ESim X M H) (k : kAt X M nb i b) (hc : c < 100) (hh : h < 12) (hH : H h) (hp : p ≤ 45) : ∃ v X' M', (v = 0 ∨ v = 1) ∧ fX7_goesOn X nb b (nI c) (nI p) (nI h) less more = some (v, X') ∧ fX10_drags M (nI i) (nI c) (nI h) (nI p) less more = some (v, M') ∧ eX X X' ∧ eM M M' := by
  obtain ⟨t, t1, t2⟩ := g_turn E.1 hh
  have hN : NS ≤ b ∧ b < TT nb := ⟨k.2.1, k.2.2.1⟩
  have hi6 := k.1
  have g73 : rd (M.2 73) 6 (nI i) = some (M.2 73 i) := by rw [rd_in (in_nI k.1 (by omega)), cl_nI (show i < 2 ^ 31 by have := k.1; omega)]
  have g76 : rd (M.2 76) 6 (nI i) = some (M.2 76 i) := by rw [rd_in (in_nI k.1 (by omega)), cl_nI (show i < 2 ^ 31 by have := k.1; omega)]
  have k0 := k.2.2.2.1
  have k3 := k.2.2.2.2.2.2
  dsimp only [fX7_goesOn, fX10_drags, fX1_breaksOutAt, fX1_dragsIn]
  rw [t1, Option.bind_some, if_pos hN, if_pos hN, if_pos hN, k0, k3, g73, Option.bind_some]
  have main : ∃ v X' M', (v = 0 ∨ v = 1) ∧ ((fX7_tell X nb b (nI c) (nI p) (nI h)).bind fun X8 => bd2 (fX7_says X8 (0 : Int32)) fun v11 X10 => bd2 (fX7_powerTold X10 nb b) fun v14 X13 => if (v11 - less) ≤ (v14 + more) then some ((0 : Int32), X13) else some ((1 : Int32), X13)) = some (v, X') ∧ fX10_drags_b43 M (nI i) (nI c) (nI h) (nI p) less more = some (v, M') ∧ eX X X' ∧ eM M M' := by
    obtain ⟨w, d, hd, hw, hD, ht⟩ := tell_ok (nI p) E k hc hh hH
    have hn := namesOf_ok (p := nI p) k.1 hc hw hD
    have aX := nmX_e X w (M.2 74 i) (nI d) (nI p) (M.2 67 c) (M.2 75 i)
    have aM := nmM_e M w (M.2 74 i) (nI d) (nI p) (M.2 67 c) (M.2 75 i)
    obtain ⟨-, -, n2, n3, -⟩ := nm_X X w (M.2 74 i) (nI d) (nI p) (M.2 67 c) (M.2 75 i)
    obtain ⟨v, X1, M1, f1, f2, f3, f4, f5, -⟩ := ev_says (p := 0) (E.c aX aM).2.1 (by omega) (nm_eq X M _ _ _ _ _ _)
    have f1 : fX7_says _ 0 = some (v, X1) := f1
    have f2 : fX10_worth _ 0 = some (v, M1) := f2
    have bX := aX.tr f3
    have bM := aM.tr f4
    have hn2 := namesOf_ok (M := M1) (p := nI p) (i := i) k.1 hc ((wind_c bM _).trans hw) ((deep_c bM _ _).trans hD)
    rw [bM.2 74 (by decide) (by decide), bM.2 67 (by decide) (by decide), bM.2 75 (by decide) (by decide)] at hn2
    have cM := nmM_e M1 w (M.2 74 i) (nI d) (nI p) (M.2 67 c) (M.2 75 i)
    obtain ⟨v', X2, M2, g1, g2, g3, g4⟩ := e_pt (E.c bX (bM.tr cM)) (k.c bX (bM.tr cM)) hd hp ((deep_c (bM.tr cM) _ _).trans hD) (fun q hq => by rw [f5]; exact nm_eq X M1 _ _ _ _ _ _ q hq) (by rw [f5]; exact n2) (by rw [f5]; exact n3)
    have hM : fX10_drags_b43 M (nI i) (nI c) (nI h) (nI p) less more = if (v - less) ≤ (v' + more) then some ((0 : Int32), M2) else some ((1 : Int32), M2) := by
      unfold fX10_drags_b43 fX10_pullOf
      rw [hn, Option.bind_some, f2, bd2_s, bd2_s, powerOf_eq, hn2, Option.bind_some, g2, bd2_s]
    rw [ht, Option.bind_some, f1, bd2_s, g1, bd2_s, hM]
    by_cases q : (v - less) ≤ (v' + more)
    · rw [if_pos q, if_pos q]; exact ⟨0, X2, M2, Or.inl rfl, rfl, rfl, bX.tr g3, (bM.tr cM).tr g4⟩
    · rw [if_neg q, if_neg q]; exact ⟨1, X2, M2, Or.inr rfl, rfl, rfl, bX.tr g3, (bM.tr cM).tr g4⟩
  have two : ∃ v X' M', (v = 0 ∨ v = 1) ∧ ((if M.2 73 i = 2 then if jrem (nI h) 2 = 1 then some (1 : Int32) else some 0 else some 1).bind fun v6 => if v6 = 0 then some ((0 : Int32), X) else (fX7_tell X nb b (nI c) (nI p) (nI h)).bind fun X8 => bd2 (fX7_says X8 (0 : Int32)) fun v11 X10 => bd2 (fX7_powerTold X10 nb b) fun v14 X13 => if (v11 - less) ≤ (v14 + more) then some ((0 : Int32), X13) else some ((1 : Int32), X13)) = some (v, X') ∧ fX10_drags_b26 M (nI i) (nI c) (nI h) (nI p) less more = some (v, M') ∧ eX X X' ∧ eM M M' := by
    unfold fX10_drags_b26
    rw [g73, Option.bind_some]
    by_cases q2 : M.2 73 i = 2
    · rw [if_pos q2, if_pos q2]
      by_cases q3 : jrem (nI h) 2 = 1
      · rw [if_pos q3, if_pos q3, Option.bind_some, if_neg n10]; exact main
      · rw [if_neg q3, if_neg q3, Option.bind_some, if_pos rfl]; exact ⟨0, X, M, Or.inl rfl, rfl, rfl, eX.rf X, eM.rf M⟩
    · rw [if_neg q2, if_neg q2, Option.bind_some, if_neg n10]; exact main
  by_cases q4 : M.2 73 i = 4
  · rw [if_pos q4, if_pos q4, t2, Option.bind_some, g76, Option.bind_some]
    by_cases q5 : t ≤ M.2 76 i
    · rw [if_pos q5, if_pos q5, Option.bind_some, if_pos rfl]; exact two
    · rw [if_neg q5, if_neg q5, Option.bind_some, if_neg n10]; exact ⟨1, X, M, Or.inr rfl, rfl, rfl, eX.rf X, eM.rf M⟩
  · rw [if_neg q4, if_neg q4, Option.bind_some, if_pos rfl]; exact two

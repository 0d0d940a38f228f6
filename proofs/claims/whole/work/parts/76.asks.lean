/-! asks, hold, two, angle, turns -/
theorem p_asks {X : XW} {M : MW} {nb : Nat} (h : Sim X M nb) (a b c d : Int32) : R2 nb (fX9_asks X a b c d) (fX10_asks M a b c d) := by
  dsimp only [fX9_asks, fX10_asks, bd]
  rw [in_eq]
  by_cases c1 : fX9_within a 0 2 = 0
  · rw [if_pos c1, if_pos c1]; exact R2.mk h
  rw [if_neg c1, if_neg c1]
  by_cases c2 : fX9_within b 0 9999 = 0
  · rw [if_pos c2, if_pos c2]; exact R2.mk h
  rw [if_neg c2, if_neg c2]
  by_cases c3 : fX9_within c 0 9999 = 0
  · rw [if_pos c3, if_pos c3]; exact R2.mk h
  rw [if_neg c3, if_neg c3]
  by_cases c4 : fX9_within d 0 39 = 0
  · rw [if_pos c4, if_pos c4]; exact R2.mk h
  rw [if_neg c4, if_neg c4, if_pos (show inb (0 : Int32) 6 by decide), if_pos (show inb (1 : Int32) 6 by decide), if_pos (show inb (2 : Int32) 6 by decide), if_pos (show inb (3 : Int32) 6 by decide), if_pos (show inb (4 : Int32) 6 by decide), if_pos (show inb (5 : Int32) 6 by decide), names_ok, Option.bind_some]
  have w := wi_ne c1
  have e0 : (0 : Int32).toInt = 0 := rfl
  have e2 : (2 : Int32).toInt = 2 := rfl
  rw [e0] at w
  obtain ⟨p, rfl, -, hp⟩ := nn_ge w.1
  have aX := nmX_e X (b / 100) (jrem b 100) (c / 100) (jrem c 100) (d / 10) (jrem d 10)
  have aM := nmM_e M (b / 100) (jrem b 100) (c / 100) (jrem c 100) (d / 10) (jrem d 10)
  obtain ⟨v, X', M', f1, f2, f3, f4, -⟩ := ev_says (p := p) (h.es.c aX aM).2.1 (by omega) (nm_eq X M _ _ _ _ _ _)
  have f1' : fX7_says (xA (xA (xA (xA (xA (xA X 11 0 (b / 100)) 11 1 (jrem b 100)) 11 2 (c / 100)) 11 3 (jrem c 100)) 11 4 (d / 10)) 11 5 (jrem d 10)) (nI p) = some (v, X') := f1
  rw [f1', bd2_s, f2, bd2_s]
  exact R2.mk (h.n (aX.tr f3).n (aM.tr f4).n)
theorem p_hold {X : XW} {M : MW} {nb : Nat} (h : Sim X M nb) (a l w : Int32) : R2 nb (fX9_hold X nb a l w) (fX10_hold M a l w) := by
  dsimp only [fX9_hold, fX10_hold, fX9_hold_b29, fX9_hold_b30, bd]
  rw [isHour_eq, in_eq]
  rcases boat_of h a with ⟨c1, c2⟩ | ⟨c1, i, b, rfl, hi, hi8, hb, c2⟩
  · rw [c2, if_pos c1, Option.bind_some]
    simp only [ref_none, Option.bind_some]
    dsimp only [oc]
    rw [ite_self, ite_self]
    exact R2.mk h
  rw [c2, if_neg c1, Option.bind_some, ref_no, ref_ok hb n10, Option.bind_some, Option.bind_some]
  dsimp only [oc]
  by_cases c3 : fX9_isHour l = 0
  · rw [if_pos c3, if_pos c3, if_neg (by decide)]; exact R2.mk h
  rw [if_neg c3, if_neg c3]
  by_cases c4 : fX9_within w 0 3 = 0
  · rw [if_pos c4, if_pos c4, if_neg (by decide)]; exact R2.mk h
  rw [if_neg c4, if_neg c4]
  have it : inb (nI i) 6 := in_nI hi (by omega)
  have hcl : (nI i).toNatClampNeg = i := cl_nI (by omega)
  rw [rd_in it, hcl, Option.bind_some]
  by_cases c5 : M.2 77 i = -1
  · rw [if_pos c5, if_pos c5, if_neg (by decide)]; exact R2.mk h
  obtain ⟨gc, p, hp1, hp40, hpp⟩ := g_cell h hi8
  obtain ⟨c, hc, hcc⟩ := gc.resolve_left c5
  obtain ⟨k, hk, rfl, -⟩ := nn_in (hour_in c3)
  have kt := hb.k hi
  have hNb : NS ≤ b ∧ b < TT nb := ⟨hb.2.1, hb.2.2.1⟩
  obtain ⟨d, r, hd, hr, q1, q2, q3⟩ := g_far h.1 hc hk hp40
  obtain ⟨d', hd', q1', q4⟩ := g_deep h.1 hc hk
  have hdd : nI d' = nI d := Option.some.inj (q1'.symm.trans q1)
  rw [hdd] at q4
  rw [if_neg c5, if_neg c5, if_pos rfl, if_pos hNb, hb.2.2.2.2.2.2.2.1, hb.2.2.2.2.2.2.2.2, hcc, hpp, q1, Option.bind_some]
  have e0 : (0 : Int32).toInt = 0 := rfl
  have e1 : (1 : Int32).toInt = 1 := rfl
  have e2 : (2 : Int32).toInt = 2 := rfl
  have e3 : (3 : Int32).toInt = 3 := rfl
  have hw := wi_ne c4
  rw [e0, e3] at hw
  by_cases w0 : w = 0
  · subst w0
    obtain ⟨v, X', M', f1, f2, f3, f4⟩ := e_pull (p := nI p) h.es kt hc hk trivial
    rw [if_pos rfl, f1, bd2_s, if_neg (show ¬ (2 : Int32) ≤ 0 by decide), if_pos rfl, rd_in it, hcl, hpp, Option.bind_some, f2, bd2_s]
    exact R2.mk (h.n f3.n f4.n)
  rw [if_neg w0]
  by_cases w1 : w = 1
  · subst w1
    obtain ⟨v, X', M', f1, f2, f3, f4⟩ := e_power (p := p) h.es kt hc hk trivial (by omega)
    rw [if_pos rfl, f1, bd2_s, if_neg (show ¬ (2 : Int32) ≤ 1 by decide), if_neg n10, rd_in it, hcl, hpp, Option.bind_some, f2, bd2_s]
    exact R2.mk (h.n f3.n f4.n)
  have w2' : (2 : Int32) ≤ w := by rw [i_le, e2]; rw [i_eq, e0] at w0; rw [i_eq, e1] at w1; omega
  rw [if_neg w1, if_pos w2', rd_in it, hcl, hpp]
  by_cases w2 : w = 2
  · rw [if_pos w2, if_pos w2, q2, Option.bind_some, Option.bind_some, q3, Option.bind_some]; exact R2.mk h
  rw [if_neg w2, if_neg w2, q4, Option.bind_some, Option.bind_some, Option.bind_some, show (3 : Int32) * nI d = nI (3 * d) from pk_mul 3 d, show (100 : Int32) * nI p = nI (100 * p) from pk_mul 100 p]
  by_cases d0 : d = 0
  · subst d0
    rw [if_neg (show ¬ (0 : Int32) < nI 0 by decide), if_pos (show nI (3 * 0) = 0 from rfl)]; exact R2.mk h
  have hd3 : ¬ nI (3 * d) = 0 := nI_ne0 (by omega) (by omega)
  rw [if_pos (show (0 : Int32) < nI d from nI_lt (a := 0) (by omega) (by omega)), if_neg hd3, if_neg hd3, if_neg hd3, pk_div (by omega) (by omega) (by omega), show (100 : Int32) = nI 100 from rfl, jmin_nI (by omega) (by have := Nat.div_le_self (100 * p) (3 * d); omega)]
  by_cases z : p < 3 * d
  · rw [if_pos (nI_lt z (by omega)), Nat.min_eq_right]
    · exact R2.mk h
    · have : 100 * p / (3 * d) < 100 + 1 := by
        rw [Nat.div_lt_iff_lt_mul (by omega)]
        have : 100 * p < 100 * (3 * d) := by omega
        omega
      omega
  · rw [if_neg (nI_nlt (by omega) (by omega)), Nat.min_eq_left]
    · exact R2.mk h
    · rw [Nat.le_div_iff_mul_le (by omega)]
      omega
/-- two anchors -/
theorem stF4 {w : Nat} (hw : w < 4) : stF 4 w = if nI w = 0 then 50 else if nI w = 1 then 54 else if nI w = 2 then 71 else 131 := by
  have : w = 0 ∨ w = 1 ∨ w = 2 ∨ w = 3 := by omega
  rcases this with rfl | rfl | rfl | rfl <;> decide
theorem e_borne {X : XW} {M : MW} {H : Nat → Prop} {nb i b c h p w : Nat} (E : ESim X M H) (k : kAt X M nb i b) (hc : c < 100) (hh : h < 12) (hH : H h) (hw : w < 4) (b4 : X.1 b 4 = nI c) (b5 : X.1 b 5 = nI p) (m4 : M.2 77 i = nI c) (m5 : M.2 78 i = nI p) : ∃ v X' M', fX9_borneByEach X nb b (nI h) (nI w) = some (v, X') ∧ fX10_bearsOf M (nI i) (nI h) (nI w) = some (v, M') ∧ eX X X' ∧ eM M M' := by
  obtain ⟨v, X', M', f1, f2, f3, f4⟩ := e_pull (p := nI p) E k hc hh hH
  have it : inb (nI i) 6 := in_nI k.1 (by have := k.1; omega)
  have hcl : (nI i).toNatClampNeg = i := cl_nI (by have := k.1; omega)
  have g : ∀ t : Int32, fX10_bearsOf_b32 M (nI i) (nI h) t = some ((v * t) / 100, M') := by
    intro t
    unfold fX10_bearsOf_b32
    rw [rd_in it, rd_in it, hcl, m4, m5, Option.bind_some, Option.bind_some, f2, bd2_s]
  refine ⟨(v * stF 4 w) / 100, X', M', ?_, ?_, f3, f4⟩
  · unfold fX9_borneByEach
    rw [if_pos ⟨k.2.1, k.2.2.1⟩, b4, b5, f1, bd2_s, rd_in (in_nI hw (by omega)), cl_nI (show w < 2 ^ 31 by omega), Option.bind_some]
  · unfold fX10_bearsOf
    rw [g, g, g, g, stF4 hw]
    by_cases q0 : nI w = 0
    · rw [if_pos q0, if_pos q0]
    rw [if_neg q0, if_neg q0]
    by_cases q1 : nI w = 1
    · rw [if_pos q1, if_pos q1]
    rw [if_neg q1, if_neg q1]
    by_cases q2 : nI w = 2
    · rw [if_pos q2, if_pos q2]
    · rw [if_neg q2, if_neg q2]
theorem e_two {X : XW} {M : MW} {H : Nat → Prop} {nb i b c h p w : Nat} (E : ESim X M H) (k : kAt X M nb i b) (hc : c < 100) (hh : h < 12) (hH : H h) (hp : p ≤ 45) (hw : w < 4) (b4 : X.1 b 4 = nI c) (b5 : X.1 b 5 = nI p) (m4 : M.2 77 i = nI c) (m5 : M.2 78 i = nI p) : ∃ v X' M', (v = 0 ∨ v = 1) ∧ fX9_twoHold X nb b (nI h) (nI w) = some (v, X') ∧ fX10_bears M (nI i) (nI h) (nI w) = some (v, M') ∧ eX X X' ∧ eM M M' := by
  obtain ⟨v, X1, M1, f1, f2, f3, f4⟩ := e_borne E k hc hh hH hw b4 b5 m4 m5
  obtain ⟨u, X2, M2, g1, g2, g3, g4⟩ := e_power (p := p) (E.c f3 f4) (k.c f3 f4) hc hh hH hp
  have it : inb (nI i) 6 := in_nI k.1 (by have := k.1; omega)
  have hcl : (nI i).toNatClampNeg = i := cl_nI (by have := k.1; omega)
  unfold fX9_twoHold fX10_bears
  rw [f1, bd2_s, if_pos ⟨k.2.1, k.2.2.1⟩, f3.1, b4, b5, g1, bd2_s, f2, bd2_s, rd_in it, rd_in it, hcl, f4.2 77 (by decide) (by decide), f4.2 78 (by decide) (by decide), m4, m5, Option.bind_some, Option.bind_some, g2, bd2_s]
  by_cases q : u < v
  · rw [if_pos q, if_pos q]; exact ⟨0, X2, M2, Or.inl rfl, rfl, rfl, f3.tr g3, f4.tr g4⟩
  · rw [if_neg q, if_neg q]; exact ⟨1, X2, M2, Or.inr rfl, rfl, rfl, f3.tr g3, f4.tr g4⟩
theorem p_two {X : XW} {M : MW} {nb : Nat} (h : Sim X M nb) (a l u w : Int32) : R2 nb (fX9_two X nb a l u w) (fX10_two_ M a l u w) := by
  dsimp only [fX9_two, fX10_two_, fX9_two_b39, fX9_two_b40]
  rw [isHour_eq, in_eq]
  rcases boat_of h a with ⟨c1, c2⟩ | ⟨c1, i, b, rfl, hi, hi8, hb, c2⟩
  · rw [c2, if_pos c1, Option.bind_some]
    simp only [ref_none, Option.bind_some]
    dsimp only [oc]
    rw [ite_self, ite_self, ite_self]
    exact R2.mk h
  rw [c2, if_neg c1, Option.bind_some, ref_no, ref_ok hb n10, Option.bind_some, Option.bind_some]
  dsimp only [oc]
  by_cases c3 : fX9_isHour l = 0
  · rw [if_pos c3, if_pos c3, if_neg (by decide)]; exact R2.mk h
  rw [if_neg c3, if_neg c3]
  by_cases c4 : fX9_within u 0 3 = 0
  · rw [if_pos c4, if_pos c4, if_neg (by decide)]; exact R2.mk h
  rw [if_neg c4, if_neg c4]
  by_cases c6 : fX9_within w 0 1 = 0
  · rw [if_pos c6, if_pos c6, if_neg (by decide)]; exact R2.mk h
  rw [if_neg c6, if_neg c6]
  have it : inb (nI i) 6 := in_nI hi (by omega)
  have hcl : (nI i).toNatClampNeg = i := cl_nI (by omega)
  rw [rd_in it, hcl, Option.bind_some]
  by_cases c5 : M.2 77 i = -1
  · rw [if_pos c5, if_pos c5, if_neg (by decide)]; exact R2.mk h
  rw [if_neg c5, if_neg c5, if_pos rfl]
  obtain ⟨gc, p, hp1, hp40, hpp⟩ := g_cell h hi8
  obtain ⟨c, hc, hcc⟩ := gc.resolve_left c5
  obtain ⟨k, hk, rfl, -⟩ := nn_in (hour_in c3)
  have hu := wi_ne c4
  have e0 : (0 : Int32).toInt = 0 := rfl
  have e3 : (3 : Int32).toInt = 3 := rfl
  rw [e0, e3] at hu
  obtain ⟨x, rfl, -, hx⟩ := nn_ge hu.1
  have b4 : X.1 b 4 = nI c := hb.2.2.2.2.2.2.2.1.trans hcc
  have b5 : X.1 b 5 = nI p := hb.2.2.2.2.2.2.2.2.trans hpp
  by_cases w0 : w = 0
  · obtain ⟨v, X', M', f1, f2, f3, f4⟩ := e_borne (w := x) h.es (hb.k hi) hc hk trivial (by omega) b4 b5 hcc hpp
    rw [if_pos w0, if_pos w0, f1, bd2_s, f2, bd2_s]
    exact R2.mk (h.n f3.n f4.n)
  · obtain ⟨v, X', M', -, f1, f2, f3, f4⟩ := e_two (w := x) h.es (hb.k hi) hc hk trivial (by omega) (by omega) b4 b5 hcc hpp
    rw [if_neg w0, if_neg w0, f1, bd2_s, f2, bd2_s]
    by_cases v0 : v = 0
    · rw [if_pos v0, if_pos v0]; exact R2.mk (h.n f3.n f4.n)
    · rw [if_neg v0, if_neg v0]; exact R2.mk (h.n f3.n f4.n)
/-- the greatest that is so -/
def angR (al : Nat → Prop) (k : Nat) (v : Int32) : Prop := (v = -1 ∧ ∀ w, w < k → ¬ al w) ∨ ∃ w, w < k ∧ v = nI w ∧ al w ∧ ∀ w', w < w' → w' < k → ¬ al w'
theorem angR.un {al : Nat → Prop} {k : Nat} {v u : Int32} (a : angR al k v) (b : angR al k u) : v = u := by
  rcases a with ⟨rfl, a⟩ | ⟨w, hw, rfl, a1, a2⟩
  · rcases b with ⟨rfl, b⟩ | ⟨s, hs, rfl, b1, b2⟩
    · rfl
    · exact absurd b1 (a s hs)
  · rcases b with ⟨rfl, b⟩ | ⟨s, hs, rfl, b1, b2⟩
    · exact absurd a1 (b w hw)
    · have : w = s := by
        by_cases q : w < s
        · exact absurd b1 (a2 s q hs)
        · by_cases q2 : s < w
          · exact absurd a1 (b2 w q2 hw)
          · omega
      rw [this]
def twX (X : XW) (nb b w h : Nat) : Int32 := ((fX9_twoHold X nb b (nI h) (nI w)).map Prod.fst).getD 0
theorem p_angle {X : XW} {M : MW} {nb : Nat} (h : Sim X M nb) (a l : Int32) : R2 nb (fX9_angle X nb a l) (fX10_angle M a l) := by
  unfold fX9_angle fX10_angle
  rw [night_eq h]
  rcases boat_of h a with ⟨c1, c2⟩ | ⟨c1, i, b, rfl, hi, hi8, hb, c2⟩
  · rw [c2, if_pos c1]; exact R2.mk h
  rw [c2, if_neg c1, Option.bind_some]
  by_cases c3 : fX9_isNight X l = 0
  · rw [if_pos c3, c3, ref_no, Option.bind_some]
    dsimp only [oc]
    rw [if_neg (by decide)]; exact R2.mk h
  rw [if_neg c3, ref_ok hb c3, Option.bind_some]
  dsimp only [oc]
  have it : inb (nI i) 6 := in_nI hi (by omega)
  have hcl : (nI i).toNatClampNeg = i := cl_nI (by omega)
  rw [rd_in it, hcl, Option.bind_some]
  by_cases c5 : M.2 77 i = -1
  · rw [if_pos c5, if_pos c5, if_neg (by decide)]; exact R2.mk h
  rw [if_neg c5, if_neg c5, if_pos rfl]
  obtain ⟨h0, h12, h7, h7x⟩ := g_now h
  obtain ⟨n, rfl, hn⟩ := night_in h h7 h12 c3
  obtain ⟨gc, p, hp1, hp40, hpp⟩ := g_cell h hi8
  obtain ⟨c, hc, hcc⟩ := gc.resolve_left c5
  have b4 : X.1 b 4 = nI c := hb.2.2.2.2.2.2.2.1.trans hcc
  have b5 : X.1 b 5 = nI p := hb.2.2.2.2.2.2.2.2.trans hpp
  have kt := hb.k hi
  have hX : ∀ (X1 : XW) (w u : Nat), eX X X1 → w < 4 → h0 + u < 12 → ∃ X2, fX9_twoHold X1 nb b (nI (h0 + u)) (nI w) = some (twX X nb b w (h0 + u), X2) ∧ eX X1 X2 := by
    intro X1 w u a1 hw hu
    obtain ⟨v, X2, M2, -, f1, f2, -⟩ := e_two (w := w) h.es kt hc hu trivial (show p ≤ 45 by omega) hw b4 b5 hcc hpp
    obtain ⟨v', X3, M3, -, g1, g2, g3, -⟩ := e_two (w := w) (h.es.c a1 (eM.rf M)) (kt.c a1 (eM.rf M)) hc hu trivial (show p ≤ 45 by omega) hw (by rw [a1.1]; exact b4) (by rw [a1.1]; exact b5) hcc hpp
    have hv : v' = v := congrArg Prod.fst (Option.some.inj (g2.symm.trans f2))
    refine ⟨X3, ?_, g3⟩
    rw [g1, hv]
    unfold twX
    rw [f1]
    rfl
  have hM : ∀ (M1 : MW) (w u : Nat), eM M M1 → w < 4 → h0 + u < 12 → ∃ M2, fX10_bears M1 (nI i) (nI (h0 + u)) (nI w) = some (twX X nb b w (h0 + u), M2) ∧ eM M1 M2 := by
    intro M1 w u a1 hw hu
    obtain ⟨v', X3, M3, -, g1, g2, -, g4⟩ := e_two (w := w) (h.es.c (eX.rf X) a1) (kt.c (eX.rf X) a1) hc hu trivial (show p ≤ 45 by omega) hw b4 b5 (by rw [a1.2 77 (by decide) (by decide)]; exact hcc) (by rw [a1.2 78 (by decide) (by decide)]; exact hpp)
    refine ⟨M3, ?_, g4⟩
    rw [g2]
    unfold twX
    rw [g1]
    rfl
  have allX : ∀ (w : Nat) (X0 : XW), w < 4 → eX X X0 → ∃ v X', fX9_twoHoldAll X0 nb b (nI n) (nI w) = some (v, X') ∧ eX X X' ∧ ((¬ v = 0 ∧ ∀ u, u < n → ¬ twX X nb b w (h0 + u) = 0) ∨ (v = 0 ∧ ¬ ∀ u, u < n → ¬ twX X nb b w (h0 + u) = 0)) := by
    intro w X0 hw a0
    have lo : ∀ (m t : Nat) (X1 : XW), n < m + t → t ≤ n → eX X X1 → (∀ u, u < t → ¬ twX X nb b w (h0 + u) = 0) → ∃ v X', lo2 (fX9_twoHoldAll_l6 nb b (nI n) (nI w)) m X1 (nI (h0 + t)) = some (v, X') ∧ eX X X' ∧ ((¬ v = 0 ∧ ∀ u, u < n → ¬ twX X nb b w (h0 + u) = 0) ∨ (v = 0 ∧ ¬ ∀ u, u < n → ¬ twX X nb b w (h0 + u) = 0)) := by
      intro m
      induction m with
      | zero => intro t X1 q1 q2; omega
      | succ m ih =>
        intro t X1 q1 q2 a1 hz
        show ∃ v X', fX9_twoHoldAll_l6 nb b (nI n) (nI w) (lo2 (fX9_twoHoldAll_l6 nb b (nI n) (nI w)) m) X1 (nI (h0 + t)) = some (v, X') ∧ _
        generalize hG : lo2 (fX9_twoHoldAll_l6 nb b (nI n) (nI w)) m = G at ih ⊢
        unfold fX9_twoHoldAll_l6
        rw [a1.1, h7x, nI_add, nI_1]
        by_cases ht : t = n
        · subst ht
          rw [if_pos (nI_le (Nat.le_refl _) (by omega))]
          exact ⟨1, X1, rfl, a1, Or.inl ⟨n10, hz⟩⟩
        obtain ⟨X2, f1, f2⟩ := hX X1 w t a1 hw (by omega)
        rw [if_neg (nI_ge (by omega) (by omega)), f1, bd2_s]
        by_cases q : twX X nb b w (h0 + t) = 0
        · rw [if_pos q]
          exact ⟨0, X2, rfl, a1.tr f2, Or.inr ⟨rfl, fun z => z t (by omega) q⟩⟩
        · rw [if_neg q]
          refine ih (t + 1) X2 (by omega) (by omega) (a1.tr f2) (fun u hu => ?_)
          by_cases e : u = t
          · rw [e]; exact q
          · exact hz u (by omega)
    unfold fX9_twoHoldAll
    rw [bd, a0.1, h7x]
    exact lo FU 0 X0 (by unfold FU; omega) (by omega) a0 (fun u hu => by omega)
  have loX : ∀ (m k : Nat) (X1 : XW), 5 < m + (5 - k) → k ≤ 4 → eX X X1 → (∀ w, k ≤ w → w < 4 → ¬ ∀ u, u < n → ¬ twX X nb b w (h0 + u) = 0) → ∃ v X', lo2 (fX9_angle_l32 nb (nI n) (some b)) m X1 (nI k + -1) = some (v, X') ∧ eX X X' ∧ angR (fun w => ∀ u, u < n → ¬ twX X nb b w (h0 + u) = 0) 4 v := by
    intro m
    induction m with
    | zero => intro k X1 q1 q2; omega
    | succ m ih =>
      intro k X1 q1 q2 a1 hz
      have hstep : lo2 (fX9_angle_l32 nb (nI n) (some b)) (m + 1) = fX9_angle_l32 nb (nI n) (some b) (lo2 (fX9_angle_l32 nb (nI n) (some b)) m) := rfl
      rw [hstep]
      generalize hG : lo2 (fX9_angle_l32 nb (nI n) (some b)) m = G at ih ⊢
      unfold fX9_angle_l32
      by_cases k0 : k = 0
      · subst k0
        rw [if_pos (show nI 0 + -1 < 0 by decide)]
        exact ⟨-1, X1, rfl, a1, Or.inl ⟨rfl, fun w hw => hz w (by omega) hw⟩⟩
      obtain ⟨j, rfl⟩ : ∃ j, k = j + 1 := ⟨k - 1, by omega⟩
      obtain ⟨v, X2, f1, f2, f3⟩ := allX j X1 (by omega) a1
      rw [pk_m1, if_neg (nI_pos (by omega)), Option.bind_some, f1, bd2_s]
      rcases f3 with ⟨v0, f3⟩ | ⟨v0, f3⟩
      · rw [if_neg v0]
        exact ⟨_, X2, rfl, f2, Or.inr ⟨j, by omega, rfl, f3, fun w' z1 z2 => hz w' (by omega) z2⟩⟩
      · rw [if_pos v0]
        refine ih j X2 (by omega) (by omega) f2 (fun w z1 z2 => ?_)
        by_cases e : w = j
        · rw [e]; exact f3
        · exact hz w (by omega) z2
  have inM : ∀ (K : MW → Int32 → Int32 → Option (Int32 × MW)) (w : Nat) (bs : Int32) (m t : Nat) (M1 : MW) (s : Int32), w < 4 → n < m + t → t ≤ n → eM M M1 → ((¬ s = 0 ∧ ∀ u, u < t → ¬ twX X nb b w (h0 + u) = 0) ∨ (s = 0 ∧ ¬ ∀ u, u < n → ¬ twX X nb b w (h0 + u) = 0)) → ∃ v M', lo3 (fX10_angle_l55 (nI i) (nI n) bs (nI w) K) m M1 s (nI (h0 + t)) = fX10_angle_b96 (nI i) (nI n) K M' bs (nI w) v ∧ eM M M' ∧ ((¬ v = 0 ∧ ∀ u, u < n → ¬ twX X nb b w (h0 + u) = 0) ∨ (v = 0 ∧ ¬ ∀ u, u < n → ¬ twX X nb b w (h0 + u) = 0)) := by
    intro K w bs m
    induction m with
    | zero => intro t M1 s hw q1 q2; omega
    | succ m ih =>
      intro t M1 s hw q1 q2 a1 hs
      show ∃ v M', fX10_angle_l55 (nI i) (nI n) bs (nI w) K (lo3 (fX10_angle_l55 (nI i) (nI n) bs (nI w) K) m) M1 s (nI (h0 + t)) = fX10_angle_b96 (nI i) (nI n) K M' bs (nI w) v ∧ _
      generalize hG : lo3 (fX10_angle_l55 (nI i) (nI n) bs (nI w) K) m = G at ih ⊢
      unfold fX10_angle_l55
      rw [a1.1, h7, nI_add, nI_1]
      by_cases ht : t = n
      · subst ht
        rw [if_pos (nI_le (Nat.le_refl _) (by omega))]
        exact ⟨s, M1, rfl, a1, hs⟩
      rw [if_neg (nI_ge (by omega) (by omega))]
      rcases hs with ⟨s0, hs⟩ | ⟨s0, hs⟩
      · obtain ⟨M2, f1, f2⟩ := hM M1 w t a1 hw (by omega)
        rw [if_neg s0, f1, bd2_s]
        by_cases q : twX X nb b w (h0 + t) = 0
        · rw [if_pos q]
          exact ih (t + 1) M2 0 hw (by omega) (by omega) (a1.tr f2) (Or.inr ⟨rfl, fun z => z t (by omega) q⟩)
        · rw [if_neg q]
          refine ih (t + 1) M2 1 hw (by omega) (by omega) (a1.tr f2) (Or.inl ⟨n10, fun u hu => ?_⟩)
          by_cases e : u = t
          · rw [e]; exact q
          · exact hs u (by omega)
      · rw [if_pos s0]
        exact ih (t + 1) M1 0 hw (by omega) (by omega) a1 (Or.inr ⟨rfl, hs⟩)
  have loM : ∀ (m k : Nat) (M1 : MW) (bs : Int32), 4 < m + k → k ≤ 4 → eM M M1 → angR (fun w => ∀ u, u < n → ¬ twX X nb b w (h0 + u) = 0) k bs → ∃ v M', lo3 (fX10_angle_l40 (nI i) (nI n)) m M1 bs (nI k) = some (v, M') ∧ eM M M' ∧ angR (fun w => ∀ u, u < n → ¬ twX X nb b w (h0 + u) = 0) 4 v := by
    intro m
    induction m with
    | zero => intro k M1 bs q1 q2; omega
    | succ m ih =>
      intro k M1 bs q1 q2 a1 hr
      show ∃ v M', fX10_angle_l40 (nI i) (nI n) (lo3 (fX10_angle_l40 (nI i) (nI n)) m) M1 bs (nI k) = some (v, M') ∧ _
      generalize hG : lo3 (fX10_angle_l40 (nI i) (nI n)) m = G at ih ⊢
      unfold fX10_angle_l40
      by_cases k4 : k = 4
      · subst k4
        rw [if_pos (show (3 : Int32) < nI 4 by decide)]
        exact ⟨bs, M1, rfl, a1, hr⟩
      obtain ⟨v, M2, f1, f2, f3⟩ := inM G k bs FU 0 M1 1 (by omega) (by unfold FU; omega) (by omega) a1 (Or.inl ⟨n10, fun u hu => by omega⟩)
      rw [if_neg (show ¬ (3 : Int32) < nI k from nI_nlt (a := 3) (by omega) (by omega)), bd, a1.1, h7, show nI h0 = nI (h0 + 0) from rfl, f1]
      unfold fX10_angle_b96
      rw [nI_1]
      rcases f3 with ⟨v0, f3⟩ | ⟨v0, f3⟩
      · rw [if_neg v0]
        exact ih (k + 1) M2 (nI k) (by omega) (by omega) f2 (Or.inr ⟨k, by omega, rfl, f3, fun w' z1 z2 => by omega⟩)
      · rw [if_pos v0]
        refine ih (k + 1) M2 bs (by omega) (by omega) f2 ?_
        rcases hr with ⟨rfl, hr⟩ | ⟨w, hw, rfl, r1, r2⟩
        · refine Or.inl ⟨rfl, fun w hw => ?_⟩
          by_cases e : w = k
          · rw [e]; exact f3
          · exact hr w (by omega)
        · refine Or.inr ⟨w, by omega, rfl, r1, fun w' z1 z2 => ?_⟩
          by_cases e : w' = k
          · rw [e]; exact f3
          · exact r2 w' z1 (by omega)
  obtain ⟨v, X', f1, f2, f3⟩ := loX FU 4 X (by unfold FU; omega) (by omega) (eX.rf X) (fun w z1 z2 => by omega)
  obtain ⟨v', M', g1, g2, g3⟩ := loM FU 0 M (-1) (by unfold FU; omega) (by omega) (eM.rf M) (Or.inl ⟨rfl, fun w hw => by omega⟩)
  have f1 : lo2 (fX9_angle_l32 nb (nI n) (some b)) FU X 3 = some (v, X') := f1
  have g1 : lo3 (fX10_angle_l40 (nI i) (nI n)) FU M (-1) 0 = some (v', M') := g1
  rw [f1, g1, f3.un g3]
  exact R2.mk (h.n f2.n g2.n)
/-- turns -/
def R2L (nb : Nat) (a : Option (Int64 × XW)) (b : Option (Int64 × MW)) : Prop := ∃ v X M, a = some (v, X) ∧ b = some (v, M) ∧ Sim X M nb
theorem R2L.mk {nb : Nat} {v : Int64} {X : XW} {M : MW} (h : Sim X M nb) : R2L nb (some (v, X)) (some (v, M)) := ⟨v, X, M, rfl, rfl, h⟩
theorem p_turns {X : XW} {M : MW} {nb : Nat} (h : Sim X M nb) (a l : Int32) : R2L nb (fX9_turns X nb a l) (fX10_turns M a l) := by
  dsimp only [fX9_turns, fX10_turns, bd]
  rw [night_eq h]
  rcases boat_of h a with ⟨c1, c2⟩ | ⟨c1, i, b, rfl, hi, hi8, hb, c2⟩
  · rw [c2, if_pos c1]; exact R2L.mk h
  rw [c2, if_neg c1, Option.bind_some]
  dsimp only [oc]
  by_cases c3 : fX9_isNight X l = 0
  · rw [if_pos c3, if_pos c3]; exact R2L.mk h
  have it : inb (nI i) 6 := in_nI hi (by omega)
  have hcl : (nI i).toNatClampNeg = i := cl_nI (by omega)
  have hNb : NS ≤ b ∧ b < TT nb := ⟨hb.2.1, hb.2.2.1⟩
  rw [if_neg c3, if_neg c3, if_pos hNb, g_gone hb, rd_in it, hcl, Option.bind_some, Option.bind_some]
  by_cases c5 : M.2 77 i = -1
  · rw [if_pos c5, if_pos c5, if_neg n10]; exact R2L.mk h
  rw [if_neg c5, if_neg c5, if_pos rfl]
  obtain ⟨h0, h12, h7, h7x⟩ := g_now h
  obtain ⟨n, rfl, hn⟩ := night_in h h7 h12 c3
  obtain ⟨gc, p, hp1, hp40, hpp⟩ := g_cell h hi8
  obtain ⟨c, hc, hcc⟩ := gc.resolve_left c5
  have b4 : X.1 b 4 = nI c := hb.2.2.2.2.2.2.2.1.trans hcc
  have b5 : X.1 b 5 = nI p := hb.2.2.2.2.2.2.2.2.trans hpp
  have kt := hb.k hi
  rw [h7x, h7]
  have lo : ∀ (m t : Nat) (z : Int64) (X1 : XW) (M1 : MW), n < m + t → t ≤ n → eX X X1 → eM M M1 → R2L nb (lo3 (fX9_turns_l44 nb (nI n) (some b)) m X1 z (nI (h0 + t))) (lo3 (fX10_turns_l44 (nI i) (nI n)) m M1 z (nI (h0 + t))) := by
    intro m
    induction m with
    | zero => intro t z X1 M1 q1 q2; omega
    | succ m ih =>
      intro t z X1 M1 q1 q2 aX aM
      show R2L nb (fX9_turns_l44 nb (nI n) (some b) (lo3 (fX9_turns_l44 nb (nI n) (some b)) m) X1 z (nI (h0 + t))) (fX10_turns_l44 (nI i) (nI n) (lo3 (fX10_turns_l44 (nI i) (nI n)) m) M1 z (nI (h0 + t)))
      generalize hG : lo3 (fX9_turns_l44 nb (nI n) (some b)) m = G at ih ⊢
      generalize hK : lo3 (fX10_turns_l44 (nI i) (nI n)) m = K at ih ⊢
      dsimp only [fX9_turns_l44, fX10_turns_l44, bd]
      rw [aX.1, aM.1, h7x, h7, nI_add, nI_1]
      by_cases ht : t = n
      · rw [if_pos (nI_le (by omega) (by omega)), if_pos (nI_le (by omega) (by omega))]
        exact R2L.mk (h.n aX.n aM.n)
      obtain ⟨d, t1, t2⟩ := g_turn (h.1.e aX aM) (show h0 + t < 12 by omega)
      rw [if_neg (nI_ge (by omega) (by omega)), if_neg (nI_ge (by omega) (by omega)), t1, t2, bs_I, bs_I]
      by_cases d3 : d < 3
      · rw [if_pos d3, if_pos d3]; exact ih (t + 1) z X1 M1 (by omega) (by omega) aX aM
      obtain ⟨v, X2, M0, M2, f1, f2, f3, f4, f5⟩ := e_jerk (p := nI p) (h.es.c aX aM) (kt.c aX aM) hc (show h0 + t < 12 by omega) trivial
      rw [if_neg d3, if_neg d3, Option.bind_some, if_pos hNb, b4, b5, f1, bd2_s, rd_in it, rd_in it, hcl, aM.2 77 (by decide) (by decide), aM.2 78 (by decide) (by decide), hcc, hpp, Option.bind_some, Option.bind_some, f2, Option.bind_some, f3, bd2_s]
      exact ih (t + 1) _ X2 M2 (by omega) (by omega) (aX.tr f4) (aM.tr f5)
  exact lo FU 0 _ X M (by unfold FU; omega) (by omega) (eX.rf X) (eM.rf M)

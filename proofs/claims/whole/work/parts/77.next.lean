/-! what next -/
def dueP (nb i b d : Nat) : Prop := ∀ (X : XW) (M : MW) (c p h a : Nat) (added : Int32), ESim X M All → kAt X M nb i b → c < 100 → p ≤ 40 → h ≤ 12 → a ≤ 4 → a < d → ∃ v X' M', fX9_LD d X nb b (nI c) (nI p) added (nI h) (nI (min 12 (h + a))) = some (v, X') ∧ fX10_LF d M (nI i) (nI c) (nI h) (nI a) (nI p) added = some (v, M') ∧ eX X X' ∧ eM M M'
theorem act_ok {nb i b d : Nat} (P : dueP nb i b d) {X : XW} {M : MW} {c p h a act : Nat} {added : Int32} (E : ESim X M All) (k : kAt X M nb i b) (hc : c < 100) (hp : p ≤ 40) (hh : h < 12) (ha : a ≤ 4) (ha0 : 0 < a) (had : a ≤ d) (hact : act < 5) : ∃ v X' M', fX9_dueWith_r (fX9_LD d) X nb (nI act) b (nI c) (nI p) added (nI h) (nI (min 12 (h + a))) = some (v, X') ∧ fX10_byAct_r (fX10_LF d) M (nI i) (nI c) (nI h) (nI a) (nI p) added (nI act) = some (v, M') ∧ eX X X' ∧ eM M M' := by
  have main : ∀ (o : Nat) (ad cost less : Int32), o ≤ 40 → ∃ v X' M', fX9_dueWith_b71 (fX9_LD d) nb X b (nI c) (nI h) (nI (min 12 (h + a))) cost (nI o) ad less = some (v, X') ∧ fX10_byAct_b82 (fX10_LF d) M (nI i) (nI c) (nI h) (nI a) (nI o) ad cost (nI i) (nI c) (nI h) (nI o) less = some (v, M') ∧ eX X X' ∧ eM M M' := by
    intro o ad cost less ho
    obtain ⟨v, X1, M1, -, f1, f2, f3, f4⟩ := e_goes less ad E k hc hh trivial (show o ≤ 45 by omega)
    have E1 := E.c f3 f4
    have k1 := k.c f3 f4
    unfold fX9_dueWith_b71 fX10_byAct_b82
    rw [f1, f2, bd2_s, bd2_s, nI_1, show nI a - 1 = nI (a - 1) from pk_sub (b := 1) (by omega)]
    have hmin : min 12 (h + a) = min 12 (h + 1 + (a - 1)) := by omega
    rw [hmin]
    by_cases v0 : v = 0
    · obtain ⟨w, X2, M2, g1, g2, g3, g4⟩ := P X1 M1 c o (h + 1) (a - 1) ad E1 k1 hc ho (by omega) (by omega) (by omega)
      rw [if_pos v0, if_pos v0, g1, g2, bd2_s, bd2_s]
      exact ⟨_, X2, M2, rfl, rfl, f3.tr g3, f4.tr g4⟩
    rw [if_neg v0, if_neg v0]
    obtain ⟨e, he, e1, e2⟩ := g_one E1.1 hc hh
    rw [e1, e2, Option.bind_some, Option.bind_some]
    rcases he with rfl | ⟨j, hj, rfl⟩
    · rw [if_pos rfl, if_pos rfl]
      exact ⟨_, X1, M1, rfl, rfl, f3, f4⟩
    · obtain ⟨w, X2, M2, g1, g2, g3, g4⟩ := P X1 M1 j o (h + 1) (a - 1) ad E1 k1 hj ho (by omega) (by omega) (by omega)
      rw [if_neg (nI_m1 (by omega)), if_neg (nI_m1 (by omega)), g1, g2, bd2_s, bd2_s]
      exact ⟨_, X2, M2, rfl, rfl, f3.tr g3, f4.tr g4⟩
  have hlt : nI h < nI (min 12 (h + a)) := nI_lt (by omega) (by omega)
  dsimp only [fX9_dueWith_r, fX10_byAct_r, fX9_dueWith_b41, fX9_dueWith_b58, fX10_byAct_b30, fX10_byAct_b48, fX10_byAct_b62]
  have : act = 0 ∨ act = 1 ∨ act = 2 ∨ act = 3 ∨ act = 4 := by omega
  rcases this with rfl | rfl | rfl | rfl | rfl
  · rw [show rd (stF 3) 5 (nI 0) = some 0 from rfl, Option.bind_some, if_pos hlt]
    rw [if_neg (show ¬ nI 0 = 4 by decide), if_neg (show ¬ nI 0 = 1 by decide), if_neg (show ¬ nI 0 = 3 by decide), if_neg (show ¬ nI 0 = 2 by decide), if_neg (show ¬ nI 0 = 4 by decide), if_neg (show ¬ nI 0 = 1 by decide), if_neg (show ¬ nI 0 = 3 by decide), if_neg (show ¬ nI 0 = 3 by decide), if_neg (show ¬ nI 0 = 2 by decide)]
    exact main p added _ 0 hp
  · rw [show rd (stF 3) 5 (nI 1) = some 1 from rfl, Option.bind_some, if_pos hlt]
    have e5 : nI p + 5 = nI (p + 5) := nI_add p 5
    have ej : jmin 40 (nI p + 5) = nI (min 40 (p + 5)) := by rw [e5]; exact jmin_nI (a := 40) (by omega) (by omega)
    have ew : fX10_within (nI p + 5) 1 40 = nI (min 40 (p + 5)) := by
      unfold fX10_within
      rw [e5, if_pos (show (1 : Int32) ≤ nI (p + 5) from nI_le (a := 1) (by omega) (by omega))]
      by_cases q : p + 5 ≤ 40
      · rw [if_pos (show nI (p + 5) ≤ 40 from nI_le (b := 40) q (by omega)), Nat.min_eq_right q]
      · rw [if_neg (show ¬ nI (p + 5) ≤ 40 from nI_ge (a := 40) (by omega) (by omega)), Nat.min_eq_left (by omega)]; rfl
    rw [if_neg (show ¬ nI 1 = 4 by decide), if_pos (show nI 1 = 1 from rfl), if_neg (show ¬ nI 1 = 3 by decide), if_neg (show ¬ nI 1 = 2 by decide), if_neg (show ¬ nI 1 = 4 by decide), if_pos (show nI 1 = 1 from rfl), if_neg (show ¬ nI 1 = 3 by decide), if_neg (show ¬ nI 1 = 3 by decide), if_neg (show ¬ nI 1 = 2 by decide), ej, ew]
    exact main (min 40 (p + 5)) added _ 0 (by omega)
  · rw [show rd (stF 3) 5 (nI 2) = some 2 from rfl, Option.bind_some, if_pos hlt]
    rw [if_neg (show ¬ nI 2 = 4 by decide), if_neg (show ¬ nI 2 = 1 by decide), if_neg (show ¬ nI 2 = 3 by decide), if_pos (show nI 2 = 2 from rfl), if_neg (show ¬ nI 2 = 4 by decide), if_neg (show ¬ nI 2 = 1 by decide), if_neg (show ¬ nI 2 = 3 by decide), if_neg (show ¬ nI 2 = 3 by decide), if_pos (show nI 2 = 2 from rfl)]
    exact main p added _ 40 hp
  · rw [show rd (stF 3) 5 (nI 3) = some 4 from rfl, Option.bind_some, if_pos hlt]
    rw [if_neg (show ¬ nI 3 = 4 by decide), if_neg (show ¬ nI 3 = 1 by decide), if_pos (show nI 3 = 3 from rfl), if_neg (show ¬ nI 3 = 2 by decide), if_neg (show ¬ nI 3 = 4 by decide), if_neg (show ¬ nI 3 = 1 by decide), if_pos (show nI 3 = 3 from rfl), if_pos (show nI 3 = 3 from rfl), if_neg (show ¬ nI 3 = 2 by decide)]
    exact main p (added + 50) _ 0 hp
  · rw [show rd (stF 3) 5 (nI 4) = some 9 from rfl, Option.bind_some, if_pos (show nI 4 = 4 from rfl), if_pos (show nI 4 = 4 from rfl)]
    exact ⟨9, X, M, rfl, rfl, eX.rf X, eM.rf M⟩
theorem jmin_le (x y : Int32) : jmin x y = if x ≤ y then x else y := by
  unfold jmin
  by_cases q : y < x
  · rw [if_pos q, if_neg (by rw [i_lt] at q; rw [i_le]; omega)]
  · rw [if_neg q, if_pos (by rw [i_lt] at q; rw [i_le]; omega)]
theorem due_all (nb i b : Nat) : ∀ d, dueP nb i b d := by
  intro d
  induction d with
  | zero => intro X M c p h a ad E k hc hp hh ha had; omega
  | succ d ih =>
    intro X M c p h a ad E k hc hp hh ha had
    show ∃ v X' M', fX9_leastDue_r (fX9_dueWith_r (fX9_LD d)) X nb b (nI c) (nI p) ad (nI h) (nI (min 12 (h + a))) = some (v, X') ∧ fX10_leastFrom_r (fX10_byAct_r (fX10_LF d)) M (nI i) (nI c) (nI h) (nI a) (nI p) ad = some (v, M') ∧ eX X X' ∧ eM M M'
    unfold fX9_leastDue_r fX10_leastFrom_r
    by_cases a0 : a = 0
    · rw [if_neg (nI_nlt (by omega) (by omega)), if_pos ((n_pos (by omega)).mpr a0)]
      exact ⟨0, X, M, rfl, rfl, eX.rf X, eM.rf M⟩
    rw [if_neg (fun q => a0 ((n_pos (by omega)).mp q))]
    by_cases h12 : h = 12
    · rw [if_neg (nI_nlt (by omega) (by omega)), if_neg (show ¬ nI h < 12 from nI_nlt (b := 12) (by omega) (by omega))]
      exact ⟨0, X, M, rfl, rfl, eX.rf X, eM.rf M⟩
    rw [if_pos (nI_lt (by omega) (by omega)), if_pos (show nI h < 12 from nI_lt (b := 12) (by omega) (by omega))]
    obtain ⟨v, X1, M1, f1, f2, f3, f4⟩ := act_ok ih (act := 0) (added := ad) E k hc hp (show h < 12 by omega) ha (by omega) (by omega) (by omega)
    have f1 : fX9_dueWith_r (fX9_LD d) X nb 0 b (nI c) (nI p) ad (nI h) (nI (min 12 (h + a))) = some (v, X1) := f1
    have f2 : fX10_byAct_r (fX10_LF d) M (nI i) (nI c) (nI h) (nI a) (nI p) ad 0 = some (v, M1) := f2
    rw [f1, f2, bd2_s, bd2_s]
    have lo : ∀ (m t : Nat) (z : Int32) (X2 : XW) (M2 : MW), 5 < m + t → t ≤ 5 → eX X X2 → eM M M2 → ∃ v X' M', lo3 (fX9_leastDue_l28 (fX9_dueWith_r (fX9_LD d)) nb b (nI c) (nI p) ad (nI h) (nI (min 12 (h + a)))) m X2 z (nI t) = some (v, X') ∧ lo3 (fX10_leastFrom_l32 (fX10_byAct_r (fX10_LF d)) (nI i) (nI c) (nI h) (nI a) (nI p) ad) m M2 z (nI t) = some (v, M') ∧ eX X X' ∧ eM M M' := by
      intro m
      induction m with
      | zero => intro t z X2 M2 q1 q2; omega
      | succ m ihm =>
        intro t z X2 M2 q1 q2 aX aM
        show ∃ v X' M', fX9_leastDue_l28 (fX9_dueWith_r (fX9_LD d)) nb b (nI c) (nI p) ad (nI h) (nI (min 12 (h + a))) (lo3 (fX9_leastDue_l28 (fX9_dueWith_r (fX9_LD d)) nb b (nI c) (nI p) ad (nI h) (nI (min 12 (h + a)))) m) X2 z (nI t) = some (v, X') ∧ fX10_leastFrom_l32 (fX10_byAct_r (fX10_LF d)) (nI i) (nI c) (nI h) (nI a) (nI p) ad (lo3 (fX10_leastFrom_l32 (fX10_byAct_r (fX10_LF d)) (nI i) (nI c) (nI h) (nI a) (nI p) ad) m) M2 z (nI t) = some (v, M') ∧ _
        generalize hG : lo3 (fX9_leastDue_l28 (fX9_dueWith_r (fX9_LD d)) nb b (nI c) (nI p) ad (nI h) (nI (min 12 (h + a)))) m = G at ihm ⊢
        generalize hK : lo3 (fX10_leastFrom_l32 (fX10_byAct_r (fX10_LF d)) (nI i) (nI c) (nI h) (nI a) (nI p) ad) m = K at ihm ⊢
        dsimp only [fX9_leastDue_l28, fX10_leastFrom_l32, bd]
        by_cases ht : t = 5
        · rw [if_pos (show (5 : Int32) ≤ nI t from nI_le (a := 5) (by omega) (by omega)), if_pos (show (4 : Int32) < nI t from nI_lt (a := 4) (by omega) (by omega))]
          exact ⟨z, X2, M2, rfl, rfl, aX, aM⟩
        obtain ⟨w, X3, M3, g1, g2, g3, g4⟩ := act_ok ih (act := t) (added := ad) (E.c aX aM) (k.c aX aM) hc hp (show h < 12 by omega) ha (by omega) (by omega) (by omega)
        rw [if_neg (show ¬ (5 : Int32) ≤ nI t from nI_ge (b := 5) (by omega) (by omega)), if_neg (show ¬ (4 : Int32) < nI t from nI_nlt (a := 4) (by omega) (by omega)), g1, g2, bd2_s, bd2_s, jmin_le, nI_1]
        by_cases q : z ≤ w
        · rw [if_pos q, if_pos q]; exact ihm (t + 1) z X3 M3 (by omega) (by omega) (aX.tr g3) (aM.tr g4)
        · rw [if_neg q, if_neg q]; exact ihm (t + 1) w X3 M3 (by omega) (by omega) (aX.tr g3) (aM.tr g4)
    exact lo FU 1 v X1 M1 (by unfold FU; omega) (by omega) f3 f4
theorem p_next {X : XW} {M : MW} {nb : Nat} (h : Sim X M nb) (a l w : Int32) : R2 nb (fX9_next X nb a l w) (fX10_next_ M a l w) := by
  dsimp only [fX9_next, fX10_next_, fX9_next_b31, fX9_next_b32, bd]
  rw [in_eq]
  rcases boat_of h a with ⟨c1, c2⟩ | ⟨c1, i, b, rfl, hi, hi8, hb, c2⟩
  · rw [c2, if_pos c1, Option.bind_some]
    simp only [ref_none, Option.bind_some]
    dsimp only [oc]
    rw [ite_self, ite_self]
    exact R2.mk h
  rw [c2, if_neg c1, Option.bind_some, ref_no, ref_ok hb n10, Option.bind_some, Option.bind_some]
  dsimp only [oc]
  by_cases c3 : fX9_within l 1 4 = 0
  · rw [if_pos c3, if_pos c3, if_neg (by decide)]; exact R2.mk h
  rw [if_neg c3, if_neg c3]
  by_cases c4 : fX9_within w 0 1 = 0
  · rw [if_pos c4, if_pos c4, if_neg (by decide)]; exact R2.mk h
  rw [if_neg c4, if_neg c4]
  have it : inb (nI i) 6 := in_nI hi (by omega)
  have hcl : (nI i).toNatClampNeg = i := cl_nI (by omega)
  have hNb : NS ≤ b ∧ b < TT nb := ⟨hb.2.1, hb.2.2.1⟩
  rw [rd_in it, rd_in it, hcl, Option.bind_some]
  by_cases c5 : M.2 77 i = -1
  · rw [if_pos c5, if_pos c5, if_neg (by decide)]; exact R2.mk h
  obtain ⟨gc, p, hp1, hp40, hpp⟩ := g_cell h hi8
  obtain ⟨c, hc, hcc⟩ := gc.resolve_left c5
  have b4 : X.1 b 4 = nI c := hb.2.2.2.2.2.2.2.1.trans hcc
  have b5 : X.1 b 5 = nI p := hb.2.2.2.2.2.2.2.2.trans hpp
  have kt := hb.k hi
  obtain ⟨h0, h12, h7, h7x⟩ := g_now h
  have hw := wi_ne c3
  have e1 : (1 : Int32).toInt = 1 := rfl
  have e4 : (4 : Int32).toInt = 4 := rfl
  rw [e1, e4] at hw
  obtain ⟨q, rfl, -, hq⟩ := nn_ge (i := l) (by omega)
  have ej : jmin 12 (nI (h0 + q)) = nI (min 12 (h0 + q)) := jmin_nI (a := 12) (by omega) (by omega)
  obtain ⟨v, X1, M1, f1, f2, f3, f4⟩ := act_ok (due_all nb i b 8) (act := 0) (added := 0) (a := q) h.es kt hc hp40 h12 (by omega) (by omega) (by omega) (by omega)
  have f1 : fX9_dueWith 8 X nb 0 b (nI c) (nI p) 0 (nI h0) (nI (min 12 (h0 + q))) = some (v, X1) := f1
  have f2 : fX10_byAct 8 M (nI i) (nI c) (nI h0) (nI q) (nI p) 0 0 = some (v, M1) := f2
  rw [if_neg c5, if_neg c5, if_pos rfl, if_pos hNb, b4, b5, h7x, h7, nI_add, ej, f1, bd2_s, hcc, Option.bind_some, hpp, Option.bind_some, f2, bd2_s]
  have lo : ∀ (m t : Nat) (y z : Int32) (X2 : XW) (M2 : MW), 5 < m + t → t ≤ 5 → eX X X2 → eM M M2 → R2 nb (lo4 (fX9_next_l95 nb w (some b) (nI (min 12 (h0 + q)))) m X2 y z (nI t)) (lo4 (fX10_next__l77 (nI i) (nI q) w) m M2 y z (nI t)) := by
    intro m
    induction m with
    | zero => intro t y z X2 M2 q1 q2; omega
    | succ m ihm =>
      intro t y z X2 M2 q1 q2 aX aM
      show R2 nb (fX9_next_l95 nb w (some b) (nI (min 12 (h0 + q))) (lo4 (fX9_next_l95 nb w (some b) (nI (min 12 (h0 + q)))) m) X2 y z (nI t)) (fX10_next__l77 (nI i) (nI q) w (lo4 (fX10_next__l77 (nI i) (nI q) w) m) M2 y z (nI t))
      generalize hG : lo4 (fX9_next_l95 nb w (some b) (nI (min 12 (h0 + q)))) m = G at ihm ⊢
      generalize hK : lo4 (fX10_next__l77 (nI i) (nI q) w) m = K at ihm ⊢
      dsimp only [fX9_next_l95, fX10_next__l77, fX9_next_b149, fX10_next__b148, fX10_next__b124]
      by_cases ht : t = 5
      · have hS := h.n aX.n aM.n
        rw [if_pos (show (5 : Int32) ≤ nI t from nI_le (a := 5) (by omega) (by omega)), if_pos (show (4 : Int32) < nI t from nI_lt (a := 4) (by omega) (by omega))]
        by_cases w0 : w = 0
        · rw [if_pos w0, if_pos w0]; exact R2.mk hS
        · rw [if_neg w0, if_neg w0]; exact R2.mk hS
      obtain ⟨u, X3, M3, g1, g2, g3, g4⟩ := act_ok (due_all nb i b 8) (act := t) (added := 0) (a := q) (h.es.c aX aM) (kt.c aX aM) hc hp40 h12 (by omega) (by omega) (by omega) (by omega)
      have g1 : fX9_dueWith 8 X2 nb (nI t) b (nI c) (nI p) 0 (nI h0) (nI (min 12 (h0 + q))) = some (u, X3) := g1
      have g2 : fX10_byAct 8 M2 (nI i) (nI c) (nI h0) (nI q) (nI p) 0 (nI t) = some (u, M3) := g2
      rw [if_neg (show ¬ (5 : Int32) ≤ nI t from nI_ge (b := 5) (by omega) (by omega)), if_neg (show ¬ (4 : Int32) < nI t from nI_nlt (a := 4) (by omega) (by omega)), Option.bind_some, if_pos hNb, aX.1, b4, b5, h7x, g1, bd2_s, rd_in it, rd_in it, hcl, aM.2 77 (by decide) (by decide), aM.2 78 (by decide) (by decide), hcc, hpp, Option.bind_some, Option.bind_some, aM.1, h7, g2, bd2_s, nI_1]
      by_cases z1 : z ≤ u
      · rw [if_pos z1, if_pos z1, if_pos z1]; exact ihm (t + 1) y z X3 M3 (by omega) (by omega) (aX.tr g3) (aM.tr g4)
      · rw [if_neg z1, if_neg z1, if_neg z1]; exact ihm (t + 1) (nI t) u X3 M3 (by omega) (by omega) (aX.tr g3) (aM.tr g4)
  exact lo FU 1 0 v X1 M1 (by unfold FU; omega) (by omega) f3 f4

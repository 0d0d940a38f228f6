/-! alarm, size, marks -/
theorem ref_none (X : XW) (nb : Nat) (f : Int32) : fX9_refusal X nb none f = some (-5) := rfl
theorem ref_no (X : XW) (nb b : Nat) : fX9_refusal X nb (some b) 0 = some (-7) := rfl
theorem ref_ok {X : XW} {M : MW} {nb i b : Nat} (hb : boatAt X M nb i b) {f : Int32} (hf : ¬ f = 0) : fX9_refusal X nb (some b) f = some (if M.2 77 i = -1 then -3 else 0) := by
  dsimp only [fX9_refusal, oc]
  rw [if_neg hf, if_pos ⟨hb.2.1, hb.2.2.1⟩, g_gone hb, Option.bind_some]
  by_cases c : M.2 77 i = -1
  · rw [if_pos c, if_pos c, if_neg n10]
  · rw [if_neg c, if_neg c, if_pos rfl]
def adif (a b : Nat) : Nat := if a < b then b - a else a - b
theorem ap_tab : ∀ a b : Fin 10, jabs (nI a - nI b) = nI (adif a b) ∧ fX10_size (nI b - nI a) = nI (adif a b) ∧ adif a b ≤ 9 := by decide +kernel
def apN (c d : Nat) : Nat := max (adif (d / 10) (c / 10)) (adif (d % 10) (c % 10))
theorem ap_ok {c d : Nat} (hc : c < 100) (hd : d < 100) : fX2_apart (nI d) (nI c) = nI (apN c d) ∧ fX10_apart (nI c) (nI d) = nI (apN c d) ∧ apN c d ≤ 9 := by
  obtain ⟨x1, x2, x3⟩ := ap_tab ⟨d / 10, by omega⟩ ⟨c / 10, by omega⟩
  obtain ⟨y1, y2, y3⟩ := ap_tab ⟨d % 10, by omega⟩ ⟨c % 10, by omega⟩
  have x1 : jabs (nI (d / 10) - nI (c / 10)) = nI (adif (d / 10) (c / 10)) := x1
  have x2 : fX10_size (nI (c / 10) - nI (d / 10)) = nI (adif (d / 10) (c / 10)) := x2
  have y1 : jabs (nI (d % 10) - nI (c % 10)) = nI (adif (d % 10) (c % 10)) := y1
  have y2 : fX10_size (nI (c % 10) - nI (d % 10)) = nI (adif (d % 10) (c % 10)) := y2
  have x3 : adif (d / 10) (c / 10) ≤ 9 := x3
  have y3 : adif (d % 10) (c % 10) ≤ 9 := y3
  refine ⟨?_, ?_, ?_⟩
  · unfold fX2_apart
    rw [d10 (by omega), d10 (by omega), r10 (by omega), r10 (by omega), x1, y1, jmax_nI (by omega) (by omega)]
    rfl
  · dsimp only [fX10_apart, bd]
    rw [d10 (by omega), d10 (by omega), r10 (by omega), r10 (by omega), x2, y2]
    unfold apN
    by_cases q : adif (d % 10) (c % 10) ≤ adif (d / 10) (c / 10)
    · rw [if_pos (nI_le q (by omega)), Nat.max_eq_left q]
    · rw [if_neg (nI_ge (by omega) (by omega)), Nat.max_eq_right (by omega)]
  · unfold apN; omega
/-- the alarm's first hour -/
def okA (L : Nat → Int32) (hm f u : Nat) : Prop := ∃ d, d < 100 ∧ L u = nI d ∧ apN d hm ≤ f
def firA (L : Nat → Int32) (hm f h0 n : Nat) (v : Int32) : Prop := (v = -1 ∧ ∀ u, u < n → okA L hm f u) ∨ ∃ t, t < n ∧ v = nI (h0 + t) ∧ ¬ okA L hm f t ∧ ∀ u, u < t → okA L hm f u
theorem firA.un {L : Nat → Int32} {hm f h0 n : Nat} {v w : Int32} (hn : h0 + n ≤ 12) (a : firA L hm f h0 n v) (b : firA L hm f h0 n w) : v = w := by
  rcases a with ⟨rfl, a⟩ | ⟨t, ht, rfl, a1, a2⟩
  · rcases b with ⟨rfl, b⟩ | ⟨s, hs, rfl, b1, b2⟩
    · rfl
    · exact absurd (a s hs) b1
  · rcases b with ⟨rfl, b⟩ | ⟨s, hs, rfl, b1, b2⟩
    · exact absurd (b t ht) a1
    · have : t = s := by
        by_cases q : t < s
        · exact absurd (b2 t q) a1
        · by_cases q2 : s < t
          · exact absurd (a2 s q2) b1
          · omega
      rw [this]
theorem beyond_X {X : XW} {L : Nat → Int32} {i hm f h0 n : Nat} (hi : i < 6) (hh : hm < 100) (hf : f ≤ 100) (hn : h0 + n ≤ 12) (hL : ∀ u, u < n → cOk (L u)) (hl : ∀ u, u < n → X.2.1 (27 + 2 * i + 1) (h0 + u) = L u) : ∃ v, fX2_firstBeyond X (27 + 2 * i) (nI f) (nI hm) (nI h0) (nI (h0 + n)) = some v ∧ firA L hm f h0 n v := by
  have lo : ∀ (m t : Nat), n < m + t → t ≤ n → (∀ u, u < t → okA L hm f u) → ∃ v, lo1 (fX2_firstBeyond_l3 X (27 + 2 * i) (nI f) (nI hm) (nI (h0 + n))) m (nI (h0 + t)) = some v ∧ firA L hm f h0 n v := by
    intro m
    induction m with
    | zero => intro t h1 h2; omega
    | succ m ih =>
      intro t h1 h2 hz
      show ∃ v, fX2_firstBeyond_l3 X (27 + 2 * i) (nI f) (nI hm) (nI (h0 + n)) (lo1 (fX2_firstBeyond_l3 X (27 + 2 * i) (nI f) (nI hm) (nI (h0 + n))) m) (nI (h0 + t)) = some v ∧ _
      generalize hG : lo1 (fX2_firstBeyond_l3 X (27 + 2 * i) (nI f) (nI hm) (nI (h0 + n))) m = G at ih ⊢
      unfold fX2_firstBeyond_l3
      rw [nI_1]
      by_cases ht : t = n
      · subst ht
        rw [if_pos (nI_le (Nat.le_refl _) (by omega))]
        exact ⟨-1, rfl, Or.inl ⟨rfl, hz⟩⟩
      rw [if_neg (nI_ge (by omega) (by omega)), if_pos (kd_co hi).1, lies_in hi (show h0 + t < 12 by omega), Option.bind_some, Option.bind_some, hl t (by omega)]
      rcases hL t (by omega) with q | ⟨d, hd, q⟩
      · rw [if_pos q]
        refine ⟨_, rfl, Or.inr ⟨t, by omega, rfl, ?_, hz⟩⟩
        rintro ⟨d, hd, e, -⟩
        rw [q] at e
        exact nI_m1 (show d < 2 ^ 31 by omega) e.symm
      · rw [q, if_neg (nI_m1 (by omega)), (ap_ok hd hh).1]
        have := (ap_ok hd hh).2.2
        by_cases z : apN d hm ≤ f
        · rw [if_pos (nI_le z (by omega))]
          refine ih (t + 1) (by omega) (by omega) (fun u hu => ?_)
          by_cases e : u = t
          · rw [e]; exact ⟨d, hd, q, z⟩
          · exact hz u (by omega)
        · rw [if_neg (nI_ge (by omega) (by omega))]
          refine ⟨_, rfl, Or.inr ⟨t, by omega, rfl, ?_, hz⟩⟩
          rintro ⟨d', hd', e, e2⟩
          rw [q] at e
          have := (nI_eq (by omega) (by omega)).mp e
          subst this
          exact z e2
  unfold fX2_firstBeyond
  exact lo FU 0 (by unfold FU; omega) (by omega) (fun u hu => by omega)
theorem alarms_M {M : MW} {L : Nat → Int32} {i hm f h0 n : Nat} (hi : i < 6) (hh : hm < 100) (hf : f ≤ 100) (hn : h0 + n ≤ 12) (h7 : M.1 7 = nI h0) (h77 : M.2 77 i = nI hm) (hL : ∀ u, u < n → cOk (L u)) (hl : ∀ u, u < n → M.2 100 (6 * (h0 + u) + i) = L u) : ∃ v, fX10_alarms M (nI i) (nI n) (nI f) = some v ∧ firA L hm f h0 n v := by
  have lo : ∀ (m t : Nat), n < m + t → t ≤ n → (∀ u, u < t → okA L hm f u) → ∃ v, lo1 (fX10_alarms_l6 M (nI i) (nI n) (nI f)) m (nI (h0 + t)) = some v ∧ firA L hm f h0 n v := by
    intro m
    induction m with
    | zero => intro t h1 h2; omega
    | succ m ih =>
      intro t h1 h2 hz
      show ∃ v, fX10_alarms_l6 M (nI i) (nI n) (nI f) (lo1 (fX10_alarms_l6 M (nI i) (nI n) (nI f)) m) (nI (h0 + t)) = some v ∧ _
      generalize hG : lo1 (fX10_alarms_l6 M (nI i) (nI n) (nI f)) m = G at ih ⊢
      unfold fX10_alarms_l6
      rw [h7, nI_1, nI_add]
      by_cases ht : t = n
      · subst ht
        rw [if_pos (nI_le (Nat.le_refl _) (by omega))]
        exact ⟨-1, rfl, Or.inl ⟨rfl, hz⟩⟩
      have e6 : (6 : Int32) * nI (h0 + t) + nI i = nI (6 * (h0 + t) + i) := by rw [show (6 : Int32) * nI (h0 + t) = nI (6 * (h0 + t)) from pk_mul 6 _, nI_add]
      rw [if_neg (nI_ge (by omega) (by omega)), e6, rd_in (in_nI (by omega) (by omega)), cl_nI (by omega), Option.bind_some, hl t (by omega), rd_in (in_nI hi (by omega)), cl_nI (show i < 2 ^ 31 by omega), h77, Option.bind_some]
      rcases hL t (by omega) with q | ⟨d, hd, q⟩
      · rw [if_pos q]
        refine ⟨_, rfl, Or.inr ⟨t, by omega, rfl, ?_, hz⟩⟩
        rintro ⟨d, hd, e, -⟩
        rw [q] at e
        exact nI_m1 (show d < 2 ^ 31 by omega) e.symm
      · rw [q, if_neg (nI_m1 (by omega)), (ap_ok hd hh).2.1]
        have := (ap_ok hd hh).2.2
        by_cases z : apN d hm ≤ f
        · rw [if_pos (nI_le z (by omega))]
          refine ih (t + 1) (by omega) (by omega) (fun u hu => ?_)
          by_cases e : u = t
          · rw [e]; exact ⟨d, hd, q, z⟩
          · exact hz u (by omega)
        · rw [if_neg (nI_ge (by omega) (by omega))]
          refine ⟨_, rfl, Or.inr ⟨t, by omega, rfl, ?_, hz⟩⟩
          rintro ⟨d', hd', e, e2⟩
          rw [q] at e
          have := (nI_eq (by omega) (by omega)).mp e
          subst this
          exact z e2
  dsimp only [fX10_alarms, bd]
  rw [h7]
  exact lo FU 0 (by unfold FU; omega) (by omega) (fun u hu => by omega)
theorem lyT_c {X : XW} {M : MW} {nb b p h0 u : Nat} {c0 : Int32} (hB : SBay X M) (hc : cOk c0) (hp : p ≤ 40) (hu : h0 + u < 12) : cOk (lyT X nb b (nI p) c0 h0 u) := by
  unfold lyT
  rcases trj_c (nb := nb) (b := b) (p := nI p) (h0 := h0) hB hc (u + 1) (by omega) with q | ⟨c, hc', q⟩
  · rw [if_pos q]; exact Or.inl rfl
  · rw [q, if_neg (nI_m1 (by omega))]
    obtain ⟨_, _, _, d, hd, e⟩ := ly_X (X' := X) (h := h0 + u) hB (nX.rf X) hc' hu hp
    exact Or.inr ⟨d, hd, e⟩
/-- one boat's night on both sides -/
theorem one {X : XW} {M : MW} {nb nB i b h0 n : Nat} (h : Sim X M nb) (F : flt X M nb nB) (hi : i < nB) (hb : boatAt X M nb i b) (h7 : M.1 7 = nI h0) (h7x : X.1 0 11 = nI h0) (hn : h0 + n ≤ 12) : ∃ X' M', fX9_sailed X nb (nI i) b (nI n) = some (some (27 + 2 * i), X') ∧ fX10_goes M (nI n) = some M' ∧ Sim X' M' nb ∧ nX X X' ∧ nM M M' ∧ tr3 X' (27 + 2 * i) (trA X M nb h0 i n) ∧ row3 M' i (trA X M nb h0 i n) ∧ (∀ u, u < n → X'.2.1 (27 + 2 * i + 1) (h0 + u) = lyA X M nb h0 i u) ∧ (∀ u, u < n → M'.2 100 (6 * (h0 + u) + i) = lyA X M nb h0 i u) ∧ ∀ u, u < n → cOk (lyA X M nb h0 i u) := by
  have h6 := F.1
  have eb := bOf_at hb
  obtain ⟨X', g1, g2, g3, g4⟩ := sailed_ok h.es F hi (by rw [eb]; exact hb) (nX.rf X) h7x hn (fun _ _ _ => trivial)
  obtain ⟨M', f1, f2, f3, f4, -⟩ := goes_ok h.es F h7 hn (fun _ _ _ => trivial)
  rw [eb] at g1
  have gn := g2.n (show i < 6 by omega)
  refine ⟨X', M', ?_, f1, h.n gn f2, gn, f2, g3, f3 i hi, g4, fun u hu => f4 u hu i hi, fun u hu => lyT_c h.1 (F.2.2 i hi).2.2.2 (F.2.2 i hi).2.2.1 (by omega)⟩
  dsimp only [fX9_sailed, bd]
  rw [if_pos (in_nI (show i < 6 by omega) (by omega)), cl_nI (show i < 2 ^ 31 by omega), g1, Option.bind_some]
theorem p_alarm {X : XW} {M : MW} {nb : Nat} (h : Sim X M nb) (a l w : Int32) : R2 nb (fX9_alarm X nb a l w) (fX10_alarm M a l w) := by
  dsimp only [fX9_alarm, fX10_alarm, fX9_alarm_b31, fX9_alarm_b32]
  rw [night_eq h, in_eq]
  rcases boat_of h a with ⟨c1, c2⟩ | ⟨c1, i, b, rfl, hi, hi8, hb, c2⟩
  · rw [c2, if_pos c1, Option.bind_some]
    simp only [ref_none, Option.bind_some]
    dsimp only [oc]
    rw [ite_self, ite_self]
    exact R2.mk h
  rw [c2, if_neg c1, Option.bind_some, ref_no, ref_ok hb n10, Option.bind_some, Option.bind_some]
  dsimp only [oc]
  by_cases c3 : fX9_isNight X l = 0
  · rw [if_pos c3, if_pos c3, if_neg (by decide)]; exact R2.mk h
  rw [if_neg c3, if_neg c3]
  by_cases c4 : fX9_within w 0 10 = 0
  · rw [if_pos c4, if_pos c4, if_neg (by decide)]; exact R2.mk h
  rw [if_neg c4, if_neg c4]
  have it : inb (nI i) 6 := in_nI hi (by omega)
  have hcl : (nI i).toNatClampNeg = i := cl_nI (by omega)
  rw [rd_in it, hcl, Option.bind_some]
  by_cases c5 : M.2 77 i = -1
  · rw [if_pos c5, if_pos c5, if_neg (by decide)]; exact R2.mk h
  rw [if_neg c5, if_neg c5, if_pos rfl]
  obtain ⟨h0, h12, h7, h7x⟩ := g_now h
  obtain ⟨n, rfl, hn⟩ := night_in h h7 h12 c3
  obtain ⟨nB, hB, h8, h8x, F⟩ := h.nB
  have hib : i < nB := by rw [h8, nI_toInt (by omega)] at hi8; omega
  obtain ⟨X', M', g1, f1, hS, gn, fn, -, -, g4, f4, hL⟩ := one h F hib hb h7 h7x hn
  obtain ⟨c, hc, hcc⟩ := (F.2.2 i hib).2.2.2.resolve_left c5
  have w4 := wi_ne c4
  have e0 : (0 : Int32).toInt = 0 := rfl
  have e10 : (10 : Int32).toInt = 10 := rfl
  rw [e0] at w4
  obtain ⟨f, rfl, -, hf⟩ := nn_ge w4.1
  obtain ⟨v, k1, k2⟩ := beyond_X (f := f) hi hc (by omega) hn hL g4
  obtain ⟨v', k1', k2'⟩ := alarms_M (M := M') (f := f) hi hc (by omega) hn ((fn.1 7 (by decide)).trans h7) (by rw [fn.2 77 (by decide)]; exact hcc) hL f4
  have hv := firA.un hn k2 k2'
  rw [g1, bd2_s, if_pos ⟨hb.2.1, hb.2.2.1⟩, Option.bind_some, if_pos (kd_co hi).1, f1, bs_M, k1', Option.bind_some]
  have hN := hb.2.1
  unfold NS at hN
  rw [gn.1 0 (by decide), gn.1 b (by omega), h7x, nI_add, hb.2.2.2.2.2.2.2.1, hcc, k1, Option.bind_some, hv]
  exact R2.mk hS
theorem side_eq : fX9_sideOf = fX10_crossOf := rfl
theorem jabs_eq (x : Int32) : jabs x = fX10_size x := by
  unfold jabs fX10_size
  by_cases q : 0 ≤ x
  · rw [if_pos q, if_pos q]
  · rw [if_neg q, if_neg q]
    simp
theorem p_marks {X : XW} {M : MW} {nb : Nat} (h : Sim X M nb) (a l t s : Int32) : R2 nb (fX9_marks X nb a l t s) (fX10_marks M a l t s) := by
  dsimp only [fX9_marks, fX10_marks, bd]
  rw [night_eq h, in_eq]
  rcases boat_of h a with ⟨c1, c2⟩ | ⟨c1, i, b, rfl, hi, hi8, hb, c2⟩
  · rw [c2, if_pos c1]; exact R2.mk h
  rw [c2, if_neg c1, Option.bind_some]
  dsimp only [oc]
  by_cases c3 : fX9_isNight X l = 0
  · rw [if_pos c3, if_pos c3]; exact R2.mk h
  rw [if_neg c3, if_neg c3]
  by_cases c4 : fX9_within t 0 9999 = 0
  · rw [if_pos c4, if_pos c4]; exact R2.mk h
  rw [if_neg c4, if_neg c4]
  by_cases c5 : t / 100 = jrem t 100
  · rw [if_pos c5, if_pos c5]; exact R2.mk h
  rw [if_neg c5, if_neg c5]
  by_cases c6 : fX9_within s 0 99 = 0
  · rw [if_pos c6, if_pos c6]; exact R2.mk h
  rw [if_neg c6, if_neg c6]
  obtain ⟨h0, h12, h7, h7x⟩ := g_now h
  obtain ⟨n, rfl, hn⟩ := night_in h h7 h12 c3
  obtain ⟨nB, hB, h8, h8x, F⟩ := h.nB
  have hib : i < nB := by rw [h8, nI_toInt (by omega)] at hi8; omega
  obtain ⟨X', M', g1, f1, hS, gn, fn, -, -, g4, f4, hL⟩ := one h F hib hb h7 h7x hn
  have h7' : M'.1 7 = nI h0 := (fn.1 7 (by decide)).trans h7
  have h7x' : X'.1 0 11 = nI h0 := by rw [gn.1 0 (by decide)]; exact h7x
  rw [g1, bd2_s, f1, bs_M, h7', h7x']
  have lo : ∀ (m u : Nat) (z : Int32), n < m + u → u ≤ n → R2 nb (lo3 (fX9_marks_l78 nb (nI n) t s (some (27 + 2 * i))) m X' z (nI (h0 + u))) (lo3 (fX10_marks_l69 (nI i) (nI n) t s) m M' z (nI (h0 + u))) := by
    intro m
    induction m with
    | zero => intro u z h1 h2; omega
    | succ m ih =>
      intro u z h1 h2
      show R2 nb (fX9_marks_l78 nb (nI n) t s (some (27 + 2 * i)) (lo3 (fX9_marks_l78 nb (nI n) t s (some (27 + 2 * i))) m) X' z (nI (h0 + u))) (fX10_marks_l69 (nI i) (nI n) t s (lo3 (fX10_marks_l69 (nI i) (nI n) t s) m) M' z (nI (h0 + u)))
      generalize hG : lo3 (fX9_marks_l78 nb (nI n) t s (some (27 + 2 * i))) m = G at ih ⊢
      generalize hK : lo3 (fX10_marks_l69 (nI i) (nI n) t s) m = K at ih ⊢
      dsimp only [fX9_marks_l78, fX10_marks_l69, fX9_marks_b138, fX10_marks_b134, bd]
      rw [h7', h7x', nI_add, nI_1, side_eq]
      by_cases hu : u = n
      · rw [if_pos (nI_le (by omega) (by omega)), if_pos (nI_le (by omega) (by omega))]
        exact R2.mk hS
      have e6 : (6 : Int32) * nI (h0 + u) + nI i = nI (6 * (h0 + u) + i) := by rw [show (6 : Int32) * nI (h0 + u) = nI (6 * (h0 + u)) from pk_mul 6 _, nI_add]
      rw [if_neg (nI_ge (by omega) (by omega)), if_neg (nI_ge (by omega) (by omega)), Option.bind_some, if_pos (kd_co hi).1, lies_in hi (show h0 + u < 12 by omega), Option.bind_some, e6, rd_in (in_nI (by omega) (by omega)), cl_nI (by omega), Option.bind_some, g4 u (by omega), f4 u (by omega)]
      by_cases q1 : lyA X M nb h0 i u = -1
      · rw [if_pos q1, if_pos q1]; exact R2.mk hS
      rw [if_neg q1, if_neg q1]
      have tail : ∀ z' : Int32, R2 nb (if jabs (fX10_crossOf (t / 100) (jrem t 100) (lyA X M nb h0 i u) - z') ≤ s then G X' z' (nI (h0 + u + 1)) else some (nI (h0 + u), X')) (if fX10_size (fX10_crossOf (t / 100) (jrem t 100) (lyA X M nb h0 i u) - z') ≤ s then K M' z' (nI (h0 + u + 1)) else some (nI (h0 + u), M')) := by
        intro z'
        rw [jabs_eq]
        by_cases q2 : fX10_size (fX10_crossOf (t / 100) (jrem t 100) (lyA X M nb h0 i u) - z') ≤ s
        · rw [if_pos q2, if_pos q2]; exact ih (u + 1) z' (by omega) (by omega)
        · rw [if_neg q2, if_neg q2]; exact R2.mk hS
      by_cases q3 : nI (h0 + u) = nI h0
      · rw [if_pos q3, if_pos q3]; exact tail _
      · rw [if_neg q3, if_neg q3]; exact tail _
  exact lo FU 0 0 (by unfold FU; omega) (by omega)

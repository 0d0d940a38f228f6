/-! all boats' courses, and the class's meetings -/
theorem Sim.fl {X : XW} {M : MW} {nb nB : Nat} (h : Sim X M nb) (hn : M.1 8 = nI nB) (h6 : nB ≤ 6) : flt X M nb nB := by
  have hnI : (M.1 8).toInt = nB := by rw [hn, nI_toInt (by omega)]
  refine ⟨h6, hn, fun i hi => ?_⟩
  obtain ⟨b, hb⟩ := h.2.1.2.2.1 i (by omega)
  obtain ⟨g1, p, g2, g3, g4⟩ := g_cell h (i := i) (by omega)
  have e : bOf X i = b := by unfold bOf; rw [hb.1]; rfl
  have e2 : pOf M i = p := by unfold pOf; rw [g4]; exact cl_nI (by omega)
  rw [e, e2]
  exact ⟨hb.k (by omega), g4, g3, g1⟩
theorem Sim.nB {X : XW} {M : MW} {nb : Nat} (h : Sim X M nb) : ∃ nB, nB ≤ 6 ∧ M.1 8 = nI nB ∧ X.1 0 12 = nI nB ∧ flt X M nb nB := by
  obtain ⟨n8, hn, -, hne⟩ := nn_ge h.2.1.2.1.1
  have := h.2.1.2.1.2
  exact ⟨n8, by omega, hn, h.2.1.1.trans hn, h.fl hn (by omega)⟩
theorem bOf_at {X : XW} {M : MW} {nb i b : Nat} (hb : boatAt X M nb i b) : bOf X i = b := by unfold bOf; rw [hb.1]; rfl
theorem Sim.at {X : XW} {M : MW} {nb nB i : Nat} (h : Sim X M nb) (hn : M.1 8 = nI nB) (h6 : nB ≤ 6) (hi : i < nB) : boatAt X M nb i (bOf X i) := by
  have hnI : (M.1 8).toInt = nB := by rw [hn, nI_toInt (by omega)]
  obtain ⟨b, hb⟩ := h.2.1.2.2.1 i (by omega)
  rw [bOf_at hb]
  exact hb
theorem night_eq {X : XW} {M : MW} {nb : Nat} (h : Sim X M nb) (l : Int32) : fX10_isNight M l = fX9_isNight X l := by
  unfold fX10_isNight fX9_isNight
  rw [in_eq, h.1.2.2.2.2.2.2.2.2.1]
theorem night_in {X : XW} {M : MW} {nb h0 : Nat} {l : Int32} (h : Sim X M nb) (h7 : M.1 7 = nI h0) (h12 : h0 < 12) (hn : ¬ fX9_isNight X l = 0) : ∃ n, l = nI n ∧ h0 + n ≤ 12 := by
  unfold fX9_isNight at hn
  rw [h.1.2.2.2.2.2.2.2.2.1, h7, show (12 : Int32) - nI h0 = nI (12 - h0) from pk_sub (a := 12) (by omega)] at hn
  have w := wi_ne hn
  rw [nI_toInt (by omega)] at w
  have e0 : (0 : Int32).toInt = 0 := rfl
  rw [e0] at w
  obtain ⟨n, rfl, -, hne⟩ := nn_ge w.1
  exact ⟨n, rfl, by omega⟩
theorem lies_in {X : XW} {j k : Nat} (hj : j < 6) (hk : k < 12) : fX2_liesIn X (27 + 2 * j) (nI k) = some (X.2.1 (27 + 2 * j + 1) k) := by
  unfold fX2_liesIn
  rw [if_neg (show ¬ fX9_isHour (nI k) = 0 from ho_nI hk), if_pos (kd_co hj).1, rd_in (in_nI hk (by omega)), cl_nI (show k < 2 ^ 31 by omega), Option.bind_some]
theorem sailed_ok {X X0 : XW} {M : MW} {H : Nat → Prop} {nb nB i h0 n : Nat} (E : ESim X M H) (F : flt X M nb nB) (hi : i < nB) (hb : boatAt X M nb i (bOf X i)) (a0 : nX X X0) (h7 : X0.1 0 11 = nI h0) (hn : h0 + n ≤ 12) (hH : ∀ h, h0 ≤ h → h < h0 + n → H h) : ∃ X', fX2_sail X0 nb (27 + 2 * i) (bOf X i) (X0.1 0 11) (X0.1 0 11 + nI n) = some X' ∧ cX (27 + 2 * i) X0 X' ∧ tr3 X' (27 + 2 * i) (trA X M nb h0 i n) ∧ ∀ u, u < n → X'.2.1 (27 + 2 * i + 1) (h0 + u) = lyA X M nb h0 i u := by
  obtain ⟨hB, -, F⟩ := F
  obtain ⟨k1, k2, k3, k4⟩ := F i hi
  rw [h7, nI_add]
  exact sail_ok E k1 (by omega) a0 hb.2.2.2.2.2.2.2.1 (hb.2.2.2.2.2.2.2.2.trans k2) k3 k4 hn hH
def allX (X X' : XW) (M : MW) (nb nB h0 n : Nat) : Prop := nX X X' ∧ ∀ i, i < nB → tr3 X' (27 + 2 * i) (trA X M nb h0 i n) ∧ ∀ u, u < n → X'.2.1 (27 + 2 * i + 1) (h0 + u) = lyA X M nb h0 i u
theorem sailAll_ok {X : XW} {M : MW} {H : Nat → Prop} {nb nB h0 n : Nat} (E : ESim X M H) (F : flt X M nb nB) (hb : ∀ i, i < nB → boatAt X M nb i (bOf X i)) (h8 : X.1 0 12 = nI nB) (h7 : X.1 0 11 = nI h0) (hn : h0 + n ≤ 12) (hH : ∀ h, h0 ≤ h → h < h0 + n → H h) : ∃ X', fX9_sailAll X nb (nI n) = some X' ∧ allX X X' M nb nB h0 n := by
  have lo : ∀ (m t : Nat) (X' : XW), 6 < m + t → t ≤ nB → nX X X' → (∀ i, i < t → tr3 X' (27 + 2 * i) (trA X M nb h0 i n) ∧ ∀ u, u < n → X'.2.1 (27 + 2 * i + 1) (h0 + u) = lyA X M nb h0 i u) → ∃ X'', lo2 (fX9_sailAll_l2 nb (nI n)) m X' (nI t) = some X'' ∧ allX X X'' M nb nB h0 n := by
    have hB := F.1
    intro m
    induction m with
    | zero => intro t X' h1 h2; omega
    | succ m ih =>
      intro t X' h1 h2 a hr
      show ∃ X'', fX9_sailAll_l2 nb (nI n) (lo2 (fX9_sailAll_l2 nb (nI n)) m) X' (nI t) = some X'' ∧ _
      generalize hG : lo2 (fX9_sailAll_l2 nb (nI n)) m = G at ih ⊢
      dsimp only [fX9_sailAll_l2, bd]
      rw [a.1 0 (by decide), h8, nI_1]
      by_cases ht : nB ≤ t
      · rw [if_pos (nI_le ht (by omega))]
        exact ⟨X', rfl, a, fun i hi => hr i (by omega)⟩
      rw [if_neg (nI_ge (by omega) (by omega))]
      have it : inb (nI t) 6 := in_nI (by omega) (by omega)
      have bt := hb t (by omega)
      rw [if_pos it, cl_nI (show t < 2 ^ 31 by omega), a.2.1, rdR_in it, cl_nI (show t < 2 ^ 31 by omega), bt.1, Option.bind_some, Option.bind_some]
      obtain ⟨X1, g1, g2, g3, g4⟩ := sailed_ok (X0 := X') E F (show t < nB by omega) bt a (by rw [a.1 0 (by decide)]; exact h7) hn hH
      rw [show X.1 0 11 = X'.1 0 11 by rw [a.1 0 (by decide)], g1, Option.bind_some]
      refine ih (t + 1) X1 (by omega) (by omega) (a.tr (g2.n (by omega))) (fun i hi => ?_)
      by_cases e : i = t
      · subst e; exact ⟨g3, g4⟩
      · obtain ⟨q1, q2⟩ := hr i (by omega)
        refine ⟨?_, fun u hu => ?_⟩
        · unfold tr3
          rw [g2.1 _ (by omega)]
          exact q1
        · rw [g2.2.2 _ (by omega) (by omega) (by omega)]
          exact q2 u hu
  exact lo FU 0 X (by unfold FU; omega) (by omega) (nX.rf X) (fun i hi => by omega)
/-- the class's meetings -/
def fX (X X' : XW) : Prop := X'.1 = X.1 ∧ X'.2.2 = X.2.2 ∧ ∀ i, i ≠ 15 → X'.2.1 i = X.2.1 i
theorem fX.rf (X : XW) : fX X X := ⟨rfl, rfl, fun _ _ => rfl⟩
theorem fX.tr {X Y Z : XW} (a : fX X Y) (b : fX Y Z) : fX X Z := ⟨b.1.trans a.1, b.2.1.trans a.2.1, fun i h => (b.2.2 i h).trans (a.2.2 i h)⟩
theorem fX.n {X X' : XW} (a : fX X X') : nX X X' := ⟨fun i _ => by rw [a.1], a.2.1, fun i _ _ h _ => a.2.2 i h⟩
theorem meet_j {X : XW} {nB h i : Nat} {l1 : Int32} {A0 : List (Nat × Nat × Nat)} {L : Nat → Int32} {K7 K20 : XW → Int32 → Int32 → Option (Int32 × XW)} (h8 : X.1 0 12 = nI nB) (hB : nB ≤ 6) (hh : h < 12) (hi : i < nB) (hA : A0.length ≤ 165) (hl : ∀ k, k < nB → X.2.1 (27 + 2 * k + 1) h = L k) : ∀ (m j : Nat) (X' : XW), 6 < m + j → i + 1 ≤ j → j ≤ nB → fX X X' → repX X' (curL A0 h L nB i j) → ∃ X'', lo3 (fX9_meetings_l35 l1 (nI h) (nI i) K7 K20) m X' (nI (curL A0 h L nB i j).length) (nI j) = K20 X'' (nI (curL A0 h L nB i nB).length) (nI (i + 1)) ∧ repX X'' (curL A0 h L nB i nB) ∧ fX X X'' := by
  intro m
  induction m with
  | zero => intro j X' h1 h2; omega
  | succ m ih =>
    intro j X' h1 h2 h3 a hr
    show ∃ X'', fX9_meetings_l35 l1 (nI h) (nI i) K7 K20 (lo3 (fX9_meetings_l35 l1 (nI h) (nI i) K7 K20) m) X' (nI (curL A0 h L nB i j).length) (nI j) = K20 X'' (nI (curL A0 h L nB i nB).length) (nI (i + 1)) ∧ _
    generalize hG : lo3 (fX9_meetings_l35 l1 (nI h) (nI i) K7 K20) m = G at ih ⊢
    dsimp only [fX9_meetings_l35, bd]
    rw [a.1, h8, nI_1, nI_1, nI_1]
    by_cases hj : nB ≤ j
    · have e : j = nB := by omega
      subst e
      rw [if_pos (nI_le hj (by omega))]
      exact ⟨X', rfl, hr, a⟩
    rw [if_neg (nI_ge (by omega) (by omega)), if_pos (in_nI (show i < 6 by omega) (by omega)), if_pos (in_nI (show j < 6 by omega) (by omega)), cl_nI (show i < 2 ^ 31 by omega), cl_nI (show j < 2 ^ 31 by omega), lies_in (show j < 6 by omega) hh, Option.bind_some]
    unfold fX2_meetsIn
    rw [if_pos (kd_co (show i < 6 by omega)).1, lies_in (show i < 6 by omega) hh, Option.bind_some, a.2.2 _ (by omega), a.2.2 _ (by omega), hl i hi, hl j (by omega)]
    have hs := cur_suc A0 h L nB i j
    by_cases q1 : i < j ∧ ¬ L i = -1 ∧ L i = L j
    · rw [if_pos q1] at hs
      have hlen := cur_len h L hA hB (show j < nB by omega) q1.1
      have e15 : (100 : Int32) * nI h + 10 * nI i + nI j = nI (100 * h + 10 * i + j) := by
        rw [show (100 : Int32) * nI h = nI (100 * h) from pk_mul 100 h, t10, nI_add, nI_add]
      rw [if_neg (by rw [← q1.2.2]; exact q1.2.1), if_pos q1.2.2, Option.bind_some, if_neg n10, if_neg (show ¬ (180 : Int32) ≤ nI _ from nI_ge (b := 180) hlen (by omega)), if_pos (in_nI hlen (by omega)), e15]
      have hp := hr.push (by omega) h i j
      rw [← hs] at hp
      have el : (curL A0 h L nB i j).length + 1 = (curL A0 h L nB i (j + 1)).length := by rw [hs, List.length_append, List.length_singleton]
      rw [el]
      exact ih (j + 1) _ (by omega) (by omega) (by omega) (a.tr ⟨rfl, rfl, fun k hk => xA_ne _ _ _ hk⟩) hp
    · rw [if_neg q1, List.append_nil] at hs
      have go := ih (j + 1) X' (by omega) (by omega) (by omega) a (by rw [hs]; exact hr)
      rw [hs] at go
      by_cases q2 : L j = -1
      · rw [if_pos q2, Option.bind_some, if_pos rfl]; exact go
      · rw [if_neg q2]
        have q3 : ¬ L i = L j := fun q => q1 ⟨by omega, by rw [q]; exact q2, q⟩
        rw [if_neg q3, Option.bind_some, if_pos rfl]; exact go
theorem meet_i {X : XW} {nB h : Nat} {l1 : Int32} {A0 : List (Nat × Nat × Nat)} {L : Nat → Int32} {K7 : XW → Int32 → Int32 → Option (Int32 × XW)} (h8 : X.1 0 12 = nI nB) (hB : nB ≤ 6) (hh : h < 12) (hA : A0.length ≤ 165) (hl : ∀ k, k < nB → X.2.1 (27 + 2 * k + 1) h = L k) : ∀ (m i : Nat) (X' : XW), 6 < m + i → i ≤ nB → fX X X' → repX X' (curL A0 h L nB i 0) → ∃ X'', lo3 (fX9_meetings_l20 l1 (nI h) K7) m X' (nI (curL A0 h L nB i 0).length) (nI i) = K7 X'' (nI (curL A0 h L nB nB 0).length) (nI (h + 1)) ∧ repX X'' (curL A0 h L nB nB 0) ∧ fX X X'' := by
  intro m
  induction m with
  | zero => intro j X' h1 h2; omega
  | succ m ih =>
    intro i X' h1 h2 a hr
    show ∃ X'', fX9_meetings_l20 l1 (nI h) K7 (lo3 (fX9_meetings_l20 l1 (nI h) K7) m) X' (nI (curL A0 h L nB i 0).length) (nI i) = K7 X'' (nI (curL A0 h L nB nB 0).length) (nI (h + 1)) ∧ _
    generalize hG : lo3 (fX9_meetings_l20 l1 (nI h) K7) m = G at ih ⊢
    dsimp only [fX9_meetings_l20, bd]
    rw [a.1, h8, nI_1, nI_1]
    by_cases hj : nB ≤ i
    · have e : i = nB := by omega
      subst e
      rw [if_pos (nI_le hj (by omega))]
      exact ⟨X', rfl, hr, a⟩
    rw [if_neg (nI_ge (by omega) (by omega)), ← cur_nil]
    obtain ⟨X1, g1, g2, g3⟩ := meet_j (l1 := l1) (K7 := K7) (K20 := G) h8 hB hh (show i < nB by omega) hA hl FU (i + 1) X' (by unfold FU; omega) (Nat.le_refl _) (by omega) a (by rw [cur_nil]; exact hr)
    rw [g1]
    rw [cur_row] at g2 ⊢
    exact ih (i + 1) X1 (by omega) (by omega) g3 g2
theorem meet_ok {X X' : XW} {M : MW} {nb nB h0 n : Nat} (hB : nB ≤ 6) (h8 : X'.1 0 12 = nI nB) (h7 : X'.1 0 11 = nI h0) (hn : h0 + n ≤ 12) (A : allX X X' M nb nB h0 n) : ∃ X'', fX9_meetings X' (nI n) = some (nI (mts (lyA X M nb h0) h0 nB n).length, X'') ∧ fX X' X'' ∧ repX X'' (mts (lyA X M nb h0) h0 nB n) := by
  have lo : ∀ (m t : Nat) (X1 : XW), n < m + t → t ≤ n → fX X' X1 → repX X1 (mts (lyA X M nb h0) h0 nB t) → ∃ X'', lo3 (fX9_meetings_l7 (nI n)) m X1 (nI (mts (lyA X M nb h0) h0 nB t).length) (nI (h0 + t)) = some (nI (mts (lyA X M nb h0) h0 nB n).length, X'') ∧ fX X' X'' ∧ repX X'' (mts (lyA X M nb h0) h0 nB n) := by
    intro m
    induction m with
    | zero => intro t X1 h1 h2; omega
    | succ m ih =>
      intro t X1 h1 h2 a hr
      show ∃ X'', fX9_meetings_l7 (nI n) (lo3 (fX9_meetings_l7 (nI n)) m) X1 (nI (mts (lyA X M nb h0) h0 nB t).length) (nI (h0 + t)) = some (nI (mts (lyA X M nb h0) h0 nB n).length, X'') ∧ _
      generalize hG : lo3 (fX9_meetings_l7 (nI n)) m = G at ih ⊢
      unfold fX9_meetings_l7
      rw [a.1, h7, nI_add]
      by_cases ht : t = n
      · subst ht
        rw [if_pos (nI_le (Nat.le_refl _) (by omega))]
        exact ⟨X1, rfl, a, hr⟩
      rw [if_neg (nI_ge (by omega) (by omega))]
      have hlen := mts_len (lyA X M nb h0) h0 hB t
      have e0 : curL (mts (lyA X M nb h0) h0 nB t) (h0 + t) (fun i => lyA X M nb h0 i t) nB 0 0 = mts (lyA X M nb h0) h0 nB t := by
        unfold curL mIs mJ
        simp
      have e1 : curL (mts (lyA X M nb h0) h0 nB t) (h0 + t) (fun i => lyA X M nb h0 i t) nB nB 0 = mts (lyA X M nb h0) h0 nB (t + 1) := by
        unfold curL
        rw [mJ_nil _ nB 0 (Nat.zero_le _), List.append_nil, mts_suc]
      obtain ⟨X2, g1, g2, g3⟩ := meet_i (X := X1) (l1 := nI n) (K7 := G) (A0 := mts (lyA X M nb h0) h0 nB t) (L := fun i => lyA X M nb h0 i t) (by rw [a.1]; exact h8) hB (show h0 + t < 12 by omega) (by omega) (fun k hk => by rw [a.2.2 _ (by omega)]; exact (A.2 k hk).2 t (by omega)) FU 0 X1 (by unfold FU; omega) (by omega) (fX.rf X1) (by rw [e0]; exact hr)
      rw [e0, e1] at g1
      rw [e1] at g2
      rw [show (0 : Int32) = nI 0 from rfl, g1]
      exact ih (t + 1) X2 (by omega) (by omega) (a.tr g3) g2
  unfold fX9_meetings
  rw [bd, h7]
  exact lo FU 0 X' (by unfold FU; omega) (by omega) (fX.rf X') (fun t x hx => by cases hx)

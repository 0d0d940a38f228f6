/-! the model's meetings, and the whole night -/
def zM (M M' : MW) : Prop := (∀ k, k ≠ 55 → M'.1 k = M.1 k) ∧ ∀ i, i < 101 ∨ 103 < i → M'.2 i = M.2 i
theorem zM.rf (M : MW) : zM M M := ⟨fun _ _ => rfl, fun _ _ => rfl⟩
theorem zM.tr {X Y Z : MW} (a : zM X Y) (b : zM Y Z) : zM X Z := ⟨fun i h => (b.1 i h).trans (a.1 i h), fun i h => (b.2 i h).trans (a.2 i h)⟩
theorem zM.n {M M' : MW} (a : zM M M') : nM M M' := ⟨a.1, fun i h => a.2 i (by omega)⟩
def curL (A0 : List (Nat × Nat × Nat)) (h : Nat) (L : Nat → Int32) (nB i j : Nat) : List (Nat × Nat × Nat) := A0 ++ (mIs L nB i ++ mJ L i j).map fun q => (h, q)
theorem cur_suc (A0 : List (Nat × Nat × Nat)) (h : Nat) (L : Nat → Int32) (nB i j : Nat) : curL A0 h L nB i (j + 1) = curL A0 h L nB i j ++ (if i < j ∧ ¬ L i = -1 ∧ L i = L j then [(h, i, j)] else []) := by
  unfold curL
  rw [mJ_suc]
  by_cases c : i < j ∧ ¬ L i = -1 ∧ L i = L j
  · rw [if_pos c, if_pos c]
    simp
  · rw [if_neg c, if_neg c, List.append_nil, List.append_nil]
theorem cur_nil (A0 : List (Nat × Nat × Nat)) (h : Nat) (L : Nat → Int32) (nB i : Nat) : curL A0 h L nB i (i + 1) = curL A0 h L nB i 0 := by
  unfold curL
  rw [mJ_nil L i (i + 1) (Nat.le_refl _), mJ_nil L i 0 (Nat.zero_le _)]
theorem cur_row (A0 : List (Nat × Nat × Nat)) (h : Nat) (L : Nat → Int32) (nB i : Nat) : curL A0 h L nB i nB = curL A0 h L nB (i + 1) 0 := by
  unfold curL
  rw [mJ_nil L (i + 1) 0 (Nat.zero_le _), List.append_nil, mIs_suc]
theorem cur_len {A0 : List (Nat × Nat × Nat)} (h : Nat) (L : Nat → Int32) {nB i j : Nat} (hA : A0.length ≤ 165) (hB : nB ≤ 6) (hj : j < nB) (hi : i < j) : (curL A0 h L nB i j).length < 180 := by
  unfold curL
  rw [List.length_append, List.length_map, List.length_append]
  have h1 := mIs_len L nB i
  have h2 := mJ_len L i j
  have h3 := trN_lt hB hj hi
  omega
theorem pass3j {nB h i : Nat} {A0 : List (Nat × Nat × Nat)} {L : Nat → Int32} {K : MW → Int32 → Option MW} (hB : nB ≤ 6) (hh : h < 12) (hi : i < nB) (hA : A0.length ≤ 165) : ∀ (m j : Nat) (M' : MW), 6 < m + j → i + 1 ≤ j → j ≤ nB → M'.1 8 = nI nB → (∀ k, k < nB → M'.2 100 (6 * h + k) = L k) → repM M' (curL A0 h L nB i j) → ∃ M'', lo2 (fX10_passes_l190 (nI h) (nI i) K) m M' (nI j) = K M'' (nI (i + 1)) ∧ repM M'' (curL A0 h L nB i nB) ∧ zM M' M'' := by
  intro m
  induction m with
  | zero => intro j M' h1 h2; omega
  | succ m ih =>
    intro j M' h1 h2 h3 h8 hl hr
    show ∃ M'', fX10_passes_l190 (nI h) (nI i) K (lo2 (fX10_passes_l190 (nI h) (nI i) K) m) M' (nI j) = K M'' (nI (i + 1)) ∧ _
    generalize hG : lo2 (fX10_passes_l190 (nI h) (nI i) K) m = G at ih ⊢
    dsimp only [fX10_passes_l190, bd]
    rw [h8, nI_1, nI_1]
    by_cases hj : nB ≤ j
    · have e : j = nB := by omega
      subst e
      rw [if_pos (nI_le hj (by omega))]
      exact ⟨M', rfl, hr, zM.rf M'⟩
    rw [if_neg (nI_ge (by omega) (by omega))]
    have e6 : ∀ k, (6 : Int32) * nI h + nI k = nI (6 * h + k) := fun k => by rw [show (6 : Int32) * nI h = nI (6 * h) from pk_mul 6 h, nI_add]
    have g : ∀ k, k < nB → rd (M'.2 100) 72 (nI (6 * h + k)) = some (L k) := fun k hk => by rw [rd_in (in_nI (by omega) (by omega)), cl_nI (by omega), hl k hk]
    rw [e6, e6, g i hi, g j (by omega), Option.bind_some, Option.bind_some, Option.bind_some]
    have hs := cur_suc A0 h L nB i j
    by_cases q1 : L i = -1
    · rw [if_pos q1]
      rw [if_neg (fun q => q.2.1 q1), List.append_nil] at hs
      exact ih (j + 1) M' (by omega) (by omega) (by omega) h8 hl (by rw [hs]; exact hr)
    rw [if_neg q1]
    by_cases q2 : L i = L j
    · rw [if_pos q2]
      rw [if_pos ⟨by omega, q1, q2⟩] at hs
      have hlen := cur_len h L hA hB (show j < nB by omega) (show i < j by omega)
      have in1 : inb (M'.1 55) 180 := by rw [hr.1]; exact in_nI hlen (by omega)
      have in2 : inb ((mA M' 101 (M'.1 55) (nI h)).1 55) 180 := in1
      have in3 : inb ((mA (mA M' 101 (M'.1 55) (nI h)) 102 ((mA M' 101 (M'.1 55) (nI h)).1 55) (nI i)).1 55) 180 := in1
      rw [if_pos in1, if_pos in2, if_pos in3]
      have hp := hr.push (by omega) h i j
      obtain ⟨M'', g1, g2, g3⟩ := ih (j + 1) (mI (mA (mA (mA M' 101 (M'.1 55) (nI h)) 102 (M'.1 55) (nI i)) 103 (M'.1 55) (nI j)) 55 (M'.1 55 + 1)) (by omega) (by omega) (by omega) (by exact h8) (by exact hl) (by rw [hs]; exact hp)
      refine ⟨M'', g1, g2, zM.tr ⟨fun k hk => va_up_ne _ _ hk, fun k hk => ?_⟩ g3⟩
      show (mA (mA (mA M' 101 (M'.1 55) (nI h)) 102 (M'.1 55) (nI i)) 103 (M'.1 55) (nI j)).2 k = _
      rw [mA_ne _ _ _ (by omega), mA_ne _ _ _ (by omega), mA_ne _ _ _ (by omega)]
    · rw [if_neg q2]
      rw [if_neg (fun q => q2 q.2.2), List.append_nil] at hs
      exact ih (j + 1) M' (by omega) (by omega) (by omega) h8 hl (by rw [hs]; exact hr)
theorem pass3 {nB h : Nat} {A0 : List (Nat × Nat × Nat)} {L : Nat → Int32} (hB : nB ≤ 6) (hh : h < 12) (hA : A0.length ≤ 165) : ∀ (m i : Nat) (M' : MW), 6 < m + i → i ≤ nB → M'.1 8 = nI nB → (∀ k, k < nB → M'.2 100 (6 * h + k) = L k) → repM M' (curL A0 h L nB i 0) → ∃ M'', lo2 (fX10_passes_l178 (nI h)) m M' (nI i) = some M'' ∧ repM M'' (curL A0 h L nB nB 0) ∧ zM M' M'' := by
  intro m
  induction m with
  | zero => intro j M' h1 h2; omega
  | succ m ih =>
    intro i M' h1 h2 h8 hl hr
    show ∃ M'', fX10_passes_l178 (nI h) (lo2 (fX10_passes_l178 (nI h)) m) M' (nI i) = some M'' ∧ _
    generalize hG : lo2 (fX10_passes_l178 (nI h)) m = G at ih ⊢
    dsimp only [fX10_passes_l178, bd]
    rw [h8, nI_1]
    by_cases hj : nB ≤ i
    · have e : i = nB := by omega
      subst e
      rw [if_pos (nI_le hj (by omega))]
      exact ⟨M', rfl, hr, zM.rf M'⟩
    rw [if_neg (nI_ge (by omega) (by omega))]
    obtain ⟨M1, g1, g2, g3⟩ := pass3j (K := G) hB hh (show i < nB by omega) hA FU (i + 1) M' (by unfold FU; omega) (Nat.le_refl _) (by omega) h8 hl (by rw [cur_nil]; exact hr)
    rw [g1]
    rw [cur_row] at g2
    obtain ⟨M2, f1, f2, f3⟩ := ih (i + 1) M1 (by omega) (by omega) ((g3.1 8 (by decide)).trans h8) (fun k hk => by rw [g3.2 100 (by decide)]; exact hl k hk) g2
    exact ⟨M2, f1, f2, g3.tr f3⟩
/-- one hour -/
theorem pass_ok {X : XW} {M M' : MW} {H : Nat → Prop} {nb nB h : Nat} {A0 : List (Nat × Nat × Nat)} (E : ESim X M H) (F : flt X M nb nB) (hh : h < 12) (hH : H h) (S : Nat → Int32 × Int32 × Int32) (hS : ∀ i, i < nB → cOk (S i).1) (a : nM M M') (hr : ∀ i, i < nB → row3 M' i (S i)) (hA : A0.length ≤ 165) (hm : repM M' A0) : ∃ M'', fX10_passes M' (nI h) = some M'' ∧ nM M M'' ∧ (∀ i, i < nB → row3 M'' i (tst X nb (bOf X i) (nI (pOf M i)) h (S i))) ∧ (∀ i, i < nB → M''.2 100 (6 * h + i) = if (tst X nb (bOf X i) (nI (pOf M i)) h (S i)).1 = -1 then -1 else lyX X (tst X nb (bOf X i) (nI (pOf M i)) h (S i)).1 (nI (pOf M i)) h) ∧ (∀ x, x < 6 * h → M''.2 100 x = M'.2 100 x) ∧ repM M'' (A0 ++ (mIs (fun i => if (tst X nb (bOf X i) (nI (pOf M i)) h (S i)).1 = -1 then -1 else lyX X (tst X nb (bOf X i) (nI (pOf M i)) h (S i)).1 (nI (pOf M i)) h) nB nB).map fun q => (h, q)) := by
  have hB := F.1
  obtain ⟨M1, a1, a2, a3, a4, a5⟩ := pass1 E F hh hH S hS FU 0 M' (by unfold FU; omega) (by omega) a (fun i hi => by rw [if_neg (by omega)]; exact hr i hi)
  have hS' : ∀ i, i < nB → cOk (tst X nb (bOf X i) (nI (pOf M i)) h (S i)).1 := fun i hi => tst_c E.1 hh (hS i hi)
  obtain ⟨M2, b1, b2, b3, b4, b5, b6, b7⟩ := pass2 (nb := nb) E F hh (fun i => tst X nb (bOf X i) (nI (pOf M i)) h (S i)) hS' FU 0 M1 (by unfold FU; omega) (by omega) a2 a3 (fun i hi => by omega)
  have m55 : M2.1 55 = M'.1 55 := by rw [b5, a4]
  have hm2 : repM M2 (curL A0 h (fun i => if (tst X nb (bOf X i) (nI (pOf M i)) h (S i)).1 = -1 then -1 else lyX X (tst X nb (bOf X i) (nI (pOf M i)) h (S i)).1 (nI (pOf M i)) h) nB 0 0) := by
    have e : curL A0 h (fun i => if (tst X nb (bOf X i) (nI (pOf M i)) h (S i)).1 = -1 then -1 else lyX X (tst X nb (bOf X i) (nI (pOf M i)) h (S i)).1 (nI (pOf M i)) h) nB 0 0 = A0 := by
      unfold curL mIs mJ
      simp
    rw [e]
    refine ⟨m55.trans hm.1, fun t x hx => ?_⟩
    rw [b6 101 (by decide), b6 102 (by decide), b6 103 (by decide), a5 101 (by decide), a5 102 (by decide), a5 103 (by decide)]
    exact hm.2 t x hx
  obtain ⟨M3, d1, d2, d3⟩ := pass3 hB hh hA FU 0 M2 (by unfold FU; omega) (by omega) ((b2.1 8 (by decide)).trans F.2.1) b4 hm2
  refine ⟨M3, ?_, b2.tr d3.n, fun i hi => (b3 i hi).e (d3.2 97 (by decide)) (d3.2 98 (by decide)) (d3.2 99 (by decide)), fun i hi => ?_, fun x hx => ?_, ?_⟩
  · unfold fX10_passes
    rw [show (0 : Int32) = nI 0 from rfl, a1]
    unfold fX10_passes_b102
    rw [show (0 : Int32) = nI 0 from rfl, b1]
    unfold fX10_passes_b176
    exact d1
  · rw [d3.2 100 (by decide)]; exact b4 i hi
  · rw [d3.2 100 (by decide), b7 x hx, a5 100 (by decide)]
  · have e : curL A0 h (fun i => if (tst X nb (bOf X i) (nI (pOf M i)) h (S i)).1 = -1 then -1 else lyX X (tst X nb (bOf X i) (nI (pOf M i)) h (S i)).1 (nI (pOf M i)) h) nB nB 0 = A0 ++ (mIs (fun i => if (tst X nb (bOf X i) (nI (pOf M i)) h (S i)).1 = -1 then -1 else lyX X (tst X nb (bOf X i) (nI (pOf M i)) h (S i)).1 (nI (pOf M i)) h) nB nB).map fun q => (h, q) := by
      unfold curL
      rw [mJ_nil _ nB 0 (Nat.zero_le _), List.append_nil]
    rw [← e]
    exact d2
/-- the courses of all -/
def trA (X : XW) (M : MW) (nb h0 : Nat) (i k : Nat) : Int32 × Int32 × Int32 := trj X nb (bOf X i) (nI (pOf M i)) (M.2 77 i) h0 k
def lyA (X : XW) (M : MW) (nb h0 : Nat) (i k : Nat) : Int32 := lyT X nb (bOf X i) (nI (pOf M i)) (M.2 77 i) h0 k
def gone (X : XW) (M M' : MW) (nb nB h0 n : Nat) : Prop := nM M M' ∧ (∀ i, i < nB → row3 M' i (trA X M nb h0 i n)) ∧ (∀ u, u < n → ∀ i, i < nB → M'.2 100 (6 * (h0 + u) + i) = lyA X M nb h0 i u) ∧ repM M' (mts (lyA X M nb h0) h0 nB n)
theorem goes_lo {X : XW} {M : MW} {H : Nat → Prop} {nb nB h0 n : Nat} (E : ESim X M H) (F : flt X M nb nB) (h7 : M.1 7 = nI h0) (hn : h0 + n ≤ 12) (hH : ∀ h, h0 ≤ h → h < h0 + n → H h) : ∀ (m t : Nat) (M' : MW), n < m + t → t ≤ n → gone X M M' nb nB h0 t → ∃ M'', lo2 (fX10_goes_l9 (nI n)) m M' (nI (h0 + t)) = some M'' ∧ gone X M M'' nb nB h0 n := by
  intro m
  induction m with
  | zero => intro t M' h1 h2; omega
  | succ m ih =>
    intro t M' h1 h2 hg
    show ∃ M'', fX10_goes_l9 (nI n) (lo2 (fX10_goes_l9 (nI n)) m) M' (nI (h0 + t)) = some M'' ∧ _
    generalize hG : lo2 (fX10_goes_l9 (nI n)) m = G at ih ⊢
    dsimp only [fX10_goes_l9, bd]
    obtain ⟨a, g1, g2, g3⟩ := hg
    rw [a.1 7 (by decide), h7, nI_add, nI_1]
    by_cases ht : t = n
    · subst ht
      rw [if_pos (nI_le (Nat.le_refl _) (by omega))]
      exact ⟨M', rfl, a, g1, g2, g3⟩
    rw [if_neg (nI_ge (by omega) (by omega))]
    have hlen := mts_len (lyA X M nb h0) h0 F.1 t
    obtain ⟨M1, b1, b2, b3, b4, b5, b6⟩ := pass_ok E F (show h0 + t < 12 by omega) (hH _ (by omega) (by omega)) (fun i => trA X M nb h0 i t) (fun i hi => trj_c E.1 (F.2.2 i hi).2.2.2 t (by omega)) a g1 (by omega) g3
    rw [b1, Option.bind_some]
    refine ih (t + 1) M1 (by omega) (by omega) ⟨b2, b3, fun u hu i hi => ?_, ?_⟩
    · by_cases e : u = t
      · subst e; exact b4 i hi
      · rw [b5 _ (by have := F.1; omega)]; exact g2 u (by omega) i hi
    · rw [mts_suc]; exact b6
theorem goes_ok {X : XW} {M : MW} {H : Nat → Prop} {nb nB h0 n : Nat} (E : ESim X M H) (F : flt X M nb nB) (h7 : M.1 7 = nI h0) (hn : h0 + n ≤ 12) (hH : ∀ h, h0 ≤ h → h < h0 + n → H h) : ∃ M', fX10_goes M (nI n) = some M' ∧ gone X M M' nb nB h0 n := by
  obtain ⟨M1, a1, a2, a3, a4⟩ := begins_lo F.2.1 F.1 FU 0 M (by unfold FU; omega) (by omega) (nM.rf M) (fun i hi => by omega)
  obtain ⟨M2, b1, b2⟩ := goes_lo E F h7 hn hH FU 0 M1 (by unfold FU; omega) (by omega) ⟨a2, a4, fun u hu => by omega, a3, fun t x hx => by cases hx⟩
  refine ⟨M2, ?_, b2⟩
  unfold fX10_goes fX10_begins
  rw [show (0 : Int32) = nI 0 from rfl, a1, Option.bind_some, bd, a2.1 7 (by decide), h7]
  exact b1

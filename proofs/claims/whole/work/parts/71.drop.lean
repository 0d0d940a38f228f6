/-! drop -/
theorem meets_ok {M : MW} {A : List (Nat × Nat × Nat)} {i : Nat} (r : repM M A) (hl : A.length ≤ 180) (hi : i < 6) (hA : ∀ a, a ∈ A → a.2.1 < 6 ∧ a.2.2 < 6) : ∃ v, fX10_meets M (nI i) = some v ∧ ((v = 1 ∧ ∃ a, a ∈ A ∧ (a.2.1 = i ∨ a.2.2 = i)) ∨ (v = 0 ∧ ∀ a, a ∈ A → ¬ (a.2.1 = i ∨ a.2.2 = i))) := by
  have lo : ∀ (m t : Nat), A.length < m + t → t ≤ A.length → (∀ s a, s < t → A[s]? = some a → ¬ (a.2.1 = i ∨ a.2.2 = i)) → ∃ v, lo1 (fX10_meets_l2 M (nI i)) m (nI t) = some v ∧ ((v = 1 ∧ ∃ a, a ∈ A ∧ (a.2.1 = i ∨ a.2.2 = i)) ∨ (v = 0 ∧ ∀ a, a ∈ A → ¬ (a.2.1 = i ∨ a.2.2 = i))) := by
    intro m
    induction m with
    | zero => intro t h1 h2; omega
    | succ m ih =>
      intro t h1 h2 hz
      show ∃ v, fX10_meets_l2 M (nI i) (lo1 (fX10_meets_l2 M (nI i)) m) (nI t) = some v ∧ _
      generalize hG : lo1 (fX10_meets_l2 M (nI i)) m = G at ih ⊢
      unfold fX10_meets_l2
      rw [r.1, nI_1]
      by_cases ht : A.length ≤ t
      · rw [if_pos (nI_le ht (by omega))]
        refine ⟨0, rfl, Or.inr ⟨rfl, fun a ha => ?_⟩⟩
        obtain ⟨s, hs, he⟩ := List.mem_iff_getElem.mp ha
        exact hz s a (by omega) (by rw [List.getElem?_eq_getElem hs, he])
      have ht' : t < A.length := by omega
      have hget : A[t]? = some A[t] := List.getElem?_eq_getElem ht'
      have hmem : A[t] ∈ A := List.getElem_mem ht'
      obtain ⟨-, m2, m3⟩ := r.2 t _ hget
      have hb := hA _ hmem
      have it : inb (nI t) 180 := in_nI (by omega) (by omega)
      rw [if_neg (nI_ge (by omega) (by omega)), rd_in it, rd_in it, cl_nI (show t < 2 ^ 31 by omega), Option.bind_some, m2, m3]
      by_cases q1 : A[t].2.1 = i
      · rw [if_pos (by rw [q1])]
        exact ⟨1, rfl, Or.inl ⟨rfl, _, hmem, Or.inl q1⟩⟩
      rw [if_neg (fun q => q1 ((nI_eq (by omega) (by omega)).mp q)), Option.bind_some]
      by_cases q2 : A[t].2.2 = i
      · rw [if_pos (by rw [q2])]
        exact ⟨1, rfl, Or.inl ⟨rfl, _, hmem, Or.inr q2⟩⟩
      rw [if_neg (fun q => q2 ((nI_eq (by omega) (by omega)).mp q))]
      refine ih (t + 1) (by omega) (by omega) (fun s a hs ha => ?_)
      by_cases e : s = t
      · subst e
        rw [hget] at ha
        have := Option.some.inj ha
        subst this
        exact fun q => q.elim q1 q2
      · exact hz s a (by omega) ha
  unfold fX10_meets
  exact lo FU 0 (by unfold FU; omega) (by omega) (fun s a hs => by omega)
theorem other_ok {X X0 : XW} {M : MW} {nb nB i b c p h0 n : Nat} {ly : Nat → Nat → Int32} (hB : SBay X M) (a0 : nX X X0) (hN : NS ≤ b ∧ b < TT nb) (h6 : nB ≤ 6) (hi : i < 6) (hc : c < 100) (hp : p ≤ 40) (hb5 : X0.1 b 5 = nI p) (h8 : X0.1 0 12 = nI nB) (h7 : X0.1 0 11 = nI h0) (hn : h0 + n ≤ 12) (hl : ∀ j, j < nB → ∀ u, u < n → X0.2.1 (27 + 2 * j + 1) (h0 + u) = ly j u) : ∃ v, fX9_meetsAnother X0 nb (nI i) b (nI c) (nI n) = some v ∧ ((v = 1 ∧ ∃ u j, u < n ∧ j < nB ∧ j ≠ i ∧ ly j u = lyX X (nI c) (nI p) (h0 + u)) ∨ (v = 0 ∧ ∀ u j, u < n → j < nB → j ≠ i → ¬ ly j u = lyX X (nI c) (nI p) (h0 + u))) := by
  have inner : ∀ (G : Int32 → Option Int32) (t : Nat), t < n → (∀ u j, u < t → j < nB → j ≠ i → ¬ ly j u = lyX X (nI c) (nI p) (h0 + u)) → ((∀ u j, u < t + 1 → j < nB → j ≠ i → ¬ ly j u = lyX X (nI c) (nI p) (h0 + u)) → ∃ v, G (nI (h0 + (t + 1))) = some v ∧ ((v = 1 ∧ ∃ u j, u < n ∧ j < nB ∧ j ≠ i ∧ ly j u = lyX X (nI c) (nI p) (h0 + u)) ∨ (v = 0 ∧ ∀ u j, u < n → j < nB → j ≠ i → ¬ ly j u = lyX X (nI c) (nI p) (h0 + u)))) → ∀ (m j : Nat), 6 < m + j → j ≤ nB → (∀ k, k < j → k ≠ i → ¬ ly k t = lyX X (nI c) (nI p) (h0 + t)) → ∃ v, lo1 (fX9_meetsAnother_l47 X0 nb (nI i) b (nI c) (nI n) (nI (h0 + t)) (lyX X (nI c) (nI p) (h0 + t)) G) m (nI j) = some v ∧ ((v = 1 ∧ ∃ u j, u < n ∧ j < nB ∧ j ≠ i ∧ ly j u = lyX X (nI c) (nI p) (h0 + u)) ∨ (v = 0 ∧ ∀ u j, u < n → j < nB → j ≠ i → ¬ ly j u = lyX X (nI c) (nI p) (h0 + u))) := by
    intro G t ht hz hG m
    induction m with
    | zero => intro j h1 h2; omega
    | succ m ih =>
      intro j h1 h2 hz2
      show ∃ v, fX9_meetsAnother_l47 X0 nb (nI i) b (nI c) (nI n) (nI (h0 + t)) (lyX X (nI c) (nI p) (h0 + t)) G (lo1 (fX9_meetsAnother_l47 X0 nb (nI i) b (nI c) (nI n) (nI (h0 + t)) (lyX X (nI c) (nI p) (h0 + t)) G) m) (nI j) = some v ∧ _
      generalize hL : lo1 (fX9_meetsAnother_l47 X0 nb (nI i) b (nI c) (nI n) (nI (h0 + t)) (lyX X (nI c) (nI p) (h0 + t)) G) m = L at ih ⊢
      dsimp only [fX9_meetsAnother_l47, bd]
      rw [h8, nI_1, nI_1, Nat.add_assoc]
      by_cases hj : nB ≤ j
      · rw [if_pos (nI_le hj (by omega))]
        refine hG (fun u k hu hk hki => ?_)
        by_cases e : u = t
        · subst e; exact hz2 k (by omega) hki
        · exact hz u k (by omega) hk hki
      rw [if_neg (nI_ge (by omega) (by omega))]
      by_cases hji : j = i
      · rw [if_pos (by rw [hji])]
        refine ih (j + 1) (by omega) (by omega) (fun k hk hki => hz2 k (by omega) hki)
      rw [if_neg (fun q => hji ((nI_eq (by omega) (by omega)).mp q)), if_pos (in_nI (show j < 6 by omega) (by omega)), cl_nI (show j < 2 ^ 31 by omega)]
      obtain ⟨w, -, -, d, hd, hdd⟩ := ly_X (X' := X) (h := h0 + t) hB (nX.rf X) hc (by omega) hp
      unfold fX2_meetsIn
      rw [if_neg (by rw [hdd]; exact nI_m1 (by omega)), if_pos (kd_co (show j < 6 by omega)).1, lies_in (show j < 6 by omega) (show h0 + t < 12 by omega), Option.bind_some, hl j (by omega) t ht]
      by_cases q : ly j t = lyX X (nI c) (nI p) (h0 + t)
      · rw [if_pos q, Option.bind_some, if_neg n10]
        exact ⟨1, rfl, Or.inl ⟨rfl, t, j, ht, by omega, hji, q⟩⟩
      · rw [if_neg q, Option.bind_some, if_pos rfl]
        refine ih (j + 1) (by omega) (by omega) (fun k hk hki => ?_)
        by_cases e : k = j
        · rw [e]; exact q
        · exact hz2 k (by omega) hki
  have lo : ∀ (m t : Nat), n < m + t → t ≤ n → (∀ u j, u < t → j < nB → j ≠ i → ¬ ly j u = lyX X (nI c) (nI p) (h0 + u)) → ∃ v, lo1 (fX9_meetsAnother_l6 X0 nb (nI i) b (nI c) (nI n)) m (nI (h0 + t)) = some v ∧ ((v = 1 ∧ ∃ u j, u < n ∧ j < nB ∧ j ≠ i ∧ ly j u = lyX X (nI c) (nI p) (h0 + u)) ∨ (v = 0 ∧ ∀ u j, u < n → j < nB → j ≠ i → ¬ ly j u = lyX X (nI c) (nI p) (h0 + u))) := by
    intro m
    induction m with
    | zero => intro t h1 h2; omega
    | succ m ih =>
      intro t h1 h2 hz
      show ∃ v, fX9_meetsAnother_l6 X0 nb (nI i) b (nI c) (nI n) (lo1 (fX9_meetsAnother_l6 X0 nb (nI i) b (nI c) (nI n)) m) (nI (h0 + t)) = some v ∧ _
      generalize hG : lo1 (fX9_meetsAnother_l6 X0 nb (nI i) b (nI c) (nI n)) m = G at ih ⊢
      unfold fX9_meetsAnother_l6
      rw [h7, nI_add]
      by_cases ht : t = n
      · subst ht
        rw [if_pos (nI_le (Nat.le_refl _) (by omega))]
        exact ⟨0, rfl, Or.inr ⟨rfl, hz⟩⟩
      obtain ⟨w, g1, g2, -⟩ := ly_X (h := h0 + t) hB a0 hc (by omega) hp
      rw [if_neg (nI_ge (by omega) (by omega)), if_pos hN, g1, Option.bind_some, hb5, g2, Option.bind_some]
      exact inner G t (by omega) hz (fun q => ih (t + 1) (by omega) (by omega) q) FU 0 (by unfold FU; omega) (by omega) (fun k hk => by omega)
  unfold fX9_meetsAnother
  rw [bd, h7]
  exact lo FU 0 (by unfold FU; omega) (by omega) (fun u j hu => by omega)
theorem p_drop {X : XW} {M : MW} {nb : Nat} (h : Sim X M nb) (a l w : Int32) : R2 nb (fX9_drop X nb a l w) (fX10_drop M a l w) := by
  unfold fX9_drop fX10_drop
  rw [night_eq h, in_eq]
  rcases boat_of h a with ⟨c1, c2⟩ | ⟨c1, i, b, rfl, hi, hi8, hb, c2⟩
  · rw [c2, if_pos c1]; exact R2.mk h
  rw [c2, if_neg c1, Option.bind_some]
  dsimp only [oc]
  by_cases c3 : fX9_isNight X l = 0
  · rw [if_pos c3, if_pos c3]; exact R2.mk h
  rw [if_neg c3, if_neg c3]
  by_cases c4 : fX9_within w 0 1 = 0
  · rw [if_pos c4, if_pos c4]; exact R2.mk h
  rw [if_neg c4, if_neg c4]
  have it : inb (nI i) 6 := in_nI hi (by omega)
  have hcl : (nI i).toNatClampNeg = i := cl_nI (by omega)
  obtain ⟨h0, h12, h7, h7x⟩ := g_now h
  obtain ⟨n, rfl, hn⟩ := night_in h h7 h12 c3
  obtain ⟨nB, hB, h8, h8x, F⟩ := h.nB
  have hib : i < nB := by rw [h8, nI_toInt (by omega)] at hi8; omega
  have eb := bOf_at hb
  obtain ⟨kt, pt, pt2, -⟩ := F.2.2 i hib
  rw [eb] at kt
  have hN : NS ≤ b ∧ b < TT nb := ⟨hb.2.1, hb.2.2.1⟩
  have hN' : 104 ≤ b := hN.1
  obtain ⟨X0, g1, g2⟩ := sailAll_ok h.es F (fun i hi => h.at F.2.1 F.1 hi) h8x h7x hn (fun _ _ _ => trivial)
  rw [g1, rd_in it, hcl, Option.bind_some, Option.bind_some]
  have lo : ∀ (m v k : Nat) (f : Int32) (X1 : XW) (M1 : MW), 100 < m + v → v ≤ 100 → eX X0 X1 → vM 77 i M M1 → R2 nb (lo4 (fX9_drop_l49 nb (nI i) (nI n) w (some b)) m X1 f (nI k) (nI v)) (lo4 (fX10_drop_l48 (nI i) (nI n) w (M.2 77 i)) m M1 f (nI k) (nI v)) := by
    intro m
    induction m with
    | zero => intro v k f X1 M1 h1 h2; omega
    | succ m ih =>
      intro v k f X1 M1 h1 h2 aX aM
      show R2 nb (fX9_drop_l49 nb (nI i) (nI n) w (some b) (lo4 (fX9_drop_l49 nb (nI i) (nI n) w (some b)) m) X1 f (nI k) (nI v)) (fX10_drop_l48 (nI i) (nI n) w (M.2 77 i) (lo4 (fX10_drop_l48 (nI i) (nI n) w (M.2 77 i)) m) M1 f (nI k) (nI v))
      generalize hG : lo4 (fX9_drop_l49 nb (nI i) (nI n) w (some b)) m = G at ih ⊢
      generalize hK : lo4 (fX10_drop_l48 (nI i) (nI n) w (M.2 77 i)) m = K at ih ⊢
      dsimp only [fX9_drop_l49, fX10_drop_l48, fX9_drop_b124, fX10_drop_b120, bd]
      have nXX : nX X X1 := g2.1.tr aX.n
      by_cases hv : v = 100
      · have hS := h.n nXX (aM.back (by omega))
        rw [if_pos (show (100 : Int32) ≤ nI v from nI_le (a := 100) (by omega) (by omega)), if_pos (show (100 : Int32) ≤ nI v from nI_le (a := 100) (by omega) (by omega)), if_pos it]
        by_cases w0 : w = 0
        · rw [if_pos w0, if_pos w0]; exact R2.mk hS
        · rw [if_neg w0, if_neg w0]; exact R2.mk hS
      have hva : 100 < m + (v + 1) := by omega
      have hvb : v + 1 ≤ 100 := by omega
      have hvc : v < 100 := by omega
      obtain ⟨w1, w2⟩ := aM.w (by omega) (nI v)
      have E1 : ESim X (mA M1 77 (nI i) (nI v)) All := h.es.b (w1.1 7 (by decide)) (w1.1 22 (by decide)) (w1.1 46 (by decide)) (fun j hj h77 _ => w1.2.1 j hj h77)
      have e78 : (mA M1 77 (nI i) (nI v)).2 78 = M.2 78 := w1.2.1 78 (by decide) (by decide)
      have ep : ∀ j, pOf (mA M1 77 (nI i) (nI v)) j = pOf M j := fun j => by unfold pOf; rw [e78]
      have F1 : flt X (mA M1 77 (nI i) (nI v)) nb nB := by
        refine ⟨hB, (w1.1 8 (by decide)).trans h8, fun j hj => ?_⟩
        obtain ⟨k1, k2, k3, k4⟩ := F.2.2 j hj
        refine ⟨k1.b (fun q hq h77 _ => w1.2.1 q hq h77), ?_⟩
        rw [ep, e78]
        refine ⟨k2, k3, ?_⟩
        by_cases e : j = i
        · rw [e, w2]; exact Or.inr ⟨v, by omega, rfl⟩
        · rw [w1.2.2 j e]; exact k4
      obtain ⟨M2, f1, f2, f3, -, f5⟩ := goes_ok E1 F1 ((w1.1 7 (by decide)).trans h7) hn (fun _ _ _ => trivial)
      have r2 := (f3 i hib).2.1
      have etr : ∀ u, trA X (mA M1 77 (nI i) (nI v)) nb h0 i u = trj X nb b (nI (pOf M i)) (nI v) h0 u := fun u => by
        unfold trA
        rw [ep, eb, w2]
      rw [etr] at r2
      have iv : inb (nI v) 100 := in_nI (by omega) (by omega)
      have hcv : (nI v).toNatClampNeg = v := cl_nI (by omega)
      have bed : X1.2.1 3 v = M2.2 67 v := by
        rw [nXX.2.2 3 (by decide) (by decide) (by decide) (by decide), f2.2 67 (by decide), w1.2.1 67 (by decide) (by decide), h.1.2.1]
      have hp5 : X1.1 b 5 = nI (pOf M i) := by
        rw [nXX.1 b (by omega), hb.2.2.2.2.2.2.2.2]; exact pt
      rw [if_neg (show ¬ (100 : Int32) ≤ nI v from nI_ge (b := 100) (by omega) (by omega)), if_neg (show ¬ (100 : Int32) ≤ nI v from nI_ge (b := 100) (by omega) (by omega)), if_pos it, f1, bs_M, rd_in iv, rd_in iv, rd_in it, hcv, hcl, Option.bind_some, Option.bind_some, Option.bind_some, bed, nI_1, nI_1]
      have vM2 : vM 77 i M M2 := w1.n (by decide) f2
      by_cases q3 : M2.2 67 v = 3
      · rw [if_pos q3, if_pos q3]
        exact ih (v + 1) k f X1 M2 hva hvb aX vM2
      rw [if_neg q3, if_neg q3, Option.bind_some, if_pos hN, hp5]
      obtain ⟨s, X2, s1, s2, s3⟩ := stays_ok (c := v) (p := pOf M i) h.es kt nXX (by omega) (by omega) (show X1.1 0 11 = nI h0 by rw [nXX.1 0 (by decide)]; exact h7x) hn (fun _ _ _ => trivial)
      rw [s1, bd2_s, r2]
      rcases trj_AB X nb b (nI (pOf M i)) hvc h0 n with ⟨q1, q2⟩ | ⟨⟨u, hu, q1⟩, o, ho, ho2, q2⟩
      rotate_left
      · rcases s3 with ⟨rfl, q3⟩ | ⟨rfl, -⟩
        · exact absurd (q3 u hu) q1
        · rw [q2, if_pos rfl, if_neg (nI_ne0 (by omega) (by omega))]
          exact ih (v + 1) k f X2 M2 hva hvb (aX.tr s2) vM2
      rcases s3 with ⟨rfl, -⟩ | ⟨rfl, u, hu, hu2⟩
      rotate_left
      · exact absurd (q1 u hu) hu2
      have nX2 : nX X X2 := nXX.tr s2.n
      have eX2 : eX X0 X2 := aX.tr s2
      rw [q2, if_neg n10, if_pos rfl]
      have hlen := mts_len (lyA X (mA M1 77 (nI i) (nI v)) nb h0) h0 hB n
      obtain ⟨v1, o1, o2⟩ := other_ok (X := X) (X0 := X2) (M := M) (nb := nb) (i := i) (b := b) (c := v) (p := pOf M i) (n := n) (ly := lyA X M nb h0) h.1 nX2 hN hB hi (by omega) pt2 (by rw [s2.1]; exact hp5) (by rw [nX2.1 0 (by decide)]; exact h8x) (by rw [nX2.1 0 (by decide)]; exact h7x) hn (fun j hj u hu => by rw [eX2.2.2 _ (by omega) (by omega)]; exact (g2.2 j hj).2 u hu)
      obtain ⟨v2, m1, m2⟩ := meets_ok (i := i) f5 (by omega) hi (fun a ha => by
        obtain ⟨_, i', j', _, h1, h2, _, _, rfl⟩ := mts_mem.mp ha
        exact ⟨by show i' < 6; omega, by show j' < 6; omega⟩)
      have lyi : ∀ u, u < n → lyA X (mA M1 77 (nI i) (nI v)) nb h0 i u = lyX X (nI v) (nI (pOf M i)) (h0 + u) := by
        intro u hu
        unfold lyA lyT
        rw [ep, eb, w2]
        rcases trj_AB X nb b (nI (pOf M i)) hvc h0 (u + 1) with ⟨-, z2⟩ | ⟨⟨u', hu', z1⟩, -⟩
        · rw [z2]
          exact if_neg (nI_m1 (by omega))
        · exact absurd (q1 u' (by omega)) z1
      have lyj : ∀ j u, j ≠ i → lyA X (mA M1 77 (nI i) (nI v)) nb h0 j u = lyA X M nb h0 j u := by
        intro j u hj
        unfold lyA
        rw [ep, w1.2.2 j hj]
      have same : v1 = v2 := by
        rcases o2 with ⟨rfl, u, j, hu, hj, hji, e⟩ | ⟨rfl, o2⟩
        · rcases m2 with ⟨rfl, -⟩ | ⟨rfl, m2⟩
          · rfl
          · exfalso
            obtain ⟨d, hd, hdd⟩ : ∃ d, d < 100 ∧ lyX X (nI v) (nI (pOf M i)) (h0 + u) = nI d := by
              obtain ⟨_, _, _, z⟩ := ly_X (X' := X) (h := h0 + u) h.1 (nX.rf X) hvc (by omega) pt2
              exact z
            by_cases lt : i < j
            · refine m2 (h0 + u, i, j) (mts_mem.mpr ⟨u, i, j, hu, lt, hj, ?_, ?_, rfl⟩) (Or.inl rfl)
              · rw [lyi u hu, hdd]; exact nI_m1 (by omega)
              · rw [lyi u hu, lyj j u hji, e]
            · refine m2 (h0 + u, j, i) (mts_mem.mpr ⟨u, j, i, hu, by omega, hib, ?_, ?_, rfl⟩) (Or.inr rfl)
              · rw [lyj j u hji, e, hdd]; exact nI_m1 (by omega)
              · rw [lyi u hu, lyj j u hji, e]
        · rcases m2 with ⟨rfl, a, ha, hai⟩ | ⟨rfl, -⟩
          · exfalso
            obtain ⟨u, i', j', hu, z1, z2, z3, z4, rfl⟩ := mts_mem.mp ha
            rcases hai with e | e
            · have e : i' = i := e
              subst e
              refine o2 u j' hu z2 (by omega) ?_
              rw [← lyj j' u (by omega), ← z4, lyi u hu]
            · have e : j' = i := e
              subst e
              refine o2 u i' hu (by omega) (by omega) ?_
              rw [← lyj i' u (by omega), z4, lyi u hu]
          · rfl
      rw [o1, m1, Option.bind_some, Option.bind_some, same]
      by_cases z : v2 = 0
      · rw [if_pos z, if_pos z]
        by_cases z2 : f = -1
        · rw [if_pos z2, if_pos z2]
          exact ih (v + 1) (k + 1) (nI v) X2 M2 hva hvb eX2 vM2
        · rw [if_neg z2, if_neg z2]
          exact ih (v + 1) (k + 1) f X2 M2 hva hvb eX2 vM2
      · rw [if_neg z, if_neg z]
        exact ih (v + 1) k f X2 M2 hva hvb eX2 vM2
  exact lo FU 0 0 (-1) X0 M (by unfold FU; omega) (by omega) (eX.rf X0) (vM.rf 77 i M)

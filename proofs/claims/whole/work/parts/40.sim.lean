/-! the pure half: what the class's ints and the model's ints have in common -/
/-- the bay -/
def SBay (X : XW) (M : MW) : Prop := X.2.1 2 = M.2 66 ∧ X.2.1 3 = M.2 67 ∧ X.2.1 4 = M.2 68 ∧ X.2.1 5 = M.2 69 ∧ X.2.1 6 = M.2 70 ∧ (∀ k, 0 ≤ (M.2 66 k).toInt ∧ (M.2 66 k).toInt ≤ 30) ∧ (∀ k, 0 ≤ (M.2 68 k).toInt ∧ (M.2 68 k).toInt ≤ 7) ∧ (∀ k, -3 ≤ (M.2 70 k).toInt ∧ (M.2 70 k).toInt ≤ 3) ∧ X.1 0 11 = M.1 7 ∧ (0 ≤ (M.1 7).toInt ∧ (M.1 7).toInt ≤ 11) ∧ M.2 71 = lf lt47 ∧ M.2 72 = lf lt89 ∧ M.2 92 = lf lt714
/-- a boat's object and the model's rows at i -/
def boatAt (X : XW) (M : MW) (nb i b : Nat) : Prop := X.2.2 13 i = some b ∧ NS ≤ b ∧ b < TT nb ∧ X.1 b 0 = M.2 73 i ∧ X.1 b 1 = M.2 74 i ∧ X.1 b 2 = M.2 75 i ∧ X.1 b 3 = M.2 76 i ∧ X.1 b 4 = M.2 77 i ∧ X.1 b 5 = M.2 78 i
def SBoat (X : XW) (M : MW) (nb : Nat) : Prop := X.1 0 12 = M.1 8 ∧ (0 ≤ (M.1 8).toInt ∧ (M.1 8).toInt ≤ 6) ∧ (∀ i : Nat, (i : Int) < (M.1 8).toInt → ∃ b, boatAt X M nb i b) ∧ (∀ i j b : Nat, (i : Int) < (M.1 8).toInt → (j : Int) < (M.1 8).toInt → X.2.2 13 i = some b → X.2.2 13 j = some b → i = j) ∧ (∀ i : Nat, (i : Int) < (M.1 8).toInt → (-1 ≤ (M.2 77 i).toInt ∧ (M.2 77 i).toInt ≤ 99) ∧ (1 ≤ (M.2 78 i).toInt ∧ (M.2 78 i).toInt ≤ 40) ∧ (0 ≤ (M.2 73 i).toInt ∧ (M.2 73 i).toInt ≤ 5))
/-- the class's codes as the model writes them -/
def cvC (c : Int32) : Int32 := if c < 10000 then 100000 + c else if c < 20000 then c - 10000 else if c = 20006 then 16 else if c = 20007 then 17 else if c = 20008 then 18 else if c = 20009 then 14 else if c = 20010 then 15 else if c = 20011 then 19 else if c = 20029 then 11 else if c = 20030 then 12 else 13
/-- what a code asks of the stack: 0 puts one, 1 takes one, 2 takes two; 3 is none of them -/
def kiC (c : Int32) : Nat := if (0 ≤ c ∧ c ≤ 9999) ∨ (10000 ≤ c ∧ c ≤ 10005) then 0 else if c = 20011 ∨ c = 20031 then 1 else if (20006 ≤ c ∧ c ≤ 20010) ∨ c = 20029 ∨ c = 20030 then 2 else 3
/-- the stack's height behind n codes from s -/
def dpS (f : Nat → Int32) (s : Nat) : Nat → Nat → Option Nat
  | 0, d => some d
  | n + 1, d => (dpS f s n d).bind fun q => if kiC (f (s + n)) = 0 then some (q + 1) else if kiC (f (s + n)) = 1 ∧ 1 ≤ q then some q else if kiC (f (s + n)) = 2 ∧ 2 ≤ q then some (q - 1) else none
/-- one text -/
def STx (X : XW) (M : MW) (r : Nat) : Prop := ∃ e : Nat → Nat, e 0 = 0 ∧ e 0 ≤ e 1 ∧ e 1 ≤ e 2 ∧ e 2 ≤ e 3 ∧ e 3 ≤ 160 ∧ M.2 83 (4 * r) = nI (e 0) ∧ (∀ p : Nat, p < 3 → X.2.1 (49 + 3 * r) p = nI (e (p + 1)) ∧ M.2 83 (4 * r + (p + 1)) = nI (e (p + 1)) ∧ dpS (X.2.1 (48 + 3 * r)) (e p) (e (p + 1) - e p) 0 = some 1) ∧ (∀ j : Nat, j < e 3 → M.2 82 (200 * r + j) = cvC (X.2.1 (48 + 3 * r) j))
def STxs (X : XW) (M : MW) : Prop := X.1 0 13 = M.1 21 ∧ (1 ≤ (M.1 21).toInt ∧ (M.1 21).toInt ≤ 6) ∧ ∀ r : Nat, (r : Int) < (M.1 21).toInt → STx X M r
def SLaw (X : XW) (M : MW) : Prop := X.1 0 14 = M.1 22 ∧ (0 ≤ (M.1 22).toInt ∧ (M.1 22).toInt < (M.1 21).toInt) ∧ X.2.2 10 3 = some (47 + 3 * (M.1 22).toNatClampNeg)
def SWin (X : XW) (M : MW) : Prop := X.2.2 10 4 = some 5 ∧ M.1 46 = 0
def STape (X : XW) (M : MW) : Prop := X.1 7 1 = M.1 18 ∧ (0 ≤ (M.1 18).toInt ∧ (M.1 18).toInt ≤ 160) ∧ X.2.1 8 = M.2 81 ∧ ∀ k, 0 ≤ (M.2 81 k).toInt
def SForm (X : XW) (M : MW) : Prop := X.2.1 18 = M.2 80 ∧ X.2.1 19 = M.2 79 ∧ (∀ k, 0 ≤ (M.2 80 k).toInt ∧ (M.2 80 k).toInt ≤ (M.2 79 k).toInt ∧ (M.2 79 k).toInt ≤ 9999) ∧ X.2.1 25 = M.2 87 ∧ X.2.1 26 = M.2 86 ∧ (∀ k, 0 ≤ (M.2 87 k).toInt ∧ (M.2 87 k).toInt ≤ (M.2 86 k).toInt ∧ (M.2 86 k).toInt ≤ 9999)
def SSheet (X : XW) (M : MW) : Prop := ∀ s : Nat, s < 4 → X.1 (39 + 2 * s) 1 = M.2 88 s ∧ X.1 (39 + 2 * s) 2 = M.2 89 s ∧ (0 ≤ (M.2 89 s).toInt ∧ (M.2 89 s).toInt ≤ 40) ∧ (-1 ≤ (M.2 88 s).toInt ∧ (M.2 88 s).toInt ≤ 2) ∧ ∀ j : Nat, j < 40 → X.2.1 (40 + 2 * s) j = M.2 90 (40 * s + j)
def SImg (X : XW) (M : MW) : Prop := (M.1 23 = 0 ∧ X.1 21 3 = -1) ∨ (M.1 23 = 1 ∧ X.1 21 3 = M.1 25 ∧ X.1 21 4 = M.1 24 ∧ X.1 21 5 = M.1 26 ∧ (0 ≤ (M.1 25).toInt ∧ (M.1 25).toInt ≤ (M.1 8).toInt) ∧ (0 ≤ (M.1 24).toInt ∧ (M.1 24).toInt ≤ 11) ∧ (0 ≤ (M.1 26).toInt ∧ (M.1 26).toInt < (M.1 21).toInt) ∧ ∀ i : Nat, (i : Int) < (M.1 25).toInt → X.2.1 22 i = M.2 84 i ∧ X.2.1 23 i = M.2 85 i ∧ (-1 ≤ (M.2 84 i).toInt ∧ (M.2 84 i).toInt ≤ 99) ∧ (1 ≤ (M.2 85 i).toInt ∧ (M.2 85 i).toInt ≤ 40))
/-- what is the same between two calls; all else is scratch -/
def Sim (X : XW) (M : MW) (nb : Nat) : Prop := SBay X M ∧ SBoat X M nb ∧ STxs X M ∧ SLaw X M ∧ SWin X M ∧ STape X M ∧ SForm X M ∧ SSheet X M ∧ SImg X M
/-- both answer, with the same number, and are alike again -/
def R2 (nb : Nat) (a : Option (Int32 × XW)) (b : Option (Int32 × MW)) : Prop := ∃ v X M, a = some (v, X) ∧ b = some (v, M) ∧ Sim X M nb
def R1 {α : Type} (a b : Option α) : Prop := ∃ v, a = some v ∧ b = some v
theorem R2.mk {nb : Nat} {v : Int32} {X : XW} {M : MW} (h : Sim X M nb) : R2 nb (some (v, X)) (some (v, M)) := ⟨v, X, M, rfl, rfl, h⟩
/-- numbers -/
theorem i_le {a b : Int32} : a ≤ b ↔ a.toInt ≤ b.toInt := Int32.le_iff_toInt_le
theorem i_lt {a b : Int32} : a < b ↔ a.toInt < b.toInt := Int32.lt_iff_toInt_lt
theorem i_eq {a b : Int32} : a = b ↔ a.toInt = b.toInt := Int32.toInt_inj.symm
theorem in_eq : fX10_in = fX9_within := rfl
theorem isCell_eq : fX10_isCell = fX9_isCell := rfl
theorem isHour_eq : fX10_isHour = fX9_isHour := rfl
theorem isByte_eq : fX10_isByte = fX9_isByte := rfl
theorem wi_ne {l a b : Int32} (h : ¬ fX9_within l a b = 0) : a.toInt ≤ l.toInt ∧ l.toInt ≤ b.toInt := by
  unfold fX9_within at h
  by_cases h1 : l < a
  · rw [if_pos h1] at h; exact absurd rfl h
  · rw [if_neg h1] at h
    by_cases h2 : b < l
    · rw [if_pos h2] at h; exact absurd rfl h
    · rw [i_lt] at h1 h2; omega
theorem wi_eq {l a b : Int32} (h : fX9_within l a b = 0) : ¬ (a.toInt ≤ l.toInt ∧ l.toInt ≤ b.toInt) := by
  unfold fX9_within at h
  by_cases h1 : l < a
  · rw [i_lt] at h1; omega
  · rw [if_neg h1] at h
    by_cases h2 : b < l
    · rw [i_lt] at h2; omega
    · rw [if_neg h2] at h; cases h
theorem cell_in {l : Int32} (h : ¬ fX9_isCell l = 0) : inb l 100 := by
  have := wi_ne h
  have e1 : (99 : Int32).toInt = 99 := rfl
  have e0 : (0 : Int32).toInt = 0 := rfl
  rw [e1, e0] at this
  exact ⟨this.1, by have := this.2; omega⟩
theorem hour_in {l : Int32} (h : ¬ fX9_isHour l = 0) : inb l 12 := by
  have := wi_ne h
  have e1 : (11 : Int32).toInt = 11 := rfl
  have e0 : (0 : Int32).toInt = 0 := rfl
  rw [e1, e0] at this
  exact ⟨this.1, by have := this.2; omega⟩
theorem rd_in {f : Nat → Int32} {n : Nat} {i : Int32} (h : inb i n) : rd f n i = some (f i.toNatClampNeg) := if_pos h
theorem rdR_in {f : Nat → Option Nat} {n : Nat} {i : Int32} (h : inb i n) : rdR f n i = some (f i.toNatClampNeg) := if_pos h
theorem cl_eq {i : Int32} {n : Nat} (h : inb i n) : ((i.toNatClampNeg : Nat) : Int) = i.toInt := by
  have h1 : i.toNatClampNeg = i.toInt.toNat := rfl
  have := h.1
  rw [h1]; omega
theorem bd2_s {α β γ : Type} {a : α} {b : β} {k : α → β → Option γ} : bd2 (some (a, b)) k = k a b := rfl
theorem upd_all {p : Int32 → Prop} {f : Nat → Int32} {k : Nat} {v : Int32} (h : ∀ j, p (f j)) (hv : p v) : ∀ j, p (upd f k v j) := by
  intro j
  unfold upd
  split
  · exact hv
  · exact h j
/-- writes -/
theorem xA_at (X : XW) (i : Nat) (k v : Int32) : (xA X i k v).2.1 i = upd (X.2.1 i) k.toNatClampNeg v := by simp [xA]
theorem xA_ne (X : XW) {i j : Nat} (k v : Int32) (h : j ≠ i) : (xA X i k v).2.1 j = X.2.1 j := by simp [xA, h]
theorem mA_at (M : MW) (i : Nat) (k v : Int32) : (mA M i k v).2 i = upd (M.2 i) k.toNatClampNeg v := by simp [mA]
theorem mA_ne (M : MW) {i j : Nat} (k v : Int32) (h : j ≠ i) : (mA M i k v).2 j = M.2 j := by simp [mA, h]
/-- which cells matter -/
def eX1 (i k : Nat) : Prop := (i = 0) ∨ (i = 7 ∧ k = 1) ∨ (i = 21) ∨ (i = 39 ∨ i = 41 ∨ i = 43 ∨ i = 45) ∨ NS ≤ i
def eX2 (i : Nat) : Prop := (2 ≤ i ∧ i ≤ 6) ∨ i = 8 ∨ i = 18 ∨ i = 19 ∨ i = 22 ∨ i = 23 ∨ i = 25 ∨ i = 26 ∨ i = 40 ∨ i = 42 ∨ i = 44 ∨ i = 46 ∨ (48 ≤ i ∧ i ≤ 64)
def eM1 (k : Nat) : Prop := k = 7 ∨ k = 8 ∨ k = 18 ∨ (21 ≤ k ∧ k ≤ 26) ∨ k = 46
def eM2 (i : Nat) : Prop := (66 ≤ i ∧ i ≤ 90) ∨ i = 92
def EX (X X' : XW) : Prop := (∀ i k, eX1 i k → X'.1 i k = X.1 i k) ∧ (∀ i, eX2 i → X'.2.1 i = X.2.1 i) ∧ X'.2.2 10 = X.2.2 10 ∧ X'.2.2 13 = X.2.2 13
def EM (M M' : MW) : Prop := (∀ k, eM1 k → M'.1 k = M.1 k) ∧ (∀ i, eM2 i → M'.2 i = M.2 i)
theorem EX.rfl' (X : XW) : EX X X := ⟨fun _ _ _ => rfl, fun _ _ => rfl, rfl, rfl⟩
theorem EM.rfl' (M : MW) : EM M M := ⟨fun _ _ => rfl, fun _ _ => rfl⟩
theorem EX.tr {X Y Z : XW} (a : EX X Y) (b : EX Y Z) : EX X Z := ⟨fun i k h => (b.1 i k h).trans (a.1 i k h), fun i h => (b.2.1 i h).trans (a.2.1 i h), b.2.2.1.trans a.2.2.1, b.2.2.2.trans a.2.2.2⟩
theorem EM.tr {X Y Z : MW} (a : EM X Y) (b : EM Y Z) : EM X Z := ⟨fun i h => (b.1 i h).trans (a.1 i h), fun i h => (b.2 i h).trans (a.2 i h)⟩
theorem Sim.c {X X' : XW} {M M' : MW} {nb : Nat} (h : Sim X M nb) (a : EX X X') (b : EM M M') : Sim X' M' nb := by
  obtain ⟨h1, h2, h3, h4, h5, h6, h7, h8, h9⟩ := h
  obtain ⟨a1, a2, a3, a4⟩ := a
  obtain ⟨b1, b2⟩ := b
  refine ⟨?_, ?_, ?_, ?_, ?_, ?_, ?_, ?_, ?_⟩
  · unfold SBay at h1 ⊢
    rw [a2 2 (by unfold eX2; omega), a2 3 (by unfold eX2; omega), a2 4 (by unfold eX2; omega), a2 5 (by unfold eX2; omega), a2 6 (by unfold eX2; omega), a1 0 11 (by unfold eX1; omega), b1 7 (by unfold eM1; omega), b2 66 (by unfold eM2; omega), b2 67 (by unfold eM2; omega), b2 68 (by unfold eM2; omega), b2 69 (by unfold eM2; omega), b2 70 (by unfold eM2; omega), b2 71 (by unfold eM2; omega), b2 72 (by unfold eM2; omega), b2 92 (by unfold eM2; omega)]
    exact h1
  · unfold SBoat boatAt at h2 ⊢
    rw [a1 0 12 (by unfold eX1; omega), b1 8 (by unfold eM1; omega), a4, b2 73 (by unfold eM2; omega), b2 74 (by unfold eM2; omega), b2 75 (by unfold eM2; omega), b2 76 (by unfold eM2; omega), b2 77 (by unfold eM2; omega), b2 78 (by unfold eM2; omega)]
    refine ⟨h2.1, h2.2.1, fun i hi => ?_, h2.2.2.2⟩
    obtain ⟨b, hb⟩ := h2.2.2.1 i hi
    have hN : ∀ k, X'.1 b k = X.1 b k := fun k => a1 b k (Or.inr (Or.inr (Or.inr (Or.inr hb.2.1))))
    refine ⟨b, ?_⟩
    rw [hN 0, hN 1, hN 2, hN 3, hN 4, hN 5]
    exact hb
  · unfold STxs at h3 ⊢
    rw [a1 0 13 (by unfold eX1; omega), b1 21 (by unfold eM1; omega)]
    refine ⟨h3.1, h3.2.1, fun r hr => ?_⟩
    have hr6 : r < 6 := by have := h3.2.1.2; omega
    have := h3.2.2 r hr
    unfold STx at this ⊢
    rw [b2 83 (by unfold eM2; omega), b2 82 (by unfold eM2; omega), a2 (49 + 3 * r) (by unfold eX2; omega), a2 (48 + 3 * r) (by unfold eX2; omega)]
    exact this
  · unfold SLaw at h4 ⊢
    rw [a1 0 14 (by unfold eX1; omega), b1 22 (by unfold eM1; omega), b1 21 (by unfold eM1; omega), a3]
    exact h4
  · unfold SWin at h5 ⊢
    rw [a3, b1 46 (by unfold eM1; omega)]
    exact h5
  · unfold STape at h6 ⊢
    rw [a1 7 1 (by unfold eX1; omega), b1 18 (by unfold eM1; omega), a2 8 (by unfold eX2; omega), b2 81 (by unfold eM2; omega)]
    exact h6
  · unfold SForm at h7 ⊢
    rw [a2 18 (by unfold eX2; omega), a2 19 (by unfold eX2; omega), a2 25 (by unfold eX2; omega), a2 26 (by unfold eX2; omega), b2 79 (by unfold eM2; omega), b2 80 (by unfold eM2; omega), b2 86 (by unfold eM2; omega), b2 87 (by unfold eM2; omega)]
    exact h7
  · unfold SSheet at h8 ⊢
    intro s hs
    rw [b2 88 (by unfold eM2; omega), b2 89 (by unfold eM2; omega), b2 90 (by unfold eM2; omega), a1 (39 + 2 * s) 1 (by unfold eX1; omega), a1 (39 + 2 * s) 2 (by unfold eX1; omega), a2 (40 + 2 * s) (by unfold eX2; omega)]
    exact h8 s hs
  · unfold SImg at h9 ⊢
    rw [b1 23 (by unfold eM1; omega), b1 24 (by unfold eM1; omega), b1 25 (by unfold eM1; omega), b1 26 (by unfold eM1; omega), b1 8 (by unfold eM1; omega), b1 21 (by unfold eM1; omega), a1 21 3 (by unfold eX1; omega), a1 21 4 (by unfold eX1; omega), a1 21 5 (by unfold eX1; omega), a2 22 (by unfold eX2; omega), a2 23 (by unfold eX2; omega), b2 84 (by unfold eM2; omega), b2 85 (by unfold eM2; omega)]
    exact h9
theorem STxs.c {X X' : XW} {M M' : MW} (h3 : STxs X M) (a : X'.1 0 13 = X.1 0 13) (a2 : ∀ i, 48 ≤ i → i ≤ 64 → X'.2.1 i = X.2.1 i) (b1 : M'.1 21 = M.1 21) (b2 : M'.2 82 = M.2 82) (b3 : M'.2 83 = M.2 83) : STxs X' M' := by
  unfold STxs at h3 ⊢
  rw [a, b1]
  refine ⟨h3.1, h3.2.1, fun r hr => ?_⟩
  have hr6 : r < 6 := by have := h3.2.1.2; omega
  have := h3.2.2 r hr
  unfold STx at this ⊢
  rw [b3, b2, a2 (49 + 3 * r) (by omega) (by omega), a2 (48 + 3 * r) (by omega) (by omega)]
  exact this
theorem SSheet.c {X X' : XW} {M M' : MW} (h8 : SSheet X M) (a1 : ∀ i, 39 ≤ i → i ≤ 45 → X'.1 i = X.1 i) (a2 : ∀ i, 40 ≤ i → i ≤ 46 → X'.2.1 i = X.2.1 i) (b1 : M'.2 88 = M.2 88) (b2 : M'.2 89 = M.2 89) (b3 : M'.2 90 = M.2 90) : SSheet X' M' := by
  unfold SSheet at h8 ⊢
  intro s hs
  rw [b1, b2, b3, a1 (39 + 2 * s) (by omega) (by omega), a2 (40 + 2 * s) (by omega) (by omega)]
  exact h8 s hs
theorem mA_self (M : MW) (i : Nat) {k v : Int32} (h : v = M.2 i k.toNatClampNeg) : mA M i k v = M := by
  subst h
  unfold mA
  have : (fun j => if j = i then upd (M.2 j) k.toNatClampNeg (M.2 i k.toNatClampNeg) else M.2 j) = M.2 := by
    funext j
    by_cases hj : j = i
    · subst hj
      rw [if_pos rfl]
      funext q
      unfold upd
      split
      · next hq => rw [hq]
      · rfl
    · rw [if_neg hj]
  rw [this]
theorem Sim.bay_d {X : XW} {M : MW} {nb : Nat} {k v : Int32} (h : Sim X M nb) (hv : 0 ≤ v.toInt ∧ v.toInt ≤ 30) : Sim (xA X 2 k v) (mA M 66 k v) nb := by
  obtain ⟨h1, h2, h3, h4, h5, h6, h7, h8, h9⟩ := h
  refine ⟨?_, h2, h3.c rfl (fun i _ _ => xA_ne X k v (by omega)) rfl rfl rfl, h4, h5, h6, h7, h8.c (fun i _ _ => rfl) (fun i _ _ => xA_ne X k v (by omega)) rfl rfl rfl, h9⟩
  exact ⟨by rw [xA_at, mA_at, h1.1], h1.2.1, h1.2.2.1, h1.2.2.2.1, h1.2.2.2.2.1, by rw [mA_at]; exact upd_all (p := fun z => 0 ≤ z.toInt ∧ z.toInt ≤ 30) h1.2.2.2.2.2.1 hv, h1.2.2.2.2.2.2.1, h1.2.2.2.2.2.2.2.1, h1.2.2.2.2.2.2.2.2⟩
theorem Sim.bay_b {X : XW} {M : MW} {nb : Nat} {k v : Int32} (h : Sim X M nb) : Sim (xA X 3 k v) (mA M 67 k v) nb := by
  obtain ⟨h1, h2, h3, h4, h5, h6, h7, h8, h9⟩ := h
  refine ⟨?_, h2, h3.c rfl (fun i _ _ => xA_ne X k v (by omega)) rfl rfl rfl, h4, h5, h6, h7, h8.c (fun i _ _ => rfl) (fun i _ _ => xA_ne X k v (by omega)) rfl rfl rfl, h9⟩
  exact ⟨h1.1, by rw [xA_at, mA_at, h1.2.1], h1.2.2.1, h1.2.2.2.1, h1.2.2.2.2.1, h1.2.2.2.2.2.1, h1.2.2.2.2.2.2.1, h1.2.2.2.2.2.2.2.1, h1.2.2.2.2.2.2.2.2⟩
theorem Sim.bay_w {X : XW} {M : MW} {nb : Nat} {k v : Int32} (h : Sim X M nb) (hv : 0 ≤ v.toInt ∧ v.toInt ≤ 7) : Sim (xA X 4 k v) (mA M 68 k v) nb := by
  obtain ⟨h1, h2, h3, h4, h5, h6, h7, h8, h9⟩ := h
  refine ⟨?_, h2, h3.c rfl (fun i _ _ => xA_ne X k v (by omega)) rfl rfl rfl, h4, h5, h6, h7, h8.c (fun i _ _ => rfl) (fun i _ _ => xA_ne X k v (by omega)) rfl rfl rfl, h9⟩
  exact ⟨h1.1, h1.2.1, by rw [xA_at, mA_at, h1.2.2.1], h1.2.2.2.1, h1.2.2.2.2.1, h1.2.2.2.2.2.1, by rw [mA_at]; exact upd_all (p := fun z => 0 ≤ z.toInt ∧ z.toInt ≤ 7) h1.2.2.2.2.2.2.1 hv, h1.2.2.2.2.2.2.2.1, h1.2.2.2.2.2.2.2.2⟩
theorem Sim.bay_s {X : XW} {M : MW} {nb : Nat} {k v : Int32} (h : Sim X M nb) : Sim (xA X 5 k v) (mA M 69 k v) nb := by
  obtain ⟨h1, h2, h3, h4, h5, h6, h7, h8, h9⟩ := h
  refine ⟨?_, h2, h3.c rfl (fun i _ _ => xA_ne X k v (by omega)) rfl rfl rfl, h4, h5, h6, h7, h8.c (fun i _ _ => rfl) (fun i _ _ => xA_ne X k v (by omega)) rfl rfl rfl, h9⟩
  exact ⟨h1.1, h1.2.1, h1.2.2.1, by rw [xA_at, mA_at, h1.2.2.2.1], h1.2.2.2.2.1, h1.2.2.2.2.2.1, h1.2.2.2.2.2.2.1, h1.2.2.2.2.2.2.2.1, h1.2.2.2.2.2.2.2.2⟩
theorem Sim.bay_t {X : XW} {M : MW} {nb : Nat} {k v : Int32} (h : Sim X M nb) (hv : -3 ≤ v.toInt ∧ v.toInt ≤ 3) : Sim (xA X 6 k v) (mA M 70 k v) nb := by
  obtain ⟨h1, h2, h3, h4, h5, h6, h7, h8, h9⟩ := h
  refine ⟨?_, h2, h3.c rfl (fun i _ _ => xA_ne X k v (by omega)) rfl rfl rfl, h4, h5, h6, h7, h8.c (fun i _ _ => rfl) (fun i _ _ => xA_ne X k v (by omega)) rfl rfl rfl, h9⟩
  exact ⟨h1.1, h1.2.1, h1.2.2.1, h1.2.2.2.1, by rw [xA_at, mA_at, h1.2.2.2.2.1], h1.2.2.2.2.2.1, h1.2.2.2.2.2.2.1, by rw [mA_at]; exact upd_all (p := fun z => -3 ≤ z.toInt ∧ z.toInt ≤ 3) h1.2.2.2.2.2.2.2.1 hv, h1.2.2.2.2.2.2.2.2⟩
/-- numbers that are not below nothing -/
theorem nn_in {i : Int32} {n : Nat} (h : inb i n) : ∃ k : Nat, k < n ∧ i = nI k ∧ k < 2 ^ 31 := by
  have hb : i.toInt < 2 ^ 31 := Int32.toInt_lt i
  have h0 := h.1
  have h1 := h.2
  refine ⟨i.toInt.toNat, by omega, ?_, by omega⟩
  rw [i_eq, nI_toInt (by omega)]
  omega
theorem nn_ge {i : Int32} (h : 0 ≤ i.toInt) : ∃ k : Nat, i = nI k ∧ k < 2 ^ 31 ∧ i.toInt = k := by
  have hb : i.toInt < 2 ^ 31 := Int32.toInt_lt i
  refine ⟨i.toInt.toNat, ?_, by omega, by omega⟩
  rw [i_eq, nI_toInt (by omega)]
  omega
theorem in_nI {k n : Nat} (h : k < n) (hn : k < 2 ^ 31) : inb (nI k) n := by
  unfold inb
  rw [nI_toInt hn]
  omega
theorem cl_nI {k : Nat} (h : k < 2 ^ 31) : (nI k).toNatClampNeg = k := nI_clamp h
theorem d10 {a : Nat} (h : a < 2 ^ 31) : nI a / 10 = nI (a / 10) := pk_div h (by decide) (by decide)
theorem r10 {a : Nat} (h : a < 2 ^ 31) : jrem (nI a) 10 = nI (a % 10) := pk_rem h (by decide) (by decide)
theorem d100 {a : Nat} (h : a < 2 ^ 31) : nI a / 100 = nI (a / 100) := pk_div h (by decide) (by decide)
theorem r100 {a : Nat} (h : a < 2 ^ 31) : jrem (nI a) 100 = nI (a % 100) := pk_rem h (by decide) (by decide)
theorem t10 (a : Nat) : (10 : Int32) * nI a = nI (10 * a) := pk_mul 10 a
theorem jmin_nI {a b : Nat} (ha : a < 2 ^ 31) (hb : b < 2 ^ 31) : jmin (nI a) (nI b) = nI (min a b) := by
  unfold jmin
  by_cases h : b < a
  · rw [if_pos (nI_lt h ha), Nat.min_eq_right (by omega)]
  · rw [if_neg (nI_nlt (by omega) hb), Nat.min_eq_left (by omega)]
theorem jmax_nI {a b : Nat} (ha : a < 2 ^ 31) (hb : b < 2 ^ 31) : jmax (nI a) (nI b) = nI (max a b) := by
  unfold jmax
  by_cases h : a < b
  · rw [if_pos (nI_lt h hb), Nat.max_eq_right (by omega)]
  · rw [if_neg (nI_nlt (by omega) ha), Nat.max_eq_left (by omega)]
theorem wi_nI {k a b : Nat} (hk : k < 2 ^ 31) (ha : a < 2 ^ 31) (hb : b < 2 ^ 31) : fX9_within (nI k) (nI a) (nI b) = if a ≤ k ∧ k ≤ b then 1 else 0 := by
  unfold fX9_within
  by_cases h1 : k < a
  · rw [if_pos (nI_lt h1 ha), if_neg (by omega)]
  · rw [if_neg (nI_nlt (by omega) hk)]
    by_cases h2 : b < k
    · rw [if_pos (nI_lt h2 hk), if_neg (by omega)]
    · rw [if_neg (nI_nlt (by omega) hb), if_pos (by omega)]

/-! what holds at the start -/
def tp0 (k : Nat) (j : Nat) : Int32 := if j < k then sF 12 j else 0
def Xk (k : Nat) : XW := xI (xG xw0 8 (tp0 k)) 7 1 (nI k)
theorem rd_0 : (fX6_read (Xk 70) 47).map Prod.fst = some (-1) := by decide +kernel

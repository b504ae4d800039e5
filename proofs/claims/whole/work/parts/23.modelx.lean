theorem isIn_3 (x : Int32) : (!(decide (x < 0)) && !(decide (2 < x))) = inB x 3 := by
  have h := isIn_inB x 3 (by omega)
  rw [show (nI 3 - 1 : Int32) = 2 by decide] at h
  exact h
theorem isIn_5 (x : Int32) : (!(decide (x < 0)) && !(decide (4 < x))) = inB x 5 := by
  have h := isIn_inB x 5 (by omega)
  rw [show (nI 5 - 1 : Int32) = 4 by decide] at h
  exact h
theorem isIn_7 (x : Int32) : (!(decide (x < 0)) && !(decide (6 < x))) = inB x 7 := by
  have h := isIn_inB x 7 (by omega)
  rw [show (nI 7 - 1 : Int32) = 6 by decide] at h
  exact h
/-- the law's numbers of what is thrown: where the third is the second, or the first -/
def c2 (k : Nat) : Nat := if k = 3 then 2 else k
def c1 (k : Nat) : Nat := if k = 3 then 1 else k
theorem inB_ne {x y : Int32} {n a b : Nat} (ha : x = nI a) (hb : y = nI b) (h : ¬ a = b) (h1 : a < 2147483648) (h2 : b < 2147483648) : ¬ x = y := by
  rw [ha, hb]
  exact fun z => h ((nI_eq h1 h2).mp z)

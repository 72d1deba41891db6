/-! numbers -/
theorem bm32 {a : Int} (h1 : -2147483648 ≤ a) (h2 : a < 2147483648) : a.bmod (2 ^ 32) = a := by
  have : Int.bmod a (2 ^ 32) = a := by
    unfold Int.bmod
    simp only []
    split <;> omega
  exact this
theorem i_lo (x : Int32) : -2147483648 ≤ x.toInt := Int32.le_toInt x
theorem i_hi (x : Int32) : x.toInt < 2147483648 := by have := Int32.toInt_lt x; simpa using this
theorem i_eq {x y : Int32} (h : x.toInt = y.toInt) : x = y := Int32.toInt_inj.mp h
theorem i_eqI {x y : Int32} : x = y ↔ x.toInt = y.toInt := Int32.toInt_inj.symm
theorem i_le {x y : Int32} : x ≤ y ↔ x.toInt ≤ y.toInt := Int32.le_iff_toInt_le
theorem i_lt {x y : Int32} : x < y ↔ x.toInt < y.toInt := Int32.lt_iff_toInt_lt
theorem i_add {x y : Int32} (h1 : -2147483648 ≤ x.toInt + y.toInt) (h2 : x.toInt + y.toInt < 2147483648) : (x + y).toInt = x.toInt + y.toInt := by rw [Int32.toInt_add]; exact bm32 h1 h2
theorem i_sub {x y : Int32} (h1 : -2147483648 ≤ x.toInt - y.toInt) (h2 : x.toInt - y.toInt < 2147483648) : (x - y).toInt = x.toInt - y.toInt := by rw [Int32.toInt_sub]; exact bm32 h1 h2
theorem i_mul {x y : Int32} (h1 : -2147483648 ≤ x.toInt * y.toInt) (h2 : x.toInt * y.toInt < 2147483648) : (x * y).toInt = x.toInt * y.toInt := by rw [Int32.toInt_mul]; exact bm32 h1 h2
theorem i_neg {x : Int32} (h : -2147483648 < x.toInt) : (-x).toInt = -x.toInt := by
  rw [Int32.toInt_neg]; exact bm32 (by have := i_hi x; omega) (by omega)
theorem i_div {x y : Int32} (h : ¬ (x.toInt = -2147483648 ∧ y.toInt = -1)) : (x / y).toInt = x.toInt.tdiv y.toInt := by
  rw [Int32.toInt_div]
  have h1 := i_lo x
  have h2 := i_hi x
  have h3 := i_lo y
  have h4 := i_hi y
  have hn : (x.toInt.tdiv y.toInt).natAbs ≤ x.toInt.natAbs := by
    rw [Int.natAbs_tdiv]; exact Nat.div_le_self _ _
  by_cases hx : x.toInt = -2147483648
  · by_cases hy : y.toInt = 1
    · rw [hy, Int.tdiv_one, hx]; rfl
    · by_cases hy0 : y.toInt = 0
      · rw [hy0, Int.tdiv_zero]; rfl
      · have hyn : 2 ≤ y.toInt.natAbs := by omega
        have : (x.toInt.tdiv y.toInt).natAbs ≤ 1073741824 := by
          rw [Int.natAbs_tdiv, hx]
          exact Nat.div_le_of_le_mul (by show 2147483648 ≤ _; omega)
        exact bm32 (by omega) (by omega)
  · exact bm32 (by omega) (by omega)
theorem i_ofInt {a : Int} (h1 : -2147483648 ≤ a) (h2 : a < 2147483648) : (Int32.ofInt a).toInt = a := by rw [Int32.toInt_ofInt]; exact bm32 h1 h2
theorem i_nI {n : Nat} (h : n < 2147483648) : (nI n).toInt = (n : Int) := nI_toInt (by omega)
theorem nI_of_toInt {x : Int32} {n : Nat} (h : x.toInt = n) : x = nI n := i_eq (by rw [h, i_nI]; have := i_hi x; omega)
theorem clampI {x : Int32} (h : 0 ≤ x.toInt) : (x.toNatClampNeg : Int) = x.toInt := by
  show ((x.toInt.toNat : Nat) : Int) = x.toInt
  omega
theorem clampN {x : Int32} {n : Nat} (h : x.toInt = n) : x.toNatClampNeg = n := by
  show x.toInt.toNat = n
  omega
theorem vp_inI {x : Int32} {n : Nat} (h1 : 0 ≤ x.toInt) (h2 : x.toInt < n) : vp_in x n := vp_in_iff.mpr ⟨h1, h2⟩
theorem vp_nI {k n : Nat} (h : k < n) (hn : n < 2147483648) : vp_in (nI k) n := vp_in_nI h (by omega)
theorem nI_cl {n : Nat} (h : n < 2147483648) : (nI n).toNatClampNeg = n := nI_clamp (by omega)
/-- rows of memory that a loop has written so far -/
def rowN (M : Mem) (a n : Nat) (f : Nat → Int32) : Mem := fun b j => if b = a ∧ j < n then f j else M b j
theorem rowN_0 (M : Mem) (a : Nat) (f : Nat → Int32) : rowN M a 0 f = M := by funext b j; simp [rowN]
theorem rowN_up (M : Mem) (a n : Nat) (f : Nat → Int32) {v : Int32} (h : v = f n) : up (rowN M a n f) a n v = rowN M a (n + 1) f := by
  funext b j
  simp only [up, rowN]
  by_cases hb : b = a
  · by_cases hj : j = n
    · subst hj; simp [hb, h]
    · have : j < n + 1 ↔ j < n := by omega
      simp [hb, hj, this]
  · simp [hb]
theorem rowN_o (M : Mem) {a b : Nat} (n : Nat) (f : Nat → Int32) (h : b ≠ a) (j : Nat) : rowN M a n f b j = M b j := by simp [rowN, h]
theorem rowN_ge (M : Mem) (a : Nat) {n j : Nat} (f : Nat → Int32) (h : n ≤ j) (b : Nat) : rowN M a n f b j = M b j := by
  have : ¬ j < n := by omega
  simp [rowN, this]
theorem rowN_lt (M : Mem) (a : Nat) {n j : Nat} (f : Nat → Int32) (h : j < n) : rowN M a n f a j = f j := by simp [rowN, h]

/-! dividing down -/
theorem sgn0 (v : Int32) : 0 ≤ v ↔ v.toBitVec.msb = false := by
  rw [i_le, BitVec.msb_eq_toInt, decide_eq_false_iff_not]
  show (0 : Int) ≤ v.toBitVec.toInt ↔ _
  omega
theorem sgnX {a b : Int32} (hb : 0 ≤ b) : 0 ≤ a ^^^ b ↔ 0 ≤ a := by
  rw [sgn0] at hb
  rw [sgn0, sgn0, Int32.toBitVec_xor, BitVec.msb_xor, hb, Bool.xor_false]
theorem dwn100 (a : Int32) : (dwn a 100).toInt = a.toInt / 100 := by
  have eb : (100 : Int32).toInt = 100 := rfl
  have e1 : (1 : Int32).toInt = 1 := rfl
  have lo := i_lo a
  have hi := i_hi a
  have hq : (a / 100).toInt = a.toInt / 100 + if 0 ≤ a.toInt ∨ (100 : Int) ∣ a.toInt then 0 else 1 := by
    rw [i_div (by rw [eb]; omega), eb, Int.tdiv_eq_ediv]; rfl
  have hm : (a / 100 * 100).toInt = (a / 100).toInt * 100 := by
    rw [i_mul (by rw [hq, eb]; split <;> omega) (by rw [hq, eb]; split <;> omega), eb]
  have hs : (a - a / 100 * 100).toInt = a.toInt - (a / 100).toInt * 100 := by
    rw [i_sub (by rw [hm, hq]; split <;> omega) (by rw [hm, hq]; split <;> omega), hm]
  unfold dwn
  by_cases c : 0 ≤ a - a / 100 * 100
  · rw [if_pos c, hq]
    rw [i_le, hs, hq] at c
    have c : (0 : Int) ≤ _ := c
    split at c
    · rename_i c2; rw [if_pos c2]; omega
    · omega
  · rw [if_neg c, i_sub (by rw [hq, e1]; split <;> omega) (by rw [hq, e1]; split <;> omega), hq, e1]
    rw [i_le, hs, hq] at c
    have c : ¬ (0 : Int) ≤ _ := c
    split at c
    · omega
    · rename_i c2; rw [if_neg c2]; omega
theorem fdv100 (a : Int32) : (fdv a 100).toInt = a.toInt / 100 := by
  have eb : (100 : Int32).toInt = 100 := rfl
  have e0 : (0 : Int32).toInt = 0 := rfl
  have e1 : (1 : Int32).toInt = 1 := rfl
  have lo := i_lo a
  have hi := i_hi a
  have hq : (a / 100).toInt = a.toInt / 100 + if 0 ≤ a.toInt ∨ (100 : Int) ∣ a.toInt then 0 else 1 := by
    rw [i_div (by rw [eb]; omega), eb, Int.tdiv_eq_ediv]; rfl
  have hm : (a / 100 * 100).toInt = (a / 100).toInt * 100 := by
    rw [i_mul (by rw [hq, eb]; split <;> omega) (by rw [hq, eb]; split <;> omega), eb]
  unfold fdv
  by_cases c : 0 ≤ a ^^^ 100
  · rw [if_pos c]
    rw [sgnX (by decide), i_le, e0] at c
    rw [hq, if_pos (Or.inl c)]; omega
  · rw [if_neg c]
    rw [sgnX (by decide), i_le, e0] at c
    by_cases c2 : a / 100 * 100 = a
    · rw [if_pos c2]
      have := congrArg Int32.toInt c2
      rw [hm, hq] at this
      rw [hq]
      split at this
      · rename_i c3; rw [if_pos c3]; omega
      · omega
    · rw [if_neg c2, i_sub (by rw [hq, e1]; split <;> omega) (by rw [hq, e1]; split <;> omega), hq, e1]
      have : ¬ (a / 100 * 100).toInt = a.toInt := fun q => c2 (i_eq q)
      rw [hm, hq] at this
      split at this
      · rename_i c3; omega
      · rename_i c3; rw [if_neg c3]; omega
theorem fdvd100 (a : Int32) : fdv a 100 = dwn a 100 := i_eq (by rw [dwn100, fdv100])
theorem dwn8000 (a : Int32) : (dwn a 8000).toInt = a.toInt / 8000 := by
  have eb : (8000 : Int32).toInt = 8000 := rfl
  have e1 : (1 : Int32).toInt = 1 := rfl
  have lo := i_lo a
  have hi := i_hi a
  have hq : (a / 8000).toInt = a.toInt / 8000 + if 0 ≤ a.toInt ∨ (8000 : Int) ∣ a.toInt then 0 else 1 := by
    rw [i_div (by rw [eb]; omega), eb, Int.tdiv_eq_ediv]; rfl
  have hm : (a / 8000 * 8000).toInt = (a / 8000).toInt * 8000 := by
    rw [i_mul (by rw [hq, eb]; split <;> omega) (by rw [hq, eb]; split <;> omega), eb]
  have hs : (a - a / 8000 * 8000).toInt = a.toInt - (a / 8000).toInt * 8000 := by
    rw [i_sub (by rw [hm, hq]; split <;> omega) (by rw [hm, hq]; split <;> omega), hm]
  unfold dwn
  by_cases c : 0 ≤ a - a / 8000 * 8000
  · rw [if_pos c, hq]
    rw [i_le, hs, hq] at c
    have c : (0 : Int) ≤ _ := c
    split at c
    · rename_i c2; rw [if_pos c2]; omega
    · omega
  · rw [if_neg c, i_sub (by rw [hq, e1]; split <;> omega) (by rw [hq, e1]; split <;> omega), hq, e1]
    rw [i_le, hs, hq] at c
    have c : ¬ (0 : Int) ≤ _ := c
    split at c
    · omega
    · rename_i c2; rw [if_neg c2]; omega
theorem fdv8000 (a : Int32) : (fdv a 8000).toInt = a.toInt / 8000 := by
  have eb : (8000 : Int32).toInt = 8000 := rfl
  have e0 : (0 : Int32).toInt = 0 := rfl
  have e1 : (1 : Int32).toInt = 1 := rfl
  have lo := i_lo a
  have hi := i_hi a
  have hq : (a / 8000).toInt = a.toInt / 8000 + if 0 ≤ a.toInt ∨ (8000 : Int) ∣ a.toInt then 0 else 1 := by
    rw [i_div (by rw [eb]; omega), eb, Int.tdiv_eq_ediv]; rfl
  have hm : (a / 8000 * 8000).toInt = (a / 8000).toInt * 8000 := by
    rw [i_mul (by rw [hq, eb]; split <;> omega) (by rw [hq, eb]; split <;> omega), eb]
  unfold fdv
  by_cases c : 0 ≤ a ^^^ 8000
  · rw [if_pos c]
    rw [sgnX (by decide), i_le, e0] at c
    rw [hq, if_pos (Or.inl c)]; omega
  · rw [if_neg c]
    rw [sgnX (by decide), i_le, e0] at c
    by_cases c2 : a / 8000 * 8000 = a
    · rw [if_pos c2]
      have := congrArg Int32.toInt c2
      rw [hm, hq] at this
      rw [hq]
      split at this
      · rename_i c3; rw [if_pos c3]; omega
      · omega
    · rw [if_neg c2, i_sub (by rw [hq, e1]; split <;> omega) (by rw [hq, e1]; split <;> omega), hq, e1]
      have : ¬ (a / 8000 * 8000).toInt = a.toInt := fun q => c2 (i_eq q)
      rw [hm, hq] at this
      split at this
      · rename_i c3; omega
      · rename_i c3; rw [if_neg c3]; omega
theorem fdvd8000 (a : Int32) : fdv a 8000 = dwn a 8000 := i_eq (by rw [dwn8000, fdv8000])

/-! the reference's way of a watch -/
theorem nI_mul (a b : Nat) : nI a * nI b = nI (a * b) := by
  apply Int32.toBitVec_inj.mp
  show BitVec.ofNat 32 a * BitVec.ofNat 32 b = BitVec.ofNat 32 (a * b)
  rw [BitVec.ofNat_mul]
theorem nI_lin (c a b : Nat) : nI c * nI a + nI b = nI (c * a + b) := by rw [nI_mul, nI_add]
theorem and31_n (v : Int32) : (v &&& 31).toInt = ((v.toBitVec.toNat % 32 : Nat) : Int) := by
  have h1 : (v &&& 31).toBitVec.toNat = v.toBitVec.toNat % 32 := by
    rw [Int32.toBitVec_and, BitVec.toNat_and]
    exact Nat.and_two_pow_sub_one_eq_mod _ 5
  rw [← h1]
  show BitVec.toInt _ = _
  rw [BitVec.toInt_eq_toNat_of_lt (by rw [h1]; omega)]
theorem and31_add (v : Int32) : (v + 32) &&& 31 = v &&& 31 := by
  apply i_eq
  rw [and31_n, and31_n, Int32.toBitVec_add, BitVec.toNat_add]
  show ((_ + 32) % 2 ^ 32 % 32 : Nat) = ((_ : Nat) : Int)
  omega
theorem rem32 {v : Int32} (h : 0 ≤ v.toInt) : v - v / 32 * 32 = v &&& 31 := by
  have hv : v.toInt = (v.toBitVec.toNat : Int) := by
    show v.toBitVec.toInt = _
    have h2 : 0 ≤ v.toBitVec.toInt := h
    rw [BitVec.toInt_eq_toNat_cond] at h2 ⊢
    split
    · rfl
    · rename_i hc; rw [if_neg hc] at h2; have := v.toBitVec.isLt; omega
  have e32 : (32 : Int32).toInt = 32 := rfl
  have hi := i_hi v
  have hq : (v / 32).toInt = v.toInt / 32 := by
    rw [i_div (by rw [e32]; omega), e32, Int.tdiv_eq_ediv_of_nonneg h]
  have hm : (v / 32 * 32).toInt = v.toInt / 32 * 32 := by
    rw [i_mul (by rw [hq, e32]; omega) (by rw [hq, e32]; omega), hq, e32]
  apply i_eq
  rw [i_sub (by rw [hm]; omega) (by rw [hm]; omega), hm, and31_n, hv]
  omega
theorem m32 {v : Int32} (h : -32 ≤ v.toInt) (h2 : v.toInt < 2147483000) : (v + 32) - (v + 32) / 32 * 32 = v &&& 31 := by
  have e32 : (32 : Int32).toInt = 32 := rfl
  rw [rem32 (by rw [i_add (by rw [e32]; omega) (by rw [e32]; omega), e32]; omega), and31_add]
def gW (M : Mem) (e n s : Int32) : Mem := up (up (up M 516 26 e) 516 27 n) 516 28 s
theorem gW_26 (M : Mem) (e n s : Int32) : gW M e n s 516 26 = e := by simp [gW, up]
theorem gW_27 (M : Mem) (e n s : Int32) : gW M e n s 516 27 = n := by simp [gW, up]
theorem gW_28 (M : Mem) (e n s : Int32) : gW M e n s 516 28 = s := by simp [gW, up]
theorem gW_o (M : Mem) (e n s : Int32) {b : Nat} (h : b ≠ 516) (j : Nat) : gW M e n s b j = M b j := by simp [gW, up, h]
theorem gW_k (M : Mem) (e n s : Int32) {j : Nat} (h : j ≠ 26 ∧ j ≠ 27 ∧ j ≠ 28) : gW M e n s 516 j = M 516 j := by simp [gW, up, h]
theorem gW_u26 (M : Mem) (e n s v : Int32) : up (gW M e n s) 516 26 v = gW M v n s := by
  funext b j
  unfold gW up
  by_cases c : b = 516
  · subst c
    by_cases c1 : j = 28
    · subst c1; simp
    · by_cases c2 : j = 27
      · subst c2; simp
      · by_cases c3 : j = 26
        · subst c3; simp
        · simp [c1, c2, c3]
  · simp [c]
theorem gW_u27 (M : Mem) (e n s v : Int32) : up (gW M e n s) 516 27 v = gW M e v s := by
  funext b j
  unfold gW up
  by_cases c : b = 516
  · subst c
    by_cases c1 : j = 28
    · subst c1; simp
    · by_cases c2 : j = 27
      · subst c2; simp
      · simp [c1, c2]
  · simp [c]
theorem gW_u28 (M : Mem) (e n s v : Int32) : up (gW M e n s) 516 28 v = gW M e n v := by
  funext b j
  unfold gW up
  by_cases c : b = 516 ∧ j = 28
  · simp [c]
  · simp [c]
def mpg (M : Mem) (w k : Nat) : Int32 := M 520 (8 * w + k)
def mkn (M : Mem) (w k : Nat) : Int32 := M 521 (4 * w + k)
def thS (f : Nat → Int32) (k : Nat) : Int32 := 1000 * f k
theorem lwA_rng {a s : Int32} (h1 : 0 ≤ s.toInt) (h2 : s.toInt ≤ 2) (h3 : ¬ lwA a s = -1) : 0 ≤ (lwA a s).toInt ∧ (lwA a s).toInt ≤ 2 := by
  obtain ⟨k, hk, rfl⟩ : ∃ k, k < 3 ∧ s = nI k := ⟨s.toNatClampNeg, by have := clampI h1; omega, nI_of_toInt (clampI h1).symm⟩
  have f : ∀ k, k < 3 → (¬ nI k = 0 → 0 ≤ (2 - nI k).toInt ∧ (2 - nI k).toInt ≤ 2 ∧ 0 ≤ (3 - nI k).toInt ∧ (3 - nI k).toInt ≤ 2) := by decide +kernel
  unfold lwA at h3 ⊢
  by_cases c1 : nI k = 0
  · rw [if_pos c1]; decide
  · obtain ⟨f1, f2, f3, f4⟩ := f k hk c1
    rw [if_neg c1] at h3 ⊢
    by_cases c2 : 6 ≤ a
    · rw [if_pos c2] at h3 ⊢
      by_cases c3 : 8 ≤ a
      · rw [if_pos c3]
        by_cases c4 : 12 ≤ a
        · rw [if_pos c4]; decide
        · rw [if_neg c4]; exact ⟨f1, f2⟩
      · rw [if_neg c3]; exact ⟨f3, f4⟩
    · rw [if_neg c2] at h3; exact absurd rfl h3

/-! smearing a row -/
theorem bt_nI {n x : Nat} (hx : x < 32) : bt (nI n) x = n.testBit x := by
  unfold bt
  show (BitVec.ofNat 32 n).getLsbD x = _
  rw [BitVec.getLsbD_ofNat]
  simp [hx]
theorem tb_le {n x : Nat} (h : n < 2 ^ 20) (hx : n.testBit x = true) : x < 20 := by
  refine Classical.byContradiction fun q => ?_
  have := Nat.testBit_lt_two_pow (x := n) (i := x) (Nat.lt_of_lt_of_le h (Nat.pow_le_pow_right (by decide) (by omega)))
  rw [hx] at this; cases this
/-- bits of r, moved up by 0 to a - 1 -/
def smB (r a n : Nat) : Prop := ∀ j, n.testBit j = true ↔ ∃ d, d < a ∧ d ≤ j ∧ r.testBit (j - d) = true
theorem smB_lt {r a n : Nat} (h : smB r a n) (hr : r < 2 ^ 20) (ha : a ≤ 39) : n < 2 ^ 59 := by
  refine Nat.lt_pow_two_of_testBit n fun j hj => ?_
  cases e : n.testBit j with
  | false => rfl
  | true =>
    obtain ⟨d, h1, h2, h3⟩ := (h j).mp e
    have := tb_le hr h3
    omega
theorem smB_1 (r : Nat) : smB r 1 r := fun j => ⟨fun h => ⟨0, by decide, Nat.zero_le _, by simpa using h⟩, fun ⟨d, h1, h2, h3⟩ => by
  have : d = 0 := by omega
  subst this
  simpa using h3⟩
theorem smB_step {r a n s : Nat} (h : smB r a n) (hs : s ≤ a) : smB r (a + s) (n ||| n * 2 ^ s) := by
  intro j
  rw [Nat.testBit_or, Nat.testBit_mul_two_pow]
  constructor
  · intro q
    rcases Bool.or_eq_true_iff.mp q with q | q
    · obtain ⟨d, h1, h2, h3⟩ := (h j).mp q
      exact ⟨d, by omega, h2, h3⟩
    · obtain ⟨q1, q2⟩ := Bool.and_eq_true_iff.mp q
      obtain ⟨d, h1, h2, h3⟩ := (h (j - s)).mp q2
      have := of_decide_eq_true q1
      exact ⟨d + s, by omega, by omega, by rw [show j - (d + s) = j - s - d by omega]; exact h3⟩
  · intro ⟨d, h1, h2, h3⟩
    by_cases hd : d < a
    · rw [(h j).mpr ⟨d, hd, h2, h3⟩]; rfl
    · have hsj : s ≤ j := by omega
      rw [(h (j - s)).mpr ⟨d - s, by omega, by omega, by rw [show j - s - (d - s) = j - d by omega]; exact h3⟩]
      simp [hsj]
section SD
variable {xs : List Int32} {S : List Shp} {M : Mem} {L : Int64} {Q : Option Value → Mem → Int64 → Prop}
/-- the answer's bits -/
def smR (r : Nat) (w e : Int) (v : Int32) : Prop := ∀ x, x < 32 → (bt v x = true ↔ ∃ i : Int, w ≤ i ∧ i ≤ e ∧ i ≤ x ∧ r.testBit ((x : Int) - i).toNat = true)
theorem t_smear {r : Nat} (hr : r < 2 ^ 20) {w e : Int32} (h1 : -19 ≤ w.toInt) (h2 : w.toInt ≤ e.toInt) (h3 : e.toInt ≤ 19) (h : ∀ v, smR r w.toInt e.toInt v → Q (some (.int v)) M L) : RX xs S md_Patch_smear 0 [.int (nI r), .int w, .int e] [] M L Q := by
  have e1 : (1 : Int32).toInt = 1 := rfl
  have hr31 : r < 2 ^ 31 := by omega
  refine L_Patch_smear_0 ?_
  rw [nI_l hr31]
  have hpl : ∃ pl : Nat, 1 ≤ pl ∧ pl ≤ 39 ∧ (e - w) + 1 = nI pl ∧ (pl : Int) = e.toInt - w.toInt + 1 := by
    refine ⟨(e.toInt - w.toInt + 1).toNat, by omega, by omega, ?_, by omega⟩
    have hs : (e - w).toInt = e.toInt - w.toInt := i_sub (by omega) (by omega)
    apply nI_of_toInt
    rw [i_add (by rw [hs, e1]; omega) (by rw [hs, e1]; omega), hs, e1]
    omega
  obtain ⟨pl, p1, p2, p3, p4⟩ := hpl
  rw [p3]
  have key : ∀ k a n, 1 ≤ a → a ≤ 100 → pl ≤ a + k → smB r (min a pl) n → RX xs S md_Patch_smear 13 [.null, .int w, .null, .int (nI pl), .long (lN n), .null, .int (nI a)] [] M L Q := by
    have done : ∀ n, smB r pl n → (0 ≤ w → Q (some (.int ((lN n <<< (w.toInt64 &&& 63)).toInt32))) M L) ∧ (¬ 0 ≤ w → Q (some (.int ((lN n >>> ((-w).toInt64 &&& 63)).toInt32))) M L) := by
      intro n hn
      have hlt := smB_lt hn hr p2
      refine ⟨fun c => ?_, fun c => ?_⟩
      · rw [i_le] at c
        have c : (0 : Int) ≤ w.toInt := c
        have hw : w = nI w.toInt.toNat := nI_of_toInt (by omega)
        have e0 : ∀ k : Nat, k < 64 → (lN n <<< ((nI k).toInt64 &&& 63)).toInt32 = nI (n * 2 ^ k) := fun k hk => by rw [wb_shl n hk, lN_i]
        have e2 := e0 w.toInt.toNat (by omega)
        rw [← hw] at e2
        rw [e2]
        refine h _ fun x hx => ?_
        rw [bt_nI hx, Nat.testBit_mul_two_pow, Bool.and_eq_true_iff, decide_eq_true_iff, hn]
        constructor
        · intro ⟨q1, d, q2, q3, q4⟩
          exact ⟨w.toInt + d, by omega, by omega, by omega, by rw [show ((x : Int) - (w.toInt + d)).toNat = x - w.toInt.toNat - d by omega]; exact q4⟩
        · intro ⟨i, q1, q2, q3, q4⟩
          exact ⟨by omega, (i - w.toInt).toNat, by omega, by omega, by rw [show x - w.toInt.toNat - (i - w.toInt).toNat = ((x : Int) - i).toNat by omega]; exact q4⟩
      · rw [i_le] at c
        have c : ¬ (0 : Int) ≤ w.toInt := c
        have hnw : (-w).toInt = -w.toInt := i_neg (by omega)
        have hw : -w = nI (-w.toInt).toNat := nI_of_toInt (by rw [hnw]; omega)
        have e2 : (lN n >>> ((-w).toInt64 &&& 63)).toInt32 = nI (n / 2 ^ (-w.toInt).toNat) := by
          rw [hw, wb_c _ (by omega), pf_shr (d := (-w.toInt).toNat) (by rw [wb_tb, wb_sm _ (by omega), BitVec.toNat_ofNat]; omega) (by omega), lN_i]
        rw [e2]
        refine h _ fun x hx => ?_
        rw [bt_nI hx, Nat.testBit_div_two_pow, hn]
        constructor
        · intro ⟨d, q2, q3, q4⟩
          exact ⟨w.toInt + d, by omega, by omega, by omega, by rw [show ((x : Int) - (w.toInt + d)).toNat = x + (-w.toInt).toNat - d by omega]; exact q4⟩
        · intro ⟨i, q1, q2, q3, q4⟩
          exact ⟨(i - w.toInt).toNat, by omega, by omega, by rw [show x + (-w.toInt).toNat - (i - w.toInt).toNat = ((x : Int) - i).toNat by omega]; exact q4⟩
    intro k
    induction k with
    | zero =>
      intro a n ha ha2 hk hn
      rw [Nat.min_eq_right (by omega)] at hn
      exact L_Patch_smear_13 ⟨fun _ => done n hn, fun c => absurd ((nI_leI (by omega) (by omega)).mpr (by omega)) c⟩
    | succ k ih =>
      intro a n ha ha2 hk hn
      by_cases hex : pl ≤ a
      · rw [Nat.min_eq_right hex] at hn
        exact L_Patch_smear_13 ⟨fun _ => done n hn, fun c => absurd ((nI_leI (by omega) (by omega)).mpr hex) c⟩
      · rw [Nat.min_eq_left (by omega)] at hn
        have hlt := smB_lt hn hr (by omega)
        refine L_Patch_smear_13 ⟨fun c => absurd ((nI_leI (by omega) (by omega)).mp c) hex, fun _ => ?_⟩
        rw [pk_sub (by omega), nI_add]
        have hpw : ∀ s, a + s ≤ 39 → n < 2 ^ 59 → s ≤ a → n * 2 ^ s < 2 ^ 64 := by
          intro s hs _ hsa
          have hq2 : n * 2 ^ s < 2 ^ 59 := by
            refine Nat.lt_pow_two_of_testBit _ fun j hj => ?_
            cases et : (n * 2 ^ s).testBit j with
            | false => rfl
            | true =>
              rw [Nat.testBit_mul_two_pow] at et
              obtain ⟨et1, et2⟩ := Bool.and_eq_true_iff.mp et
              have := of_decide_eq_true et1
              obtain ⟨d, g1, g2, g3⟩ := (hn (j - s)).mp et2
              have := tb_le hr g3
              omega
          omega
        refine ⟨fun c => ?_, fun c => ?_⟩
        · rw [nI_ltI (by omega) (by omega)] at c
          have hs := smB_step hn (s := pl - a) (by omega)
          rw [wb_shl n (by omega), wb_or (by omega) (hpw _ (by omega) hlt (by omega))]
          exact ih (a + a) _ (by omega) (by omega) (by omega) (by rw [Nat.min_eq_right (by omega)]; rw [show a + (pl - a) = pl by omega] at hs; exact hs)
        · rw [nI_ltI (by omega) (by omega)] at c
          have hs := smB_step hn (s := a) (Nat.le_refl _)
          rw [wb_shl n (by omega), wb_or (by omega) (hpw _ (by omega) hlt (by omega))]
          exact ih (a + a) _ (by omega) (by omega) (by omega) (by rw [Nat.min_eq_left (by omega)]; exact hs)
  exact key 39 1 r (by omega) (by omega) (by omega) (by rw [Nat.min_eq_left p1]; exact smB_1 r)
end SD

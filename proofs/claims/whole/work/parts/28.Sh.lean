/-! the sums of a watch -/
theorem and31 (v : Int32) : 0 ≤ (v &&& 31) ∧ (v &&& 31) ≤ 31 := by
  have h1 : (v &&& 31).toBitVec.toNat ≤ 31 := by
    rw [Int32.toBitVec_and, BitVec.toNat_and]
    exact Nat.and_le_right
  have h2 : (v &&& 31).toInt = (v &&& 31).toBitVec.toNat := by
    show BitVec.toInt _ = _
    rw [BitVec.toInt_eq_toNat_of_lt (by omega)]
  rw [i_le, i_le, h2]
  show (0 : Int) ≤ _ ∧ _ ≤ (31 : Int)
  omega
def mdC (p b wi sa : Int32) : Int32 := if p = -1 then -1 else if lwA (angC ((p + b) &&& 31) wi) sa = -1 then -1 else if 16 ≤ ((((p + b) &&& 31) - wi) &&& 31) then (((p + b) &&& 31) + (-(lwA (angC ((p + b) &&& 31) wi) sa))) &&& 31 else (((p + b) &&& 31) + (lwA (angC ((p + b) &&& 31) wi) sa)) &&& 31
theorem mdC_pt {p b wi sa : Int32} (h : ¬ mdC p b wi sa = -1) : 0 ≤ mdC p b wi sa ∧ mdC p b wi sa ≤ 31 := by
  unfold mdC at h ⊢
  by_cases c1 : p = -1
  · rw [if_pos c1] at h; exact absurd rfl h
  rw [if_neg c1] at h ⊢
  by_cases c2 : lwA (angC ((p + b) &&& 31) wi) sa = -1
  · rw [if_pos c2] at h; exact absurd rfl h
  rw [if_neg c2] at h ⊢
  by_cases c3 : 16 ≤ ((((p + b) &&& 31) - wi) &&& 31)
  · rw [if_pos c3]; exact and31 _
  · rw [if_neg c3]; exact and31 _
def sumF (f : Nat → Int32) : Nat → Int32
  | 0 => 0
  | k + 1 => sumF f k + f k
theorem sumF_congr {f g : Nat → Int32} {n : Nat} (h : ∀ k, k < n → f k = g k) : sumF f n = sumF g n := by
  induction n with
  | zero => rfl
  | succ n ih => show sumF f n + f n = sumF g n + g n; rw [ih (fun k hk => h k (by omega)), h n (by omega)]
def eT (pg kn : Nat → Int32) (wi sa b : Int32) (k : Nat) : Int32 := if mdC (pg k) b wi sa = -1 then 0 else kn (k / 2) * nrt ((mdC (pg k) b wi sa + 24) &&& 31)
def nT (pg kn : Nat → Int32) (wi sa b : Int32) (k : Nat) : Int32 := if mdC (pg k) b wi sa = -1 then 0 else kn (k / 2) * nrt (mdC (pg k) b wi sa)
def lT (pg kn : Nat → Int32) (k : Nat) : Int32 := if pg k = -1 then kn (k / 2) else 0
def aT (kn : Nat → Int32) (k : Nat) : Int32 := kn (k / 2)
def eS (M : Mem) (t j : Nat) : Int32 := sumF (eT (M (6 + 5 * t + 1)) (M (6 + 5 * t + 2)) (M (6 + 5 * t) 7) (M (6 + 5 * t) 8) (nI j - 2)) 8
def nS (M : Mem) (t j : Nat) : Int32 := sumF (nT (M (6 + 5 * t + 1)) (M (6 + 5 * t + 2)) (M (6 + 5 * t) 7) (M (6 + 5 * t) 8) (nI j - 2)) 8
def lS (M : Mem) (t : Nat) : Int32 := sumF (lT (M (6 + 5 * t + 1)) (M (6 + 5 * t + 2))) 8
def aS (M : Mem) (t : Nat) : Int32 := sumF (aT (M (6 + 5 * t + 2))) 8
def wSum (M : Mem) (t : Nat) : Mem := rowN (rowN (up (up M (6 + 5 * t) 4 (lS M t * 1000)) (6 + 5 * t) 5 (aS M t * 1000)) (6 + 5 * t + 3) 5 (eS M t)) (6 + 5 * t + 4) 5 (nS M t)
theorem up_rowN (M : Mem) {a b : Nat} (h : a ≠ b) (n k : Nat) (f : Nat → Int32) (v : Int32) : up (rowN M b n f) a k v = rowN (up M a k v) b n f := by
  funext c j
  unfold up rowN
  by_cases c1 : c = a ∧ j = k
  · obtain ⟨rfl, rfl⟩ := c1
    simp [h]
  · simp [c1]
section SH
variable {xs : List Int32} {M : Mem} {L : Int64} {Q : Option Value → Mem → Int64 → Prop}
theorem s_Watch_madeGood {t : Nat} (ht : t < 24) {p b : Int32} (h : Q (some (.int (mdC p b (M (6 + 5 * t) 7) (M (6 + 5 * t) 8)))) M L) : RX xs shL md_Watch_madeGood 0 [.ref (6 + 5 * t), .int p, .int b] [] M L Q := by
  unfold mdC at h
  refine L_Watch_madeGood_0 ht ⟨fun c => ?_, fun c => ⟨fun c2 => ?_, fun c2 => ⟨fun c3 => ⟨fun _ => ?_, fun q => absurd rfl q⟩, fun c3 => ⟨fun q => absurd q (by decide), fun _ => ?_⟩⟩⟩⟩
  · rw [if_pos c] at h; exact h
  · rw [if_neg c, if_pos c2] at h; exact h
  · rw [if_neg c, if_neg c2, if_pos c3] at h; exact h
  · rw [if_neg c, if_neg c2, if_neg c3] at h; exact h
theorem half_k : ∀ k, k < 8 → vp_in (nI k / 2) 4 ∧ (nI k / 2).toNatClampNeg = k / 2 := by
  have h : ∀ k, k < 8 → (0 ≤ (nI k / 2).toInt ∧ (nI k / 2).toInt < 4) ∧ (nI k / 2).toNatClampNeg = k / 2 := by decide +kernel
  intro k hk
  exact ⟨vp_inI (h k hk).1.1 (h k hk).1.2, (h k hk).2⟩
theorem s_Watch_knotsOfPeg {t k : Nat} (ht : t < 24) (hk : k < 8) (h : Q (some (.int (M (6 + 5 * t + 2) (k / 2)))) M L) : RX xs shL md_Watch_knotsOfPeg 0 [.ref (6 + 5 * t), .int (nI k)] [] M L Q := by
  refine L_Watch_knotsOfPeg_0 ht ⟨(half_k k hk).1, ?_⟩
  rw [(half_k k hk).2]; exact h
theorem s_Watch_sumParts {t j : Nat} (ht : t < 24) (hj : j < 5) (h : Q none (up (up M (6 + 5 * t + 3) j (eS M t j)) (6 + 5 * t + 4) j (nS M t j)) L) : RX xs shL md_Watch_sumParts 0 [.ref (6 + 5 * t), .int (nI j - 2)] [] M L Q := by
  refine L_Watch_sumParts_0 ht ?_
  have e2 : nI j - 2 + 2 = nI j := Int32.sub_add_cancel _ _
  have key : ∀ r k, k + r = 8 → RX xs shL md_Watch_sumParts 7 [.ref (6 + 5 * t), .int (nI j - 2), .int (sumF (eT (M (6 + 5 * t + 1)) (M (6 + 5 * t + 2)) (M (6 + 5 * t) 7) (M (6 + 5 * t) 8) (nI j - 2)) k), .int (sumF (nT (M (6 + 5 * t + 1)) (M (6 + 5 * t + 2)) (M (6 + 5 * t) 7) (M (6 + 5 * t) 8) (nI j - 2)) k), .int (nI k), .null] [] M L Q := by
    intro r
    induction r with
    | zero =>
      intro k hk
      have : k = 8 := by omega
      subst this
      refine L_Watch_sumParts_7 ht ⟨fun _ => ?_, fun c => absurd (by decide) c⟩
      rw [e2, nI_cl (by omega)]
      exact ⟨vp_nI hj (by omega), h⟩
    | succ r ih =>
      intro k hk
      refine L_Watch_sumParts_7 ht ⟨fun c => absurd ((nI_leI (a := 8) (b := k) (by omega) (by omega)).mp c) (by omega), fun _ => ⟨vp_nI (by omega) (by omega), ?_⟩⟩
      rw [nI_cl (by omega)]
      refine s_Watch_madeGood ht ⟨_, rfl, fun c => ?_, fun c => ?_⟩
      · have := ih (k + 1) (by omega)
        rw [sumF, sumF, eT, nT, if_pos c, if_pos c, Int32.add_zero, Int32.add_zero] at this
        rw [nI_1]; exact this
      · refine s_Watch_knotsOfPeg ht (by omega) ⟨_, rfl, mdC_pt c, s_Watch_knotsOfPeg ht (by omega) ⟨_, rfl, ?_⟩⟩
        have := ih (k + 1) (by omega)
        rw [sumF, sumF, eT, nT, if_neg c, if_neg c] at this
        rw [nI_1]; exact this
  exact key 8 0 (by omega)
theorem s_Watch_sumSpreads {t : Nat} (ht : t < 24) (h : Q none (up (up M (6 + 5 * t) 4 (lS M t * 1000)) (6 + 5 * t) 5 (aS M t * 1000)) L) : RX xs shL md_Watch_sumSpreads 0 [.ref (6 + 5 * t)] [] M L Q := by
  refine L_Watch_sumSpreads_0 ht ?_
  have key : ∀ r k, k + r = 8 → RX xs shL md_Watch_sumSpreads 6 [.ref (6 + 5 * t), .int (sumF (lT (M (6 + 5 * t + 1)) (M (6 + 5 * t + 2))) k), .int (sumF (aT (M (6 + 5 * t + 2))) k), .int (nI k)] [] M L Q := by
    intro r
    induction r with
    | zero =>
      intro k hk
      have : k = 8 := by omega
      subst this
      exact L_Watch_sumSpreads_6 ht ⟨fun _ => h, fun c => absurd (by decide) c⟩
    | succ r ih =>
      intro k hk
      have := ih (k + 1) (by omega)
      refine L_Watch_sumSpreads_6 ht ⟨fun c => absurd ((nI_leI (a := 8) (b := k) (by omega) (by omega)).mp c) (by omega), fun _ => s_Watch_knotsOfPeg ht (by omega) ⟨_, rfl, vp_nI (by omega) (by omega), ?_⟩⟩
      rw [nI_cl (by omega)]
      refine ⟨fun c => s_Watch_knotsOfPeg ht (by omega) ⟨_, rfl, ?_⟩, fun c => ?_⟩
      · rw [sumF, sumF, lT, aT, if_pos c] at this
        rw [nI_1]; exact this
      · rw [sumF, sumF, lT, aT, if_neg c] at this
        rw [nI_1]; exact this
  exact key 8 0 (by omega)
theorem s_Watch_sumUp {t : Nat} (ht : t < 24) (h : Q none (wSum M t) L) : RX xs shL md_Watch_sumUp 0 [.ref (6 + 5 * t)] [] M L Q := by
  refine L_Watch_sumUp_0 ht (s_Watch_sumSpreads ht ⟨rfl, ?_⟩)
  have key : ∀ r j, j + r = 5 → RX xs shL md_Watch_sumUp 7 [.ref (6 + 5 * t), .int (nI j - 2)] [] (rowN (rowN (up (up M (6 + 5 * t) 4 (lS M t * 1000)) (6 + 5 * t) 5 (aS M t * 1000)) (6 + 5 * t + 3) j (eS M t)) (6 + 5 * t + 4) j (nS M t)) L Q := by
    intro r
    induction r with
    | zero =>
      intro j hj
      have : j = 5 := by omega
      subst this
      exact L_Watch_sumUp_7 ht ⟨fun _ => h, fun c => absurd (by decide) c⟩
    | succ r ih =>
      intro j hj
      have e2 : (2 : Int32).toInt = 2 := rfl
      have e1 : (1 : Int32).toInt = 1 := rfl
      have hjI : (nI j).toInt = j := i_nI (by omega)
      have hsI : (nI j - 2).toInt = (j : Int) - 2 := by rw [i_sub (by omega) (by omega), hjI, e2]
      refine L_Watch_sumUp_7 ht ⟨fun c => ?_, fun _ => ?_⟩
      · rw [i_lt, hsI, e2] at c; omega
      · refine s_Watch_sumParts ht (by omega) ⟨rfl, ?_⟩
        have e3 : nI j - 2 + 1 = nI (j + 1) - 2 := by
          apply i_eq
          have hj1 : (nI (j + 1)).toInt = ((j + 1 : Nat) : Int) := i_nI (by omega)
          rw [i_add (by omega) (by omega), hsI, i_sub (by omega) (by omega), hj1, e1, e2]
          omega
        rw [e3]
        have hM : ∀ a i, a = 6 + 5 * t + 1 ∨ a = 6 + 5 * t + 2 ∨ (a = 6 + 5 * t ∧ 6 ≤ i) → (rowN (rowN (up (up M (6 + 5 * t) 4 (lS M t * 1000)) (6 + 5 * t) 5 (aS M t * 1000)) (6 + 5 * t + 3) j (eS M t)) (6 + 5 * t + 4) j (nS M t)) a i = M a i := by
          intro a i ha
          rw [rowN_o _ _ _ (by omega), rowN_o _ _ _ (by omega), up_ne _ _ (by omega), up_ne _ _ (by omega)]
        generalize hN : rowN (rowN (up (up M (6 + 5 * t) 4 (lS M t * 1000)) (6 + 5 * t) 5 (aS M t * 1000)) (6 + 5 * t + 3) j (eS M t)) (6 + 5 * t + 4) j (nS M t) = N at *
        have eE : eS N t j = eS M t j := by
          unfold eS
          rw [hM (6 + 5 * t) 7 (by omega), hM (6 + 5 * t) 8 (by omega), show N (6 + 5 * t + 1) = M (6 + 5 * t + 1) from funext fun i => hM _ i (by omega), show N (6 + 5 * t + 2) = M (6 + 5 * t + 2) from funext fun i => hM _ i (by omega)]
        have eN : nS N t j = nS M t j := by
          unfold nS
          rw [hM (6 + 5 * t) 7 (by omega), hM (6 + 5 * t) 8 (by omega), show N (6 + 5 * t + 1) = M (6 + 5 * t + 1) from funext fun i => hM _ i (by omega), show N (6 + 5 * t + 2) = M (6 + 5 * t + 2) from funext fun i => hM _ i (by omega)]
        rw [eE, eN, ← hN, up_rowN _ (by omega), rowN_up _ _ _ _ rfl, rowN_up _ _ _ _ rfl]
        exact ih (j + 1) (by omega)
  have := key 5 0 (by omega)
  rw [rowN_0, rowN_0] at this
  exact this
end SH

/-! putting a rectangle; smearing a row; all that is reached -/
theorem up_setP {M : Mem} {p j : Nat} {f g : Nat → Nat → Bool} {v : Int32} (hj : j < 20) (hv : ∀ x, x < 32 → bt v x = g x j) (ho : ∀ y, y ≠ j → y < 20 → ∀ x, x < 32 → f x y = g x y) : up (setP M p f) (p + 1) j v = setP M p g := by
  refine setP_eq (fun b i hb => ?_) (fun y hy x hx => ?_)
  · rw [up_ne _ _ (fun q => hb ⟨q.1, by omega⟩)]
    exact if_neg hb
  · by_cases e : y = j
    · subst e; rw [up_same]; exact hv x hx
    · rw [up_ne _ _ (fun q => e q.2)]
      show gp (setP M p f) p x y = _
      rw [gp_set M p f hx hy]
      exact ho y e hy x hx
theorem imaxI (a b : Int32) : (imax a b).toInt = max a.toInt b.toInt := by
  unfold imax
  split
  · rename_i h; rw [i_lt] at h; omega
  · rename_i h; rw [i_lt] at h; omega
theorem iminI (a b : Int32) : (imin a b).toInt = min a.toInt b.toInt := by
  unfold imin
  split
  · rename_i h; rw [i_lt] at h; omega
  · rename_i h; rw [i_lt] at h; omega
/-- the rectangle's function -/
noncomputable def rcF (x1 y1 x2 y2 : Int) (is : Bool) (f : Nat → Nat → Bool) (x y : Nat) : Bool := if bB (x1 ≤ x ∧ (x : Int) ≤ x2 ∧ x < 20 ∧ y1 ≤ y ∧ (y : Int) ≤ y2) then is else f x y
section SC
variable {xs : List Int32} {S : List Shp} {M : Mem} {L : Int64} {Q : Option Value → Mem → Int64 → Prop}
theorem t_put {p : Nat} (hp : isP S p) {x1 y1 x2 y2 is : Int32} (h : Q none (setP M p (rcF x1.toInt y1.toInt x2.toInt y2.toInt (bB (¬ is = 0)) (gp M p))) L) : RX xs S md_Patch_put 0 [.ref p, .int x1, .int y1, .int x2, .int y2, .int is] [] M L Q := by
  have e0 : (0 : Int32).toInt = 0 := rfl
  have e19 : (19 : Int32).toInt = 19 := rfl
  have e1 : (1 : Int32).toInt = 1 := rfl
  refine L_Patch_put_0 hp ⟨fun c => ?_, fun c => ?_⟩
  · rw [i_le, imaxI, iminI, e0, e19] at c
    have hA : imax x1 0 = nI (imax x1 0).toNatClampNeg := nI_of_toInt (clampI (by rw [imaxI, e0]; omega)).symm
    have hB : imin x2 19 = nI (imin x2 19).toNatClampNeg := nI_of_toInt (clampI (by rw [iminI, e19]; omega)).symm
    have hAI : ((imax x1 0).toNatClampNeg : Int) = max x1.toInt 0 := by rw [clampI (by rw [imaxI, e0]; omega), imaxI, e0]
    have hBI : ((imin x2 19).toNatClampNeg : Int) = min x2.toInt 19 := by rw [clampI (by rw [iminI, e19]; omega), iminI, e19]
    have hJ : imax y1 0 = nI (imax y1 0).toNatClampNeg := nI_of_toInt (clampI (by rw [imaxI, e0]; omega)).symm
    have hJI : ((imax y1 0).toNatClampNeg : Int) = max y1.toInt 0 := by rw [clampI (by rw [imaxI, e0]; omega), imaxI, e0]
    have hH : (imin y2 19).toInt = min y2.toInt 19 := by rw [iminI, e19]
    generalize (imax x1 0).toNatClampNeg = A at *
    generalize (imin x2 19).toNatClampNeg = B at *
    generalize (imax y1 0).toNatClampNeg = J at *
    generalize imin y2 19 = H at *
    rw [hA, hB, hJ, nI_1]
    have hm : ∀ x, x < 32 → bt (fbits (nI (B + 1)) &&& (fbits (nI A) ^^^ (-1))) x = bB (x1.toInt ≤ x ∧ (x : Int) ≤ x2.toInt ∧ x < 20) := by
      intro x hx
      rw [b_and, bt_not _ hx, fbits_n (B + 1) (by omega) x hx, fbits_n A (by omega) x hx]
      by_cases q : x1.toInt ≤ x ∧ (x : Int) ≤ x2.toInt ∧ x < 20
      · rw [bB_t q]
        have h1 : x < B + 1 := by omega
        have h2 : ¬ x < A := by omega
        simp [h1, h2]
      · rw [bB_f q]
        by_cases h1 : x < B + 1
        · have h2 : x < A := by omega
          simp [h2]
        · simp [h1]
    generalize fbits (nI (B + 1)) &&& (fbits (nI A) ^^^ (-1)) = m at *
    have hJlt : J < 2147483648 := by have := i_hi y1; omega
    have key : ∀ k j, 20 ≤ j + k → J ≤ j → j < 2147483648 → (∀ y, J ≤ y → y < j → (y : Int) ≤ H.toInt) → ∀ M', M' = setP M p (fun x y => if bB (x1.toInt ≤ x ∧ (x : Int) ≤ x2.toInt ∧ x < 20 ∧ J ≤ y ∧ y < j) then bB (¬ is = 0) else gp M p x y) →
        RX xs S md_Patch_put 56 [.ref p, .null, .null, .null, .null, .int is, .null, .null, .int m, .int H, .int (nI j)] [] M' L Q := by
      have done : ∀ j, J ≤ j → H.toInt < j → (∀ y, J ≤ y → y < j → (y : Int) ≤ H.toInt) → ∀ M', M' = setP M p (fun x y => if bB (x1.toInt ≤ x ∧ (x : Int) ≤ x2.toInt ∧ x < 20 ∧ J ≤ y ∧ y < j) then bB (¬ is = 0) else gp M p x y) → Q none M' L := by
        intro j hJj hHj hy M' hM'
        rw [hM', setP_congr M p (g := rcF x1.toInt y1.toInt x2.toInt y2.toInt (bB (¬ is = 0)) (gp M p)) (fun y hy20 x hx => ?_)]
        · exact h
        · unfold rcF
          rw [bB_congr (R := x1.toInt ≤ x ∧ (x : Int) ≤ x2.toInt ∧ x < 20 ∧ y1.toInt ≤ y ∧ (y : Int) ≤ y2.toInt)]
          constructor
          · intro ⟨q1, q2, q3, q4, q5⟩
            have := hy y q4 q5
            exact ⟨q1, q2, q3, by omega, by omega⟩
          · intro ⟨q1, q2, q3, q4, q5⟩
            exact ⟨q1, q2, q3, by omega, by omega⟩
      intro k
      induction k with
      | zero =>
        intro j hj hJj hlt hy M' hM'
        refine L_Patch_put_56 hp ⟨fun _ => done j hJj (by omega) hy M' hM', fun c2 => absurd ?_ c2⟩
        rw [i_lt, i_nI hlt]; omega
      | succ k ih =>
        intro j hj hJj hlt hy M' hM'
        refine L_Patch_put_56 hp ⟨fun c2 => done j hJj (by rw [i_lt, i_nI hlt] at c2; exact c2) hy M' hM', fun c2 => ?_⟩
        rw [i_lt, i_nI hlt] at c2
        have hj20 : j < 20 := by omega
        rw [nI_cl hlt, nI_1]
        have hold : ∀ x, x < 32 → bt (M' (p + 1) j) x = gp M p x j := by
          intro x hx
          rw [hM']
          show gp (setP M p _) p x j = _
          rw [gp_set M p _ hx hj20, bB_f (fun q => by omega)]
          rfl
        have step : ∀ v : Int32, (∀ x, x < 32 → bt v x = if bB (x1.toInt ≤ x ∧ (x : Int) ≤ x2.toInt ∧ x < 20) then bB (¬ is = 0) else gp M p x j) → up M' (p + 1) j v = setP M p (fun x y => if bB (x1.toInt ≤ x ∧ (x : Int) ≤ x2.toInt ∧ x < 20 ∧ J ≤ y ∧ y < j + 1) then bB (¬ is = 0) else gp M p x y) := by
          intro v hv
          rw [hM']
          refine up_setP hj20 (fun x hx => ?_) (fun y hyj hy20 x hx => ?_)
          · rw [hv x hx, bB_congr (R := x1.toInt ≤ x ∧ (x : Int) ≤ x2.toInt ∧ x < 20 ∧ J ≤ j ∧ j < j + 1)]
            exact ⟨fun q => ⟨q.1, q.2.1, q.2.2, hJj, by omega⟩, fun q => ⟨q.1, q.2.1, q.2.2.1⟩⟩
          · rw [bB_congr (R := x1.toInt ≤ x ∧ (x : Int) ≤ x2.toInt ∧ x < 20 ∧ J ≤ y ∧ y < j + 1)]
            exact ⟨fun q => ⟨q.1, q.2.1, q.2.2.1, q.2.2.2.1, by omega⟩, fun q => ⟨q.1, q.2.1, q.2.2.1, q.2.2.2.1, by omega⟩⟩
        have hy' : ∀ y, J ≤ y → y < j + 1 → (y : Int) ≤ H.toInt := fun y q1 q2 => by
          by_cases e : y = j
          · subst e; omega
          · exact hy y q1 (by omega)
        refine ⟨fun c3 => ⟨vp_nI hj20 (by omega), ih (j + 1) (by omega) (by omega) (by omega) hy' _ (step _ fun x hx => ?_)⟩, fun c3 => ⟨vp_nI hj20 (by omega), ih (j + 1) (by omega) (by omega) (by omega) hy' _ (step _ fun x hx => ?_)⟩⟩
        · rw [b_and, bt_not _ hx, hm x hx, hold x hx, bB_f (P := ¬ is = 0) (fun q => q c3)]
          cases bB (x1.toInt ≤ x ∧ (x : Int) ≤ x2.toInt ∧ x < 20) <;> simp
        · rw [b_or, hm x hx, hold x hx, bB_t (P := ¬ is = 0) c3]
          cases bB (x1.toInt ≤ x ∧ (x : Int) ≤ x2.toInt ∧ x < 20) <;> simp
    refine key 20 J (by omega) (Nat.le_refl _) hJlt (fun y q1 q2 => by omega) M ?_
    refine (setP_self M p).symm.trans (setP_congr M p fun y hy x hx => ?_)
    rw [bB_f (fun q => by omega)]
    rfl
  · rw [i_le, imaxI, iminI, e0, e19] at c
    have : M = setP M p (rcF x1.toInt y1.toInt x2.toInt y2.toInt (bB (¬ is = 0)) (gp M p)) := by
      refine (setP_self M p).symm.trans (setP_congr M p fun y hy x hx => ?_)
      unfold rcF
      rw [bB_f (fun q => by omega)]
      rfl
    rw [this]; exact h
end SC

/-! what is seen from a cell -/
theorem t_seenFrom {xs : List Int32} {S : List Shp} {M : Mem} {L : Int64} {Q : Option Value → Mem → Int64 → Prop} {p : Nat} (hp : isP S p) (hin : ∀ x y, y < 20 → 20 ≤ x → gp M p x y = false) {i y : Int32} (b1 : -1000000 ≤ i.toInt)
    (hQ : ∀ v : Int32, (∀ x : Nat, x < 20 → (bt v x = true ↔ 0 ≤ (x : Int) + i.toInt ∧ (0 ≤ y.toInt ∧ y.toInt ≤ 19) ∧ gp M p ((x : Int) + i.toInt).toNat y.toInt.toNat = true)) → Q (some (.int v)) M L) : RX xs S md_Patch_seenFrom 0 [.ref p, .int i, .int y] [] M L Q := by
  have e0 : (0 : Int32).toInt = 0 := rfl
  have e19 : (19 : Int32).toInt = 19 := rfl
  have em : (-19 : Int32).toInt = -19 := rfl
  refine L_Patch_seenFrom_0 hp ⟨fun c => ⟨fun c2 => ⟨fun c3 => ?_, fun c3 => ?_⟩, fun c2 => ?_⟩, fun c => ?_⟩
  · rw [i_le, i_le, e0, e19] at c
    rw [i_le, i_le, em, e19] at c2
    rw [i_lt, e0] at c3
    have hk := clampI c.1
    have hn : (-i).toInt = -i.toInt := i_neg (by omega)
    have en : -i = nI (-i.toInt).toNat := nI_of_toInt (by rw [hn]; omega)
    refine ⟨vp_inI c.1 (by omega), hQ _ (fun x hx => ?_)⟩
    have f20 : bt (fbits 20) x = true := by
      have := fbits_n 20 (by omega) x (by omega)
      rw [show (20 : Int32) = nI 20 from rfl, this]; simp [hx]
    rw [b_and, f20, Bool.and_true, en, b_shl _ (by omega) _ (by omega), Bool.and_eq_true_iff, decide_eq_true_iff, show x - (-i.toInt).toNat = ((x : Int) + i.toInt).toNat by omega, show y.toNatClampNeg = y.toInt.toNat by omega]
    constructor
    · rintro ⟨q1, q2⟩
      exact ⟨by omega, c, q2⟩
    · rintro ⟨q1, _, q2⟩
      exact ⟨by omega, q2⟩
  · rw [i_le, i_le, e0, e19] at c
    rw [i_le, i_le, em, e19] at c2
    rw [i_lt, e0] at c3
    have hk := clampI c.1
    have en : i = nI i.toInt.toNat := nI_of_toInt (by omega)
    refine ⟨vp_inI c.1 (by omega), hQ _ (fun x hx => ?_)⟩
    have hb : bt (M (p + 1) y.toNatClampNeg >>> (i &&& 31)) x = if i.toInt.toNat + x < 32 then bt (M (p + 1) y.toNatClampNeg) (i.toInt.toNat + x) else bt (M (p + 1) y.toNatClampNeg) 31 := by
      have := b_sshr i.toInt.toNat (by omega) (M (p + 1) y.toNatClampNeg) (i := x) (by omega)
      rw [← en] at this
      exact this
    rw [hb, show y.toNatClampNeg = y.toInt.toNat by omega, show ((x : Int) + i.toInt).toNat = i.toInt.toNat + x by omega]
    by_cases c4 : i.toInt.toNat + x < 32
    · rw [if_pos c4]
      exact ⟨fun q => ⟨by omega, c, q⟩, fun q => q.2.2⟩
    · rw [if_neg c4]
      have h31 : bt (M (p + 1) y.toInt.toNat) 31 = false := hin 31 y.toInt.toNat (by omega) (by omega)
      have hbg : gp M p (i.toInt.toNat + x) y.toInt.toNat = false := gp_big M p _ (by omega)
      rw [h31, hbg]
      exact ⟨fun q => (Bool.false_ne_true q).elim, fun q => q.2.2⟩
  · rw [i_le, i_le, em, e19] at c2
    rw [i_le, i_le, e0, e19] at c
    refine hQ 0 (fun x hx => ?_)
    rw [b_0]
    refine ⟨fun q => (Bool.false_ne_true q).elim, fun ⟨q1, q2, q3⟩ => ?_⟩
    rw [hin _ _ (by omega) (by omega)] at q3
    exact q3
  · rw [i_le, i_le, e0, e19] at c
    refine hQ 0 (fun x hx => ?_)
    rw [b_0]
    exact ⟨fun q => (Bool.false_ne_true q).elim, fun q => absurd q.2.1 c⟩

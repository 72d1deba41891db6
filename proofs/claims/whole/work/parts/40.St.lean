/-! near land, in the reference -/
theorem ldW_mono {LI : Int → Int → Prop} {x y r s : Int} (h : r ≤ s) (q : ldW LI x y r) : ldW LI x y s := by
  obtain ⟨a, b, q1, q2, q3, q4, q5⟩ := q
  exact ⟨a, b, q1, by omega, by omega, by omega, by omega⟩
theorem nI_m1 {r : Nat} (h : r < 100) : ¬ nI r = -1 := fun q => by
  have := congrArg Int32.toInt q
  rw [i_nI (by omega)] at this
  have : (r : Int) = -1 := this
  omega
theorem nvG_le {LI : Int → Int → Prop} {x y : Int} {a : Nat} (ha : a ≤ 8) : ∀ k r, r + k = 9 → (∀ r' : Nat, r' < r → ¬ ldW LI x y r') → ((¬ nvG LI x y k r = -1 ∧ ¬ nI a < nvG LI x y k r) ↔ ldW LI x y a) := by
  intro k
  induction k with
  | zero =>
    intro r hr hno
    exact ⟨fun q => absurd rfl q.1, fun q => absurd q (hno a (by omega))⟩
  | succ k ih =>
    intro r hr hno
    by_cases c : ldW LI x y r
    · rw [nvG_t c, i_lt, i_nI (by omega), i_nI (by omega)]
      constructor
      · rintro ⟨_, q⟩
        exact ldW_mono (by omega) c
      · intro q
        refine ⟨nI_m1 (by omega), fun z => hno a (by omega) q⟩
    · rw [nvG_f c]
      refine ih (r + 1) (by omega) (fun r' hr' q => ?_)
      by_cases e : r' = r
      · subst e; exact c q
      · exact hno r' (by omega) q
theorem nvF_le {LI : Int → Int → Prop} {x y : Int} {a : Nat} (ha : a ≤ 8) : (¬ nvF LI x y = -1 ∧ ¬ nI a < nvF LI x y) ↔ ldW LI x y a := nvG_le ha 9 0 (by omega) (fun r' h => absurd h (by omega))
/-- the reference's nearOf is measured -/
def Msd (M : Mem) (w h : Nat) : Prop := ∀ x y, x < w → y < h → M 530 (20 * y + x) = nvF (mLI M w h) x y
section ST
variable {xs : List Int32} {M : Mem} {L : Int64} {Q : Option Value → Mem → Int64 → Prop}
theorem s_Mod_isNear {w h a : Nat} (hC : MCH M w h) (hM : Msd M w h) (ha : a ≤ 8) {x y : Int32} (hQ : Q (some (.int (bI ((0 ≤ x.toInt ∧ x.toInt < w ∧ 0 ≤ y.toInt ∧ y.toInt < h) ∧ ldW (mLI M w h) x.toInt y.toInt a)))) M L) : RX xs shL md_Mod_isNear 0 [.ref 516, .int x, .int y, .int (nI a)] [] M L Q := by
  obtain ⟨c1, c2, w4, w20, h4, h20⟩ := hC
  have e0 : (0 : Int32).toInt = 0 := rfl
  have e1 : (1 : Int32).toInt = 1 := rfl
  have hw : (nI w - 1).toInt = (w : Int) - 1 := by rw [i_sub (by rw [i_nI (by omega), e1]; omega) (by rw [i_nI (by omega), e1]; omega), i_nI (by omega), e1]
  have hh : (nI h - 1).toInt = (h : Int) - 1 := by rw [i_sub (by rw [i_nI (by omega), e1]; omega) (by rw [i_nI (by omega), e1]; omega), i_nI (by omega), e1]
  refine L_Mod_isNear_0 ?_
  rw [c1, c2]
  refine ⟨fun c => ?_, fun c => ?_⟩
  · have c' := c
    rw [i_le, i_le, i_le, i_le, hw, hh, e0] at c'
    have ea : x = nI x.toInt.toNat := nI_of_toInt (by omega)
    have eb : y = nI y.toInt.toNat := nI_of_toInt (by omega)
    have ei : 20 * y + x = nI (20 * y.toInt.toNat + x.toInt.toNat) := by
      have := nI_at x.toInt.toNat y.toInt.toNat
      rw [← ea, ← eb] at this
      exact this
    have hv := hM x.toInt.toNat y.toInt.toNat (by omega) (by omega)
    rw [show ((x.toInt.toNat : Nat) : Int) = x.toInt by omega, show ((y.toInt.toNat : Nat) : Int) = y.toInt by omega] at hv
    rw [ei, nI_cl (by omega), hv]
    have hl := nvF_le (LI := mLI M w h) (x := x.toInt) (y := y.toInt) ha
    refine ⟨vp_nI (by omega) (by omega), fun d => ?_, fun d => ⟨fun d2 => ?_, fun d2 => ?_⟩⟩
    · rw [bI_f (fun q => (hl.mpr q.2).1 d)] at hQ; exact hQ
    · rw [bI_f (fun q => (hl.mpr q.2).2 d2)] at hQ; exact hQ
    · rw [bI_t ⟨by omega, hl.mp ⟨d, d2⟩⟩] at hQ; exact hQ
  · rw [i_le, i_le, i_le, i_le, hw, hh, e0] at c
    rw [bI_f (fun q => c ⟨⟨q.1.1, by have := q.1.2.1; omega⟩, q.1.2.2.1, by have := q.1.2.2.2; omega⟩)] at hQ; exact hQ
/-- whether a sign lets a cell stay, in the reference -/
noncomputable def sgR (M : Mem) (w h : Nat) (s a b : Int32) (x y : Nat) : Bool := if s = 0 then bB (a ≤ M 523 (20 * y + x) ∧ M 523 (20 * y + x) ≤ b) else if s = 1 then bB (¬ M 523 (20 * y + x) ≤ a) else if s = 2 then bB (ldW (mLI M w h) x y a.toInt) else if s = 3 then bB (¬ M 524 (20 * y + x) = 0) else if s = 4 then bB (a.toInt ≤ y ∧ (y : Int) ≤ b.toInt) else bB (¬ ldW (mLI M w h) x y a.toInt)
theorem s_Mod_isSign {w h t x y : Nat} (hC : MCH M w h) (hM : Msd M w h) (ht : t < 40) (hx : x < w) (hy : y < h) (hwd : M 524 (20 * y + x) = 0 ∨ M 524 (20 * y + x) = 1) (ha : ¬ M 525 (5 * t + 1) = 0 → ¬ M 525 (5 * t + 1) = 1 → ¬ M 525 (5 * t + 1) = 3 → ¬ M 525 (5 * t + 1) = 4 → 0 ≤ (M 525 (5 * t + 2)).toInt ∧ (M 525 (5 * t + 2)).toInt ≤ 8)
    (hQ : Q (some (.int (b01 (sgR M w h (M 525 (5 * t + 1)) (M 525 (5 * t + 2)) (M 525 (5 * t + 3)) x y)))) M L) : RX xs shL md_Mod_isSign 0 [.ref 516, .int (nI t), .int (nI x), .int (nI y)] [] M L Q := by
  have hC' := hC
  obtain ⟨c1, c2, w4, w20, h4, h20⟩ := hC
  have hxI : (nI x).toInt = x := i_nI (by omega)
  have hyI : (nI y).toInt = y := i_nI (by omega)
  have a1 : 5 * nI t + 1 = nI (5 * t + 1) := nI_lin 5 t 1
  have a2 : 5 * nI t + 2 = nI (5 * t + 2) := nI_lin 5 t 2
  have a3 : 5 * nI t + 3 = nI (5 * t + 3) := nI_lin 5 t 3
  have bb : ∀ P : Prop, b01 (bB P) = bI P := fun P => by
    by_cases c : P
    · rw [bB_t c, bI_t c]; rfl
    · rw [bB_f c, bI_f c]; rfl
  refine L_Mod_isSign_0 ?_
  rw [a1, a2, a3, nI_at, nI_cl (n := 5 * t + 1) (by omega), nI_cl (n := 5 * t + 2) (by omega), nI_cl (n := 5 * t + 3) (by omega), nI_cl (n := 20 * y + x) (by omega)]
  have vp := vp_nI (k := 20 * y + x) (n := 400) (by omega) (by omega)
  refine ⟨vp_nI (by omega) (by omega), vp_nI (by omega) (by omega), vp_nI (by omega) (by omega), ?_⟩
  generalize M 525 (5 * t + 1) = s at *
  generalize M 525 (5 * t + 2) = a at *
  generalize M 525 (5 * t + 3) = b at *
  unfold sgR at hQ
  by_cases s0 : s = 0
  · rw [if_pos s0, bb] at hQ
    exact Or.inl ⟨s0, vp, hQ⟩
  refine Or.inr ?_
  rw [if_neg s0] at hQ
  by_cases s1 : s = 1
  · rw [if_pos s1, bb] at hQ
    refine Or.inl ⟨s1, vp, fun c => ?_, fun c => ?_⟩
    · rw [bI_f (fun q => q c)] at hQ; exact hQ
    · rw [bI_t c] at hQ; exact hQ
  refine Or.inr ?_
  rw [if_neg s1] at hQ
  by_cases s2 : s = 2
  · rw [if_pos s2, bb] at hQ
    obtain ⟨b1, b2⟩ := ha s0 s1 (fun q => by rw [s2] at q; exact absurd q (by decide)) (fun q => by rw [s2] at q; exact absurd q (by decide))
    have en : a = nI a.toInt.toNat := nI_of_toInt (by omega)
    refine Or.inl ⟨s2, ?_⟩
    rw [en]
    refine s_Mod_isNear hC' hM (by omega) ⟨_, rfl, bI_01, ?_⟩
    rw [hxI, hyI, show ((a.toInt.toNat : Nat) : Int) = a.toInt by omega, bI_congr (q := ldW (mLI M w h) x y a.toInt) ⟨fun q => q.2, fun q => ⟨by omega, q⟩⟩]
    exact hQ
  refine Or.inr ?_
  rw [if_neg s2] at hQ
  by_cases s3 : s = 3
  · rw [if_pos s3, bb] at hQ
    refine Or.inl ⟨s3, vp, hwd, ?_⟩
    rcases hwd with q | q
    · rw [q] at hQ ⊢
      rw [bI_f (fun z => z rfl)] at hQ; exact hQ
    · rw [q] at hQ ⊢
      rw [bI_t (by decide)] at hQ; exact hQ
  refine Or.inr ?_
  rw [if_neg s3] at hQ
  by_cases s4 : s = 4
  · rw [if_pos s4, bb] at hQ
    refine Or.inl ⟨s4, ?_⟩
    rw [bI_congr (q := a.toInt ≤ y ∧ (y : Int) ≤ b.toInt) (by rw [i_le, i_le, hyI])]
    exact hQ
  rw [if_neg s4, bb] at hQ
  obtain ⟨b1, b2⟩ := ha s0 s1 s3 s4
  have en : a = nI a.toInt.toNat := nI_of_toInt (by omega)
  refine Or.inr ⟨?_, ?_⟩
  · rw [i_lt, i_lt]
    have e0 : (0 : Int32).toInt = 0 := rfl
    have e4 : (4 : Int32).toInt = 4 := rfl
    have d : ∀ k : Int32, ¬ s = k → ¬ s.toInt = k.toInt := fun k hk q => hk (i_eq q)
    have d0 : ¬ s.toInt = 0 := d 0 s0
    have d1 : ¬ s.toInt = 1 := d 1 s1
    have d2 : ¬ s.toInt = 2 := d 2 s2
    have d3 : ¬ s.toInt = 3 := d 3 s3
    have d4 : ¬ s.toInt = 4 := d 4 s4
    omega
  · rw [en]
    refine s_Mod_isNear hC' hM (by omega) ⟨_, rfl, ?_⟩
    rw [hxI, hyI, show ((a.toInt.toNat : Nat) : Int) = a.toInt by omega]
    refine ⟨fun c => ?_, fun c => ?_⟩
    · rw [bI_t (fun q => bI_p0 c ⟨by omega, q⟩)] at hQ; exact hQ
    · rw [bI_f (fun q => q (bI_p1 c).2)] at hQ; exact hQ
end ST

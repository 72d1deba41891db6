/-! the nearest land -/
def ldW (LI : Int → Int → Prop) (x y r : Int) : Prop := ∃ a b : Int, LI a b ∧ x - r ≤ a ∧ a ≤ x + r ∧ y - r ≤ b ∧ b ≤ y + r
noncomputable def nvG (LI : Int → Int → Prop) (x y : Int) : Nat → Nat → Int32
  | 0, _ => -1
  | k + 1, r => if bB (ldW LI x y r) then nI r else nvG LI x y k (r + 1)
noncomputable def nvF (LI : Int → Int → Prop) (x y : Int) : Int32 := nvG LI x y 9 0
theorem nvG_t {LI : Int → Int → Prop} {x y : Int} {k r : Nat} (h : ldW LI x y r) : nvG LI x y (k + 1) r = nI r := if_pos (bB_t h)
theorem nvG_f {LI : Int → Int → Prop} {x y : Int} {k r : Nat} (h : ¬ ldW LI x y r) : nvG LI x y (k + 1) r = nvG LI x y k (r + 1) := if_neg (fun q => h (bB_iff.mp q))
def mLI (M : Mem) (w h : Nat) (a b : Int) : Prop := 0 ≤ a ∧ a < w ∧ 0 ≤ b ∧ b < h ∧ M 523 (20 * b.toNat + a.toNat) = 0
def cLI (M : Mem) (a b : Int) : Prop := 0 ≤ a ∧ a ≤ 19 ∧ 0 ≤ b ∧ b ≤ 19 ∧ gp M 130 a.toNat b.toNat = true
section SR
variable {xs : List Int32} {M : Mem} {L : Int64} {Q : Option Value → Mem → Int64 → Prop}
theorem s_Mod_isLand {w h : Nat} (hC : MCH M w h) {a b : Int32} (hQ : Q (some (.int (bI (mLI M w h a.toInt b.toInt)))) M L) : RX xs shL md_Mod_isLand 0 [.ref 516, .int a, .int b] [] M L Q := by
  obtain ⟨c1, c2, w4, w20, h4, h20⟩ := hC
  have e0 : (0 : Int32).toInt = 0 := rfl
  have e1 : (1 : Int32).toInt = 1 := rfl
  have hw : (nI w - 1).toInt = (w : Int) - 1 := by rw [i_sub (by rw [i_nI (by omega), e1]; omega) (by rw [i_nI (by omega), e1]; omega), i_nI (by omega), e1]
  have hh : (nI h - 1).toInt = (h : Int) - 1 := by rw [i_sub (by rw [i_nI (by omega), e1]; omega) (by rw [i_nI (by omega), e1]; omega), i_nI (by omega), e1]
  refine L_Mod_isLand_0 ?_
  rw [c1, c2]
  refine ⟨fun c => ?_, fun c => ?_⟩
  · have c' := c
    rw [i_le, i_le, i_le, i_le, hw, hh, e0] at c'
    have ea : a = nI a.toInt.toNat := nI_of_toInt (by omega)
    have eb : b = nI b.toInt.toNat := nI_of_toInt (by omega)
    have ei : 20 * b + a = nI (20 * b.toInt.toNat + a.toInt.toNat) := by
      have := nI_at a.toInt.toNat b.toInt.toNat
      rw [← ea, ← eb] at this
      exact this
    rw [ei, nI_cl (by omega)]
    refine ⟨vp_nI (by omega) (by omega), fun c2 => ?_, fun c2 => ?_⟩
    · rw [bI_t ⟨by omega, by omega, by omega, by omega, c2⟩] at hQ; exact hQ
    · rw [bI_f (fun q => c2 q.2.2.2.2)] at hQ; exact hQ
  · rw [i_le, i_le, i_le, i_le, hw, hh, e0] at c
    rw [bI_f (fun q => c ⟨⟨q.1, by have := q.2.1; omega⟩, q.2.2.1, by have := q.2.2.2.1; omega⟩)] at hQ; exact hQ
theorem s_Mod_nearest {x y : Nat} (hx : x < 20) (hy : y < 20) {w h : Nat} (hC : MCH M w h) (hQ : Q (some (.int (nvF (mLI M w h) x y))) M L) : RX xs shL md_Mod_nearest 0 [.ref 516, .int (nI x), .int (nI y)] [] M L Q := by
  have hxI : (nI x).toInt = x := i_nI (by omega)
  have hyI : (nI y).toInt = y := i_nI (by omega)
  have e1 : (1 : Int32).toInt = 1 := rfl
  refine L_Mod_nearest_0 ?_
  have key : ∀ k r, r + k = 9 → nvG (mLI M w h) x y k r = nvF (mLI M w h) x y → RX xs shL md_Mod_nearest 2 [.ref 516, .int (nI x), .int (nI y), .int (nI r), .null, .null] [] M L Q := by
    intro k
    induction k with
    | zero =>
      intro r hr he
      have : r = 9 := by omega
      subst this
      refine L_Mod_nearest_2 ⟨fun _ => ?_, fun c => absurd (by decide) c⟩
      rw [← he] at hQ; exact hQ
    | succ k ih =>
      intro r hr he
      have hrI : (nI r).toInt = r := i_nI (by omega)
      have hyr : (nI y + nI r).toInt = (y : Int) + r := by rw [i_add (by omega) (by omega), hyI, hrI]
      have hxr : (nI x + nI r).toInt = (x : Int) + r := by rw [i_add (by omega) (by omega), hxI, hrI]
      have hyr2 : (nI y - nI r).toInt = (y : Int) - r := by rw [i_sub (by omega) (by omega), hyI, hrI]
      have hxr2 : (nI x - nI r).toInt = (x : Int) - r := by rw [i_sub (by omega) (by omega), hxI, hrI]
      refine L_Mod_nearest_2 ⟨fun c => ?_, fun _ => ?_⟩
      · rw [i_lt, hrI] at c
        have c : (8 : Int) < r := c
        omega
      have rows : ∀ (m : Nat) (b : Int32), (y : Int) + r + 1 ≤ b.toInt + m → (y : Int) - r ≤ b.toInt → b.toInt ≤ y + r + 1 → (∀ a' b' : Int, mLI M w h a' b' → x - r ≤ a' → a' ≤ x + r → y - r ≤ b' → b' < b.toInt → False) → RX xs shL md_Mod_nearest 13 [.ref 516, .int (nI x), .int (nI y), .int (nI r), .int b, .null] [] M L Q := by
        intro m
        induction m with
        | zero =>
          intro b h1 h2 h3 hno
          refine L_Mod_nearest_13 ⟨fun _ => ?_, fun c => absurd ?_ c⟩
          · rw [nI_1]
            refine ih (r + 1) (by omega) ?_
            rw [← he, nvG_f]
            rintro ⟨a', b', q1, q2, q3, q4, q5⟩
            exact hno a' b' q1 q2 q3 q4 (by omega)
          · rw [i_lt, hyr]; omega
        | succ m ihm =>
          intro b h1 h2 h3 hno
          refine L_Mod_nearest_13 ⟨fun c => ?_, fun c => ?_⟩
          · rw [i_lt, hyr] at c
            rw [nI_1]
            refine ih (r + 1) (by omega) ?_
            rw [← he, nvG_f]
            rintro ⟨a', b', q1, q2, q3, q4, q5⟩
            exact hno a' b' q1 q2 q3 q4 (by omega)
          · rw [i_lt, hyr] at c
            have hb1 : (b + 1).toInt = b.toInt + 1 := by rw [i_add (by omega) (by omega), e1]
            have cols : ∀ (l : Nat) (a : Int32), (x : Int) + r + 1 ≤ a.toInt + l → (x : Int) - r ≤ a.toInt → a.toInt ≤ x + r + 1 → (∀ a' : Int, mLI M w h a' b.toInt → x - r ≤ a' → a' < a.toInt → False) → RX xs shL md_Mod_nearest 26 [.ref 516, .int (nI x), .int (nI y), .int (nI r), .int b, .int a] [] M L Q := by
              intro l
              have fin : ∀ a : Int32, (x : Int) + r < a.toInt → (∀ a' : Int, mLI M w h a' b.toInt → x - r ≤ a' → a' < a.toInt → False) → RX xs shL md_Mod_nearest 13 [.ref 516, .int (nI x), .int (nI y), .int (nI r), .int (b + 1), .null] [] M L Q := by
                intro a ha hna
                refine ihm (b + 1) (by omega) (by omega) (by omega) (fun a' b' q1 q2 q3 q4 q5 => ?_)
                by_cases e : b' = b.toInt
                · rw [e] at q1; exact hna a' q1 q2 (by omega)
                · exact hno a' b' q1 q2 q3 q4 (by omega)
              induction l with
              | zero =>
                intro a h4 h5 h6 hna
                refine L_Mod_nearest_26 ⟨fun _ => fin a (by omega) hna, fun c => absurd ?_ c⟩
                rw [i_lt, hxr]; omega
              | succ l ihl =>
                intro a h4 h5 h6 hna
                refine L_Mod_nearest_26 ⟨fun c => fin a (by rw [i_lt, hxr] at c; exact c) hna, fun c => ?_⟩
                rw [i_lt, hxr] at c
                have ha1 : (a + 1).toInt = a.toInt + 1 := by rw [i_add (by omega) (by omega), e1]
                have stop : mLI M w h a.toInt b.toInt → Q (some (.int (nI r))) M L := fun q => by
                  rw [← he, nvG_t ⟨a.toInt, b.toInt, q, by omega, by omega, by omega, by omega⟩] at hQ; exact hQ
                have next : ¬ mLI M w h a.toInt b.toInt → RX xs shL md_Mod_nearest 26 [.ref 516, .int (nI x), .int (nI y), .int (nI r), .int b, .int (a + 1)] [] M L Q := fun q => ihl (a + 1) (by omega) (by omega) (by omega) (fun a' q1 q2 q3 => by
                  by_cases e : a' = a.toInt
                  · rw [e] at q1; exact q q1
                  · exact hna a' q1 q2 (by omega))
                refine s_Mod_isLand hC ⟨_, rfl, fun q => next (bI_p0 q), fun q => stop (bI_p1 q)⟩
            exact cols (2 * r + 1) (nI x - nI r) (by omega) (by omega) (by omega) (fun a' _ q2 q3 => by omega)
      exact rows (2 * r + 1) (nI y - nI r) (by omega) (by omega) (by omega) (fun a' b' _ _ _ q4 q5 => by omega)
  exact key 9 0 (by omega) rfl
theorem s_Chart_leastNear {x y : Nat} (hx : x < 20) (hy : y < 20) (hQ : Q (some (.int (nvF (cLI M) x y))) M L) : RX xs shL md_Chart_leastNear 0 [.ref 126, .int (nI x), .int (nI y)] [] M L Q := by
  have hxI : (nI x).toInt = x := i_nI (by omega)
  have hyI : (nI y).toInt = y := i_nI (by omega)
  have e1 : (1 : Int32).toInt = 1 := rfl
  refine L_Chart_leastNear_0 ?_
  have key : ∀ k r, r + k = 9 → nvG (cLI M) x y k r = nvF (cLI M) x y → RX xs shL md_Chart_leastNear 2 [.ref 126, .int (nI x), .int (nI y), .int (nI r), .null, .null] [] M L Q := by
    intro k
    induction k with
    | zero =>
      intro r hr he
      have : r = 9 := by omega
      subst this
      refine L_Chart_leastNear_2 ⟨fun _ => ?_, fun c => absurd (by decide) c⟩
      rw [← he] at hQ; exact hQ
    | succ k ih =>
      intro r hr he
      have hrI : (nI r).toInt = r := i_nI (by omega)
      have hyr : (nI y + nI r).toInt = (y : Int) + r := by rw [i_add (by omega) (by omega), hyI, hrI]
      have hxr : (nI x + nI r).toInt = (x : Int) + r := by rw [i_add (by omega) (by omega), hxI, hrI]
      have hyr2 : (nI y - nI r).toInt = (y : Int) - r := by rw [i_sub (by omega) (by omega), hyI, hrI]
      have hxr2 : (nI x - nI r).toInt = (x : Int) - r := by rw [i_sub (by omega) (by omega), hxI, hrI]
      refine L_Chart_leastNear_2 ⟨fun c => ?_, fun _ => ?_⟩
      · rw [i_lt, hrI] at c
        have c : (8 : Int) < r := c
        omega
      have rows : ∀ (m : Nat) (b : Int32), (y : Int) + r + 1 ≤ b.toInt + m → (y : Int) - r ≤ b.toInt → b.toInt ≤ y + r + 1 → (∀ a' b' : Int, cLI M a' b' → x - r ≤ a' → a' ≤ x + r → y - r ≤ b' → b' < b.toInt → False) → RX xs shL md_Chart_leastNear 13 [.ref 126, .int (nI x), .int (nI y), .int (nI r), .int b, .null] [] M L Q := by
        intro m
        induction m with
        | zero =>
          intro b h1 h2 h3 hno
          refine L_Chart_leastNear_13 ⟨fun _ => ?_, fun c => absurd ?_ c⟩
          · rw [nI_1]
            refine ih (r + 1) (by omega) ?_
            rw [← he, nvG_f]
            rintro ⟨a', b', q1, q2, q3, q4, q5⟩
            exact hno a' b' q1 q2 q3 q4 (by omega)
          · rw [i_lt, hyr]; omega
        | succ m ihm =>
          intro b h1 h2 h3 hno
          refine L_Chart_leastNear_13 ⟨fun c => ?_, fun c => ?_⟩
          · rw [i_lt, hyr] at c
            rw [nI_1]
            refine ih (r + 1) (by omega) ?_
            rw [← he, nvG_f]
            rintro ⟨a', b', q1, q2, q3, q4, q5⟩
            exact hno a' b' q1 q2 q3 q4 (by omega)
          · rw [i_lt, hyr] at c
            have hb1 : (b + 1).toInt = b.toInt + 1 := by rw [i_add (by omega) (by omega), e1]
            have cols : ∀ (l : Nat) (a : Int32), (x : Int) + r + 1 ≤ a.toInt + l → (x : Int) - r ≤ a.toInt → a.toInt ≤ x + r + 1 → (∀ a' : Int, cLI M a' b.toInt → x - r ≤ a' → a' < a.toInt → False) → RX xs shL md_Chart_leastNear 26 [.ref 126, .int (nI x), .int (nI y), .int (nI r), .int b, .int a] [] M L Q := by
              intro l
              have fin : ∀ a : Int32, (x : Int) + r < a.toInt → (∀ a' : Int, cLI M a' b.toInt → x - r ≤ a' → a' < a.toInt → False) → RX xs shL md_Chart_leastNear 13 [.ref 126, .int (nI x), .int (nI y), .int (nI r), .int (b + 1), .null] [] M L Q := by
                intro a ha hna
                refine ihm (b + 1) (by omega) (by omega) (by omega) (fun a' b' q1 q2 q3 q4 q5 => ?_)
                by_cases e : b' = b.toInt
                · rw [e] at q1; exact hna a' q1 q2 (by omega)
                · exact hno a' b' q1 q2 q3 q4 (by omega)
              induction l with
              | zero =>
                intro a h4 h5 h6 hna
                refine L_Chart_leastNear_26 ⟨fun _ => fin a (by omega) hna, fun c => absurd ?_ c⟩
                rw [i_lt, hxr]; omega
              | succ l ihl =>
                intro a h4 h5 h6 hna
                refine L_Chart_leastNear_26 ⟨fun c => fin a (by rw [i_lt, hxr] at c; exact c) hna, fun c => ?_⟩
                rw [i_lt, hxr] at c
                have ha1 : (a + 1).toInt = a.toInt + 1 := by rw [i_add (by omega) (by omega), e1]
                have stop : cLI M a.toInt b.toInt → Q (some (.int (nI r))) M L := fun q => by
                  rw [← he, nvG_t ⟨a.toInt, b.toInt, q, by omega, by omega, by omega, by omega⟩] at hQ; exact hQ
                have next : ¬ cLI M a.toInt b.toInt → RX xs shL md_Chart_leastNear 26 [.ref 126, .int (nI x), .int (nI y), .int (nI r), .int b, .int (a + 1)] [] M L Q := fun q => ihl (a + 1) (by omega) (by omega) (by omega) (fun a' q1 q2 q3 => by
                  by_cases e : a' = a.toInt
                  · rw [e] at q1; exact q q1
                  · exact hna a' q1 q2 (by omega))
                have ec : ((0 ≤ a ∧ a ≤ 19) ∧ (0 ≤ b ∧ b ≤ 19) ∧ gp M 130 a.toNatClampNeg b.toNatClampNeg = true) ↔ cLI M a.toInt b.toInt := by
                  unfold cLI
                  rw [i_le, i_le, i_le, i_le]
                  have e0 : (0 : Int32).toInt = 0 := rfl
                  have e19 : (19 : Int32).toInt = 19 := rfl
                  rw [e0, e19]
                  constructor
                  · rintro ⟨⟨q1, q2⟩, ⟨q3, q4⟩, q5⟩
                    have k1 := clampI q1
                    have k2 := clampI q3
                    rw [show a.toNatClampNeg = a.toInt.toNat by omega, show b.toNatClampNeg = b.toInt.toNat by omega] at q5
                    exact ⟨q1, q2, q3, q4, q5⟩
                  · rintro ⟨q1, q2, q3, q4, q5⟩
                    have k1 := clampI q1
                    have k2 := clampI q3
                    rw [show a.toInt.toNat = a.toNatClampNeg by omega, show b.toInt.toNat = b.toNatClampNeg by omega] at q5
                    exact ⟨⟨q1, q2⟩, ⟨q3, q4⟩, q5⟩
                exact ⟨fun q => stop (ec.mp q), fun q => next (fun z => q (ec.mpr z))⟩
            exact cols (2 * r + 1) (nI x - nI r) (by omega) (by omega) (by omega) (fun a' _ q2 q3 => by omega)
      exact rows (2 * r + 1) (nI y - nI r) (by omega) (by omega) (by omega) (fun a' b' _ _ _ q4 q5 => by omega)
  exact key 9 0 (by omega) rfl
end SR

/-! all that is reached -/
theorem isP_ne {p : Nat} (hp : isP shL p) {a : Nat} (ha : aIb shL a 20 = false) : p + 1 ≠ a := fun e => by
  have h := hp.2.1
  unfold aI at h
  rw [e, ha] at h
  cases h
theorem row_nI {M : Mem} {q y : Nat} (h : ∀ x, 20 ≤ x → gp M q x y = false) : ∃ r : Nat, r < 2 ^ 20 ∧ M (q + 1) y = nI r ∧ ∀ x, r.testBit x = gp M q x y := by
  have hb : ∀ x, (M (q + 1) y).toBitVec.toNat.testBit x = gp M q x y := fun x => BitVec.testBit_toNat _
  refine ⟨(M (q + 1) y).toBitVec.toNat, Nat.lt_pow_two_of_testBit _ fun i hi => by rw [hb]; exact h i hi, ?_, hb⟩
  apply Int32.toBitVec_inj.mp
  show _ = BitVec.ofNat 32 _
  simp
/-- the cells reached from the rows below j of a set A -/
def rchP (w h : Nat) (A : Nat → Nat → Bool) (W E So No : Int) (j x y : Nat) : Prop := x < w ∧ y < h ∧ ∃ x' y', y' < j ∧ A x' y' = true ∧ W ≤ (x : Int) - x' ∧ (x : Int) - x' ≤ E ∧ So ≤ (y : Int) - y' ∧ (y : Int) - y' ≤ No
section SE
variable {xs : List Int32} {M : Mem} {L : Int64} {Q : Option Value → Mem → Int64 → Prop}
theorem t_reach {p q : Nat} (hp : isP shL p) (hq : isP shL q) (hpq : q ≠ p) {W E So No : Int32} {w h : Nat} (hw : M 126 4 = nI w) (hh : M 126 5 = nI h) (w4 : 1 ≤ w) (w20 : w ≤ 20) (h20 : h ≤ 20)
    (bSo : -1000000 ≤ So.toInt) (bSo2 : So.toInt ≤ 1000000) (bNo : -1000000 ≤ No.toInt) (bNo2 : No.toInt ≤ 1000000)
    (hin : ∀ x y, y < 20 → gp M q x y = true → x < w ∧ y < h)
    (hQ : Q none (setP M p (fun x y => bB (rchP w h (gp M q) W.toInt E.toInt So.toInt No.toInt h x y))) L) : RX xs shL md_Patch_becomeReached 0 [.ref p, .ref q, .int W, .int E, .int So, .int No, .ref 126] [] M L Q := by
  have e0 : (0 : Int32).toInt = 0 := rfl
  have e1 : (1 : Int32).toInt = 1 := rfl
  have n126 : (126 : Nat) ≠ p + 1 := fun q => isP_ne hp (a := 126) (by decide +kernel) q.symm
  have r4 : rowN M (p + 1) 20 (fun _ => 0) 126 4 = nI w := by rw [rowN_o _ _ _ n126]; exact hw
  refine L_Patch_becomeReached_0 hp hq ?_
  rw [r4]
  have hwI : (nI w).toInt = w := i_nI (by omega)
  have hF : (imax W (1 - nI w)).toInt = max W.toInt (1 - w) := by rw [imaxI, i_sub (by rw [e1, hwI]; omega) (by rw [e1, hwI]; omega), e1, hwI]
  have hL : (imin E (nI w - 1)).toInt = min E.toInt (w - 1) := by rw [iminI, i_sub (by rw [e1, hwI]; omega) (by rw [e1, hwI]; omega), e1, hwI]
  generalize imax W (1 - nI w) = fi at *
  generalize imin E (nI w - 1) = la at *
  have hclear : rowN M (p + 1) 20 (fun _ => (0 : Int32)) = setP M p (fun _ _ => false) := by rw [rowN_setP, setP_congr M p (g := fun _ _ => false) (fun y _ x _ => b_0 x)]
  have hgq : ∀ f x y, gp (setP M p f) q x y = gp M q x y := fun f x y => gp_setO M f hpq x y
  refine ⟨fun c => ?_, fun c => ?_⟩
  · rw [i_le] at c
    rw [hclear]
    have g4 : ∀ f : Nat → Nat → Bool, setP M p f 126 4 = nI w := fun f => by rw [setP_o M f n126]; exact hw
    have g5 : ∀ f : Nat → Nat → Bool, setP M p f 126 5 = nI h := fun f => by rw [setP_o M f n126]; exact hh
    have hhI : (nI h).toInt = h := i_nI (by omega)
    have key : ∀ k j, j + k = h → ∀ M', M' = setP M p (fun x y => bB (rchP w h (gp M q) W.toInt E.toInt So.toInt No.toInt j x y)) → RX xs shL md_Patch_becomeReached 45 [.ref p, .ref q, .null, .null, .int So, .int No, .ref 126, .int fi, .int la, .int (nI j), .null, .null, .null, .null] [] M' L Q := by
      intro k
      induction k with
      | zero =>
        intro j hj M' hM'
        have ej : j = h := by omega
        subst ej
        refine L_Patch_becomeReached_45 hq ⟨fun _ => by rw [hM']; exact hQ, fun c2 => absurd (by rw [hM', g5]; exact Int32.le_refl _) c2⟩
      | succ k ih =>
        intro j hj M' hM'
        have hjI : (nI j).toInt = j := i_nI (by omega)
        have hj20 : j < 20 := by omega
        refine L_Patch_becomeReached_45 hq ⟨fun c2 => ?_, fun _ => ⟨vp_nI hj20 (by omega), ?_⟩⟩
        · rw [hM', g5, nI_leI (by omega) (by omega)] at c2; omega
        rw [nI_cl (by omega), nI_1]
        have hrow : M' (q + 1) j = M (q + 1) j := by rw [hM']; exact setP_o M _ (by omega) j
        rw [hrow]
        refine ⟨fun c2 => ?_, fun c2 => ?_⟩
        · refine ih (j + 1) (by omega) M' (hM'.trans (setP_congr M p fun y hy x hx => bB_congr ?_))
          constructor
          · rintro ⟨a1, a2, x', y', a3, a4⟩
            exact ⟨a1, a2, x', y', by omega, a4⟩
          · rintro ⟨a1, a2, x', y', a3, a4, a5⟩
            by_cases ey : y' = j
            · subst ey
              have : gp M q x' y' = false := by unfold gp; rw [c2]; exact b_0 x'
              rw [this] at a4; cases a4
            · exact ⟨a1, a2, x', y', by omega, a4, a5⟩
        · obtain ⟨r, hr, her, hbit⟩ := row_nI (M := M) (q := q) (y := j) (fun x hx => by
            cases e : gp M q x j with
            | false => rfl
            | true => have := (hin x j hj20 e).1; omega)
          rw [her]
          refine t_smear hr (by omega) c (by omega) fun v hv => ⟨v, rfl, ?_⟩
          rw [hM', g4, g5]
          have hreach : ∀ x, x < 32 → (bt (v &&& fbits (nI w)) x = true ↔ x < w ∧ ∃ x', gp M q x' j = true ∧ W.toInt ≤ (x : Int) - x' ∧ (x : Int) - x' ≤ E.toInt) := by
            intro x hx
            rw [b_and, fbits_n w (by omega) x hx, Bool.and_eq_true_iff, decide_eq_true_iff, hv x hx]
            constructor
            · rintro ⟨⟨i, a1, a2, a3, a4⟩, a5⟩
              rw [hbit] at a4
              have := (hin _ j hj20 a4).1
              exact ⟨a5, ((x : Int) - i).toNat, a4, by omega, by omega⟩
            · rintro ⟨a5, x', a4, a1, a2⟩
              have := (hin _ j hj20 a4).1
              refine ⟨⟨(x : Int) - x', by omega, by omega, by omega, ?_⟩, a5⟩
              rw [hbit, show ((x : Int) - ((x : Int) - x')).toNat = x' by omega]
              exact a4
          generalize v &&& fbits (nI w) = rc at *
          have hsum1 : (nI j + So).toInt = j + So.toInt := by rw [i_add (by rw [hjI]; omega) (by rw [hjI]; omega), hjI]
          have hsum2 : (nI j + No).toInt = j + No.toInt := by rw [i_add (by rw [hjI]; omega) (by rw [hjI]; omega), hjI]
          have hlo : (imax (nI j + So) 0).toInt = max (j + So.toInt) 0 := by rw [imaxI, hsum1, e0]
          have hhi : (imin (nI j + No) (nI h - 1)).toInt = min (j + No.toInt) (h - 1) := by rw [iminI, hsum2, i_sub (by rw [hhI, e1]; omega) (by rw [hhI, e1]; omega), hhI, e1]
          generalize imin (nI j + No) (nI h - 1) = hi at *
          have hloN : imax (nI j + So) 0 = nI (imax (nI j + So) 0).toNatClampNeg := nI_of_toInt (clampI (by rw [hlo]; omega)).symm
          have hloI : ((imax (nI j + So) 0).toNatClampNeg : Int) = max (j + So.toInt) 0 := by rw [clampI (by rw [hlo]; omega), hlo]
          generalize (imax (nI j + So) 0).toNatClampNeg = lo at *
          rw [hloN]
          have inner : ∀ k2 i, 20 ≤ i + k2 → lo ≤ i → i < 2147483648 → (∀ y, lo ≤ y → y < i → (y : Int) ≤ hi.toInt) → ∀ M2, M2 = setP M p (fun x y => bB (rchP w h (gp M q) W.toInt E.toInt So.toInt No.toInt j x y ∨ (x < w ∧ (∃ x', gp M q x' j = true ∧ W.toInt ≤ (x : Int) - x' ∧ (x : Int) - x' ≤ E.toInt) ∧ lo ≤ y ∧ y < i))) →
              RX xs shL md_Patch_becomeReached 122 [.ref p, .ref q, .null, .null, .int So, .int No, .ref 126, .int fi, .int la, .int (nI j), .int rc, .null, .int hi, .int (nI i)] [] M2 L Q := by
            have fin : ∀ i : Nat, hi.toInt < i → (∀ y, lo ≤ y → y < i → (y : Int) ≤ hi.toInt) → ∀ M2, M2 = setP M p (fun x y => bB (rchP w h (gp M q) W.toInt E.toInt So.toInt No.toInt j x y ∨ (x < w ∧ (∃ x', gp M q x' j = true ∧ W.toInt ≤ (x : Int) - x' ∧ (x : Int) - x' ≤ E.toInt) ∧ lo ≤ y ∧ y < i))) →
                RX xs shL md_Patch_becomeReached 45 [.ref p, .ref q, .null, .null, .int So, .int No, .ref 126, .int fi, .int la, .int (nI j + 1), .null, .null, .null, .null] [] M2 L Q := by
              intro i hi1 hi2 M2 hM2
              rw [nI_1]
              refine ih (j + 1) (by omega) M2 (hM2.trans (setP_congr M p fun y hy x hx => bB_congr ?_))
              constructor
              · rintro (⟨a1, a2, x', y', a3, a4⟩ | ⟨a1, ⟨x', a2, a3, a4⟩, a5, a6⟩)
                · exact ⟨a1, a2, x', y', by omega, a4⟩
                · have := hi2 y a5 a6
                  exact ⟨a1, by omega, x', j, by omega, a2, a3, a4, by omega, by omega⟩
              · rintro ⟨a1, a2, x', y', a3, a4, a5, a6, a7, a8⟩
                by_cases ey : y' = j
                · subst ey
                  exact Or.inr ⟨a1, ⟨x', a4, a5, a6⟩, by omega, by omega⟩
                · exact Or.inl ⟨a1, a2, x', y', by omega, a4, a5, a6, a7, a8⟩
            intro k2
            induction k2 with
            | zero =>
              intro i hi0 hloi hlt hi2 M2 hM2
              refine L_Patch_becomeReached_122 hp ⟨fun _ => fin i (by omega) hi2 M2 hM2, fun c3 => absurd ?_ c3⟩
              rw [i_lt, i_nI hlt]; omega
            | succ k2 ih2 =>
              intro i hi0 hloi hlt hi2 M2 hM2
              refine L_Patch_becomeReached_122 hp ⟨fun c3 => fin i (by rw [i_lt, i_nI hlt] at c3; exact c3) hi2 M2 hM2, fun c3 => ?_⟩
              rw [i_lt, i_nI hlt] at c3
              have hi20 : i < 20 := by omega
              rw [nI_cl hlt, nI_1]
              refine ⟨vp_nI hi20 (by omega), ih2 (i + 1) (by omega) (by omega) (by omega) (fun y q1 q2 => ?_) _ ?_⟩
              · by_cases e : y = i
                · subst e; omega
                · exact hi2 y q1 (by omega)
              · rw [hM2]
                refine up_setP hi20 (fun x hx => ?_) (fun y hyi hy20 x hx => bB_congr ?_)
                · rw [b_or]
                  have hold : bt (setP M p (fun x y => bB (rchP w h (gp M q) W.toInt E.toInt So.toInt No.toInt j x y ∨ (x < w ∧ (∃ x', gp M q x' j = true ∧ W.toInt ≤ (x : Int) - x' ∧ (x : Int) - x' ≤ E.toInt) ∧ lo ≤ y ∧ y < i))) (p + 1) i) x = bB (rchP w h (gp M q) W.toInt E.toInt So.toInt No.toInt j x i ∨ (x < w ∧ (∃ x', gp M q x' j = true ∧ W.toInt ≤ (x : Int) - x' ∧ (x : Int) - x' ≤ E.toInt) ∧ lo ≤ i ∧ i < i)) := gp_set M p _ hx hi20
                  rw [hold]
                  refine Bool.eq_iff_iff.mpr ?_
                  rw [Bool.or_eq_true_iff, bB_iff, bB_iff, hreach x hx]
                  constructor
                  · rintro ((a | ⟨_, _, _, a⟩) | ⟨a1, a2⟩)
                    · exact Or.inl a
                    · omega
                    · exact Or.inr ⟨a1, a2, hloi, by omega⟩
                  · rintro (a | ⟨a1, a2, _, _⟩)
                    · exact Or.inl (Or.inl a)
                    · exact Or.inr ⟨a1, a2⟩
                · constructor
                  · rintro (a | ⟨a1, a2, a3, a4⟩)
                    · exact Or.inl a
                    · exact Or.inr ⟨a1, a2, a3, by omega⟩
                  · rintro (a | ⟨a1, a2, a3, a4⟩)
                    · exact Or.inl a
                    · exact Or.inr ⟨a1, a2, a3, by omega⟩
          refine inner 20 lo (by omega) (Nat.le_refl _) (by omega) (fun y q1 q2 => by omega) _ (setP_congr M p fun y hy x hx => bB_congr ?_)
          constructor
          · exact Or.inl
          · rintro (a | ⟨_, _, a1, a2⟩)
            · exact a
            · omega
    refine key h 0 (by omega) _ (setP_congr M p fun y hy x hx => ?_)
    rw [bB_f]
    rintro ⟨_, _, x', y', a3, _⟩
    omega
  · rw [i_le] at c
    rw [hclear, setP_congr M p (g := fun x y => bB (rchP w h (gp M q) W.toInt E.toInt So.toInt No.toInt h x y)) (fun y hy x hx => ?_)]
    · exact hQ
    · rw [bB_f]
      rintro ⟨a1, a2, x', y', a3, a4, a5, a6, _⟩
      have := (hin x' y' (by omega) a4).1
      omega
end SE

/-! what a sign lets stay -/
noncomputable def dpS (M : Mem) (w h : Nat) (lo hi : Int32) (x y : Nat) : Bool := bB (x < w ∧ y < h ∧ lo ≤ M 127 (20 * y + x) ∧ M 127 (20 * y + x) ≤ hi)
noncomputable def nrS (w h : Nat) (A : Nat → Nat → Bool) (r : Int) : Nat → Nat → Bool := rchA w h A (-r) r (-r) r
noncomputable def sgM (M : Mem) (w h : Nat) (s a b : Int32) : Nat → Nat → Bool := fun x y => if s = 0 then dpS M w h a b x y else if s = 1 then dpS M w h (a + 1) 99 x y else if s = 2 then nrS w h (gp M 130) a.toInt x y else if s = 3 then gp M 132 x y else if s = 4 then bB (x < w ∧ a.toInt ≤ y ∧ (y : Int) ≤ b.toInt) else gp M 128 x y && !nrS w h (gp M 130) a.toInt x y
theorem nI_yx (x y : Nat) : nI y * 20 + nI x = nI (20 * y + x) := by
  rw [show (20 : Int32) = nI 20 from rfl, nI_lin, Nat.mul_comm]
section SL
variable {xs : List Int32} {M : Mem} {L : Int64} {Q : Option Value → Mem → Int64 → Prop}
theorem t_findNear {p w h : Nat} (hp : isP shL p) (n1 : 130 ≠ p) (hch : CH M w h) (hin : inC w h (gp M 130)) {r : Int32} (r0 : 0 ≤ r.toInt) (r1 : r.toInt ≤ 1000) (hQ : Q none (setP M p (nrS w h (gp M 130) r.toInt)) L) : RX xs shL md_Chart_findNear 0 [.ref 126, .int r, .ref p] [] M L Q := by
  obtain ⟨c1, c2, c3, c4, c5, c6⟩ := hch
  have hn : (-r).toInt = -r.toInt := i_neg (by omega)
  refine L_Chart_findNear_0 hp (t_reach hp isP_130 n1 c1 c2 (by omega) c4 c6 (by omega) (by omega) (by omega) (by omega) hin ⟨rfl, ?_⟩)
  rw [hn]; exact hQ
theorem t_findDepths {p w h : Nat} (hp : isP shL p) (n1 : 126 ≠ p + 1) (n2 : 127 ≠ p + 1) (hch : CH M w h) {lo hi : Int32} (hQ : Q none (setP M p (dpS M w h lo hi)) L) : RX xs shL md_Chart_findDepths 0 [.ref 126, .int lo, .int hi, .ref p] [] M L Q := by
  obtain ⟨c1, c2, c3, c4, c5, c6⟩ := hch
  refine L_Chart_findDepths_0 hp ?_
  have rest : ∀ r j, j + r = h → ∀ M', M' = setP M p (fun x y => bB (y < j) && dpS M w h lo hi x y) → RX xs shL md_Chart_findDepths 7 [.ref 126, .int lo, .int hi, .ref p, .int (nI j), .null] [] M' L Q := by
    intro r
    induction r with
    | zero =>
      intro j hj M' hM'
      refine L_Chart_findDepths_7 ⟨fun _ => ?_, fun c => absurd ?_ c⟩
      · rw [hM', setP_congr M p (g := dpS M w h lo hi)]
        · exact hQ
        · intro y hy x hx
          cases e : dpS M w h lo hi x y with
          | false => simp
          | true =>
            have := bB_iff.mp e
            rw [bB_t (by omega)]; rfl
      · rw [hM', setP_o M _ n1, c2, nI_leI (by omega) (by omega)]; omega
    | succ r ih =>
      intro j hj M' hM'
      have row : ∀ r2 i, i + r2 = w → ∀ M2, M2 = setP M p (fun x y => bB (y < j ∨ (y = j ∧ x < i)) && dpS M w h lo hi x y) → RX xs shL md_Chart_findDepths 19 [.ref 126, .int lo, .int hi, .ref p, .int (nI j), .int (nI i)] [] M2 L Q := by
        intro r2
        induction r2 with
        | zero =>
          intro i hi0 M2 hM2
          refine L_Chart_findDepths_19 hp ⟨fun _ => ?_, fun c => absurd ?_ c⟩
          · rw [nI_1]
            refine ih (j + 1) (by omega) M2 (hM2.trans (setP_congr M p fun y hy x hx => ?_))
            cases e : dpS M w h lo hi x y with
            | false => simp
            | true =>
              have := bB_iff.mp e
              rw [bB_congr (show (y < j ∨ (y = j ∧ x < i)) ↔ y < j + 1 by omega)]
          · rw [hM2, setP_o M _ n1, c1, nI_leI (by omega) (by omega)]; omega
        | succ r2 ih2 =>
          intro i hi0 M2 hM2
          have hi20 : 20 * j + i < 400 := by omega
          refine L_Chart_findDepths_19 hp ⟨fun c => ?_, fun _ => ?_⟩
          · rw [hM2, setP_o M _ n1, c1, nI_leI (by omega) (by omega)] at c; omega
          rw [nI_yx, nI_cl (by omega), nI_1]
          refine ⟨vp_nI hi20 (by omega), fun c => ?_, fun c => ?_⟩
          · refine ih2 (i + 1) (by omega) _ ?_
            rw [hM2, setP_o M _ n2] at c
            rw [hM2, setP_set]
            refine setP_congr M p fun y hy x hx => ?_
            rw [i_nI (n := i) (by omega), i_nI (n := j) (by omega)]
            unfold rcF
            by_cases hc : x = i ∧ y = j
            · obtain ⟨rfl, rfl⟩ := hc
              rw [if_pos (bB_t (by omega)), bB_t (by decide), bB_t (by omega), Bool.true_and]
              exact (bB_t ⟨by omega, by omega, c⟩).symm
            · rw [if_neg (fun q => by have := bB_iff.mp q; omega), gp_set M p _ hx hy, bB_congr (show (y < j ∨ (y = j ∧ x < i)) ↔ (y < j ∨ (y = j ∧ x < i + 1)) by omega)]
          · refine ih2 (i + 1) (by omega) _ (hM2.trans (setP_congr M p fun y hy x hx => ?_))
            rw [hM2, setP_o M _ n2] at c
            by_cases hc : x = i ∧ y = j
            · obtain ⟨rfl, rfl⟩ := hc
              have : dpS M w h lo hi x y = false := bB_f (fun q => c q.2.2)
              rw [this]; simp
            · rw [bB_congr (show (y < j ∨ (y = j ∧ x < i)) ↔ (y < j ∨ (y = j ∧ x < i + 1)) by omega)]
      refine L_Chart_findDepths_7 ⟨fun c => ?_, fun _ => row w 0 (by omega) M' (hM'.trans (setP_congr M p fun y hy x hx => ?_))⟩
      · rw [hM', setP_o M _ n1, c2, nI_leI (by omega) (by omega)] at c; omega
      · rw [bB_congr (show y < j ↔ (y < j ∨ (y = j ∧ x < 0)) by omega)]
  refine rest h 0 (by omega) _ (setP_congr M p fun y hy x hx => ?_)
  rw [bB_f (by omega)]; rfl
theorem t_findStaying {t w h : Nat} (ht : t < 40) (hch : CH M w h) (hin : inC w h (gp M 130)) (a0 : 0 ≤ (M (136 + 5 * t) 5).toInt) (a1 : (M (136 + 5 * t) 5).toInt ≤ 1000)
    (hQ : Q none (setP M (136 + 5 * t + 3) (sgM M w h (M (136 + 5 * t) 4) (M (136 + 5 * t) 5) (M (136 + 5 * t) 6))) L) : RX xs shL md_Row_findStaying 0 [.ref (136 + 5 * t), .ref 126] [] M L Q := by
  have hp := rw_p ht
  have hch' := hch
  obtain ⟨c1, c2, c3, c4, c5, c6⟩ := hch
  have q4 : ∀ f : Nat → Nat → Bool, (∀ y, y < 20 → ∀ x, x < 32 → sgM M w h (M (136 + 5 * t) 4) (M (136 + 5 * t) 5) (M (136 + 5 * t) 6) x y = f x y) → Q none (setP M (136 + 5 * t + 3) f) L := fun f hf => by rw [← setP_congr M (136 + 5 * t + 3) hf]; exact hQ
  generalize hs : M (136 + 5 * t) 4 = s at *
  refine L_Row_findStaying_0 ht ?_
  rw [hs]
  by_cases s0 : s = 0
  · exact Or.inl ⟨s0, t_findDepths hp (by omega) (by omega) hch' ⟨rfl, q4 _ fun y _ x _ => by unfold sgM; rw [if_pos s0]⟩⟩
  refine Or.inr ?_
  by_cases s1 : s = 1
  · exact Or.inl ⟨s1, t_findDepths hp (by omega) (by omega) hch' ⟨rfl, q4 _ fun y _ x _ => by unfold sgM; rw [if_neg s0, if_pos s1]⟩⟩
  refine Or.inr ?_
  by_cases s2 : s = 2
  · exact Or.inl ⟨s2, t_findNear hp (by omega) hch' hin a0 a1 ⟨rfl, q4 _ fun y _ x _ => by unfold sgM; rw [if_neg s0, if_neg s1, if_pos s2]⟩⟩
  refine Or.inr ?_
  by_cases s3 : s = 3
  · exact Or.inl ⟨s3, q4 _ fun y _ x _ => by unfold sgM; rw [if_neg s0, if_neg s1, if_neg s2, if_pos s3]⟩
  refine Or.inr ?_
  by_cases s4 : s = 4
  · refine Or.inl ⟨s4, ?_⟩
    rw [setP_set]
    refine q4 _ fun y hy x hx => ?_
    have hw1 : (nI w - 1).toInt = (w : Int) - 1 := by rw [i_sub (by rw [i_nI (by omega)]; show _ ≤ (w : Int) - 1; omega) (by rw [i_nI (by omega)]; show (w : Int) - 1 < _; omega), i_nI (by omega)]; rfl
    unfold sgM rcF
    rw [if_neg s0, if_neg s1, if_neg s2, if_neg s3, if_pos s4, setP_o M _ (by omega), setP_o M _ (by omega), setP_o M _ (by omega), c1, hw1, gp_set M _ _ hx hy]
    by_cases hc : x < w ∧ (M (136 + 5 * t) 5).toInt ≤ y ∧ (y : Int) ≤ (M (136 + 5 * t) 6).toInt
    · rw [bB_t hc, if_pos (bB_t ⟨by show (0 : Int) ≤ _; omega, by omega, by omega, hc.2⟩), bB_t (by decide)]
    · rw [bB_f hc, if_neg (fun q => by have := bB_iff.mp q; exact hc ⟨by omega, this.2.2.2⟩)]
  refine Or.inr ⟨?_, t_findNear hp (by omega) hch' hin a0 a1 ⟨rfl, ?_⟩⟩
  · rw [i_lt, i_lt]
    have e0 : (0 : Int32).toInt = 0 := rfl
    have e4 : (4 : Int32).toInt = 4 := rfl
    have d : ∀ k : Int32, ¬ s = k → ¬ s.toInt = k.toInt := fun k hk q => hk (i_eq q)
    have d0 : ¬ s.toInt = 0 := d 0 s0
    have d1 : ¬ s.toInt = 1 := d 1 s1
    have d2 : ¬ s.toInt = 2 := d 2 s2
    have d3 : ¬ s.toInt = 3 := d 3 s3
    have d4 : ¬ s.toInt = 4 := d 4 s4
    omega
  · rw [setP_set]
    refine q4 _ fun y hy x hx => ?_
    unfold sgM
    rw [if_neg s0, if_neg s1, if_neg s2, if_neg s3, if_neg s4, gp_setO M _ (by omega), gp_set M _ _ hx hy]
end SL

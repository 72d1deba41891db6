/-! calls that change the state: the chart -/
def rcP (x1 y1 x2 y2 x y : Nat) : Prop := x1 ≤ x ∧ x ≤ x2 ∧ y1 ≤ y ∧ y ≤ y2
def rcQ (x1 y1 x2 y x' y' i : Nat) : Prop := x1 ≤ x' ∧ x' ≤ x2 ∧ y1 ≤ y' ∧ (y' < y ∨ (y' = y ∧ x' < i))
section TZ
variable {xs : List Int32} {M : Mem} {L : Int64} {Q : Option Value → Mem → Int64 → Prop}
/-- a rectangle of an array becomes v: loops over rows, then cells -/
theorem rect {a : Nat} {v : Int32} {x1 y1 x2 y2 : Nat} (hx : x1 ≤ x2) (hx2 : x2 < 20) (hy : y1 ≤ y2) (RXo : Nat → Mem → Prop) (RXi : Nat → Nat → Mem → Prop)
    (hend : ∀ s, s = setR M a (rcP x1 y1 x2 y2) (fun _ _ => v) → RXo (y2 + 1) s) (hout : ∀ y s, y ≤ y2 → RXi x1 y s → RXo y s) (hrow : ∀ y s, y ≤ y2 → RXo (y + 1) s → RXi (x2 + 1) y s)
    (hin : ∀ x y s, x1 ≤ x → x ≤ x2 → y1 ≤ y → y ≤ y2 → RXi (x + 1) y (up s a (20 * y + x) v) → RXi x y s) : RXo y1 M := by
  have inner : ∀ r x y, x + r = x2 + 1 → x1 ≤ x → y1 ≤ y → y ≤ y2 → (RXo (y + 1) (setR M a (fun x' y' => rcQ x1 y1 x2 (y + 1) x' y' x1) (fun _ _ => v))) → RXi x y (setR M a (fun x' y' => rcQ x1 y1 x2 y x' y' x) (fun _ _ => v)) := by
    intro r
    induction r with
    | zero =>
      intro x y hr h1 h2 h3 nx
      have : x = x2 + 1 := by omega
      subst this
      refine hrow y _ h3 ?_
      rw [setR_congr M a (R := fun x' y' => rcQ x1 y1 x2 (y + 1) x' y' x1) (g := fun _ _ => v) (fun x' y' _ => by unfold rcQ; omega) (fun _ _ _ _ => rfl)]
      exact nx
    | succ r ih =>
      intro x y hr h1 h2 h3 nx
      refine hin x y _ h1 (by omega) h2 h3 ?_
      rw [setR_up M a (R := fun x' y' => rcQ x1 y1 x2 y x' y' (x + 1)) (fun _ _ => v) (by omega) rfl (fun x' y' _ => by unfold rcQ; omega)]
      exact ih (x + 1) y (by omega) (by omega) h2 h3 nx
  have outer : ∀ r y, y + r = y2 + 1 → y1 ≤ y → RXo y (setR M a (fun x' y' => rcQ x1 y1 x2 y x' y' x1) (fun _ _ => v)) := by
    intro r
    induction r with
    | zero =>
      intro y hr h1
      have : y = y2 + 1 := by omega
      subst this
      exact hend _ (setR_congr M a (fun x' y' _ => by unfold rcQ rcP; omega) (fun _ _ _ _ => rfl))
    | succ r ih =>
      intro y hr h1
      exact hout y _ (by omega) (inner (x2 + 1 - x1) x1 y (by omega) (Nat.le_refl _) h1 (by omega) (ih (y + 1) (by omega) (by omega)))
  have := outer (y2 + 1 - y1) y1 (by omega) (Nat.le_refl _)
  rw [setR_0 M a _ (fun x' y' _ => by unfold rcQ; omega)] at this
  exact this
theorem rcF_nI {x1 y1 x2 y2 : Nat} (h : x1 < 20 ∧ y1 < 20 ∧ x2 < 20 ∧ y2 < 20) (is : Bool) (f : Nat → Nat → Bool) (x y : Nat) : rcF (nI x1).toInt (nI y1).toInt (nI x2).toInt (nI y2).toInt is f x y = if bB (rcP x1 y1 x2 y2 x y) then is else f x y := by
  unfold rcF
  rw [i_nI (by omega), i_nI (by omega), i_nI (by omega), i_nI (by omega)]
  have : bB ((x1 : Int) ≤ x ∧ (x : Int) ≤ x2 ∧ x < 20 ∧ (y1 : Int) ≤ y ∧ (y : Int) ≤ y2) = bB (rcP x1 y1 x2 y2 x y) := bB_congr (by unfold rcP; omega)
  rw [this]
theorem c_putDepth {x1 y1 x2 y2 : Nat} (hx : x1 ≤ x2) (hx2 : x2 < 20) (hy : y1 ≤ y2) (hy2 : y2 < 20) {v : Int32}
    (hQ : Q none (setP (setP (setR M 127 (rcP x1 y1 x2 y2) (fun _ _ => v)) 130 (fun x y => if bB (rcP x1 y1 x2 y2 x y) then bB (v = 0) else gp M 130 x y)) 128 (fun x y => if bB (rcP x1 y1 x2 y2 x y) then bB (¬ v = 0) else gp M 128 x y)) L) : RX xs shL md_Chart_putDepth 0 [.ref 126, .int (nI x1), .int (nI y1), .int (nI x2), .int (nI y2), .int v] [] M L Q := by
  have hb : x1 < 20 ∧ y1 < 20 ∧ x2 < 20 ∧ y2 < 20 := by omega
  refine L_Chart_putDepth_0 ?_
  refine rect (M := M) (a := 127) (v := v) hx hx2 hy
    (fun y s => RX xs shL md_Chart_putDepth 3 [.ref 126, .int (nI x1), .int (nI y1), .int (nI x2), .int (nI y2), .int v, .int (nI y), .null] [] s L Q)
    (fun x y s => RX xs shL md_Chart_putDepth 13 [.ref 126, .int (nI x1), .int (nI y1), .int (nI x2), .int (nI y2), .int v, .int (nI y), .int (nI x)] [] s L Q) ?_ ?_ ?_ ?_
  · intro s hs
    have g130 : gp s 130 = gp M 130 := gp_fr (fun j => by rw [hs, setR_o _ _ _ (by decide)])
    have g128 : gp s 128 = gp M 128 := gp_fr (fun j => by rw [hs, setR_o _ _ _ (by decide)])
    have fin : ∀ (l o : Bool), l = bB (v = 0) → o = bB (¬ v = 0) → Q none (setP (setP s 130 (rcF (nI x1).toInt (nI y1).toInt (nI x2).toInt (nI y2).toInt l (gp s 130))) 128 (rcF (nI x1).toInt (nI y1).toInt (nI x2).toInt (nI y2).toInt o (gp (setP s 130 (rcF (nI x1).toInt (nI y1).toInt (nI x2).toInt (nI y2).toInt l (gp s 130))) 128))) L := by
      intro l o hl ho
      have e1 : rcF (nI x1).toInt (nI y1).toInt (nI x2).toInt (nI y2).toInt l (gp s 130) = fun x y => if bB (rcP x1 y1 x2 y2 x y) then bB (v = 0) else gp M 130 x y := by
        funext x y
        rw [rcF_nI hb, g130, hl]
      have e2 : rcF (nI x1).toInt (nI y1).toInt (nI x2).toInt (nI y2).toInt o (gp (setP s 130 (rcF (nI x1).toInt (nI y1).toInt (nI x2).toInt (nI y2).toInt l (gp s 130))) 128) = fun x y => if bB (rcP x1 y1 x2 y2 x y) then bB (¬ v = 0) else gp M 128 x y := by
        funext x y
        rw [rcF_nI hb, gp_setO _ _ (by decide), g128, ho]
      rw [e2, e1, hs]
      exact hQ
    have n10 : bB (¬ (1 : Int32) = 0) = true := bB_t (by decide)
    have n00 : bB (¬ (0 : Int32) = 0) = false := bB_f (fun q => q rfl)
    refine L_Chart_putDepth_3 ⟨fun _ => ⟨fun z => ⟨fun _ => ?_, fun q => absurd z q⟩, fun z => ⟨fun q => absurd q z, fun _ => ?_⟩⟩, fun c => absurd ?_ c⟩
    · exact fin _ _ (by rw [n10, bB_t z]) (by rw [n00, bB_f (fun q => q z)])
    · exact fin _ _ (by rw [n00, bB_f z]) (by rw [n10, bB_t z])
    · rw [nI_ltI (by omega) (by omega)]; omega
  · intro y s h hi
    refine L_Chart_putDepth_3 ⟨fun c => ?_, fun _ => hi⟩
    rw [nI_ltI (by omega) (by omega)] at c; omega
  · intro y s h ho
    refine L_Chart_putDepth_13 ⟨fun _ => by rw [nI_1]; exact ho, fun c => absurd ?_ c⟩
    rw [nI_ltI (by omega) (by omega)]; omega
  · intro x y s h1 h2 h3 h4 nx
    refine L_Chart_putDepth_13 ⟨fun c => ?_, fun _ => ?_⟩
    · rw [nI_ltI (by omega) (by omega)] at c; omega
    rw [nI_yx, nI_cl (by omega), nI_1]
    exact ⟨vp_nI (by omega) (by omega), nx⟩
theorem y_sea (hR : Rel M) (a b c d v : Int32) : Tw xs md_Peg_sea md_Mod_sea [.ref 0, .int a, .int b, .int c, .int d, .int v] [.ref 516, .int a, .int b, .int c, .int d, .int v] M L := by
  have ci := cell_iff hR (Eq0_refl M) (x := a) (y := b)
  have cj := cell_iff hR (Eq0_refl M) (x := c) (y := d)
  refine L_Peg_sea_0 ⟨fun h => ⟨fun h2 => ⟨fun h3 => ⟨fun h4 => ⟨_, rfl, L_Mod_sea_0 ⟨fun _ => ⟨fun _ => ⟨fun _ => ⟨fun _ => ⟨rfl, hR⟩, fun q => absurd h4 q⟩, fun q => absurd h3 q⟩, fun q => absurd (cj.mpr h2) q⟩, fun q => absurd (ci.mpr h) q⟩⟩, fun h4 => ⟨fun h5 => ?_, fun h5 => ⟨_, rfl, L_Mod_sea_0 ⟨fun _ => ⟨fun _ => ⟨fun _ => ⟨fun q => absurd q h4, fun _ => ⟨fun q => absurd q h5, fun _ => ⟨rfl, hR⟩⟩⟩, fun q => absurd h3 q⟩, fun q => absurd (cj.mpr h2) q⟩, fun q => absurd (ci.mpr h) q⟩⟩⟩⟩, fun h3 => ⟨_, rfl, L_Mod_sea_0 ⟨fun _ => ⟨fun _ => ⟨fun q => absurd q h3, fun _ => ⟨rfl, hR⟩⟩, fun q => absurd (cj.mpr h2) q⟩, fun q => absurd (ci.mpr h) q⟩⟩⟩, fun h2 => ⟨_, rfl, L_Mod_sea_0 ⟨fun _ => ⟨fun q => absurd (cj.mp q) h2, fun _ => ⟨rfl, hR⟩⟩, fun q => absurd (ci.mpr h) q⟩⟩⟩, fun h => ⟨_, rfl, L_Mod_sea_0 ⟨fun q => absurd (ci.mp q) h, fun _ => ⟨rfl, hR⟩⟩⟩⟩
  obtain ⟨x1, y1, p1, q1, p2, q2, p3, q3⟩ := cell_nI hR h
  obtain ⟨x2, y2, r1, s1, r2, s2, r3, s3⟩ := cell_nI hR h2
  have ci' := ci.mpr h
  have cj' := cj.mpr h2
  rw [p3, q3] at ci'
  rw [r3, s3] at cj'
  rw [p3, r3] at h4
  rw [q3, s3] at h5
  rw [p3, q3, r3, s3]
  have hx : x1 ≤ x2 := by
    have : ¬ x2 < x1 := fun z => h4 ((nI_ltI (a := x2) (b := x1) (by omega) (by omega)).mpr z)
    omega
  have hy : y1 ≤ y2 := (nI_leI (a := y1) (b := y2) (by omega) (by omega)).mp h5
  refine c_putDepth hx r2 hy s2 ⟨rfl, _, rfl, ?_⟩
  have fC : ∀ j k, j ≠ 127 → j ≠ 131 → j ≠ 129 → setP (setP (setR M 127 (rcP x1 y1 x2 y2) (fun _ _ => v)) 130 (fun x y => if bB (rcP x1 y1 x2 y2 x y) then bB (v = 0) else gp M 130 x y)) 128 (fun x y => if bB (rcP x1 y1 x2 y2 x y) then bB (¬ v = 0) else gp M 128 x y) j k = M j k := fun j k n1 n2 n3 => by
    rw [setP_o _ _ n3, setP_o _ _ n2, setR_o _ _ _ n1]
  have w20 := hR.2.1.1.2.2
  have h20 := hR.2.1.2.1.2.2
  obtain ⟨c1, c2, c3, c4, c5, c6, c7, c8, c9⟩ := hR.2.1
  have LS : ∀ x y, y < 20 → x < 32 → gp (setP (setP (setR M 127 (rcP x1 y1 x2 y2) (fun _ _ => v)) 130 (fun x y => if bB (rcP x1 y1 x2 y2 x y) then bB (v = 0) else gp M 130 x y)) 128 (fun x y => if bB (rcP x1 y1 x2 y2 x y) then bB (¬ v = 0) else gp M 128 x y)) 130 x y = if bB (rcP x1 y1 x2 y2 x y) then bB (v = 0) else mLd M x y := fun x y hy hx => by
    rw [gp_setO _ _ (by decide), gp_set _ _ _ hx hy, c8 y hy x]
  have OS : ∀ x y, y < 20 → x < 32 → gp (setP (setP (setR M 127 (rcP x1 y1 x2 y2) (fun _ _ => v)) 130 (fun x y => if bB (rcP x1 y1 x2 y2 x y) then bB (v = 0) else gp M 130 x y)) 128 (fun x y => if bB (rcP x1 y1 x2 y2 x y) then bB (¬ v = 0) else gp M 128 x y)) 128 x y = if bB (rcP x1 y1 x2 y2 x y) then bB (¬ v = 0) else mOp M x y := fun x y hy hx => by
    rw [gp_set _ _ _ hx hy, c7 y hy x]
  have DS : ∀ x y, x < 20 → setP (setP (setR M 127 (rcP x1 y1 x2 y2) (fun _ _ => v)) 130 (fun x y => if bB (rcP x1 y1 x2 y2 x y) then bB (v = 0) else gp M 130 x y)) 128 (fun x y => if bB (rcP x1 y1 x2 y2 x y) then bB (¬ v = 0) else gp M 128 x y) 127 (20 * y + x) = if bB (rcP x1 y1 x2 y2 x y) then v else M 127 (20 * y + x) := fun x y hx => by
    rw [setP_o _ _ (by decide), setP_o _ _ (by decide)]
    by_cases e : rcP x1 y1 x2 y2 x y
    · rw [setR_t _ _ _ hx e, ifB_t e]
    · rw [setR_f _ _ _ hx e, ifB_f e]
  generalize setP (setP (setR M 127 (rcP x1 y1 x2 y2) (fun _ _ => v)) 130 (fun x y => if bB (rcP x1 y1 x2 y2 x y) then bB (v = 0) else gp M 130 x y)) 128 (fun x y => if bB (rcP x1 y1 x2 y2 x y) then bB (¬ v = 0) else gp M 128 x y) = M1 at *
  have k9 : M1 516 9 = M 516 9 := fC _ _ (by decide) (by decide) (by decide)
  have k10 : M1 516 10 = M 516 10 := fC _ _ (by decide) (by decide) (by decide)
  refine L_Mod_sea_0 ⟨fun _ => ⟨fun _ => ⟨fun _ => ⟨fun q => absurd q h4, fun _ => ⟨fun _ => ?_, fun q => absurd h5 q⟩⟩, fun q => absurd h3 q⟩, fun q => absurd (by rw [k9, k10]; exact cj') q⟩, fun q => absurd (by rw [k9, k10]; exact ci') q⟩
  refine rect (M := M1) (a := 523) (v := v) hx r2 hy
    (fun y s => RX xs shL md_Mod_sea 50 [.ref 516, .int (nI x1), .int (nI y1), .int (nI x2), .int (nI y2), .int v, .int (nI y), .null] [] s L (fun r2 M2 _ => r2 = some (.int ((nI x2 - nI x1 + 1) * (nI y2 - nI y1 + 1))) ∧ Rel M2))
    (fun x y s => RX xs shL md_Mod_sea 60 [.ref 516, .int (nI x1), .int (nI y1), .int (nI x2), .int (nI y2), .int v, .int (nI y), .int (nI x)] [] s L (fun r2 M2 _ => r2 = some (.int ((nI x2 - nI x1 + 1) * (nI y2 - nI y1 + 1))) ∧ Rel M2)) ?_ ?_ ?_ ?_
  · intro N hs
    refine L_Mod_sea_50 ⟨fun _ => ⟨rfl, ?_⟩, fun c => absurd ?_ c⟩
    · have fr : ∀ j k, j ≠ 127 → j ≠ 131 → j ≠ 129 → j ≠ 523 → N j k = M j k := fun j k n1 n2 n3 n4 => by rw [hs, setR_o _ _ _ n4]; exact fC j k n1 n2 n3
      have D5 : ∀ x y, x < 20 → N 523 (20 * y + x) = if bB (rcP x1 y1 x2 y2 x y) then v else M 523 (20 * y + x) := fun x y hx => by
        rw [hs]
        by_cases e : rcP x1 y1 x2 y2 x y
        · rw [setR_t _ _ _ hx e, ifB_t e]
        · rw [setR_f _ _ _ hx e, ifB_f e]; exact fC _ _ (by decide) (by decide) (by decide)
      have e9 : N 516 9 = M 516 9 := fr _ _ (by decide) (by decide) (by decide) (by decide)
      have e10 : N 516 10 = M 516 10 := fr _ _ (by decide) (by decide) (by decide) (by decide)
      have ew : mw N = mw M := by unfold mw; rw [e9]
      have eh : mh N = mh M := by unfold mh; rw [e10]
      have gN : ∀ p, p + 1 ≠ 523 → ∀ x y, gp N p x y = gp M1 p x y := fun p hp x y => by unfold gp; rw [hs, setR_o _ _ _ hp]
      refine Rel_ch hR ⟨?_, ?_, ?_, ?_, fun j hj => ?_, fun x y hx' hy' => ?_, fun y hy' x => ?_, fun y hy' x => ?_, ?_⟩ (fun j k q => fr j k (fun z => q (by unfold chC; omega)) (fun z => q (by unfold chC; omega)) (fun z => q (by unfold chC; omega)) (fun z => q (by unfold chC; omega)))
      · rw [e9, ew]; exact c1
      · rw [e10, eh]; exact c2
      · rw [e9, fr _ _ (by decide) (by decide) (by decide) (by decide)]; exact c3
      · rw [e10, fr _ _ (by decide) (by decide) (by decide) (by decide)]; exact c4
      · rw [fr 126 _ (by decide) (by decide) (by decide) (by decide), fr 516 _ (by decide) (by decide) (by decide) (by decide)]; exact c5 j hj
      · obtain ⟨z1, z2, z3⟩ := c6 x y hx' hy'
        rw [fr 524 _ (by decide) (by decide) (by decide) (by decide), D5 x y hx', show N 127 (20 * y + x) = M1 127 (20 * y + x) by rw [hs, setR_o _ _ _ (by decide)], DS x y hx']
        by_cases e : rcP x1 y1 x2 y2 x y
        · rw [ifB_t e, ifB_t e]
          rw [i_le, i_le] at h3
          exact ⟨rfl, h3, z3⟩
        · rw [ifB_f e, ifB_f e]; exact ⟨z1, z2, z3⟩
      · rw [gN 128 (by decide)]
        by_cases hx32 : x < 32
        · rw [OS x y hy' hx32]
          unfold mOp
          rw [ew, eh]
          by_cases hxw : x < 20
          · rw [D5 x y hxw]
            by_cases e : rcP x1 y1 x2 y2 x y
            · rw [ifB_t e, ifB_t e]
              exact bB_congr ⟨fun q => ⟨by have := e.2.1; omega, by have := e.2.2.2; omega, q⟩, fun q => q.2.2⟩
            · rw [ifB_f e, ifB_f e]
          · rw [ifB_f (fun z => by have := z.2.1; omega), bB_f (fun z => by have := z.1; omega), bB_f (fun z => by have := z.1; omega)]
        · rw [gp_big _ _ _ (by omega)]
          unfold mOp
          rw [bB_f (fun z => by have := z.1; omega)]
      · rw [gN 130 (by decide)]
        by_cases hx32 : x < 32
        · rw [LS x y hy' hx32]
          unfold mLd
          rw [ew, eh]
          by_cases hxw : x < 20
          · rw [D5 x y hxw]
            by_cases e : rcP x1 y1 x2 y2 x y
            · rw [ifB_t e, ifB_t e]
              exact bB_congr ⟨fun q => ⟨by have := e.2.1; omega, by have := e.2.2.2; omega, q⟩, fun q => q.2.2⟩
            · rw [ifB_f e, ifB_f e]
          · rw [ifB_f (fun z => by have := z.2.1; omega), bB_f (fun z => by have := z.1; omega), bB_f (fun z => by have := z.1; omega)]
        · rw [gp_big _ _ _ (by omega)]
          unfold mLd
          rw [bB_f (fun z => by have := z.1; omega)]
      · rw [mWd_fr e9 e10 (fun k => fr 524 k (by decide) (by decide) (by decide) (by decide))]; exact shw_fr c9 (fun k => fr _ k (by decide) (by decide) (by decide) (by decide))
    · rw [nI_ltI (by omega) (by omega)]; omega
  · intro y s hy' hi
    refine L_Mod_sea_50 ⟨fun c => ?_, fun _ => hi⟩
    rw [nI_ltI (by omega) (by omega)] at c; omega
  · intro y s hy' ho
    refine L_Mod_sea_60 ⟨fun _ => by rw [nI_1]; exact ho, fun c => absurd ?_ c⟩
    rw [nI_ltI (by omega) (by omega)]; omega
  · intro x y s u1 u2 u3 u4 nx
    refine L_Mod_sea_60 ⟨fun c => ?_, fun _ => ?_⟩
    · rw [nI_ltI (by omega) (by omega)] at c; omega
    rw [nI_at, nI_cl (by omega), nI_1]
    exact ⟨vp_nI (by omega) (by omega), nx⟩
theorem y_weed (hR : Rel M) (a b c d : Int32) {v : Int32} (hv : v = 0 ∨ v = 1) : Tw xs md_Peg_weed md_Mod_weed [.ref 0, .int a, .int b, .int c, .int d, .int v] [.ref 516, .int a, .int b, .int c, .int d, .int v] M L := by
  have ci := cell_iff hR (Eq0_refl M) (x := a) (y := b)
  have cj := cell_iff hR (Eq0_refl M) (x := c) (y := d)
  refine L_Peg_weed_0 ⟨fun h => ⟨fun h2 => ⟨fun h4 => ⟨_, rfl, L_Mod_weed_0 ⟨fun _ => ⟨fun _ => ⟨fun _ => ⟨rfl, hR⟩, fun q => absurd h4 q⟩, fun q => absurd (cj.mpr h2) q⟩, fun q => absurd (ci.mpr h) q⟩⟩, fun h4 => ⟨fun h5 => ?_, fun h5 => ⟨_, rfl, L_Mod_weed_0 ⟨fun _ => ⟨fun _ => ⟨fun q => absurd q h4, fun _ => ⟨fun q => absurd q h5, fun _ => ⟨rfl, hR⟩⟩⟩, fun q => absurd (cj.mpr h2) q⟩, fun q => absurd (ci.mpr h) q⟩⟩⟩⟩, fun h2 => ⟨_, rfl, L_Mod_weed_0 ⟨fun _ => ⟨fun q => absurd (cj.mp q) h2, fun _ => ⟨rfl, hR⟩⟩, fun q => absurd (ci.mpr h) q⟩⟩⟩, fun h => ⟨_, rfl, L_Mod_weed_0 ⟨fun q => absurd (ci.mp q) h, fun _ => ⟨rfl, hR⟩⟩⟩⟩
  obtain ⟨x1, y1, p1, q1, p2, q2, p3, q3⟩ := cell_nI hR h
  obtain ⟨x2, y2, r1, s1, r2, s2, r3, s3⟩ := cell_nI hR h2
  have ci' := ci.mpr h
  have cj' := cj.mpr h2
  rw [p3, q3] at ci'
  rw [r3, s3] at cj'
  rw [p3, r3] at h4
  rw [q3, s3] at h5
  rw [p3, q3, r3, s3]
  have hx : x1 ≤ x2 := by
    have : ¬ x2 < x1 := fun z => h4 ((nI_ltI (a := x2) (b := x1) (by omega) (by omega)).mpr z)
    omega
  have hy : y1 ≤ y2 := (nI_leI (a := y1) (b := y2) (by omega) (by omega)).mp h5
  have v1 : v &&& 1 = v := by rcases hv with hv | hv <;> rw [hv] <;> rfl
  refine ⟨_, rfl, ?_⟩
  have fC : ∀ j k, j ≠ 133 → setP M 132 (rcF (nI x1).toInt (nI y1).toInt (nI x2).toInt (nI y2).toInt (bB (¬ v = 0)) (gp M 132)) j k = M j k := fun j k n1 => setP_o _ _ n1 k
  have w20 := hR.2.1.1.2.2
  have h20 := hR.2.1.2.1.2.2
  obtain ⟨c1, c2, c3, c4, c5, c6, c7, c8, c9⟩ := hR.2.1
  have WS : ∀ x y, y < 20 → x < 32 → gp (setP M 132 (rcF (nI x1).toInt (nI y1).toInt (nI x2).toInt (nI y2).toInt (bB (¬ v = 0)) (gp M 132))) 132 x y = if bB (rcP x1 y1 x2 y2 x y) then bB (¬ v = 0) else mWd M x y := fun x y hy hx => by
    rw [gp_set _ _ _ hx hy, rcF_nI (by omega), c9 y hy x]
  generalize setP M 132 (rcF (nI x1).toInt (nI y1).toInt (nI x2).toInt (nI y2).toInt (bB (¬ v = 0)) (gp M 132)) = M1 at *
  have k9 : M1 516 9 = M 516 9 := fC _ _ (by decide)
  have k10 : M1 516 10 = M 516 10 := fC _ _ (by decide)
  refine L_Mod_weed_0 ⟨fun _ => ⟨fun _ => ⟨fun q => absurd q h4, fun _ => ⟨fun _ => ?_, fun q => absurd h5 q⟩⟩, fun q => absurd (by rw [k9, k10]; exact cj') q⟩, fun q => absurd (by rw [k9, k10]; exact ci') q⟩
  refine rect (M := M1) (a := 524) (v := v) hx r2 hy
    (fun y s => RX xs shL md_Mod_weed 39 [.ref 516, .int (nI x1), .int (nI y1), .int (nI x2), .int (nI y2), .int v, .int (nI y), .null] [] s L (fun r2 M2 _ => r2 = some (.int ((nI x2 - nI x1 + 1) * (nI y2 - nI y1 + 1))) ∧ Rel M2))
    (fun x y s => RX xs shL md_Mod_weed 49 [.ref 516, .int (nI x1), .int (nI y1), .int (nI x2), .int (nI y2), .int v, .int (nI y), .int (nI x)] [] s L (fun r2 M2 _ => r2 = some (.int ((nI x2 - nI x1 + 1) * (nI y2 - nI y1 + 1))) ∧ Rel M2)) ?_ ?_ ?_ ?_
  · intro N hs
    refine L_Mod_weed_39 ⟨fun _ => ⟨rfl, ?_⟩, fun c => absurd ?_ c⟩
    · have fr : ∀ j k, j ≠ 133 → j ≠ 524 → N j k = M j k := fun j k n1 n4 => by rw [hs, setR_o _ _ _ n4]; exact fC j k n1
      have D5 : ∀ x y, x < 20 → N 524 (20 * y + x) = if bB (rcP x1 y1 x2 y2 x y) then v else M 524 (20 * y + x) := fun x y hx => by
        rw [hs]
        by_cases e : rcP x1 y1 x2 y2 x y
        · rw [setR_t _ _ _ hx e, ifB_t e]
        · rw [setR_f _ _ _ hx e, ifB_f e]; exact fC _ _ (by decide)
      have e9 : N 516 9 = M 516 9 := fr _ _ (by decide) (by decide)
      have e10 : N 516 10 = M 516 10 := fr _ _ (by decide) (by decide)
      have ew : mw N = mw M := by unfold mw; rw [e9]
      have eh : mh N = mh M := by unfold mh; rw [e10]
      have ef := mOp_fr e9 e10 (fun k => fr 523 k (by decide) (by decide))
      refine Rel_ch hR ⟨?_, ?_, ?_, ?_, fun j hj => ?_, fun x y hx' hy' => ?_, ?_, ?_, fun y hy' x => ?_⟩ (fun j k q => fr j k (fun z => q (by unfold chC; omega)) (fun z => q (by unfold chC; omega)))
      · rw [e9, ew]; exact c1
      · rw [e10, eh]; exact c2
      · rw [e9, fr _ _ (by decide) (by decide)]; exact c3
      · rw [e10, fr _ _ (by decide) (by decide)]; exact c4
      · rw [fr 126 _ (by decide) (by decide), fr 516 _ (by decide) (by decide)]; exact c5 j hj
      · obtain ⟨z1, z2, z3⟩ := c6 x y hx' hy'
        rw [fr 127 _ (by decide) (by decide), fr 523 _ (by decide) (by decide), D5 x y hx']
        by_cases e : rcP x1 y1 x2 y2 x y
        · rw [ifB_t e]; exact ⟨z1, z2, hv⟩
        · rw [ifB_f e]; exact ⟨z1, z2, z3⟩
      · rw [ef.1]; exact shw_fr c7 (fun k => fr _ k (by decide) (by decide))
      · rw [ef.2]; exact shw_fr c8 (fun k => fr _ k (by decide) (by decide))
      · have gN : gp N 132 x y = gp M1 132 x y := by unfold gp; rw [hs, setR_o _ _ _ (by decide)]
        rw [gN]
        by_cases hx32 : x < 32
        · rw [WS x y hy' hx32]
          unfold mWd
          rw [ew, eh]
          by_cases hxw : x < 20
          · rw [D5 x y hxw]
            by_cases e : rcP x1 y1 x2 y2 x y
            · rw [ifB_t e, ifB_t e]
              exact bB_congr ⟨fun q => ⟨by have := e.2.1; omega, by have := e.2.2.2; omega, q⟩, fun q => q.2.2⟩
            · rw [ifB_f e, ifB_f e]
          · rw [ifB_f (fun z => by have := z.2.1; omega), bB_f (fun z => by have := z.1; omega), bB_f (fun z => by have := z.1; omega)]
        · rw [gp_big _ _ _ (by omega)]
          unfold mWd
          rw [bB_f (fun z => by have := z.1; omega)]
    · rw [nI_ltI (by omega) (by omega)]; omega
  · intro y s hy' hi
    refine L_Mod_weed_39 ⟨fun c => ?_, fun _ => hi⟩
    rw [nI_ltI (by omega) (by omega)] at c; omega
  · intro y s hy' ho
    refine L_Mod_weed_49 ⟨fun _ => by rw [nI_1]; exact ho, fun c => absurd ?_ c⟩
    rw [nI_ltI (by omega) (by omega)]; omega
  · intro x y s u1 u2 u3 u4 nx
    refine L_Mod_weed_49 ⟨fun c => ?_, fun _ => ?_⟩
    · rw [nI_ltI (by omega) (by omega)] at c; omega
    rw [nI_at, nI_cl (by omega), nI_1, v1]
    exact ⟨vp_nI (by omega) (by omega), nx⟩
end TZ

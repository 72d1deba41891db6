/-! calls that change the state: a new chart, a new start -/
section UA
variable {xs : List Int32} {M : Mem} {L : Int64} {Q : Option Value → Mem → Int64 → Prop}
theorem Rel_start {N : Mem} (hR : Rel M) {x y r : Nat} (hx : x < 1000) (hy : y < 1000) (hr : r < 1000)
    (fr : ∀ b k, ¬ (b = 134 ∧ 2 ≤ k ∧ k ≤ 4) → ¬ (b = 516 ∧ 17 ≤ k ∧ k ≤ 19) → N b k = M b k)
    (a2 : N 134 2 = nI x) (a3 : N 134 3 = nI y) (a4 : N 134 4 = nI r) (b2 : N 516 17 = nI x) (b3 : N 516 18 = nI y) (b4 : N 516 19 = nI r) : Rel N := by
  obtain ⟨l1, l2, l3, l4, l5, l6, l7, l8, l9⟩ := hR.2.2.1
  have en : mn N = mn M := by unfold mn; rw [fr _ _ (by omega) (by omega)]
  have ew : nw N = nw M := by unfold nw; rw [fr _ _ (by omega) (by omega)]
  have ex : msx N = x := by unfold msx; rw [b2, nI_cl (by omega)]
  have ey : msy N = y := by unfold msy; rw [b3, nI_cl (by omega)]
  have er : msr N = r := by unfold msr; rw [b4, nI_cl (by omega)]
  refine Rel_lg hR ⟨?_, ⟨?_, ?_⟩, ⟨?_, ?_⟩, ⟨?_, ?_⟩, ?_, ?_, ?_, ?_, fun t ht => ?_⟩ (fun b k q => fr b k (fun z => q (by unfold lgC; omega)) (fun z => q (by unfold lgC; omega)))
  · rw [en, fr _ _ (by omega) (by omega)]; exact l1
  · rw [ex, b2]
  · omega
  · rw [ey, b3]
  · omega
  · rw [er, b4]
  · omega
  · rw [fr 134 1 (by omega) (by omega), fr 516 20 (by omega) (by omega)]; exact l5
  · rw [a2, b2]
  · rw [a3, b3]
  · rw [a4, b4]
  · rw [en] at ht
    have := l1.2
    exact RwE_fr (by omega) (l9 t ht) (fun k => fr _ _ (by omega) (by omega)) (fun j hj => fr _ _ (by omega) (by omega)) (by omega)
theorem y_start (hR : Rel M) (a b c : Int32) : Tw xs md_Peg_start md_Mod_start [.ref 0, .int a, .int b, .int c] [.ref 516, .int a, .int b, .int c] M L := by
  have ci := cell_iff hR (Eq0_refl M) (x := a) (y := b)
  refine L_Peg_start_0 ⟨fun h => ⟨fun h2 => ?_, fun h2 => ⟨_, rfl, L_Mod_start_0 ⟨fun _ => ⟨fun q => absurd q h2, fun _ => ⟨rfl, hR⟩⟩, fun q => absurd (ci.mpr h) q⟩⟩⟩, fun h => ⟨_, rfl, L_Mod_start_0 ⟨fun q => absurd (ci.mp q) h, fun _ => ⟨rfl, hR⟩⟩⟩⟩
  obtain ⟨x, y, x1, y1, x2, y2, x3, y3⟩ := cell_nI hR h
  obtain ⟨r, r1, r2⟩ := le_nI (n := 20) (by decide) h2
  have ci' := ci.mpr h
  have w20 := hR.2.1.1.2.2
  have h20 := hR.2.1.2.1.2.2
  rw [x3, y3] at ci'
  rw [r2] at h2
  rw [x3, y3, r2]
  have u : ∀ b' k, ¬ (b' = 134 ∧ 2 ≤ k ∧ k ≤ 4) → up (up (up M 134 2 (nI x)) 134 3 (nI y)) 134 4 (nI r) b' k = M b' k := fun b' k q => by rw [up_ne _ _ (by omega), up_ne _ _ (by omega), up_ne _ _ (by omega)]
  have v2 : up (up (up M 134 2 (nI x)) 134 3 (nI y)) 134 4 (nI r) 134 2 = nI x := by rw [up_ne _ _ (by omega), up_ne _ _ (by omega)]; exact up_same _ _ _ _
  have v3 : up (up (up M 134 2 (nI x)) 134 3 (nI y)) 134 4 (nI r) 134 3 = nI y := by rw [up_ne _ _ (by omega)]; exact up_same _ _ _ _
  have v4 : up (up (up M 134 2 (nI x)) 134 3 (nI y)) 134 4 (nI r) 134 4 = nI r := up_same _ _ _ _
  generalize up (up (up M 134 2 (nI x)) 134 3 (nI y)) 134 4 (nI r) = M1 at *
  have op1 : shw M1 128 (mOp M) := shw_fr hR.2.1.2.2.2.2.2.2.1 (fun k => u _ k (by omega))
  have inO : inC (mw M) (mh M) (mOp M) := fun x y _ q => ⟨(bB_iff.mp q).1, (bB_iff.mp q).2.1⟩
  have inS : inC (mw M) (mh M) (fun x' y' => mOp M x' y' && bB ((x : Int) - r ≤ x' ∧ (x' : Int) ≤ x + r ∧ (y : Int) - r ≤ y' ∧ (y' : Int) ≤ y + r)) := fun x' y' hy' q => inO x' y' hy' (Bool.and_eq_true _ _ ▸ q : _ ∧ _).1
  refine L_Reckoning_startCells_0 (t_findStart v2 v3 v4 (by omega) (by omega) (by omega) w20 op1 inO ⟨rfl, t_size (isP_ahead (t := 0) (by decide)) (shw_set w20 inS) inS w20 h20 ⟨_, rfl, _, rfl, ?_⟩⟩)
  -- the reference
  have k : ∀ b' j, b' ≠ 340 → ¬ (b' = 134 ∧ 2 ≤ j ∧ j ≤ 4) → setP M1 339 (fun x' y' => mOp M x' y' && bB ((x : Int) - r ≤ x' ∧ (x' : Int) ≤ x + r ∧ (y : Int) - r ≤ y' ∧ (y' : Int) ≤ y + r)) b' j = M b' j := fun b' j h1 h2 => by rw [setP_o _ _ h1]; exact u b' j h2
  have k134 : ∀ j, setP M1 339 (fun x' y' => mOp M x' y' && bB ((x : Int) - r ≤ x' ∧ (x' : Int) ≤ x + r ∧ (y : Int) - r ≤ y' ∧ (y' : Int) ≤ y + r)) 134 j = M1 134 j := fun j => setP_o _ _ (by decide) j
  generalize setP M1 339 (fun x' y' => mOp M x' y' && bB ((x : Int) - r ≤ x' ∧ (x' : Int) ≤ x + r ∧ (y : Int) - r ≤ y' ∧ (y' : Int) ≤ y + r)) = M2 at *
  refine ⟨_, rfl, L_Mod_start_0 ⟨fun _ => ⟨fun _ => ?_, fun q => absurd h2 q⟩, fun q => absurd (by rw [k _ _ (by decide) (by omega), k _ _ (by decide) (by omega)]; exact ci') q⟩⟩
  -- the state behind both: M with the new start
  have hN : Rel (up (up (up (up (up (up M 134 2 (nI x)) 134 3 (nI y)) 134 4 (nI r)) 516 17 (nI x)) 516 18 (nI y)) 516 19 (nI r)) := by
    refine Rel_start hR (x := x) (y := y) (r := r) (by omega) (by omega) (by omega) (fun b' j q1 q2 => ?_) ?_ ?_ ?_ ?_ ?_ (up_same _ _ _ _)
    · rw [up_ne _ _ (by omega), up_ne _ _ (by omega), up_ne _ _ (by omega), up_ne _ _ (by omega), up_ne _ _ (by omega), up_ne _ _ (by omega)]
    · rw [up_ne _ _ (by omega), up_ne _ _ (by omega), up_ne _ _ (by omega), up_ne _ _ (by omega), up_ne _ _ (by omega)]; exact up_same _ _ _ _
    · rw [up_ne _ _ (by omega), up_ne _ _ (by omega), up_ne _ _ (by omega), up_ne _ _ (by omega)]; exact up_same _ _ _ _
    · rw [up_ne _ _ (by omega), up_ne _ _ (by omega), up_ne _ _ (by omega)]; exact up_same _ _ _ _
    · rw [up_ne _ _ (by omega), up_ne _ _ (by omega)]; exact up_same _ _ _ _
    · rw [up_ne _ _ (by omega)]; exact up_same _ _ _ _
  have n17 : up (up (up (up (up (up M 134 2 (nI x)) 134 3 (nI y)) 134 4 (nI r)) 516 17 (nI x)) 516 18 (nI y)) 516 19 (nI r) 516 17 = nI x := by rw [up_ne _ _ (by omega), up_ne _ _ (by omega)]; exact up_same _ _ _ _
  have n18 : up (up (up (up (up (up M 134 2 (nI x)) 134 3 (nI y)) 134 4 (nI r)) 516 17 (nI x)) 516 18 (nI y)) 516 19 (nI r) 516 18 = nI y := by rw [up_ne _ _ (by omega)]; exact up_same _ _ _ _
  have n19 : up (up (up (up (up (up M 134 2 (nI x)) 134 3 (nI y)) 134 4 (nI r)) 516 17 (nI x)) 516 18 (nI y)) 516 19 (nI r) 516 19 = nI r := up_same _ _ _ _
  have nO : ∀ b' j, ¬ (b' = 134 ∧ 2 ≤ j ∧ j ≤ 4) → ¬ (b' = 516 ∧ 17 ≤ j ∧ j ≤ 19) → up (up (up (up (up (up M 134 2 (nI x)) 134 3 (nI y)) 134 4 (nI r)) 516 17 (nI x)) 516 18 (nI y)) 516 19 (nI r) b' j = M b' j := fun b' j q1 q2 => by
    rw [up_ne _ _ (by omega), up_ne _ _ (by omega), up_ne _ _ (by omega), up_ne _ _ (by omega), up_ne _ _ (by omega), up_ne _ _ (by omega)]
  have nC : ∀ j, 2 ≤ j → j ≤ 4 → up (up (up (up (up (up M 134 2 (nI x)) 134 3 (nI y)) 134 4 (nI r)) 516 17 (nI x)) 516 18 (nI y)) 516 19 (nI r) 134 j = M1 134 j := fun j j1 j2 => by
    have : j = 2 ∨ j = 3 ∨ j = 4 := by omega
    rcases this with rfl | rfl | rfl
    · rw [v2, up_ne _ _ (by omega), up_ne _ _ (by omega), up_ne _ _ (by omega), up_ne _ _ (by omega), up_ne _ _ (by omega)]; exact up_same _ _ _ _
    · rw [v3, up_ne _ _ (by omega), up_ne _ _ (by omega), up_ne _ _ (by omega), up_ne _ _ (by omega)]; exact up_same _ _ _ _
    · rw [v4, up_ne _ _ (by omega), up_ne _ _ (by omega), up_ne _ _ (by omega)]; exact up_same _ _ _ _
  generalize up (up (up (up (up (up M 134 2 (nI x)) 134 3 (nI y)) 134 4 (nI r)) 516 17 (nI x)) 516 18 (nI y)) 516 19 (nI r) = N at *
  have E3 : Eq0 N (up (up (up M2 516 17 (nI x)) 516 18 (nI y)) 516 19 (nI r)) := fun b' j q => by
    by_cases e1 : b' = 516 ∧ 17 ≤ j ∧ j ≤ 19
    · obtain ⟨rfl, j1, j2⟩ := e1
      have : j = 17 ∨ j = 18 ∨ j = 19 := by omega
      rcases this with rfl | rfl | rfl
      · rw [n17, up_ne _ _ (by omega), up_ne _ _ (by omega)]; exact up_same _ _ _ _
      · rw [n18, up_ne _ _ (by omega)]; exact up_same _ _ _ _
      · rw [n19]; exact up_same _ _ _ _
    · rw [up_ne _ _ (by omega), up_ne _ _ (by omega), up_ne _ _ (by omega)]
      by_cases e2 : b' = 134 ∧ 2 ≤ j ∧ j ≤ 4
      · obtain ⟨rfl, j1, j2⟩ := e2
        rw [nC j j1 j2, k134]
      · rw [nO b' j e2 e1, k b' j (fun z => q (by unfold Scr; omega)) e2]
  have GN := Rel_GM hN
  have mwN : mw N = mw M := by unfold mw; rw [nO _ _ (by omega) (by omega)]
  have mhN : mh N = mh M := by unfold mh; rw [nO _ _ (by omega) (by omega)]
  refine m_beginV (g := 0) (m := 0) (b := 0) GN E3 (fun M4 E4 f4 a4 => ⟨rfl, m_cells (MCH_fr GN E4) a4 ⟨_, rfl, ?_, Rel_0 hN E4⟩⟩)
  have ef := mOp_fr (M := M) (M' := N) (nO _ _ (by omega) (by omega)) (nO _ _ (by omega) (by omega)) (fun k => nO 523 k (by omega) (by omega))
  have es : ∀ x' y', (VM N 0 0 0).st x' y' = (mOp M x' y' && bB ((x : Int) - r ≤ x' ∧ (x' : Int) ≤ x + r ∧ (y : Int) - r ≤ y' ∧ (y' : Int) ≤ y + r)) := fun x' y' => by
    show (mOp N x' y' && bB (boxP N x' y')) = _
    rw [ef.1]
    unfold boxP msx msy msr
    rw [n17, n18, n19, nI_cl (by omega), nI_cl (by omega), nI_cl (by omega)]
  rw [mwN, mhN]
  congr 3
  exact cntY_congr (fun x' y' _ _ => es x' y')
theorem m_flood (hQ : ∀ M', (∀ b k, b ≠ 523 → b ≠ 524 → ¬ (b = 516 ∧ 17 ≤ k ∧ k ≤ 19) → M' b k = M b k) → (∀ k, k < 400 → M' 523 k = 50 ∧ M' 524 k = 0) → M' 516 17 = 0 → M' 516 18 = 0 → M' 516 19 = 0 → Q none M' L) : RX xs shL md_Mod_flood 0 [.ref 516] [] M L Q := by
  have cv : cvr shL 516 531 := fun a _ _ => rfl
  have key : ∀ r j, j + r = 400 → ∀ M', (∀ b k, b ≠ 523 → b ≠ 524 → M' b k = M b k) → (∀ k, k < j → M' 523 k = 50 ∧ M' 524 k = 0) → RX xs shL md_Mod_flood 2 [.ref 516, .int (nI j)] [] M' L Q := by
    intro r
    induction r with
    | zero =>
      intro j hj M' fr h
      have : j = 400 := by omega
      subst this
      refine L_Mod_flood_2 cv ⟨fun _ => hQ _ (fun b k q1 q2 q3 => ?_) (fun k hk => ?_) ?_ ?_ (up_same _ _ _ _), fun c => absurd (by decide) c⟩
      · rw [up_ne _ _ (by omega), up_ne _ _ (by omega), up_ne _ _ (by omega)]; exact fr b k q1 q2
      · rw [up_ne _ _ (by omega), up_ne _ _ (by omega), up_ne _ _ (by omega), up_ne _ _ (by omega), up_ne _ _ (by omega), up_ne _ _ (by omega)]; exact h k hk
      · rw [up_ne _ _ (by omega), up_ne _ _ (by omega)]; exact up_same _ _ _ _
      · rw [up_ne _ _ (by omega)]; exact up_same _ _ _ _
    | succ r ih =>
      intro j hj M' fr h
      refine L_Mod_flood_2 cv ⟨fun c => absurd ((nI_leI (a := 400) (b := j) (by omega) (by omega)).mp c) (by omega), fun _ => ?_⟩
      rw [nI_cl (by omega), nI_1]
      refine ⟨vp_nI (by omega) (by omega), ih (j + 1) (by omega) _ (fun b k q1 q2 => by rw [up_ne _ _ (fun z => q2 z.1), up_ne _ _ (fun z => q1 z.1)]; exact fr b k q1 q2) (fun k hk => ?_)⟩
      by_cases e : k = j
      · subst e
        rw [up_same, up_ne _ _ (by omega), up_same]; exact ⟨rfl, rfl⟩
      · rw [up_ne _ _ (by omega), up_ne _ _ (by omega), up_ne _ _ (by omega), up_ne _ _ (by omega)]; exact h k (by omega)
  exact L_Mod_flood_0 cv (key 400 0 (by omega) M (fun _ _ _ _ => rfl) (fun k hk => by omega))
theorem y_chart (hR : Rel M) (a b : Int32) : Tw xs md_Peg_chart md_Mod_chart [.ref 0, .int a, .int b] [.ref 516, .int a, .int b] M L := by
  have l5 := hR.2.2.1.2.2.2.2.1
  refine L_Peg_chart_0 ⟨fun h => ⟨fun h2 => ⟨fun h3 => ?_, fun h3 => ⟨_, rfl, L_Mod_chart_0 ⟨fun _ => ⟨fun _ => ⟨fun q => absurd (by rw [l5]; exact q) h3, fun _ => ⟨rfl, hR⟩⟩, fun q => absurd h2 q⟩, fun q => absurd h q⟩⟩⟩, fun h2 => ⟨_, rfl, L_Mod_chart_0 ⟨fun _ => ⟨fun q => absurd q h2, fun _ => ⟨rfl, hR⟩⟩, fun q => absurd h q⟩⟩⟩, fun h => ⟨_, rfl, L_Mod_chart_0 ⟨fun q => absurd q h, fun _ => ⟨rfl, hR⟩⟩⟩⟩
  have nn : ∀ z : Int32, (4 ≤ z ∧ z ≤ 20) → ∃ n, 4 ≤ n ∧ n ≤ 20 ∧ z = nI n := fun z hz => by
    rw [i_le, i_le] at hz
    have hz : (4 : Int) ≤ z.toInt ∧ z.toInt ≤ 20 := hz
    exact ⟨z.toInt.toNat, by omega, by omega, nI_of_toInt (by omega)⟩
  obtain ⟨w, w1, w2, w3⟩ := nn a h
  obtain ⟨hh, g1, g2, g3⟩ := nn b h2
  subst w3 g3
  have n0 : mn M = 0 := by
    rw [l5, hR.2.2.1.1.1, nI_le0 (by have := hR.2.2.1.1.2; omega)] at h3; exact h3
  have cv : cvr shL 126 134 := fun a _ _ => rfl
  refine L_Chart_drawAnew_0 cv ⟨rfl, _, rfl, ?_⟩
  rw [setP_set]
  have F0 : ∀ (M1 : Mem) (f1 f2 f3 : Nat → Nat → Bool), M1 = up (up (up (setP (setP (setP (rowN (up (up M 126 4 (nI w)) 126 5 (nI hh)) 127 400 (fun _ => 50)) 132 f1) 130 f2) 128 f3) 134 2 0) 134 3 0) 134 4 0 → (∀ j k, ¬ (j = 126 ∧ (k = 4 ∨ k = 5)) → j ≠ 127 → j ≠ 133 → j ≠ 131 → j ≠ 129 → ¬ (j = 134 ∧ 2 ≤ k ∧ k ≤ 4) → M1 j k = M j k) ∧ M1 126 4 = nI w ∧ M1 126 5 = nI hh ∧ (∀ k, k < 400 → M1 127 k = 50) ∧ (∀ x y, x < 32 → y < 20 → gp M1 132 x y = f1 x y ∧ gp M1 130 x y = f2 x y ∧ gp M1 128 x y = f3 x y) ∧ M1 134 2 = 0 ∧ M1 134 3 = 0 ∧ M1 134 4 = 0 := by
    intro M1 f1 f2 f3 hM
    subst hM
    refine ⟨fun j k q1 q2 q3 q4 q5 q6 => ?_, ?_, ?_, fun k hk => ?_, fun x y hx hy => ⟨?_, ?_, ?_⟩, ?_, ?_, up_same _ _ _ _⟩
    · rw [up_ne _ _ (by omega), up_ne _ _ (by omega), up_ne _ _ (by omega), setP_o _ _ q5, setP_o _ _ q4, setP_o _ _ q3, rowN_o _ _ _ q2, up_ne _ _ (by omega), up_ne _ _ (by omega)]
    · rw [up_ne _ _ (by omega), up_ne _ _ (by omega), up_ne _ _ (by omega), setP_o _ _ (by decide), setP_o _ _ (by decide), setP_o _ _ (by decide), rowN_o _ _ _ (by decide), up_ne _ _ (by omega)]; exact up_same _ _ _ _
    · rw [up_ne _ _ (by omega), up_ne _ _ (by omega), up_ne _ _ (by omega), setP_o _ _ (by decide), setP_o _ _ (by decide), setP_o _ _ (by decide), rowN_o _ _ _ (by decide)]; exact up_same _ _ _ _
    · rw [up_ne _ _ (by omega), up_ne _ _ (by omega), up_ne _ _ (by omega), setP_o _ _ (by decide), setP_o _ _ (by decide), setP_o _ _ (by decide), rowN_lt _ _ _ hk]
    · unfold gp
      rw [up_ne _ _ (by omega), up_ne _ _ (by omega), up_ne _ _ (by omega), setP_o _ _ (by decide), setP_o _ _ (by decide)]
      exact gp_set _ 132 f1 hx hy
    · unfold gp
      rw [up_ne _ _ (by omega), up_ne _ _ (by omega), up_ne _ _ (by omega), setP_o _ _ (by decide)]
      exact gp_set _ 130 f2 hx hy
    · unfold gp
      rw [up_ne _ _ (by omega), up_ne _ _ (by omega), up_ne _ _ (by omega)]
      exact gp_set _ 128 f3 hx hy
    · rw [up_ne _ _ (by omega), up_ne _ _ (by omega)]; exact up_same _ _ _ _
    · rw [up_ne _ _ (by omega)]; exact up_same _ _ _ _
  obtain ⟨fC, k4, k5, kd, kg, z2, z3, z4⟩ := F0 _ _ _ _ rfl
  generalize up (up (up (setP (setP (setP (rowN (up (up M 126 4 (nI w)) 126 5 (nI hh)) 127 400 (fun _ => 50)) 132 _) 130 _) 128 _) 134 2 0) 134 3 0) 134 4 0 = M1 at *
  have e20 : M1 516 20 = M 516 20 := fC _ _ (by omega) (by decide) (by decide) (by decide) (by decide) (by omega)
  refine L_Mod_chart_0 ⟨fun _ => ⟨fun _ => ⟨fun _ => ?_, fun q => absurd (by rw [e20, ← l5]; exact h3) q⟩, fun q => absurd h2 q⟩, fun q => absurd h q⟩
  refine m_flood (fun N fN dN m17 m18 m19 => ⟨rfl, rfl, ?_⟩)
  have fr : ∀ j k, j ≠ 523 → j ≠ 524 → ¬ (j = 516 ∧ (17 ≤ k ∧ k ≤ 19 ∨ k = 9 ∨ k = 10)) → N j k = M1 j k := fun j k q1 q2 q3 => by
    rw [fN j k q1 q2 (by omega), up_ne _ _ (by omega), up_ne _ _ (by omega)]
  have e9 : N 516 9 = nI w := by rw [fN _ _ (by decide) (by decide) (by omega), up_ne _ _ (by omega)]; exact up_same _ _ _ _
  have e10 : N 516 10 = nI hh := by rw [fN _ _ (by decide) (by decide) (by omega)]; exact up_same _ _ _ _
  have ew : mw N = w := by unfold mw; rw [e9, nI_cl (by omega)]
  have eh : mh N = hh := by unfold mh; rw [e10, nI_cl (by omega)]
  have fA : ∀ j k, ¬ (j = 126 ∧ (k = 4 ∨ k = 5)) → j ≠ 127 → j ≠ 133 → j ≠ 131 → j ≠ 129 → ¬ (j = 134 ∧ 2 ≤ k ∧ k ≤ 4) → j ≠ 523 → j ≠ 524 → ¬ (j = 516 ∧ (17 ≤ k ∧ k ≤ 19 ∨ k = 9 ∨ k = 10)) → N j k = M j k := fun j k q1 q2 q3 q4 q5 q6 q7 q8 q9 => (fr j k q7 q8 q9).trans (fC j k q1 q2 q3 q4 q5 q6)
  have gN : ∀ p, p + 1 ≠ 523 → p + 1 ≠ 524 → p + 1 ≠ 516 → ∀ x y, gp N p x y = gp M1 p x y := fun p h1 h2 h3 x y => by unfold gp; rw [fr _ _ h1 h2 (by omega)]
  have wI : ((nI w) - 1).toInt = (w : Int) - 1 := by rw [nI_s1 (by omega), i_nI (by omega)]; omega
  have hI : ((nI hh) - 1).toInt = (hh : Int) - 1 := by rw [nI_s1 (by omega), i_nI (by omega)]; omega
  obtain ⟨h1, h2', h3', h4, h5⟩ := hR
  obtain ⟨⟨l1, l1'⟩, l2, l3, l4, l5, l6, l7, l8, l9⟩ := h3'
  have en : mn N = 0 := by unfold mn; rw [fA _ _ (by omega) (by decide) (by decide) (by decide) (by decide) (by omega) (by decide) (by decide) (by omega)]; exact n0
  refine ⟨RBd_fr h1 (fun j k q => fA j k (by unfold bdC at q; omega) (by unfold bdC at q; omega) (by unfold bdC at q; omega) (by unfold bdC at q; omega) (by unfold bdC at q; omega) (by unfold bdC at q; omega) (by unfold bdC at q; omega) (by unfold bdC at q; omega) (by unfold bdC at q; omega)), ⟨?_, ?_, ?_, ?_, fun j hj => ?_, fun x y hx hy => ?_, fun y hy x => ?_, fun y hy x => ?_, fun y hy x => ?_⟩, ⟨?_, ⟨?_, ?_⟩, ⟨?_, ?_⟩, ⟨?_, ?_⟩, ?_, ?_, ?_, ?_, fun t ht => by omega⟩, RWd_fr h4 (fun j k q => fA j k (by unfold wdC at q; omega) (by unfold wdC at q; omega) (by unfold wdC at q; omega) (by unfold wdC at q; omega) (by unfold wdC at q; omega) (by unfold wdC at q; omega) (by unfold wdC at q; omega) (by unfold wdC at q; omega) (by unfold wdC at q; omega)), RNm_fr h5 (fun j k q => fA j k (by unfold nmC2 at q; omega) (by unfold nmC2 at q; omega) (by unfold nmC2 at q; omega) (by unfold nmC2 at q; omega) (by unfold nmC2 at q; omega) (by unfold nmC2 at q; omega) (by unfold nmC2 at q; omega) (by unfold nmC2 at q; omega) (by unfold nmC2 at q; omega))⟩
  · rw [ew, e9]; exact ⟨rfl, w1, w2⟩
  · rw [eh, e10]; exact ⟨rfl, g1, g2⟩
  · rw [e9, fr _ _ (by decide) (by decide) (by omega)]; exact k4
  · rw [e10, fr _ _ (by decide) (by decide) (by omega)]; exact k5
  · rw [fA 126 _ (by omega) (by decide) (by decide) (by decide) (by decide) (by omega) (by decide) (by decide) (by omega), fA 516 _ (by omega) (by decide) (by decide) (by decide) (by decide) (by omega) (by decide) (by decide) (by omega)]
    exact h2'.2.2.2.2.1 j hj
  · rw [fr 127 _ (by decide) (by decide) (by omega), kd _ (by omega), (dN _ (by omega)).1, (dN _ (by omega)).2]
    exact ⟨rfl, by decide, Or.inl rfl⟩
  · rw [gN 128 (by decide) (by decide) (by decide)]
    unfold mOp
    rw [ew, eh]
    by_cases hx : x < 32
    · rw [(kg x y hx hy).2.2]
      unfold rcF
      rw [wI, hI, gp_set _ _ _ hx hy, bB_t (show ¬ (1 : Int32) = 0 by decide)]
      by_cases e : x < w ∧ y < hh
      · rw [ifB_t (show ((0 : Int32).toInt ≤ (x : Int) ∧ (x : Int) ≤ (w : Int) - 1 ∧ x < 20 ∧ (0 : Int32).toInt ≤ (y : Int) ∧ (y : Int) ≤ (hh : Int) - 1) from ⟨by show (0 : Int) ≤ _; omega, by omega, by omega, by show (0 : Int) ≤ _; omega, by omega⟩)]
        exact (bB_t ⟨e.1, e.2, by rw [(dN _ (by omega)).1]; decide⟩).symm
      · rw [ifB_f (fun z => e ⟨by omega, by omega⟩)]
        exact (bB_f (fun z => e ⟨z.1, z.2.1⟩)).symm
    · rw [gp_big _ _ _ (by omega), bB_f (fun z => by omega)]
  · rw [gN 130 (by decide) (by decide) (by decide)]
    unfold mLd
    rw [ew, eh]
    by_cases hx : x < 32
    · rw [(kg x y hx hy).2.1]
      exact (bB_f (fun z => by have := z.2.2; rw [(dN _ (by omega)).1] at this; exact absurd this (by decide))).symm
    · rw [gp_big _ _ _ (by omega), bB_f (fun z => by omega)]
  · rw [gN 132 (by decide) (by decide) (by decide)]
    unfold mWd
    rw [ew, eh]
    by_cases hx : x < 32
    · rw [(kg x y hx hy).1]
      exact (bB_f (fun z => z.2.2 (dN _ (by omega)).2)).symm
    · rw [gp_big _ _ _ (by omega), bB_f (fun z => by omega)]
  · rw [en]
    refine ⟨?_, by omega⟩
    rw [fA _ _ (by omega) (by decide) (by decide) (by decide) (by decide) (by omega) (by decide) (by decide) (by omega), l1, n0]
  · unfold msx; rw [m17]; rfl
  · unfold msx; rw [m17]; decide
  · unfold msy; rw [m18]; rfl
  · unfold msy; rw [m18]; decide
  · unfold msr; rw [m19]; rfl
  · unfold msr; rw [m19]; decide
  · rw [fA 134 1 (by omega) (by decide) (by decide) (by decide) (by decide) (by omega) (by decide) (by decide) (by omega), fA 516 20 (by omega) (by decide) (by decide) (by decide) (by decide) (by omega) (by decide) (by decide) (by omega)]; exact l5
  · rw [m17, fr _ _ (by decide) (by decide) (by omega)]; exact z2
  · rw [m18, fr _ _ (by decide) (by decide) (by omega)]; exact z3
  · rw [m19, fr _ _ (by decide) (by decide) (by omega)]; exact z4
end UA

/-! courses, blame and fits: class and reference answer alike -/
theorem vo_nI {v t d r : Int32} (h : isVo v t d r) : ∃ T R, T ≤ 96 ∧ R ≤ 8 ∧ t = nI T ∧ r = nI R := by
  obtain ⟨-, ⟨h1, h2⟩, -, h3⟩ := h
  have h1' : 0 ≤ t := by rw [i_le] at h1 ⊢; have h1 : (1 : Int) ≤ t.toInt := h1; show (0 : Int) ≤ _; omega
  obtain ⟨T, T1, T2⟩ := le_nI (n := 96) (by decide) ⟨h1', h2⟩
  obtain ⟨R, R1, R2⟩ := le_nI (n := 8) (by decide) h3
  exact ⟨T, R, T1, R1, T2, R2⟩
theorem EqC_516 {M M' : Mem} (hE : Eq0 M M') {k : Nat} (hk : 22 ≤ k) (v : Int32) : EqC M (up M' 516 k v) := fun b j _ q _ q2 => by
  rw [up_ne _ _ (fun e => by have := q2 e.1; omega)]; exact hE b j q
theorem VM_516 {M M' : Mem} (hE : Eq0 M M') {k : Nat} (hk : 22 ≤ k) (v : Int32) (g m b : Int32) : VM (up M' 516 k v) g m b = VM M g m b :=
  VM_C (EqC_516 hE hk v) (fun t => by rw [up_ne _ _ (by omega)]; exact hE _ _ (ns_5 (by decide) (by decide))) g m b
theorem mn_516 {M M' : Mem} (hE : Eq0 M M') {k : Nat} (hk : 22 ≤ k) (v : Int32) : mn (up M' 516 k v) = mn M ∧ mw (up M' 516 k v) = mw M ∧ mh (up M' 516 k v) = mh M := by
  have h := EqC_516 hE hk v
  refine ⟨?_, ?_, ?_⟩
  · unfold mn; rw [ec_lo h (by decide)]
  · unfold mw; rw [ec_lo h (by decide)]
  · unfold mh; rw [ec_lo h (by decide)]
theorem mLI_516 {M M' : Mem} (hE : Eq0 M M') {k : Nat} (v : Int32) (w h : Nat) : mLI (up M' 516 k v) w h = mLI M w h := mLI_fr (fun j => by rw [up_ne _ _ (by omega)]; exact hE _ _ (ns_5 (by decide) (by decide))) w h
/-- counters in both have gone on -/
theorem Rel_ct {M M1 M2 : Mem} (hR : Rel M) {j : Nat} (hj : j < 3) (hlt : (M 516 (22 + j)).toInt < 20) (h1 : Eq0 (up M 0 (6 + j) (M 0 (6 + j) + 1)) M1) (h2 : Eq0 (up M1 516 (22 + j) (M1 516 (22 + j) + 1)) M2) : Rel M2 := by
  refine Rel_0 (RelCt hR hj hlt) (fun b k q => ?_)
  rw [h2 b k q]
  have e : M1 516 (22 + j) = M 516 (22 + j) := (h1 _ _ (ns_516 (by omega))).trans (up_ne _ _ (by omega))
  by_cases z : b = 516 ∧ k = 22 + j
  · rw [z.1, z.2, up_same, up_same, e]
  · rw [up_ne _ _ z, up_ne _ _ z]; exact h1 b k q
section TU
variable {xs : List Int32} {M : Mem} {L : Int64}
theorem Eq0_vy {M0 M M' : Mem} (hE : Eq0 M0 M) (f : ∀ b k, b ≠ 512 → ¬ (b = 510 ∧ (k = 4 ∨ k = 5)) → b ≠ 514 → b ≠ 515 → M' b k = M b k) : Eq0 M0 M' := fun b k q => by
  rw [f b k (fun e => q (by unfold Scr; omega)) (fun e => q (by unfold Scr; omega)) (fun e => q (by unfold Scr; omega)) (fun e => q (by unfold Scr; omega))]; exact hE b k q
theorem y_sights (hR : Rel M) (a b p v t d r : Int32) : Tw xs md_Peg_sights md_Mod_sights [.ref 0, .int a, .int b, .int p, .int v, .int t, .int d, .int r] [.ref 516, .int a, .int b, .int p, .int v, .int t, .int d, .int r] M L := by
  have hG := Rel_GM hR
  have hV := GM_ok hG 0 0 0
  have ci := cell_iff hR (Eq0_refl M) (x := a) (y := b)
  refine L_Peg_sights_0 ⟨fun h => ⟨fun hp => ⟨fun hv => ?_, fun hv => ⟨_, rfl, L_Mod_sights_0 ⟨fun _ => ⟨fun _ => ⟨fun q => absurd q hv, fun _ => ⟨rfl, hR⟩⟩, fun q => absurd hp q⟩, fun q => absurd (ci.mpr h) q⟩⟩⟩, fun hp => ⟨_, rfl, L_Mod_sights_0 ⟨fun _ => ⟨fun q => absurd q hp, fun _ => ⟨rfl, hR⟩⟩, fun q => absurd (ci.mpr h) q⟩⟩⟩, fun h => ⟨_, rfl, L_Mod_sights_0 ⟨fun q => absurd (ci.mp q) h, fun _ => ⟨rfl, hR⟩⟩⟩⟩
  obtain ⟨x, y, x1, y1, x2, y2, x3, y3⟩ := cell_nI hR h
  obtain ⟨T, R, T1, R1, T2, R2⟩ := vo_nI hv
  refine c_look hR (fun M1 E1 g1 g2 s1 r1 a1 => ⟨_, rfl, isP_ahead (by have := hG.2.1.2; omega), ?_⟩)
  have hit : ((0 ≤ a ∧ a ≤ 19) ∧ (0 ≤ b ∧ b ≤ 19) ∧ gp M1 (339 + 4 * mn M) a.toNatClampNeg b.toNatClampNeg = true) ↔ AH (VM M 0 0 0) (mn M) x y = true := by
    rw [x3, y3, nI_cl (by omega), nI_cl (by omega), a1 (mn M) (Nat.le_refl _) y (by omega) x]
    exact ⟨fun q => q.2.2, fun q => ⟨⟨by rw [i_le, i_nI (by omega)]; show (0 : Int) ≤ _; omega, by rw [i_le, i_nI (by omega)]; show _ ≤ (19 : Int); omega⟩, ⟨by rw [i_le, i_nI (by omega)]; show (0 : Int) ≤ _; omega, by rw [i_le, i_nI (by omega)]; show _ ≤ (19 : Int); omega⟩, q⟩⟩
  have model : ∀ (M2 : Mem), Eq0 M M2 → ∀ w : Int32, (w = if AH (VM M 0 0 0) (mn M) x y = true then nI (seeT M p v d R T x y) else -103) → ∃ v' : Int32, some (Value.int w) = some (Value.int v') ∧ RX xs shL md_Mod_sights 0 [.ref 516, .int a, .int b, .int p, .int v, .int t, .int d, .int r] [] M2 L (fun r2 M3 _ => r2 = some (.int v') ∧ Rel M3) := by
    intro M2 E2 w hw
    have ci2 := cell_iff hR E2 (x := a) (y := b)
    refine ⟨_, rfl, L_Mod_sights_0 ⟨fun _ => ⟨fun _ => ⟨fun _ => ?_, fun q => absurd hv q⟩, fun q => absurd hp q⟩, fun q => absurd (ci2.mpr h) q⟩⟩
    refine m_goPlain hG E2 (fun M3 E3 N3 a3 _ => ⟨rfl, ?_⟩)
    have e0 : (20 : Int32) * b + a = nI (20 * y + x) := by rw [x3, y3, nI_at]
    rw [e0, nI_cl (by omega), a3 x y x1 y1]
    refine ⟨vp_nI (by omega) (by omega), fun z => ⟨?_, Rel_0 hR E3⟩, fun z => ?_⟩
    · rw [hw, if_neg (by rw [b01_0.mp z]; decide)]
    · have ht : AH (VM M 0 0 0) (mn M) x y = true := by
        cases e : AH (VM M 0 0 0) (mn M) x y with
        | true => rfl
        | false => rw [e] at z; exact absurd rfl z
      rw [x3, y3, T2, R2]
      refine m_seesAt hG E3 N3 hp R1 x2 y2 T1 ⟨_, rfl, ?_, Rel_0 hR E3⟩
      rw [hw, if_pos ht]; rfl
  refine ⟨fun q => ?_, fun q => model M1 E1 _ (by rw [if_neg (fun z => q (hit.mpr z))])⟩
  have ch1 : CH M1 (mw M) (mh M) := s1.1
  have ld1 : shw M1 130 (mLd M) := shw_fr hR.2.1.2.2.2.2.2.2.2.1 (fun k => g2 _ k (by decide))
  rw [R2, x3, y3, T2]
  refine c_fitOut rfl rfl ch1 ld1 R1 (fun M2 f2 V2 => ⟨rfl, c_cell hp V2 x1 y1 T1 (fun M3 f3 => ⟨_, rfl, ?_⟩)⟩)
  have E3 : Eq0 M M3 := Eq0_vy E1 (fun b k q1 q2 q3 q4 => (f3 b k q3 q4).trans (f2 b k q1 q2))
  have := model M3 E3 (nI (seeT M p v d R T x y)) (by rw [if_pos (hit.mp q)])
  rw [R2, x3, y3, T2] at this
  exact this
theorem emp_iff {M M1 : Mem} {A : Nat → Nat → Bool} {p w h : Nat} (hA : shw M1 p A) (hin : inC w h A) (w20 : w ≤ 20) : (∀ y, y < 20 → ∀ x, x < 32 → gp M1 p x y = false) ↔ ¬ NE A := by
  constructor
  · rintro q ⟨x, y, q1, q2⟩
    have q3 := (hin x y q1 q2).1
    have := q y q1 x (by omega)
    rw [hA y q1 x, q2] at this; cases this
  · intro q y hy x hx
    rw [hA y hy x]
    cases e : A x y with
    | false => rfl
    | true => exact absurd ⟨x, y, hy, e⟩ q
theorem y_sure (hR : Rel M) (p v t d r : Int32) : Tw xs md_Peg_sure md_Mod_sure [.ref 0, .int p, .int v, .int t, .int d, .int r] [.ref 516, .int p, .int v, .int t, .int d, .int r] M L := by
  have hG := Rel_GM hR
  have hV := GM_ok hG 0 0 0
  have w20 : mw M ≤ 20 := hV.2.1
  have h20 : mh M ≤ 20 := hV.2.2.2.1
  refine L_Peg_sure_0 ⟨fun hp => ⟨fun hv => ?_, fun hv => ⟨_, rfl, L_Mod_sure_0 ⟨fun _ => ⟨fun q => absurd q hv, fun _ => ⟨rfl, hR⟩⟩, fun q => absurd hp q⟩⟩⟩, fun hp => ⟨_, rfl, L_Mod_sure_0 ⟨fun q => absurd q hp, fun _ => ⟨rfl, hR⟩⟩⟩⟩
  obtain ⟨T, R, T1, R1, T2, R2⟩ := vo_nI hv
  have inA : inC (mw M) (mh M) (AH (VM M 0 0 0) (mn M)) := AH_in hV (mn M)
  refine c_look hR (fun M1 E1 g1 g2 s1 r1 a1 => ⟨_, rfl, isP_ahead (by have := hG.2.1.2; omega), ?_⟩)
  have em := emp_iff (M := M) (a1 (mn M) (Nat.le_refl _)) inA w20
  have model : ∀ (M2 : Mem), Eq0 M M2 → ∀ w : Int32, (NE (AH (VM M 0 0 0) (mn M)) → w = nI (sureT M p v d R T (AH (VM M 0 0 0) (mn M)))) → (¬ NE (AH (VM M 0 0 0) (mn M)) → w = -103) → ∃ v' : Int32, some (Value.int w) = some (Value.int v') ∧ RX xs shL md_Mod_sure 0 [.ref 516, .int p, .int v, .int t, .int d, .int r] [] M2 L (fun r2 M3 _ => r2 = some (.int v') ∧ Rel M3) := by
    intro M2 E2 w hw hw2
    refine ⟨_, rfl, L_Mod_sure_0 ⟨fun _ => ⟨fun _ => ?_, fun q => absurd hv q⟩, fun q => absurd hp q⟩⟩
    refine m_goPlain hG E2 (fun M3 E3 N3 a3 _ => ⟨rfl, m_cells (MCH_fr hG E3) a3 ⟨_, rfl, fun z => ⟨?_, Rel_0 hR E3⟩, fun z => ?_⟩⟩)
    · rw [hw2 ((cntI_0 inA w20 h20).mp z)]
    · have ne : NE (AH (VM M 0 0 0) (mn M)) := Classical.byContradiction fun q => z ((cntI_0 inA w20 h20).mpr q)
      rw [T2, R2]
      refine m_sureBy hG E3 N3 a3 inA ne hp R1 T1 ⟨_, rfl, ?_, Rel_0 hR E3⟩
      rw [hw ne]
  refine ⟨fun q => model M1 E1 _ (fun z => absurd z (em.mp q)) (fun _ => rfl), fun q => ?_⟩
  have ne : NE (AH (VM M 0 0 0) (mn M)) := Classical.byContradiction fun z => q (em.mpr z)
  have ld1 : shw M1 130 (mLd M) := shw_fr hR.2.1.2.2.2.2.2.2.2.1 (fun k => g2 _ k (by decide))
  have hn : mn M ≤ 40 := hG.2.1.2
  rw [R2, T2]
  refine c_fitOut rfl rfl s1.1 ld1 R1 (fun M2 f2 V2 => ⟨rfl, c_all hp V2 (isP_ahead (by omega)) (shw_fr (a1 (mn M) (Nat.le_refl _)) (fun k => f2 _ k (by omega) (by omega))) inA T1 (fun M3 f3 => ⟨_, rfl, ?_⟩)⟩)
  have E3 : Eq0 M M3 := Eq0_vy E1 (fun b k q1 q2 q3 q4 => (f3 b k q3 q4).trans (f2 b k q1 q2))
  have := model M3 E3 (nI (sureT M p v d R T (AH (VM M 0 0 0) (mn M)))) (fun _ => rfl) (fun z => absurd ne z)
  rw [R2, T2] at this
  exact this
theorem y_course (hR : Rel M) (v t d r : Int32) : Tw xs md_Peg_course md_Mod_course [.ref 0, .int v, .int t, .int d, .int r] [.ref 516, .int v, .int t, .int d, .int r] M L := by
  have hG := Rel_GM hR
  have hV := GM_ok hG 0 0 0
  have w20 : mw M ≤ 20 := hV.2.1
  have h20 : mh M ≤ 20 := hV.2.2.2.1
  have hn : mn M ≤ 40 := hG.2.1.2
  have ct : (M 0 7 < 20 ↔ (M 516 23).toInt < 20) ∧ (20 ≤ M 0 7 ↔ M 516 23 = 20) := ct_lt hR (j := 1) (by decide)
  refine L_Peg_course_0 ⟨fun hv => ?_, fun hv => ⟨_, rfl, L_Mod_course_0 ⟨fun q => absurd q hv, fun _ => ⟨rfl, hR⟩⟩⟩⟩
  obtain ⟨T, R, T1, R1, T2, R2⟩ := vo_nI hv
  have inA : inC (mw M) (mh M) (AH (VM M 0 0 0) (mn M)) := AH_in hV (mn M)
  refine c_look hR (fun M1 E1 g1 g2 s1 r1 a1 => ⟨_, rfl, isP_ahead (by omega), ?_⟩)
  have em := emp_iff (M := M) (a1 (mn M) (Nat.le_refl _)) inA w20
  have e7 : M1 0 7 = M 0 7 := g2 _ _ (by decide)
  rw [e7]
  have no : ∀ (q : ¬ NE (AH (VM M 0 0 0) (mn M)) ∨ M 516 23 = 20), ∃ v' : Int32, some (Value.int (-103)) = some (Value.int v') ∧ RX xs shL md_Mod_course 0 [.ref 516, .int v, .int t, .int d, .int r] [] M1 L (fun r2 M3 _ => r2 = some (.int v') ∧ Rel M3) := by
    intro q
    refine ⟨_, rfl, L_Mod_course_0 ⟨fun _ => ?_, fun q => absurd hv q⟩⟩
    refine m_goPlain hG E1 (fun M3 E3 N3 a3 _ => ⟨rfl, m_cells (MCH_fr hG E3) a3 ⟨_, rfl, fun z => ⟨rfl, Rel_0 hR E3⟩, fun z => ?_⟩⟩)
    rw [E3 516 23 (ns_516 (by decide))]
    refine ⟨fun _ => ⟨rfl, Rel_0 hR E3⟩, fun z2 => ?_⟩
    rcases q with q | q
    · exact absurd ((cntI_0 inA w20 h20).mpr q) z
    · exact absurd q z2
  refine ⟨fun q => no (Or.inl (em.mp q)), fun q => ⟨fun c => ?_, fun c => no (Or.inr (ct.2.mp (by rw [i_le]; rw [i_lt] at c; have c : ¬ (M 0 7).toInt < 20 := c; show (20 : Int) ≤ _; omega)))⟩⟩
  have ne : NE (AH (VM M 0 0 0) (mn M)) := Classical.byContradiction fun z => q (em.mpr z)
  have hlt := ct.1.mp c
  have c23 : ¬ M 516 23 = 20 := fun e => by rw [e] at hlt; exact absurd hlt (by decide)
  have u1 : ∀ b k, ¬ (b = 0 ∧ k = 7) → up M1 0 7 (M 0 7 + 1) b k = M1 b k := fun b k z => up_ne _ _ z
  have E1' : Eq0 (up M 0 7 (M 0 7 + 1)) (up M1 0 7 (M 0 7 + 1)) := fun b k z => by
    by_cases e : b = 0 ∧ k = 7
    · rw [e.1, e.2, up_same, up_same]
    · rw [up_ne _ _ e, up_ne _ _ e]; exact E1 b k z
  have ld1 : shw (up M1 0 7 (M 0 7 + 1)) 130 (mLd M) := shw_fr hR.2.1.2.2.2.2.2.2.2.1 (fun k => (u1 _ k (by omega)).trans (g2 _ k (by decide)))
  have ch1 : CH (up M1 0 7 (M 0 7 + 1)) (mw M) (mh M) := by
    have := s1.1
    unfold CH at this ⊢
    rw [u1 _ _ (by omega), u1 _ _ (by omega)]
    exact this
  rw [R2, T2]
  refine c_fitOut (M0 := M) rfl rfl ch1 ld1 R1 (fun M2 f2 V2 => ⟨rfl, c_soonest V2 (isP_ahead (by omega)) (by omega) (by omega) (shw_fr (a1 (mn M) (Nat.le_refl _)) (fun k => (f2 _ k (by omega) (by omega)).trans (u1 _ k (by omega)))) inA T1 (fun M3 f3 => ⟨_, rfl, _, rfl, ?_⟩)⟩)
  have E3 : Eq0 (up M 0 7 (M 0 7 + 1)) M3 := Eq0_vy E1' (fun b k q1 q2 q3 q4 => (f3 b k q3 q4).trans (f2 b k q1 q2))
  -- the reference, over a memory in which the class's counter has gone on
  have GX : GM (up M 0 7 (M 0 7 + 1)) := ec_GM (fun b k h1 _ _ _ => up_ne _ _ (by omega)) hG
  have VX : VM (up M 0 7 (M 0 7 + 1)) 0 0 0 = VM M 0 0 0 := VM_C (fun b k h1 _ _ _ => up_ne _ _ (by omega)) (fun t => up_ne _ _ (by omega)) 0 0 0
  have nX : mn (up M 0 7 (M 0 7 + 1)) = mn M := by unfold mn; rw [up_ne _ _ (by omega)]
  have wX : mw (up M 0 7 (M 0 7 + 1)) = mw M := by unfold mw; rw [up_ne _ _ (by omega)]
  have hX : mh (up M 0 7 (M 0 7 + 1)) = mh M := by unfold mh; rw [up_ne _ _ (by omega)]
  refine L_Mod_course_0 ⟨fun _ => ?_, fun q => absurd (by rw [← R2, ← T2]; exact hv) q⟩
  refine m_goPlain GX E3 (fun M4 E4 N4 a4 _ => ⟨rfl, ?_⟩)
  rw [VX, nX, wX, hX] at a4
  have C4 := MCH_fr GX E4
  rw [wX, hX] at C4
  refine m_cells C4 a4 ⟨_, rfl, fun z => absurd ((cntI_0 inA w20 h20).mp z) (fun q => q ne), fun z => ?_⟩
  have e23 : M4 516 23 = M 516 23 := (E4 _ _ (ns_516 (by decide))).trans (up_ne _ _ (by omega))
  rw [e23]
  refine ⟨fun q => absurd q c23, fun _ => ?_⟩
  have E4b : Eq0 (up M 0 7 (M 0 7 + 1)) M4 := E4
  have G5 : GM (up M4 516 23 (M 516 23 + 1)) := ec_GM (EqC_516 E4b (by decide) _) GX
  obtain ⟨m1, m2, m3⟩ := mn_516 E4b (k := 23) (by decide) (M 516 23 + 1)
  have a5 : shA (up M4 516 23 (M 516 23 + 1)) 527 (mw (up M4 516 23 (M 516 23 + 1))) (mh (up M4 516 23 (M 516 23 + 1))) (AH (VM M 0 0 0) (mn M)) := by
    rw [m2, m3, wX, hX]; exact shA_fr a4 (fun k => up_ne _ _ (by omega))
  have N5 : Ms0 (up M4 516 23 (M 516 23 + 1)) (up M4 516 23 (M 516 23 + 1)) := by
    intro x y hx hy
    rw [m2] at hx; rw [m3] at hy
    rw [m2, m3, mLI_516 E4b, up_ne _ _ (by omega)]
    exact N4 x y hx hy
  refine m_courseLoop G5 (Eq0_refl _) N5 a5 (by rw [m2, m3, wX, hX]; exact inA) ne R1 T1 ⟨?_, ?_⟩
  · have es : ∀ p, sureT (up M4 516 23 (M 516 23 + 1)) (nI p) v d R T (AH (VM M 0 0 0) (mn M)) = sureT M (nI p) v d R T (AH (VM M 0 0 0) (mn M)) := fun p => by
      have ml : mLd (up M4 516 23 (M 516 23 + 1)) = mLd M := by
        funext x y
        unfold mLd
        rw [m2, m3, wX, hX, up_ne _ _ (by omega), E4b _ _ (ns_5 (by decide) (by decide)), up_ne _ _ (by omega)]
      unfold sureT agT sgT nrB
      rw [ml, m2, m3, wX, hX]
    rw [show (fun p => sureT (up M4 516 23 (M 516 23 + 1)) (nI p) v d R T (AH (VM M 0 0 0) (mn M))) = (fun p => sureT M (nI p) v d R T (AH (VM M 0 0 0) (mn M))) from funext es]
  · refine Rel_ct hR (j := 1) (by decide) hlt (M1 := M4) E4 ?_
    show Eq0 (up M4 516 23 (M4 516 23 + 1)) _
    rw [e23]
    exact Eq0_refl _
end TU

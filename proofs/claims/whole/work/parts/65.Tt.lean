/-! more questions; counters -/
theorem parts_m {M : Mem} (h : RBd M) {v : Nat} (hv : v < nw M) {j : Nat} (hj : j < 5) : M (6 + 5 * v + 3) j = mES M v (nI j - 2) ∧ M (6 + 5 * v + 4) j = mNS M v (nI j - 2) ∧ M (6 + 5 * v) 4 + M 4 2 = mSp M v true := by
  obtain ⟨b1, b2, b3, b4, b5, b6, b7⟩ := h
  obtain ⟨w1, w2, w3⟩ := b5 v (by omega)
  obtain ⟨e1, e2, e3, -, -⟩ := b6 v hv
  have s7 : M (6 + 5 * v) 7 = M 522 (3 * v + 1) := e3 1 (by decide)
  have s8 : M (6 + 5 * v) 8 = M 522 (3 * v + 2) := e3 2 (by decide)
  have kk : ∀ k, k < 8 → M (6 + 5 * v + 2) (k / 2) = mkn M v (k / 2) := fun k hk => e2 (k / 2) (by omega)
  have pp : ∀ k, k < 8 → M (6 + 5 * v + 1) k = mpg M v k := fun k hk => (e1 k hk).1
  refine ⟨?_, ?_, ?_⟩
  · rw [(w1 j hj).1]
    unfold eS mES
    rw [s7, s8]
    exact sumF_congr fun k hk => by unfold eT; rw [pp k hk, kk k hk]
  · rw [(w1 j hj).2]
    unfold nS mNS
    rw [s7, s8]
    exact sumF_congr fun k hk => by unfold nT; rw [pp k hk, kk k hk]
  · have xl : sumF (lT (M (6 + 5 * v + 1)) (M (6 + 5 * v + 2))) 8 = sumF (lT (mpg M v) (mkn M v)) 8 := sumF_congr fun k hk => by unfold lT; rw [pp k hk, kk k hk]
    rw [w2, b4]
    unfold mSp lS
    rw [xl, if_pos rfl, sumF_th, Int32.add_comm, Int32.mul_comm]
theorem cLI_eq {M : Mem} (hR : Rel M) : cLI M = mLI M (mw M) (mh M) := by
  obtain ⟨-, ⟨⟨c1, c2, c3⟩, ⟨c4, c5, c6⟩, -, -, -, -, -, c8, -⟩, -⟩ := hR
  funext a b
  apply propext
  unfold cLI mLI
  constructor
  · rintro ⟨q1, q2, q3, q4, q5⟩
    rw [c8 b.toNat (by omega) a.toNat] at q5
    obtain ⟨p1, p2, p3⟩ := bB_iff.mp q5
    exact ⟨q1, by omega, q3, by omega, p3⟩
  · rintro ⟨q1, q2, q3, q4, q5⟩
    refine ⟨q1, by omega, q3, by omega, ?_⟩
    rw [c8 b.toNat (by omega) a.toNat]
    exact bB_t ⟨by omega, by omega, q5⟩
theorem RelCt {M : Mem} (hR : Rel M) {j : Nat} (hj : j < 3) (hlt : (M 516 (22 + j)).toInt < 20) : Rel (up (up M 0 (6 + j) (M 0 (6 + j) + 1)) 516 (22 + j) (M 516 (22 + j) + 1)) := by
  have f : ∀ b k, ¬ (b = 0 ∧ k = 6 + j) → ¬ (b = 516 ∧ k = 22 + j) → up (up M 0 (6 + j) (M 0 (6 + j) + 1)) 516 (22 + j) (M 516 (22 + j) + 1) b k = M b k := fun b k h1 h2 => by rw [up_ne _ _ h2, up_ne _ _ h1]
  obtain ⟨h1, h2, h3, h4, n1, n2, n3⟩ := hR
  refine ⟨RBd_fr h1 (fun b k q => f b k (by unfold bdC at q; omega) (by unfold bdC at q; omega)), RCh_fr h2 (fun b k q => f b k (by unfold chC at q; omega) (by unfold chC at q; omega)), RLg_fr h3 (fun b k q => f b k (by unfold lgC at q; omega) (by unfold lgC at q; omega)), RWd_fr h4 (fun b k q => f b k (by unfold wdC at q; omega) (by unfold wdC at q; omega)), fun i hi => ?_, fun k hk => ?_, fun k hk => ?_⟩
  · obtain ⟨q1, q2, q3⟩ := n1 i hi
    by_cases e : i = j
    · subst e
      have a1 := i_add1 (v := M 516 (22 + i)) (by omega)
      rw [up_same, up_ne _ _ (by omega), up_same, q1]
      exact ⟨rfl, by omega, by omega⟩
    · rw [f _ _ (by omega) (by omega), f _ _ (by omega) (by omega)]
      exact ⟨q1, q2, q3⟩
  · rw [f _ _ (by omega) (by omega)]; exact n2 k hk
  · rw [f _ _ (by omega) (by omega)]; exact n3 k hk
theorem ct_lt {M : Mem} (hR : Rel M) {j : Nat} (hj : j < 3) : (M 0 (6 + j) < 20 ↔ (M 516 (22 + j)).toInt < 20) ∧ (20 ≤ M 0 (6 + j) ↔ M 516 (22 + j) = 20) := by
  obtain ⟨q1, q2, q3⟩ := hR.2.2.2.2.1 j hj
  rw [q1, i_lt, i_le, i_eqI]
  exact ⟨Iff.rfl, ⟨fun q => by show _ = (20 : Int); have q : (20 : Int) ≤ _ := q; omega, fun q => by rw [q]; exact Int.le_refl _⟩⟩
theorem flm_congr {M M' : Mem} (h : ∀ g m b, VM M' g m b = VM M g m b) (hn : mn M' = mn M) (x y : Nat) : flm M' x y = flm M x y := by
  unfold flm
  refine lsF_congr _ (fun G _ => ?_)
  unfold fl1
  refine lsF_congr _ (fun m _ => ?_)
  unfold fl2
  refine lsF_congr _ (fun B _ => ?_)
  unfold fl3 fitP
  rw [h, hn]
section TT
variable {xs : List Int32} {M : Mem} {L : Int64}
theorem y_about (hR : Rel M) (a b c : Int32) : Tw xs md_Peg_about md_Mod_about [.ref 0, .int a, .int b, .int c] [.ref 516, .int a, .int b, .int c] M L := by
  have ci := cell_iff hR (Eq0_refl M) (x := a) (y := b)
  have hG := Rel_GM hR
  refine L_Peg_about_0 ⟨fun h => ?_, fun h => ⟨_, rfl, L_Mod_about_0 ⟨fun q => absurd (ci.mp q) h, fun _ => ⟨rfl, hR⟩⟩⟩⟩
  obtain ⟨x, y, x1, y1, x2, y2, x3, y3⟩ := cell_nI hR h
  have h' := ci.mpr h
  obtain ⟨e1, e2, e3⟩ := hR.2.1.2.2.2.2.2.1 x y x2 y2
  have vp := vp_nI (k := 20 * y + x) (n := 400) (by omega) (by omega)
  have e0 : (20 : Int32) * b + a = nI (20 * y + x) := by rw [x3, y3, nI_at]
  have e0' : b * 20 + a = nI (20 * y + x) := by rw [x3, y3, nI_yx]
  refine ⟨fun h2 => ⟨fun z => ?_, fun z => ⟨fun z1 => ?_, fun z1 => ?_⟩⟩, fun h2 => ⟨_, rfl, L_Mod_about_0 ⟨fun _ => ⟨fun q => absurd (by rw [q]; decide) h2, fun _ => ⟨fun q => absurd (by rw [q]; decide) h2, fun _ => ⟨fun q => absurd (by rw [q]; decide) h2, fun _ => ⟨rfl, hR⟩⟩⟩⟩, fun q => absurd h' q⟩⟩⟩
  · refine L_Chart_depthAt_0 ⟨fun _ => ?_, fun q => absurd h q⟩
    rw [e0', nI_cl (by omega)]
    refine ⟨vp, _, rfl, _, rfl, L_Mod_about_0 ⟨fun _ => ⟨fun _ => ?_, fun q => absurd z q⟩, fun q => absurd h' q⟩⟩
    rw [e0, nI_cl (by omega)]
    exact ⟨vp, by rw [e1], hR⟩
  · refine ⟨_, rfl, L_Mod_about_0 ⟨fun _ => ⟨fun q => absurd q z, fun _ => ⟨fun _ => ?_, fun q => absurd z1 q⟩⟩, fun q => absurd h' q⟩⟩
    rw [e0, nI_cl (by omega)]
    have ans : bI ((0 ≤ a ∧ a ≤ 19) ∧ (0 ≤ b ∧ b ≤ 19) ∧ gp M 132 a.toNatClampNeg b.toNatClampNeg = true) = if M 524 (20 * y + x) = 0 then 0 else 1 := by
      rw [x3, y3, nI_cl (by omega), nI_cl (by omega), hR.2.1.2.2.2.2.2.2.2.2 y (by omega) x]
      have r : (0 ≤ nI x ∧ nI x ≤ 19) ∧ (0 ≤ nI y ∧ nI y ≤ 19) := ⟨⟨by rw [i_le, i_nI (by omega)]; show (0 : Int) ≤ _; omega, by rw [i_le, i_nI (by omega)]; show _ ≤ (19 : Int); omega⟩, ⟨by rw [i_le, i_nI (by omega)]; show (0 : Int) ≤ _; omega, by rw [i_le, i_nI (by omega)]; show _ ≤ (19 : Int); omega⟩⟩
      by_cases e : M 524 (20 * y + x) = 0
      · rw [if_pos e]; exact bI_f (fun q => (bB_iff.mp q.2.2).2.2 e)
      · rw [if_neg e]; exact bI_t ⟨r.1, r.2, bB_t ⟨x1, y1, e⟩⟩
    refine ⟨vp, fun q => ⟨?_, hR⟩, fun q => ⟨?_, hR⟩⟩
    · rw [ans, if_pos q]
    · rw [ans, if_neg q]
  · have z2 : c = 2 := by
      obtain ⟨k, k1, k2⟩ := le_nI (n := 2) (by decide) h2
      match k, k1 with
      | 0, _ => exact absurd k2 z
      | 1, _ => exact absurd k2 z1
      | 2, _ => exact k2
    rw [x3, y3]
    refine s_Chart_leastNear x2 y2 ⟨_, rfl, _, rfl, L_Mod_about_0 ⟨fun _ => ⟨fun q => absurd q z, fun _ => ⟨fun q => absurd q z1, fun _ => ⟨fun _ => ?_, fun q => absurd z2 q⟩⟩⟩, fun q => absurd (by rw [← x3, ← y3]; exact h') q⟩⟩
    refine s_Mod_nearest x2 y2 hG.1 ⟨_, rfl, ?_, hR⟩
    rw [cLI_eq hR]
theorem y_many (hR : Rel M) (a : Int32) : Tw xs md_Peg_many md_Mod_many [.ref 0, .int a] [.ref 516, .int a] M L := by
  have hG := Rel_GM hR
  have hR' := hR
  obtain ⟨⟨b1, -, -, b4, -⟩, ⟨⟨c1, c2, c3⟩, ⟨c4, c5, c6⟩, d1, d2, -, -, -, c8, -⟩, ⟨-, -, -, -, l5, -⟩, ⟨w1, -⟩, ⟨n1, -⟩⟩ := hR'
  have e6 : M 0 6 = M 516 22 := (n1 0 (by decide)).1
  have e7 : M 0 7 = M 516 23 := (n1 1 (by decide)).1
  have e8 : M 0 8 = M 516 24 := (n1 2 (by decide)).1
  by_cases h0 : a = 0
  · exact L_Peg_many_0 (Or.inl ⟨h0, _, rfl, L_Mod_many_0 (Or.inl ⟨h0, by rw [b1], hR⟩)⟩)
  by_cases h1 : a = 1
  · exact L_Peg_many_0 (Or.inr (Or.inl ⟨h1, _, rfl, L_Mod_many_0 (Or.inr (Or.inl ⟨h1, by rw [l5], hR⟩))⟩))
  by_cases h2 : a = 2
  · refine L_Peg_many_0 (Or.inr (Or.inr (Or.inl ⟨h2, t_size isP_130 c8 (mLd_in M) c3 c6 ⟨_, rfl, _, rfl, L_Mod_many_0 (Or.inr (Or.inr (Or.inl ⟨h2, m_landMany hG.1 ⟨_, rfl, ?_, hR⟩⟩)))⟩⟩)))
    congr 3
    refine cntY_congr (fun x y hx hy => bB_congr ?_)
    unfold mLI
    exact ⟨fun q => ⟨hx, hy, q.2.2.2.2⟩, fun q => ⟨by omega, by omega, by omega, by omega, q.2.2⟩⟩
  by_cases h3 : a = 3
  · exact L_Peg_many_0 (Or.inr (Or.inr (Or.inr (Or.inl ⟨h3, _, rfl, L_Mod_many_0 (Or.inr (Or.inr (Or.inr (Or.inl ⟨h3, by rw [w1], hR⟩))))⟩))))
  by_cases h4 : a = 4
  · exact L_Peg_many_0 (Or.inr (Or.inr (Or.inr (Or.inr (Or.inl ⟨h4, _, rfl, L_Mod_many_0 (Or.inr (Or.inr (Or.inr (Or.inr (Or.inl ⟨h4, by rw [e6], hR⟩)))))⟩)))))
  by_cases h5 : a = 5
  · exact L_Peg_many_0 (Or.inr (Or.inr (Or.inr (Or.inr (Or.inr (Or.inl ⟨h5, _, rfl, L_Mod_many_0 (Or.inr (Or.inr (Or.inr (Or.inr (Or.inr (Or.inl ⟨h5, by rw [e7], hR⟩))))))⟩))))))
  by_cases h6 : a = 6
  · exact L_Peg_many_0 (Or.inr (Or.inr (Or.inr (Or.inr (Or.inr (Or.inr (Or.inl ⟨h6, _, rfl, L_Mod_many_0 (Or.inr (Or.inr (Or.inr (Or.inr (Or.inr (Or.inr (Or.inl ⟨h6, by rw [d1], hR⟩)))))))⟩)))))))
  by_cases h7 : a = 7
  · exact L_Peg_many_0 (Or.inr (Or.inr (Or.inr (Or.inr (Or.inr (Or.inr (Or.inr (Or.inl ⟨h7, _, rfl, L_Mod_many_0 (Or.inr (Or.inr (Or.inr (Or.inr (Or.inr (Or.inr (Or.inr (Or.inl ⟨h7, by rw [d2], hR⟩))))))))⟩))))))))
  by_cases h8 : a = 8
  · exact L_Peg_many_0 (Or.inr (Or.inr (Or.inr (Or.inr (Or.inr (Or.inr (Or.inr (Or.inr (Or.inl ⟨h8, _, rfl, L_Mod_many_0 (Or.inr (Or.inr (Or.inr (Or.inr (Or.inr (Or.inr (Or.inr (Or.inr (Or.inl ⟨h8, by rw [b4], hR⟩)))))))))⟩)))))))))
  by_cases h9 : a = 9
  · exact L_Peg_many_0 (Or.inr (Or.inr (Or.inr (Or.inr (Or.inr (Or.inr (Or.inr (Or.inr (Or.inr (Or.inl ⟨h9, _, rfl, L_Mod_many_0 (Or.inr (Or.inr (Or.inr (Or.inr (Or.inr (Or.inr (Or.inr (Or.inr (Or.inr (Or.inl ⟨h9, by rw [e8], hR⟩))))))))))⟩))))))))))
  have ho : a < 0 ∨ 9 < a := by
    rw [i_lt, i_lt]
    show a.toInt < 0 ∨ (9 : Int) < a.toInt
    rw [i_eqI] at h0 h1 h2 h3 h4 h5 h6 h7 h8 h9
    have h0 : ¬ a.toInt = 0 := h0
    have h1 : ¬ a.toInt = 1 := h1
    have h2 : ¬ a.toInt = 2 := h2
    have h3 : ¬ a.toInt = 3 := h3
    have h4 : ¬ a.toInt = 4 := h4
    have h5 : ¬ a.toInt = 5 := h5
    have h6 : ¬ a.toInt = 6 := h6
    have h7 : ¬ a.toInt = 7 := h7
    have h8 : ¬ a.toInt = 8 := h8
    have h9 : ¬ a.toInt = 9 := h9
    omega
  exact L_Peg_many_0 (Or.inr (Or.inr (Or.inr (Or.inr (Or.inr (Or.inr (Or.inr (Or.inr (Or.inr (Or.inr ⟨ho, _, rfl, L_Mod_many_0 (Or.inr (Or.inr (Or.inr (Or.inr (Or.inr (Or.inr (Or.inr (Or.inr (Or.inr (Or.inr ⟨ho, rfl, hR⟩))))))))))⟩))))))))))
theorem y_way (hR : Rel M) (a b c d : Int32) : Tw xs md_Peg_way md_Mod_way [.ref 0, .int a, .int b, .int c, .int d] [.ref 516, .int a, .int b, .int c, .int d] M L := by
  have hG := Rel_GM hR
  have wi := watch_iff hR (M' := M) rfl (w := a)
  have h10 : ¬ (1 : Int32) = 0 := by decide
  have out : ∀ (h : 0 ≤ a ∧ a < M 4 1), ¬ ((-9 ≤ b ∧ b ≤ 9) ∧ (-2 ≤ c ∧ c ≤ 2) ∧ (0 ≤ d ∧ d ≤ 2)) → ∃ v : Int32, some (Value.int (-10000002)) = some (Value.int v) ∧ RX xs shL md_Mod_way 0 [.ref 516, .int a, .int b, .int c, .int d] [] M L (fun r2 M2 _ => r2 = some (.int v) ∧ Rel M2) := fun h q => ⟨_, rfl, L_Mod_way_0 ⟨fun _ => ⟨fun q1 => ⟨fun q2 => ⟨fun q3 => absurd ⟨q1, q2, q3⟩ q, fun _ => ⟨rfl, hR⟩⟩, fun _ => ⟨rfl, hR⟩⟩, fun _ => ⟨rfl, hR⟩⟩, fun z => absurd (wi.mpr h) z⟩⟩
  refine L_Peg_way_0 ⟨fun h => ⟨fun h2 => ⟨fun h3 => ⟨fun e => absurd e h10, fun _ => ⟨fun h4 => ?_, fun h4 => out h (fun q => h4 q.2.2)⟩⟩, fun h3 => ⟨fun _ => out h (fun q => h3 q.2.1), fun e => absurd rfl e⟩⟩, fun h2 => ⟨fun _ => out h (fun q => h2 q.1), fun e => absurd rfl e⟩⟩, fun h => ⟨_, rfl, L_Mod_way_0 ⟨fun q => absurd (wi.mp q) h, fun _ => ⟨rfl, hR⟩⟩⟩⟩
  obtain ⟨v, v1, v2, v3⟩ := watch_nI hR h
  have hcI : -2 ≤ c.toInt ∧ c.toInt ≤ 2 := by
    rw [i_le, i_le] at h3
    exact h3
  obtain ⟨B, B1, B2⟩ : ∃ B, B < 5 ∧ c = nI B - 2 := ⟨(c.toInt + 2).toNat, by omega, i_eq (by
    have := bO_i (B := (c.toInt + 2).toNat) (by omega)
    unfold bO at this
    rw [this]; omega)⟩
  have cB : c + 2 = nI B := i_eq (by
    have := bO_i (B := B) (by omega)
    unfold bO at this
    rw [← B2] at this
    rw [i_add (by show _ ≤ _ + (2 : Int); omega) (by show _ + (2 : Int) < _; omega), i_nI (by omega)]
    show c.toInt + 2 = _
    omega)
  have cl : a.toNatClampNeg = v := by rw [v3, nI_cl (by omega)]
  obtain ⟨p1, p2, p3⟩ := parts_m hR.1 v1 B1
  rw [← B2] at p1 p2
  obtain ⟨we1, we2, we3, we4, we5⟩ := hR.1.2.2.2.2.2.1 v v1
  have fin : ∀ w : Int32, (w = if d = 0 then mE M v b c true else if d = 1 then mN M v b c true else mSp M v true) → ∃ v' : Int32, some (Value.int w) = some (Value.int v') ∧ RX xs shL md_Mod_way 0 [.ref 516, .int a, .int b, .int c, .int d] [] M L (fun r2 M2 _ => r2 = some (.int v') ∧ Rel M2) := by
    intro w hw
    refine ⟨_, rfl, L_Mod_way_0 ⟨fun _ => ⟨fun _ => ⟨fun _ => ⟨fun _ => ?_, fun q => absurd h4 q⟩, fun q => absurd h3 q⟩, fun q => absurd h2 q⟩, fun q => absurd (wi.mpr h) q⟩⟩
    rw [v3]
    refine s_Mod_goWatch v2 hG.2.2.2.2.2.1 (fun k hk => (we1 k hk).2) we4 we5 hcI ⟨rfl, ?_⟩
    rw [if_neg h10, if_neg h10, if_neg h10, gW_26, gW_27, gW_28]
    have hE := Eq0_gW (Eq0_refl M) (mE M v b c true) (mN M v b c true) (mSp M v true)
    have rel := Rel_0 hR hE
    refine ⟨fun z => ⟨?_, rel⟩, fun z => ⟨fun z1 => ⟨?_, rel⟩, fun z1 => ⟨?_, rel⟩⟩⟩
    · rw [hw, if_pos z]; rfl
    · rw [hw, if_neg z, if_pos z1]; rfl
    · rw [hw, if_neg z, if_neg z1]; rfl
  rw [cl]
  refine ⟨by rw [v3]; exact vp_nI (by omega) (by omega), fun z => fin _ ?_, fun z => ⟨fun z0 => L_Watch_wayEast_0 v2 ?_, fun z0 => L_Watch_wayNorth_0 v2 ?_⟩⟩
  · rw [p3, z]; rfl
  · rw [cB, nI_cl (by omega), p1, fdvd100]
    exact ⟨vp_nI (by omega) (by omega), _, rfl, fin _ (by rw [if_pos z0]; rfl)⟩
  · rw [cB, nI_cl (by omega), p2, fdvd100]
    refine ⟨vp_nI (by omega) (by omega), _, rfl, fin _ ?_⟩
    have z1 : d = 1 := by
      obtain ⟨k, k1, k2⟩ := le_nI (n := 2) (by decide) h4
      match k, k1 with
      | 0, _ => exact absurd k2 z0
      | 1, _ => exact k2
      | 2, _ => exact absurd k2 z
    rw [if_neg z0, if_pos z1]; rfl
end TT

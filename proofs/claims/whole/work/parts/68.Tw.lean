/-! calls that change the state: words, the board -/
theorem RLg_fr2 {M M' : Mem} (h : RLg M) (f : ∀ b k, lgC b k → ¬ (b = 516 ∧ k = 4) → M' b k = M b k) (hw : nw M ≤ nw M') : RLg M' := by
  obtain ⟨⟨l1, l1'⟩, ⟨l2, l2'⟩, ⟨l3, l3'⟩, ⟨l4, l4'⟩, l5, l6, l7, l8, l9⟩ := h
  have e20 : M' 516 20 = M 516 20 := f _ _ (by unfold lgC; omega) (by omega)
  have e17 : M' 516 17 = M 516 17 := f _ _ (by unfold lgC; omega) (by omega)
  have e18 : M' 516 18 = M 516 18 := f _ _ (by unfold lgC; omega) (by omega)
  have e19 : M' 516 19 = M 516 19 := f _ _ (by unfold lgC; omega) (by omega)
  have en : mn M' = mn M := by unfold mn; rw [e20]
  have ex : msx M' = msx M := by unfold msx; rw [e17]
  have ey : msy M' = msy M := by unfold msy; rw [e18]
  have er : msr M' = msr M := by unfold msr; rw [e19]
  refine ⟨⟨?_, ?_⟩, ⟨?_, ?_⟩, ⟨?_, ?_⟩, ⟨?_, ?_⟩, ?_, ?_, ?_, ?_, fun t ht => ?_⟩
  · rw [e20, en]; exact l1
  · rw [en]; exact l1'
  · rw [e17, ex]; exact l2
  · rw [ex]; exact l2'
  · rw [e18, ey]; exact l3
  · rw [ey]; exact l3'
  · rw [e19, er]; exact l4
  · rw [er]; exact l4'
  · rw [e20, f 134 _ (by unfold lgC; omega) (by omega)]; exact l5
  · rw [e17, f 134 _ (by unfold lgC; omega) (by omega)]; exact l6
  · rw [e18, f 134 _ (by unfold lgC; omega) (by omega)]; exact l7
  · rw [e19, f 134 _ (by unfold lgC; omega) (by omega)]; exact l8
  · rw [en] at ht
    exact RwE_fr (by omega) (l9 t ht) (fun k => f _ _ (by unfold lgC; omega) (by omega)) (fun j hj => f _ _ (by unfold lgC; omega) (by omega)) hw
theorem Rel_wd {M N : Mem} (hR : Rel M) (hW : RWd N) (f : ∀ b k, ¬ wdC b k → N b k = M b k) : Rel N := by
  obtain ⟨h1, h2, h3, h4, h5⟩ := hR
  exact ⟨RBd_fr h1 (fun b k q => f b k (by unfold bdC at q; unfold wdC; omega)), RCh_fr h2 (fun b k q => f b k (by unfold chC at q; unfold wdC; omega)), RLg_fr h3 (fun b k q => f b k (by unfold lgC at q; unfold wdC; omega)), hW, RNm_fr h5 (fun b k q => f b k (by unfold nmC2 at q; unfold wdC; omega))⟩
theorem Rel_bd {M N : Mem} (hR : Rel M) (hB : RBd N) (hw : nw M ≤ nw N) (f : ∀ b k, ¬ bdC b k → N b k = M b k) : Rel N := by
  obtain ⟨h1, h2, h3, h4, h5⟩ := hR
  exact ⟨hB, RCh_fr h2 (fun b k q => f b k (by unfold chC at q; unfold bdC; omega)), RLg_fr2 h3 (fun b k q q2 => f b k (by unfold lgC at q; unfold bdC; omega)) hw, RWd_fr h4 (fun b k q => f b k (by unfold wdC at q; unfold bdC; omega)), RNm_fr h5 (fun b k q => f b k (by unfold nmC2 at q; unfold bdC; omega))⟩
theorem Rel_ch {M N : Mem} (hR : Rel M) (hC : RCh N) (f : ∀ b k, ¬ chC b k → N b k = M b k) : Rel N := by
  obtain ⟨h1, h2, h3, h4, h5⟩ := hR
  exact ⟨RBd_fr h1 (fun b k q => f b k (by unfold bdC at q; unfold chC; omega)), hC, RLg_fr h3 (fun b k q => f b k (by unfold lgC at q; unfold chC; omega)), RWd_fr h4 (fun b k q => f b k (by unfold wdC at q; unfold chC; omega)), RNm_fr h5 (fun b k q => f b k (by unfold nmC2 at q; unfold chC; omega))⟩
theorem Rel_lg {M N : Mem} (hR : Rel M) (hL : RLg N) (f : ∀ b k, ¬ (lgC b k ∧ ¬ (b = 516 ∧ k = 4)) → N b k = M b k) : Rel N := by
  obtain ⟨h1, h2, h3, h4, h5⟩ := hR
  exact ⟨RBd_fr h1 (fun b k q => f b k (by unfold bdC at q; unfold lgC; omega)), RCh_fr h2 (fun b k q => f b k (by unfold chC at q; unfold lgC; omega)), hL, RWd_fr h4 (fun b k q => f b k (by unfold wdC at q; unfold lgC; omega)), RNm_fr h5 (fun b k q => f b k (by unfold nmC2 at q; unfold lgC; omega))⟩
/-- a watch's sums are right behind summing up -/
theorem WC_wSum (M : Mem) (t : Nat) : WC (wSum M t) t := by
  have e0 : ∀ k, k ≠ 4 → k ≠ 5 → wSum M t (6 + 5 * t) k = M (6 + 5 * t) k := fun k h1 h2 => by
    unfold wSum; rw [rowN_o _ _ _ (by omega), rowN_o _ _ _ (by omega), up_ne _ _ (by omega), up_ne _ _ (by omega)]
  have e1 : wSum M t (6 + 5 * t + 1) = M (6 + 5 * t + 1) := funext fun k => by
    unfold wSum; rw [rowN_o _ _ _ (by omega), rowN_o _ _ _ (by omega), up_ne _ _ (by omega), up_ne _ _ (by omega)]
  have e2 : wSum M t (6 + 5 * t + 2) = M (6 + 5 * t + 2) := funext fun k => by
    unfold wSum; rw [rowN_o _ _ _ (by omega), rowN_o _ _ _ (by omega), up_ne _ _ (by omega), up_ne _ _ (by omega)]
  refine ⟨fun j hj => ⟨?_, ?_⟩, ?_, ?_⟩
  · have : wSum M t (6 + 5 * t + 3) j = eS M t j := by unfold wSum; rw [rowN_o _ _ _ (by omega), rowN_lt _ _ _ hj]
    rw [this]; unfold eS; rw [e1, e2, e0 7 (by decide) (by decide), e0 8 (by decide) (by decide)]
  · have : wSum M t (6 + 5 * t + 4) j = nS M t j := by unfold wSum; rw [rowN_lt _ _ _ hj]
    rw [this]; unfold nS; rw [e1, e2, e0 7 (by decide) (by decide), e0 8 (by decide) (by decide)]
  · have : wSum M t (6 + 5 * t) 4 = lS M t * 1000 := by unfold wSum; rw [rowN_o _ _ _ (by omega), rowN_o _ _ _ (by omega), up_ne _ _ (by omega)]; exact up_same _ _ _ _
    rw [this]; unfold lS; rw [e1, e2]
  · have : wSum M t (6 + 5 * t) 5 = aS M t * 1000 := by unfold wSum; rw [rowN_o _ _ _ (by omega), rowN_o _ _ _ (by omega)]; exact up_same _ _ _ _
    rw [this]; unfold aS; rw [e2]
theorem wSum_o (M : Mem) {t b k : Nat} (h : ¬ (b = 6 + 5 * t ∧ (k = 4 ∨ k = 5)) ∧ b ≠ 6 + 5 * t + 3 ∧ b ≠ 6 + 5 * t + 4) : wSum M t b k = M b k := by
  unfold wSum; rw [rowN_o _ _ _ (by omega), rowN_o _ _ _ (by omega), up_ne _ _ (by omega), up_ne _ _ (by omega)]
section TW
variable {xs : List Int32} {M : Mem} {L : Int64}
theorem y_word (hR : Rel M) (a : Int32) : Tw xs md_Peg_word md_Mod_word [.ref 0, .int a] [.ref 516, .int a] M L := by
  obtain ⟨w1, w2, w3, w4⟩ := hR.2.2.2.1
  refine L_Peg_word_0 ⟨fun h => ?_, fun h => ⟨_, rfl, L_Mod_word_0 ⟨fun q => absurd q h, fun _ => ⟨rfl, hR⟩⟩⟩⟩
  refine L_Words_append_0 ⟨fun c => ?_, fun c => ?_⟩
  · rw [w1, w2] at c ⊢
    have c := (nI_ltI (a := nwd M) (b := 24) (by omega) (by omega)).mp c
    rw [nI_cl (by omega), nI_1]
    refine ⟨vp_nI (by omega) (by omega), _, rfl, fun e => absurd e (by decide), fun _ => ⟨_, rfl, ?_⟩⟩
    rw [up_same]
    have m2 : up (up M 2 (nwd M) a) 1 2 (nI (nwd M + 1)) 516 2 = nI (nwd M) := by rw [up_ne _ _ (by omega), up_ne _ _ (by omega)]; exact w2
    refine L_Mod_word_0 ⟨fun _ => ?_, fun q => absurd h q⟩
    rw [m2, nI_cl (by omega), nI_1]
    refine ⟨fun e => ?_, fun _ => ⟨vp_nI (by omega) (by omega), rfl, ?_⟩⟩
    · have := congrArg Int32.toInt e
      rw [i_nI (by omega)] at this
      have : (nwd M : Int) = 24 := this
      omega
    · have fr : ∀ b k, ¬ (b = 1 ∧ k = 2) → ¬ (b = 516 ∧ k = 2) → ¬ (b = 2 ∧ k = nwd M) → ¬ (b = 519 ∧ k = nwd M) → up (up (up (up M 2 (nwd M) a) 1 2 (nI (nwd M + 1))) 519 (nwd M) a) 516 2 (nI (nwd M + 1)) b k = M b k := fun b k q1 q2 q3 q4 => by
        rw [up_ne _ _ q2, up_ne _ _ q4, up_ne _ _ q1, up_ne _ _ q3]
      have n2 : up (up (up (up M 2 (nwd M) a) 1 2 (nI (nwd M + 1))) 519 (nwd M) a) 516 2 (nI (nwd M + 1)) 516 2 = nI (nwd M + 1) := up_same _ _ _ _
      have nn : nwd (up (up (up (up M 2 (nwd M) a) 1 2 (nI (nwd M + 1))) 519 (nwd M) a) 516 2 (nI (nwd M + 1))) = nwd M + 1 := by
        show (up (up (up (up M 2 (nwd M) a) 1 2 (nI (nwd M + 1))) 519 (nwd M) a) 516 2 (nI (nwd M + 1)) 516 2).toNatClampNeg = nwd M + 1
        rw [n2, nI_cl (by omega)]
      refine Rel_wd hR ⟨?_, ?_, ?_, fun i hi => ?_⟩ (fun b k q => fr b k (fun z => q (by unfold wdC; omega)) (fun z => q (by unfold wdC; omega)) (fun z => q (by unfold wdC; omega)) (fun z => q (by unfold wdC; omega)))
      · rw [n2, up_ne _ _ (by omega), up_ne _ _ (by omega)]; exact up_same _ _ _ _
      · rw [n2, nn]
      · rw [nn]; omega
      · by_cases e : i = nwd M
        · rw [e, up_ne _ _ (by omega), up_ne _ _ (by omega), up_ne _ _ (by omega), up_same, up_ne _ _ (by omega), up_same]
        · rw [fr 2 i (by omega) (by omega) (by omega) (by omega), fr 519 i (by omega) (by omega) (by omega) (by omega)]; exact w4 i hi
  · rw [w1, w2] at c
    have c24 : nwd M = 24 := by
      have : ¬ nwd M < 24 := fun q => c ((nI_ltI (a := nwd M) (b := 24) (by omega) (by omega)).mpr q)
      omega
    refine ⟨_, rfl, fun _ => ⟨_, rfl, L_Mod_word_0 ⟨fun _ => ⟨fun _ => ⟨rfl, hR⟩, fun q => absurd (by rw [w2, c24]; rfl) q⟩, fun q => absurd h q⟩⟩, fun e => absurd rfl e⟩
theorem y_hush (hR : Rel M) : Tw xs md_Peg_hush md_Mod_hush [.ref 0] [.ref 516] M L := by
  obtain ⟨w1, w2, w3, w4⟩ := hR.2.2.2.1
  refine L_Peg_hush_0 ⟨_, rfl, L_Mod_hush_0 ⟨?_, ?_⟩⟩
  · rw [up_ne _ _ (by omega), w1]
  · have fr : ∀ b k, ¬ (b = 1 ∧ k = 2) → ¬ (b = 516 ∧ k = 2) → up (up M 1 2 0) 516 2 0 b k = M b k := fun b k q1 q2 => by rw [up_ne _ _ q2, up_ne _ _ q1]
    have nn : nwd (up (up M 1 2 0) 516 2 0) = 0 := by
      show (up (up M 1 2 0) 516 2 0 516 2).toNatClampNeg = 0
      rw [up_same]; rfl
    refine Rel_wd hR ⟨?_, ?_, ?_, fun i hi => ?_⟩ (fun b k q => fr b k (fun z => q (by unfold wdC; omega)) (fun z => q (by unfold wdC; omega)))
    · rw [up_same, up_ne _ _ (by omega)]; exact up_same _ _ _ _
    · rw [up_same, nn]; rfl
    · rw [nn]; omega
    · rw [fr 2 i (by omega) (by omega), fr 519 i (by omega) (by omega)]; exact w4 i hi
theorem y_miss (hR : Rel M) (a : Int32) : Tw xs md_Peg_miss md_Mod_miss [.ref 0, .int a] [.ref 516, .int a] M L := by
  obtain ⟨b1, b2, b3, b4, b5, b6, b7⟩ := hR.1
  refine L_Peg_miss_0 ⟨fun h => ⟨_, rfl, L_Mod_miss_0 ⟨fun _ => ⟨?_, ?_⟩, fun q => absurd h q⟩⟩, fun h => ⟨_, rfl, L_Mod_miss_0 ⟨fun q => absurd q h, fun _ => ⟨rfl, hR⟩⟩⟩⟩
  · rw [up_ne _ _ (by omega), b4]
  · have fr : ∀ b k, ¬ (b = 4 ∧ k = 2) → ¬ (b = 516 ∧ k = 8) → up (up M 4 2 a) 516 8 a b k = M b k := fun b k q1 q2 => by rw [up_ne _ _ q2, up_ne _ _ q1]
    have nn : nw (up (up M 4 2 a) 516 8 a) = nw M := by
      show (up (up M 4 2 a) 516 8 a 516 4).toNatClampNeg = _
      rw [fr _ _ (by omega) (by omega)]; rfl
    refine Rel_bd hR ⟨?_, ?_, ?_, ?_, fun v hv => WC_fr (b5 v hv) (fun b k q1 q2 => fr b k (by omega) (by omega)), fun v hv => ?_, fun v hv hv2 => WF_fr (b7 v (by rw [nn] at hv; exact hv) hv2) (fun b k q1 q2 => fr b k (by omega) (by omega))⟩ (by rw [nn]; exact Nat.le_refl _) (fun b k q => fr b k (fun z => q (by unfold bdC; omega)) (fun z => q (by unfold bdC; omega)))
    · rw [fr _ _ (by omega) (by omega), fr _ _ (by omega) (by omega)]; exact b1
    · rw [fr _ _ (by omega) (by omega), nn]; exact b2
    · rw [nn]; exact b3
    · rw [up_same, up_ne _ _ (by omega)]; exact up_same _ _ _ _
    · rw [nn] at hv
      exact WE_fr (b6 v hv) (fun b k q1 q2 => fr b k (by omega) (by omega)) (fun k _ => fr _ _ (by omega) (by omega)) (fun k _ => fr _ _ (by omega) (by omega)) (fun k _ => fr _ _ (by omega) (by omega))
/-- one watch has changed, in both -/
theorem Rel_w1 {N : Mem} (hR : Rel M) {v : Nat} (hv : v < nw M) (hc : WC N v) (he : WE N v)
    (f : ∀ b k, ¬ (6 + 5 * v ≤ b ∧ b < 11 + 5 * v) → ¬ (b = 520 ∧ 8 * v ≤ k ∧ k < 8 * v + 8) → ¬ (b = 521 ∧ 4 * v ≤ k ∧ k < 4 * v + 4) → ¬ (b = 522 ∧ 3 * v ≤ k ∧ k < 3 * v + 3) → N b k = M b k) : Rel N := by
  obtain ⟨b1, b2, b3, b4, b5, b6, b7⟩ := hR.1
  have e4 : N 516 4 = M 516 4 := f _ _ (by omega) (by omega) (by omega) (by omega)
  have nn : nw N = nw M := by unfold nw; rw [e4]
  refine Rel_bd hR ⟨?_, ?_, ?_, ?_, fun u hu => ?_, fun u hu => ?_, fun u hu hu2 => ?_⟩ (by rw [nn]; exact Nat.le_refl _) (fun b k q => f b k (by unfold bdC at q; omega) (by unfold bdC at q; omega) (by unfold bdC at q; omega) (by unfold bdC at q; omega))
  · rw [e4, f _ _ (by omega) (by omega) (by omega) (by omega)]; exact b1
  · rw [e4, nn]; exact b2
  · rw [nn]; exact b3
  · rw [f _ _ (by omega) (by omega) (by omega) (by omega), f 516 8 (by omega) (by omega) (by omega) (by omega)]; exact b4
  · by_cases e : u = v
    · subst e; exact hc
    · exact WC_fr (b5 u hu) (fun b k q1 q2 => f b k (by omega) (by omega) (by omega) (by omega))
  · rw [nn] at hu
    by_cases e : u = v
    · subst e; exact he
    · exact WE_fr (b6 u hu) (fun b k q1 q2 => f b k (by omega) (by omega) (by omega) (by omega)) (fun k hk => f _ _ (by omega) (by omega) (by omega) (by omega)) (fun k hk => f _ _ (by omega) (by omega) (by omega) (by omega)) (fun k hk => f _ _ (by omega) (by omega) (by omega) (by omega))
  · rw [nn] at hu
    exact WF_fr (b7 u hu hu2) (fun b k q1 q2 => f b k (by omega) (by omega) (by omega) (by omega))
theorem WC_up {N : Mem} {v : Nat} (h : WC N v) {b k : Nat} {w : Int32} (hb : 516 ≤ b) (hv : v < 24) : WC (up N b k w) v := WC_fr h (fun b' k' q1 q2 => up_ne _ _ (by omega))
theorem y_peg (hR : Rel M) (a b c : Int32) : Tw xs md_Peg_peg md_Mod_peg [.ref 0, .int a, .int b, .int c] [.ref 516, .int a, .int b, .int c] M L := by
  have wi := watch_iff hR (M' := M) rfl (w := a)
  have core : ∀ (h : 0 ≤ a ∧ a < M 4 1) (h2 : 0 ≤ b ∧ b ≤ 7) (hc : c = -1 ∨ (0 ≤ c ∧ c ≤ 31)), vp_in a 24 ∧ RX xs shL md_Watch_putPeg 0 [.ref (6 + 5 * a.toNatClampNeg), .int b, .int c] [] M L (fun r M_5 L_6 => ∃ v_7 : Int32, r = some (.int v_7) ∧ ∃ v' : Int32, some (Value.int v_7) = some (Value.int v') ∧ RX xs shL md_Mod_peg 0 [.ref 516, .int a, .int b, .int c] [] M_5 L_6 (fun r2 M2 _ => r2 = some (.int v') ∧ Rel M2)) := by
    intro h h2 hc
    obtain ⟨v, v1, v2, v3⟩ := watch_nI hR h
    obtain ⟨k, k1, k2⟩ := le_nI (n := 7) (by decide) h2
    have cl : a.toNatClampNeg = v := by rw [v3, nI_cl (by omega)]
    obtain ⟨we1, we2, we3, we4, we5⟩ := hR.1.2.2.2.2.2.1 v v1
    rw [cl]
    refine ⟨by rw [v3]; exact vp_nI (by omega) (by omega), L_Watch_putPeg_0 v2 ?_⟩
    rw [k2, nI_cl (by omega)]
    refine ⟨vp_nI (by omega) (by omega), s_Watch_sumUp v2 ⟨rfl, _, rfl, _, rfl, ?_⟩⟩
    have f4 : ∀ j i, 126 ≤ j → wSum (up M (6 + 5 * v + 1) k c) v j i = M j i := fun j i hj => by rw [wSum_o _ (by omega), up_ne _ _ (by omega)]
    have wi2 : (0 ≤ a ∧ a ≤ wSum (up M (6 + 5 * v + 1) k c) v 516 4 - 1) := by rw [f4 _ _ (by decide)]; exact wi.mpr h
    have e0 : (8 : Int32) * a + nI k = nI (8 * v + k) := by rw [v3]; exact nI_lin 8 v k
    have fin : vp_in ((8 : Int32) * a + nI k) 192 ∧ (some (Value.int (wSum (up M (6 + 5 * v + 1) k c) v 520 ((8 * a + nI k).toNatClampNeg))) = some (Value.int (M (6 + 5 * v + 1) k)) ∧ Rel (up (wSum (up M (6 + 5 * v + 1) k c) v) 520 ((8 * a + nI k).toNatClampNeg) c)) := by
      rw [e0, nI_cl (by omega), f4 _ _ (by decide), (we1 k (by omega)).1]
      refine ⟨vp_nI (by omega) (by omega), rfl, ?_⟩
      have nf : ∀ j i, ¬ (j = 6 + 5 * v ∧ (i = 4 ∨ i = 5)) → j ≠ 6 + 5 * v + 3 → j ≠ 6 + 5 * v + 4 → ¬ (j = 6 + 5 * v + 1 ∧ i = k) → ¬ (j = 520 ∧ i = 8 * v + k) → up (wSum (up M (6 + 5 * v + 1) k c) v) 520 (8 * v + k) c j i = M j i := fun j i q1 q2 q3 q4 q5 => by
        rw [up_ne _ _ q5, wSum_o _ ⟨q1, q2, q3⟩, up_ne _ _ q4]
      refine Rel_w1 hR v1 (WC_up (WC_wSum _ _) (by decide) v2) ⟨fun i hi => ?_, fun i hi => ?_, fun i hi => ?_, ?_, ?_⟩ (fun j i q1 q2 q3 q4 => nf j i (by omega) (by omega) (by omega) (by omega) (by omega))
      · by_cases e : i = k
        · rw [e, up_same, up_ne _ _ (by omega), wSum_o _ (by omega), up_same]
          refine ⟨rfl, ?_⟩
          rcases hc with hc | hc
          · rw [hc]; exact ⟨by decide, by decide⟩
          · rw [i_le, i_le] at hc
            have hc : (0 : Int) ≤ c.toInt ∧ c.toInt ≤ 31 := hc
            omega
        · rw [nf (6 + 5 * v + 1) i (by omega) (by omega) (by omega) (by omega) (by omega), nf 520 (8 * v + i) (by omega) (by omega) (by omega) (by omega) (by omega)]
          exact we1 i hi
      · rw [nf (6 + 5 * v + 2) i (by omega) (by omega) (by omega) (by omega) (by omega), nf 521 (4 * v + i) (by omega) (by omega) (by omega) (by omega) (by omega)]
        exact we2 i hi
      · rw [nf (6 + 5 * v) (6 + i) (by omega) (by omega) (by omega) (by omega) (by omega), nf 522 (3 * v + i) (by omega) (by omega) (by omega) (by omega) (by omega)]
        exact we3 i hi
      · rw [nf 522 (3 * v + 1) (by omega) (by omega) (by omega) (by omega) (by omega)]; exact we4
      · rw [nf 522 (3 * v + 2) (by omega) (by omega) (by omega) (by omega) (by omega)]; exact we5
    refine L_Mod_peg_0 ⟨fun _ => ⟨fun _ => ⟨fun _ => fin, fun q => ⟨fun _ => fin, fun q2 => ?_⟩⟩, fun q => absurd (by rw [← k2]; exact h2) q⟩, fun q => absurd wi2 q⟩
    rcases hc with hc | hc
    · exact absurd hc q
    · exact absurd hc q2
  refine L_Peg_peg_0 ⟨fun h => ⟨fun h2 => ⟨fun h3 => core h h2 (Or.inl h3), fun h3 => ⟨fun h4 => core h h2 (Or.inr h4), fun h4 => ⟨_, rfl, L_Mod_peg_0 ⟨fun _ => ⟨fun _ => ⟨fun q => absurd q h3, fun _ => ⟨fun q => absurd q h4, fun _ => ⟨rfl, hR⟩⟩⟩, fun q => absurd h2 q⟩, fun q => absurd (wi.mpr h) q⟩⟩⟩⟩, fun h2 => ⟨_, rfl, L_Mod_peg_0 ⟨fun _ => ⟨fun q => absurd q h2, fun _ => ⟨rfl, hR⟩⟩, fun q => absurd (wi.mpr h) q⟩⟩⟩, fun h => ⟨_, rfl, L_Mod_peg_0 ⟨fun q => absurd (wi.mp q) h, fun _ => ⟨rfl, hR⟩⟩⟩⟩
theorem y_knots (hR : Rel M) (a b c : Int32) : Tw xs md_Peg_knots md_Mod_knots [.ref 0, .int a, .int b, .int c] [.ref 516, .int a, .int b, .int c] M L := by
  have wi := watch_iff hR (M' := M) rfl (w := a)
  refine L_Peg_knots_0 ⟨fun h => ⟨fun h2 => ⟨fun h3 => ?_, fun h3 => ⟨_, rfl, L_Mod_knots_0 ⟨fun _ => ⟨fun _ => ⟨fun q => absurd q h3, fun _ => ⟨rfl, hR⟩⟩, fun q => absurd h2 q⟩, fun q => absurd (wi.mpr h) q⟩⟩⟩, fun h2 => ⟨_, rfl, L_Mod_knots_0 ⟨fun _ => ⟨fun q => absurd q h2, fun _ => ⟨rfl, hR⟩⟩, fun q => absurd (wi.mpr h) q⟩⟩⟩, fun h => ⟨_, rfl, L_Mod_knots_0 ⟨fun q => absurd (wi.mp q) h, fun _ => ⟨rfl, hR⟩⟩⟩⟩
  obtain ⟨v, v1, v2, v3⟩ := watch_nI hR h
  obtain ⟨k, k1, k2⟩ := le_nI (n := 3) (by decide) h2
  have cl : a.toNatClampNeg = v := by rw [v3, nI_cl (by omega)]
  obtain ⟨we1, we2, we3, we4, we5⟩ := hR.1.2.2.2.2.2.1 v v1
  rw [cl]
  refine ⟨by rw [v3]; exact vp_nI (by omega) (by omega), L_Watch_putKnots_0 v2 ?_⟩
  rw [k2, nI_cl (by omega)]
  refine ⟨vp_nI (by omega) (by omega), s_Watch_sumUp v2 ⟨rfl, _, rfl, _, rfl, ?_⟩⟩
  have f4 : ∀ j i, 126 ≤ j → wSum (up M (6 + 5 * v + 2) k c) v j i = M j i := fun j i hj => by rw [wSum_o _ (by omega), up_ne _ _ (by omega)]
  have wi2 : (0 ≤ a ∧ a ≤ wSum (up M (6 + 5 * v + 2) k c) v 516 4 - 1) := by rw [f4 _ _ (by decide)]; exact wi.mpr h
  have e0 : (4 : Int32) * a + nI k = nI (4 * v + k) := by rw [v3]; exact nI_lin 4 v k
  refine L_Mod_knots_0 ⟨fun _ => ⟨fun _ => ⟨fun _ => ?_, fun q => absurd h3 q⟩, fun q => absurd (by rw [← k2]; exact h2) q⟩, fun q => absurd wi2 q⟩
  rw [e0, nI_cl (by omega), f4 _ _ (by decide), we2 k (by omega)]
  refine ⟨vp_nI (by omega) (by omega), rfl, ?_⟩
  have nf : ∀ j i, ¬ (j = 6 + 5 * v ∧ (i = 4 ∨ i = 5)) → j ≠ 6 + 5 * v + 3 → j ≠ 6 + 5 * v + 4 → ¬ (j = 6 + 5 * v + 2 ∧ i = k) → ¬ (j = 521 ∧ i = 4 * v + k) → up (wSum (up M (6 + 5 * v + 2) k c) v) 521 (4 * v + k) c j i = M j i := fun j i q1 q2 q3 q4 q5 => by
    rw [up_ne _ _ q5, wSum_o _ ⟨q1, q2, q3⟩, up_ne _ _ q4]
  refine Rel_w1 hR v1 (WC_up (WC_wSum _ _) (by decide) v2) ⟨fun i hi => ?_, fun i hi => ?_, fun i hi => ?_, ?_, ?_⟩ (fun j i q1 q2 q3 q4 => nf j i (by omega) (by omega) (by omega) (by omega) (by omega))
  · rw [nf (6 + 5 * v + 1) i (by omega) (by omega) (by omega) (by omega) (by omega), nf 520 (8 * v + i) (by omega) (by omega) (by omega) (by omega) (by omega)]
    exact we1 i hi
  · by_cases e : i = k
    · rw [e, up_same, up_ne _ _ (by omega), wSum_o _ (by omega), up_same]
    · rw [nf (6 + 5 * v + 2) i (by omega) (by omega) (by omega) (by omega) (by omega), nf 521 (4 * v + i) (by omega) (by omega) (by omega) (by omega) (by omega)]
      exact we2 i hi
  · rw [nf (6 + 5 * v) (6 + i) (by omega) (by omega) (by omega) (by omega) (by omega), nf 522 (3 * v + i) (by omega) (by omega) (by omega) (by omega) (by omega)]
    exact we3 i hi
  · rw [nf 522 (3 * v + 1) (by omega) (by omega) (by omega) (by omega) (by omega)]; exact we4
  · rw [nf 522 (3 * v + 2) (by omega) (by omega) (by omega) (by omega) (by omega)]; exact we5
theorem y_set (hR : Rel M) (a b c : Int32) : Tw xs md_Peg_set md_Mod_set [.ref 0, .int a, .int b, .int c] [.ref 516, .int a, .int b, .int c] M L := by
  have wi := watch_iff hR (M' := M) rfl (w := a)
  refine L_Peg_set_0 ⟨fun h => ⟨fun h2 => ⟨fun h3 => ?_, fun h3 => ⟨_, rfl, L_Mod_set_0 ⟨fun _ => ⟨fun _ => ⟨fun z => ⟨fun q => absurd (by rw [if_pos z]; exact q) h3, fun _ => ⟨rfl, hR⟩⟩, fun z => ⟨fun z1 => ⟨fun q => absurd (by rw [if_neg z, if_pos z1]; exact q) h3, fun _ => ⟨rfl, hR⟩⟩, fun z1 => ⟨fun q => absurd (by rw [if_neg z, if_neg z1]; exact q) h3, fun _ => ⟨rfl, hR⟩⟩⟩⟩, fun q => absurd h2 q⟩, fun q => absurd (wi.mpr h) q⟩⟩⟩, fun h2 => ⟨_, rfl, L_Mod_set_0 ⟨fun _ => ⟨fun q => absurd q h2, fun _ => ⟨rfl, hR⟩⟩, fun q => absurd (wi.mpr h) q⟩⟩⟩, fun h => ⟨_, rfl, L_Mod_set_0 ⟨fun q => absurd (wi.mp q) h, fun _ => ⟨rfl, hR⟩⟩⟩⟩
  obtain ⟨v, v1, v2, v3⟩ := watch_nI hR h
  obtain ⟨k, k1, k2⟩ := le_nI (n := 2) (by decide) h2
  have cl : a.toNatClampNeg = v := by rw [v3, nI_cl (by omega)]
  obtain ⟨we1, we2, we3, we4, we5⟩ := hR.1.2.2.2.2.2.1 v v1
  rw [cl]
  have f4 : ∀ j i, 126 ≤ j → wSum (up M (6 + 5 * v) (6 + k) c) v j i = M j i := fun j i hj => by rw [wSum_o _ (by omega), up_ne _ _ (by omega)]
  have wi2 : (0 ≤ a ∧ a ≤ wSum (up M (6 + 5 * v) (6 + k) c) v 516 4 - 1) := by rw [f4 _ _ (by decide)]; exact wi.mpr h
  have e0 : (3 : Int32) * a + b = nI (3 * v + k) := by rw [v3, k2]; exact nI_lin 3 v k
  have go : RX xs shL md_Watch_sumUp 0 [.ref (6 + 5 * v)] [] (up M (6 + 5 * v) (6 + k) c) L (fun r M_7 L_8 => r = none ∧ ∃ v_7 : Int32, some (Value.int (M (6 + 5 * v) (6 + k))) = some (.int v_7) ∧ ∃ v' : Int32, some (Value.int v_7) = some (Value.int v') ∧ RX xs shL md_Mod_set 0 [.ref 516, .int a, .int b, .int c] [] M_7 L_8 (fun r2 M2 _ => r2 = some (.int v') ∧ Rel M2)) := by
    refine s_Watch_sumUp v2 ⟨rfl, _, rfl, _, rfl, ?_⟩
    have fin : vp_in ((3 : Int32) * a + b) 72 ∧ (some (Value.int (wSum (up M (6 + 5 * v) (6 + k) c) v 522 ((3 * a + b).toNatClampNeg))) = some (Value.int (M (6 + 5 * v) (6 + k))) ∧ Rel (up (wSum (up M (6 + 5 * v) (6 + k) c) v) 522 ((3 * a + b).toNatClampNeg) c)) := by
      rw [e0, nI_cl (by omega), f4 _ _ (by decide), we3 k (by omega)]
      refine ⟨vp_nI (by omega) (by omega), rfl, ?_⟩
      have nf : ∀ j i, ¬ (j = 6 + 5 * v ∧ (i = 4 ∨ i = 5)) → j ≠ 6 + 5 * v + 3 → j ≠ 6 + 5 * v + 4 → ¬ (j = 6 + 5 * v ∧ i = 6 + k) → ¬ (j = 522 ∧ i = 3 * v + k) → up (wSum (up M (6 + 5 * v) (6 + k) c) v) 522 (3 * v + k) c j i = M j i := fun j i q1 q2 q3 q4 q5 => by
        rw [up_ne _ _ q5, wSum_o _ ⟨q1, q2, q3⟩, up_ne _ _ q4]
      have cr : (k = 1 → 0 ≤ c.toInt ∧ c.toInt ≤ 31) ∧ (k = 2 → 0 ≤ c.toInt ∧ c.toInt ≤ 2) := by
        rw [i_le, i_le] at h3
        constructor
        · intro e
          rw [k2, e, if_neg (by decide), if_pos (by rfl)] at h3
          exact h3
        · intro e
          rw [k2, e, if_neg (by decide), if_neg (by decide)] at h3
          exact h3
      refine Rel_w1 hR v1 (WC_up (WC_wSum _ _) (by decide) v2) ⟨fun i hi => ?_, fun i hi => ?_, fun i hi => ?_, ?_, ?_⟩ (fun j i q1 q2 q3 q4 => nf j i (by omega) (by omega) (by omega) (by omega) (by omega))
      · rw [nf (6 + 5 * v + 1) i (by omega) (by omega) (by omega) (by omega) (by omega), nf 520 (8 * v + i) (by omega) (by omega) (by omega) (by omega) (by omega)]
        exact we1 i hi
      · rw [nf (6 + 5 * v + 2) i (by omega) (by omega) (by omega) (by omega) (by omega), nf 521 (4 * v + i) (by omega) (by omega) (by omega) (by omega) (by omega)]
        exact we2 i hi
      · by_cases e : i = k
        · rw [e, up_same, up_ne _ _ (by omega), wSum_o _ (by omega), up_same]
        · rw [nf (6 + 5 * v) (6 + i) (by omega) (by omega) (by omega) (by omega) (by omega), nf 522 (3 * v + i) (by omega) (by omega) (by omega) (by omega) (by omega)]
          exact we3 i hi
      · by_cases e : k = 1
        · rw [e, up_same]; exact cr.1 e
        · rw [nf 522 (3 * v + 1) (by omega) (by omega) (by omega) (by omega) (by omega)]; exact we4
      · by_cases e : k = 2
        · rw [e, up_same]; exact cr.2 e
        · rw [nf 522 (3 * v + 2) (by omega) (by omega) (by omega) (by omega) (by omega)]; exact we5
    refine L_Mod_set_0 ⟨fun _ => ⟨fun _ => ⟨fun z => ⟨fun _ => fin, fun q => absurd (by rw [if_pos z] at h3; exact h3) q⟩, fun z => ⟨fun z1 => ⟨fun _ => fin, fun q => absurd (by rw [if_neg z, if_pos z1] at h3; exact h3) q⟩, fun z1 => ⟨fun _ => fin, fun q => absurd (by rw [if_neg z, if_neg z1] at h3; exact h3) q⟩⟩⟩, fun q => absurd h2 q⟩, fun q => absurd wi2 q⟩
  refine ⟨by rw [v3]; exact vp_nI (by omega) (by omega), L_Watch_putTrait_0 v2 ⟨fun z => ?_, fun z => ⟨fun z1 => ?_, fun z1 => ?_⟩⟩⟩
  · have : k = 0 := by have := congrArg Int32.toInt (k2.symm.trans z); rw [i_nI (by omega)] at this; have : (k : Int) = 0 := this; omega
    subst this
    exact go
  · have : k = 1 := by have := congrArg Int32.toInt (k2.symm.trans z1); rw [i_nI (by omega)] at this; have : (k : Int) = 1 := this; omega
    subst this
    exact go
  · have : k = 2 := by
      have n0 : k ≠ 0 := fun e => z (by rw [k2, e]; rfl)
      have n1 : k ≠ 1 := fun e => z1 (by rw [k2, e]; rfl)
      omega
    subst this
    exact go
end TW

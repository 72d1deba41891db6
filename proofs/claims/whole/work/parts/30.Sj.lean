theorem tabT_gW {M : Mem} (h : tabT M) (e n s : Int32) : tabT (gW M e n s) := fun k hk => by rw [gW_o _ _ _ _ (by decide)]; exact h k hk
section SJ
variable {xs : List Int32} {M : Mem} {L : Int64} {Q : Option Value → Mem → Int64 → Prop}
theorem s_Mod_goWatch {w : Nat} (hw : w < 24) (hT : tabT M) (hpg : ∀ k, k < 8 → -1 ≤ (mpg M w k).toInt ∧ (mpg M w k).toInt ≤ 31) (hwi : 0 ≤ (M 522 (3 * w + 1)).toInt ∧ (M 522 (3 * w + 1)).toInt ≤ 31) (hsa : 0 ≤ (M 522 (3 * w + 2)).toInt ∧ (M 522 (3 * w + 2)).toInt ≤ 2) {g b c : Int32} (hb : -2 ≤ b.toInt ∧ b.toInt ≤ 2)
    (h : Q none (gW M (dwn ((if c = 0 then 0 else sumF (eT (mpg M w) (mkn M w) (M 522 (3 * w + 1)) (M 522 (3 * w + 2)) b) 8) * (100 + g)) 100) (dwn ((if c = 0 then 0 else sumF (nT (mpg M w) (mkn M w) (M 522 (3 * w + 1)) (M 522 (3 * w + 2)) b) 8) * (100 + g)) 100) (M 516 8 + sumF (thS (if c = 0 then aT (mkn M w) else lT (mpg M w) (mkn M w))) 8)) L) :
    RX xs shL md_Mod_goWatch 0 [.ref 516, .int (nI w), .int g, .int b, .int c] [] M L Q := by
  have a31 : 3 * nI w + 1 = nI (3 * w + 1) := nI_lin 3 w 1
  have a32 : 3 * nI w + 2 = nI (3 * w + 2) := nI_lin 3 w 2
  refine L_Mod_goWatch_0 ?_
  rw [a31, nI_cl (by omega)]
  refine ⟨vp_nI (by omega) (by omega), ?_⟩
  generalize hwe : M 522 (3 * w + 1) = wi at *
  generalize hse : M 522 (3 * w + 2) = sa at *
  have hkey : ∀ r k, k + r = 8 → RX xs shL md_Mod_goWatch 33 [.ref 516, .int (nI w), .int g, .int b, .int c, .int wi, .int (nI k), .null, .null, .null, .null] [] (gW M (if c = 0 then 0 else sumF (eT (mpg M w) (mkn M w) wi sa b) k) (if c = 0 then 0 else sumF (nT (mpg M w) (mkn M w) wi sa b) k) (M 516 8 + sumF (thS (if c = 0 then aT (mkn M w) else lT (mpg M w) (mkn M w))) k)) L Q := by
    intro r
    induction r with
    | zero =>
      intro k hk
      have : k = 8 := by omega
      subst this
      refine L_Mod_goWatch_33 ⟨fun _ => ?_, fun c => absurd (by decide) c⟩
      rw [gW_26, gW_27, gW_u26, gW_u27]
      exact h
    | succ r ih =>
      intro k hk
      have hk8 : k < 8 := by omega
      have ih' := ih (k + 1) (by omega)
      have hk2 : nI k / 2 = nI (k / 2) := by
        have : ∀ k, k < 8 → nI k / 2 = nI (k / 2) := by decide +kernel
        exact this k hk8
      have a4 : 4 * nI w + nI k / 2 = nI (4 * w + k / 2) := by rw [hk2]; exact nI_lin 4 w (k / 2)
      have a8 : 8 * nI w + nI k = nI (8 * w + k) := nI_lin 8 w k
      refine L_Mod_goWatch_33 ⟨fun c => absurd ((nI_leI (a := 8) (b := k) (by omega) (by omega)).mp c) (by omega), fun _ => ?_⟩
      rw [a4, a8, a32, nI_cl (n := 4 * w + k / 2) (by omega), nI_cl (n := 8 * w + k) (by omega), nI_cl (n := 3 * w + 2) (by omega), nI_1,
        gW_o M _ _ _ (b := 521) (by decide), gW_o M _ _ _ (b := 520) (by decide), gW_o M _ _ _ (b := 522) (by decide), hse]
      refine ⟨vp_nI (by omega) (by omega), fun c0 => ?_, fun c0 => ⟨vp_nI (by omega) (by omega), fun c1 => ?_, fun c1 => ⟨vp_nI (by omega) (by omega), ?_⟩⟩⟩
      · rw [if_pos c0, if_pos c0, if_pos c0] at ih' ⊢
        rw [gW_28, gW_u28, Int32.add_assoc]
        exact ih'
      · rw [if_neg c0, if_neg c0, if_neg c0] at ih' ⊢
        rw [gW_28, gW_u28, Int32.add_assoc]
        have c1' : mpg M w k = -1 := c1
        have m1 : mdC (mpg M w k) b wi sa = -1 := by unfold mdC; rw [if_pos c1']
        rw [sumF, sumF, sumF, thS, lT, if_pos c1', eT, nT, if_pos m1, if_pos m1, Int32.add_zero, Int32.add_zero] at ih'
        exact ih'
      · rw [if_neg c0, if_neg c0, if_neg c0] at ih' ⊢
        have c1' : ¬ mpg M w k = -1 := c1
        have hp := hpg k hk8
        rw [sumF, sumF, sumF, thS, lT, if_neg c1', Int32.mul_zero, Int32.add_zero, eT, nT] at ih'
        have em : M 520 (8 * w + k) = mpg M w k := rfl
        have ek : M 521 (4 * w + k / 2) = mkn M w (k / 2) := rfl
        rw [em, ek]
        generalize mpg M w k = p at *
        have hp0 : 0 ≤ p.toInt := by
          refine Classical.byContradiction fun hc => c1' (i_eq ?_)
          show p.toInt = -1
          omega
        have hs : (p + b).toInt = p.toInt + b.toInt := i_add (by omega) (by omega)
        rw [m32 (v := p + b) (by omega) (by omega)]
        have hd := and31 (p + b)
        unfold mdC at ih'
        rw [if_neg c1'] at ih'
        generalize (p + b) &&& 31 = q at *
        have hdI : 0 ≤ q.toInt ∧ q.toInt ≤ 31 := by
          have := hd
          rw [i_le, i_le] at this
          exact this
        have hwl : (0 : Int32) ≤ wi ∧ wi ≤ 31 := by rw [i_le, i_le]; exact hwi
        have hang : angM q wi = angC q wi := by
          obtain ⟨a, ha, rfl⟩ := pt_nI hd
          obtain ⟨d, hd2, rfl⟩ := pt_nI hwl
          exact ang_eq a ha d hd2
        rw [hang]
        have hqw : (q - wi).toInt = q.toInt - wi.toInt := i_sub (by omega) (by omega)
        rw [m32 (v := q - wi) (by omega) (by omega)]
        by_cases c2 : lwA (angC q wi) sa = -1
        · refine ⟨fun _ => ?_, fun c3 => absurd c2 c3⟩
          rw [if_pos c2, if_pos rfl, if_pos rfl, Int32.add_zero, Int32.add_zero] at ih'
          exact ih'
        · refine ⟨fun c3 => absurd c3 c2, fun _ => ?_⟩
          rw [if_neg c2] at ih'
          have hl := lwA_rng hsa.1 hsa.2 c2
          generalize lwA (angC q wi) sa = o at *
          have hqo : (q - o).toInt = q.toInt - o.toInt := i_sub (by omega) (by omega)
          have hqp : (q + o).toInt = q.toInt + o.toInt := i_add (by omega) (by omega)
          rw [m32 (v := q - o) (by omega) (by omega), rem32 (v := q + o) (by omega)]
          have hne : ∀ v : Int32, ¬ (v &&& 31) = -1 := fun v hv => by
            have := (and31 v).1
            rw [hv] at this
            exact absurd this (by decide)
          refine ⟨fun c4 => ?_, fun c4 => ?_⟩
          · rw [if_pos c4, ← Int32.sub_eq_add_neg, if_neg (hne _), if_neg (hne _)] at ih'
            refine ⟨and31 _, tabT_gW hT _ _ _, ?_⟩
            rw [gW_26, gW_27, gW_u26, gW_u27]
            exact ⟨tabT_gW hT _ _ _, ih'⟩
          · rw [if_neg c4, if_neg (hne _), if_neg (hne _)] at ih'
            refine ⟨and31 _, tabT_gW hT _ _ _, ?_⟩
            rw [gW_26, gW_27, gW_u26, gW_u27]
            exact ⟨tabT_gW hT _ _ _, ih'⟩
  have h0 := hkey 8 0 (by omega)
  have e0 : (if c = 0 then (0 : Int32) else sumF (eT (mpg M w) (mkn M w) wi sa b) 0) = 0 := by split <;> rfl
  have e1 : (if c = 0 then (0 : Int32) else sumF (nT (mpg M w) (mkn M w) wi sa b) 0) = 0 := by split <;> rfl
  rw [e0, e1, sumF, Int32.add_zero] at h0
  exact h0
end SJ

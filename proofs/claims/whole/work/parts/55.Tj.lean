/-! fits, in both -/
def fvO (G m B : Nat) : Int32 := (((100 * (gO G + 9)) + (10 * nI m)) + bO B) + 2
noncomputable def fitP (M : Mem) (x y G m B : Nat) : Prop := (¬ bO B = 0 ∨ m = 0) ∧ AH (VM M (gO G) (nI m) (bO B)) (mn M) x y = true
noncomputable def fl3 (M : Mem) (x y G m B : Nat) : List Int32 := if bB (fitP M x y G m B) then [fvO G m B] else []
noncomputable def fl2 (M : Mem) (x y G m : Nat) : List Int32 := lsF (fl3 M x y G m) 5
noncomputable def fl1 (M : Mem) (x y G : Nat) : List Int32 := lsF (fl2 M x y G) 6
noncomputable def flm (M : Mem) (x y : Nat) : List Int32 := lsF (fl1 M x y) 19
theorem fl3_t {M : Mem} {x y G m B : Nat} (h : fitP M x y G m B) : fl3 M x y G m B = [fvO G m B] := by unfold fl3; rw [bB_t h]; rfl
theorem fl3_f {M : Mem} {x y G m B : Nat} (h : ¬ fitP M x y G m B) : fl3 M x y G m B = [] := by unfold fl3; rw [bB_f h]; rfl
theorem fl3_le (M : Mem) (x y G m B : Nat) : (fl3 M x y G m B).length ≤ 1 := by unfold fl3; split <;> simp
theorem fl2_le (M : Mem) (x y G m : Nat) : (fl2 M x y G m).length ≤ 5 := Nat.le_trans (lsF_le (c := 1) 5 (fun t _ => fl3_le _ _ _ _ _ _)) (by decide)
theorem fl1_le (M : Mem) (x y G : Nat) : (fl1 M x y G).length ≤ 30 := Nat.le_trans (lsF_le (c := 5) 6 (fun t _ => fl2_le _ _ _ _ _)) (by decide)
theorem flm_le (M : Mem) (x y : Nat) : (flm M x y).length ≤ 570 := Nat.le_trans (lsF_le (c := 30) 19 (fun t _ => fl1_le _ _ _ _)) (by decide)
theorem flp_le (M : Mem) (x y G m B : Nat) (h1 : G < 19) (h2 : m < 6) (h3 : B < 5) : (lsF (fl1 M x y) G ++ (lsF (fl2 M x y G) m ++ lsF (fl3 M x y G m) B)).length < 700 := by
  have q1 := lsF_le (f := fl1 M x y) (c := 30) G (fun t _ => fl1_le _ _ _ _)
  have q2 := lsF_le (f := fl2 M x y G) (c := 5) m (fun t _ => fl2_le _ _ _ _ _)
  have q3 := lsF_le (f := fl3 M x y G m) (c := 1) B (fun t _ => fl3_le _ _ _ _ _ _)
  simp only [List.length_append]
  omega
section TJ
variable {xs : List Int32} {M M0 : Mem} {L : Int64} {Q : Option Value → Mem → Int64 → Prop}
theorem c_findFits (hR : Rl M) {x y : Nat} (hx : x < mw M) (hy : y < mh M) (hQ : ∀ M', Eq0 M M' → (∀ c k, 516 ≤ c → M' c k = M c k) → Fnd M' (flm M x y) → Q none M' L) : RX xs shL md_Reckoning_findFits 0 [.ref 336, .int (nI x), .int (nI y)] [] M L Q := by
  have hG := Rl_GM hR
  have hn : mn M ≤ 40 := hR.2.2.1.1.2
  have w20 : mw M ≤ 20 := hR.2.1.1.2.2
  have h20 : mh M ≤ 20 := hR.2.1.2.1.2.2
  let IV : Mem → Prop := fun M' => (∃ g m b, ShF M M' g m b) ∧ Eq0 M M'
  have fits : ∀ G m B, ∀ b : Nat, b = 339 + 4 * mn M → ∀ M', ShF M M' (gO G) (nI m) (bO B) → (((0 ≤ nI x ∧ nI x ≤ 19) ∧ (0 ≤ nI y ∧ nI y ≤ 19) ∧ gp M' b (nI x).toNatClampNeg (nI y).toNatClampNeg = true) ↔ AH (VM M (gO G) (nI m) (bO B)) (mn M) x y = true) := by
    intro G m B b hb M' hS
    rw [nI_cl (by omega), nI_cl (by omega), hb, hS.2.2.2.2 (mn M) (Nat.le_refl _) y (by omega) x, AH_VF]
    exact ⟨fun q => q.2.2, fun q => ⟨⟨by rw [i_le, i_nI (by omega)]; show (0 : Int) ≤ _; omega, by rw [i_le, i_nI (by omega)]; show _ ≤ (19 : Int); omega⟩, ⟨by rw [i_le, i_nI (by omega)]; show (0 : Int) ≤ _; omega, by rw [i_le, i_nI (by omega)]; show _ ≤ (19 : Int); omega⟩, q⟩⟩
  have l3 : ∀ G m, G < 19 → m < 6 → (∀ M', IV M' → Fnd M' (lsF (fl1 M x y) G ++ lsF (fl2 M x y G) (m + 1)) → RX xs shL md_Reckoning_findFits 22 [.ref 336, .int (nI x), .int (nI y), .int (gO G), .int (nI (m + 1)), .null] [] M' L Q) → ∀ r B, B + r = 5 → ∀ M', IV M' → Fnd M' (lsF (fl1 M x y) G ++ (lsF (fl2 M x y G) m ++ lsF (fl3 M x y G m) B)) → RX xs shL md_Reckoning_findFits 33 [.ref 336, .int (nI x), .int (nI y), .int (gO G), .int (nI m), .int (bO B)] [] M' L Q := by
    intro G m hG1 hm1 nxt r
    induction r with
    | zero =>
      intro B hB M' hI hF
      have : B = 5 := by omega
      subst this
      refine L_Reckoning_findFits_33 ⟨fun _ => ?_, fun c => absurd (by decide) c⟩
      rw [nI_1]
      exact nxt M' hI hF
    | succ r ih =>
      intro B hB M' hI hF
      have hbs := bO_i (B := B) (by omega)
      have skip : fl3 M x y G m B = [] → ∀ M', IV M' → Fnd M' (lsF (fl1 M x y) G ++ (lsF (fl2 M x y G) m ++ lsF (fl3 M x y G m) B)) → RX xs shL md_Reckoning_findFits 33 [.ref 336, .int (nI x), .int (nI y), .int (gO G), .int (nI m), .int (bO B + 1)] [] M' L Q := by
        intro e M' hI hF
        rw [bO_s (by omega)]
        refine ih (B + 1) (by omega) M' hI ?_
        rw [lsF_nil e]; exact hF
      have look : (¬ bO B = 0 ∨ m = 0) → RX xs shL md_Reckoning_lookAheadBy 0 [.ref 336, .int (gO G), .int (nI m), .int (bO B)] [] M' L (fun r M_15 L_16 => ∃ b_17 : Nat, r = some (.ref b_17) ∧ isP shL b_17 ∧ ((((0 ≤ nI x ∧ nI x ≤ 19) ∧ (0 ≤ nI y ∧ nI y ≤ 19) ∧ gp M_15 b_17 (nI x).toNatClampNeg (nI y).toNatClampNeg = true) → RX xs shL md_Reckoning_add 0 [.ref 336, .int ((((100 * (gO G + 9)) + (10 * nI m)) + bO B) + 2)] [] M_15 L_16 (fun r M_19 L_20 => r = none ∧ RX xs shL md_Reckoning_findFits 33 [.ref 336, .int (nI x), .int (nI y), .int (gO G), .int (nI m), .int (bO B + 1)] [] M_19 L_20 Q)) ∧ (¬ ((0 ≤ nI x ∧ nI x ≤ 19) ∧ (0 ≤ nI y ∧ nI y ≤ 19) ∧ gp M_15 b_17 (nI x).toNatClampNeg (nI y).toNatClampNeg = true) → RX xs shL md_Reckoning_findFits 33 [.ref 336, .int (nI x), .int (nI y), .int (gO G), .int (nI m), .int (bO B + 1)] [] M_15 L_16 Q))) := by
        intro ok
        obtain ⟨⟨g0, m0, b0, hS⟩, hE⟩ := hI
        refine c_lookAheadBy hR hS (by omega) (fun M2 S2 f2 => ⟨_, rfl, isP_ahead (by omega), ?_⟩)
        have I2 : IV M2 := ⟨⟨_, _, _, S2⟩, fun c k q => by
          rw [f2 c k (fun t ht e => q (by unfold Scr rs; omega)) (fun t ht e => q (by unfold Scr; omega))]; exact hE c k q⟩
        have F2 := Fnd_fr hF (f2 _ _ (fun t ht => by omega) (fun t ht => by omega)) (fun k => f2 _ _ (fun t ht => by omega) (fun t ht => by omega))
        have ft := fits G m B _ rfl M2 S2
        refine ⟨fun q => ?_, fun q => skip (fl3_f (fun z => q (ft.mpr z.2))) M2 I2 F2⟩
        refine c_add F2 (by have := flp_le M x y G m B hG1 hm1 (by omega); omega) (fun M3 F3 f3 => ⟨rfl, ?_⟩)
        rw [bO_s (by omega)]
        refine ih (B + 1) (by omega) M3 ⟨⟨_, _, _, ShF_fr hn S2 f3⟩, fun c k q => ?_⟩ ?_
        · rw [f3 c k (fun e => q (by unfold Scr; omega)) (fun e => q (by unfold Scr; omega))]; exact I2.2 c k q
        · rw [lsF_one (fl3_t ⟨ok, ft.mp q⟩), ← List.append_assoc, ← List.append_assoc]
          rw [← List.append_assoc] at F3
          exact F3
      refine L_Reckoning_findFits_33 ⟨fun c => ?_, fun _ => ⟨fun c => ⟨fun c2 => look (Or.inr ?_), fun c2 => skip (fl3_f ?_) M' hI hF⟩, fun c => look (Or.inl c)⟩⟩
      · rw [i_lt, hbs] at c
        have c : (2 : Int) < B - 2 := c
        omega
      · have := congrArg Int32.toInt c2
        rw [i_nI (by omega)] at this
        have : (m : Int) = 0 := this
        omega
      · rintro ⟨z | z, -⟩
        · exact z c
        · exact c2 (by rw [z]; rfl)
  have l2 : ∀ G, G < 19 → (∀ M', IV M' → Fnd M' (lsF (fl1 M x y) (G + 1)) → RX xs shL md_Reckoning_findFits 13 [.ref 336, .int (nI x), .int (nI y), .int (gO (G + 1)), .null, .null] [] M' L Q) → ∀ r m, m + r = 6 → ∀ M', IV M' → Fnd M' (lsF (fl1 M x y) G ++ lsF (fl2 M x y G) m) → RX xs shL md_Reckoning_findFits 22 [.ref 336, .int (nI x), .int (nI y), .int (gO G), .int (nI m), .null] [] M' L Q := by
    intro G hG1 nxt r
    induction r with
    | zero =>
      intro m hm M' hI hF
      have : m = 6 := by omega
      subst this
      refine L_Reckoning_findFits_22 ⟨fun _ => ?_, fun c => absurd (by decide) c⟩
      rw [gO_s (by omega)]
      exact nxt M' hI hF
    | succ r ih =>
      intro m hm M' hI hF
      refine L_Reckoning_findFits_22 ⟨fun c => absurd ((nI_leI (a := 6) (b := m) (by omega) (by omega)).mp c) (by omega), fun _ => ?_⟩
      refine l3 G m hG1 (by omega) (fun M2 I2 F2 => ih (m + 1) (by omega) M2 I2 F2) 5 0 (by omega) M' hI ?_
      rw [show lsF (fl3 M x y G m) 0 = [] from rfl, List.append_nil]; exact hF
  have l1 : ∀ r G, G + r = 19 → ∀ M', IV M' → Fnd M' (lsF (fl1 M x y) G) → RX xs shL md_Reckoning_findFits 13 [.ref 336, .int (nI x), .int (nI y), .int (gO G), .null, .null] [] M' L Q := by
    intro r
    induction r with
    | zero =>
      intro G hG1 M' hI hF
      have : G = 19 := by omega
      subst this
      obtain ⟨⟨g0, m0, b0, hS⟩, hE⟩ := hI
      exact L_Reckoning_findFits_13 ⟨fun _ => hQ M' hE hS.2.1 hF, fun c => absurd (by decide) c⟩
    | succ r ih =>
      intro G hG1 M' hI hF
      refine L_Reckoning_findFits_13 ⟨fun c => ?_, fun _ => ?_⟩
      · rw [i_lt, gO_i (by omega)] at c
        have c : (9 : Int) < G - 9 := c
        omega
      refine l2 G (by omega) (fun M2 I2 F2 => ih (G + 1) (by omega) M2 I2 F2) 6 0 (by omega) M' hI ?_
      rw [show lsF (fl2 M x y G) 0 = [] from rfl, List.append_nil]; exact hF
  refine L_Reckoning_findFits_0 (v_lookAhead (GM_ok hG 0 0 0) (Rl_Sh hR 0 0 0) (Rl_PV hR) (fun M1 f1 s1 r1 a1 => ⟨_, rfl, isP_ahead (by show mn M < 41; omega), ?_⟩))
  have g1 : ∀ c k, (c = 336 ∧ k = 9 → False) → ¬ rs c → (∀ t, t ≤ 40 → c ≠ 340 + 4 * t) → up M1 336 9 0 c k = M c k := fun c k h1 h2 h3 => by rw [up_ne _ _ h1]; exact f1 c k h2 h3
  refine l1 19 0 (by omega) _ ⟨⟨0, 0, 0, fun c k hc => g1 c k (by omega) (rs_lo hc) (fun t ht => by omega), fun c k hc => g1 c k (by omega) (by unfold rs; omega) (fun t ht => by omega), fun t k ht => g1 _ k (by omega) (rs_row t) (fun s hs => by omega), fun t ht => RdF_fr (RdM_Rd (r1 t ht)) (fun c k hc => up_ne _ _ (by omega)), fun t ht => ?_⟩, fun c k q => ?_⟩ ⟨?_, fun k hk => absurd hk (by simp [lsF])⟩
  · rw [AH_VF]
    exact shw_fr (a1 t ht) (fun k => up_ne _ _ (by omega))
  · exact g1 c k (fun e => q (by unfold Scr; omega)) (fun e => q (Or.inr (Or.inl e))) (fun t ht e => q (by unfold Scr; omega))
  · rw [up_same]; rfl
theorem m_seekFits (hG : GM M0) (hE : Eq0 M0 M) {x y : Nat} (hx : x < mw M0) (hy : y < mh M0) {i : Int32} (hQ : ∀ M', Eq0 M0 M' → Q (some (.int (if i = -1 then nI (flm M0 x y).length else pick (flm M0 x y) i))) M' L) : RX xs shL md_Mod_seekFits 0 [.ref 516, .int (nI x), .int (nI y), .int i] [] M L Q := by
  have hn : mn M0 ≤ 40 := hG.2.1.2
  have w20 : mw M0 ≤ 20 := hG.1.2.2.2.1
  have h20 : mh M0 ≤ 20 := hG.1.2.2.2.2.2
  have nat : (20 : Int32) * nI y + nI x = nI (20 * y + x) := nI_at x y
  let IV : Mem → Prop := fun M' => Eq0 M0 M' ∧ Ms0 M0 M'
  have l3 : ∀ G m, G < 19 → m < 6 → (∀ M', IV M' → ∀ l : List Int32, l = lsF (fl1 M0 x y) G ++ lsF (fl2 M0 x y G) (m + 1) → RX xs shL md_Mod_seekFits 24 [.ref 516, .int (nI x), .int (nI y), .int i, .int (nI l.length), .int (pick l i), .int (gO G), .int (nI (m + 1)), .null] [] M' L Q) → ∀ r B, B + r = 5 → ∀ M', IV M' → ∀ l : List Int32, l = lsF (fl1 M0 x y) G ++ (lsF (fl2 M0 x y G) m ++ lsF (fl3 M0 x y G m) B) → RX xs shL md_Mod_seekFits 35 [.ref 516, .int (nI x), .int (nI y), .int i, .int (nI l.length), .int (pick l i), .int (gO G), .int (nI m), .int (bO B)] [] M' L Q := by
    intro G m hG1 hm1 nxt r
    induction r with
    | zero =>
      intro B hB M' hI l hl
      have : B = 5 := by omega
      subst this
      refine L_Mod_seekFits_35 ⟨fun _ => ?_, fun c => absurd (by decide) c⟩
      rw [nI_1]
      exact nxt M' hI l hl
    | succ r ih =>
      intro B hB M' hI l hl
      have hbs := bO_i (B := B) (by omega)
      have hlen : l.length < 100000 := by rw [hl]; have := flp_le M0 x y G m B hG1 hm1 (by omega); omega
      have skip : fl3 M0 x y G m B = [] → ∀ M', IV M' → RX xs shL md_Mod_seekFits 35 [.ref 516, .int (nI x), .int (nI y), .int i, .int (nI l.length), .int (pick l i), .int (gO G), .int (nI m), .int (bO B + 1)] [] M' L Q := by
        intro e M' hI
        rw [bO_s (by omega)]
        refine ih (B + 1) (by omega) M' hI l ?_
        rw [lsF_nil e]; exact hl
      have look : (¬ bO B = 0 ∨ m = 0) → RX xs shL md_Mod_goAll 0 [.ref 516, .int (gO G), .int (nI m), .int (bO B)] [] M' L (fun r M_14 L_15 => r = none ∧ (vp_in (20 * nI y + nI x) 400 ∧ (((M_14 527 ((20 * nI y + nI x).toNatClampNeg)) = 0 → RX xs shL md_Mod_seekFits 35 [.ref 516, .int (nI x), .int (nI y), .int i, .int (nI l.length), .int (pick l i), .int (gO G), .int (nI m), .int (bO B + 1)] [] M_14 L_15 Q) ∧ (¬ ((M_14 527 ((20 * nI y + nI x).toNatClampNeg)) = 0) → ((nI l.length = i → RX xs shL md_Mod_seekFits 35 [.ref 516, .int (nI x), .int (nI y), .int i, .int (nI l.length + 1), .int ((((100 * (gO G + 9)) + (10 * nI m)) + bO B) + 2), .int (gO G), .int (nI m), .int (bO B + 1)] [] M_14 L_15 Q) ∧ (¬ (nI l.length = i) → RX xs shL md_Mod_seekFits 35 [.ref 516, .int (nI x), .int (nI y), .int i, .int (nI l.length + 1), .int (pick l i), .int (gO G), .int (nI m), .int (bO B + 1)] [] M_14 L_15 Q)))))) := by
        intro ok
        refine m_goAll hG hI.1 hI.2 ⟨by rw [hbs]; omega, by rw [hbs]; omega⟩ (fun M2 E2 f2 a2 _ => ⟨rfl, ?_⟩)
        have I2 : IV M2 := ⟨E2, fun x y hx hy => by rw [f2 _ _ (by decide)]; exact hI.2 x y hx hy⟩
        rw [nat, nI_cl (by omega), a2 x y hx hy]
        refine ⟨vp_nI (by omega) (by omega), fun z => skip (fl3_f (fun q => ?_)) M2 I2, fun z => ?_⟩
        · rw [q.2] at z; exact absurd z (by decide)
        · have hit : AH (VM M0 (gO G) (nI m) (bO B)) (mn M0) x y = true := by
            cases e : AH (VM M0 (gO G) (nI m) (bO B)) (mn M0) x y with
            | true => rfl
            | false => rw [e] at z; exact absurd rfl z
          have go := ih (B + 1) (by omega) M2 I2 (l ++ [fvO G m B]) (by rw [lsF_one (fl3_t ⟨ok, hit⟩), hl]; simp only [List.append_assoc])
          rw [List.length_append, List.length_singleton, ← nI_1, ← pick_push hlen, ← bO_s (by omega)] at go
          refine ⟨fun e => ?_, fun e => ?_⟩
          · rw [if_pos e] at go; exact go
          · rw [if_neg e] at go; exact go
      refine L_Mod_seekFits_35 ⟨fun c => ?_, fun _ => ⟨fun c => ⟨fun c2 => look (Or.inr ?_), fun c2 => skip (fl3_f ?_) M' hI⟩, fun c => look (Or.inl c)⟩⟩
      · rw [i_lt, hbs] at c
        have c : (2 : Int) < B - 2 := c
        omega
      · have := congrArg Int32.toInt c2
        rw [i_nI (by omega)] at this
        have : (m : Int) = 0 := this
        omega
      · rintro ⟨z | z, -⟩
        · exact z c
        · exact c2 (by rw [z]; rfl)
  have l2 : ∀ G, G < 19 → (∀ M', IV M' → ∀ l : List Int32, l = lsF (fl1 M0 x y) (G + 1) → RX xs shL md_Mod_seekFits 14 [.ref 516, .int (nI x), .int (nI y), .int i, .int (nI l.length), .int (pick l i), .int (gO (G + 1)), .null, .null] [] M' L Q) → ∀ r m, m + r = 6 → ∀ M', IV M' → ∀ l : List Int32, l = lsF (fl1 M0 x y) G ++ lsF (fl2 M0 x y G) m → RX xs shL md_Mod_seekFits 24 [.ref 516, .int (nI x), .int (nI y), .int i, .int (nI l.length), .int (pick l i), .int (gO G), .int (nI m), .null] [] M' L Q := by
    intro G hG1 nxt r
    induction r with
    | zero =>
      intro m hm M' hI l hl
      have : m = 6 := by omega
      subst this
      refine L_Mod_seekFits_24 ⟨fun _ => ?_, fun c => absurd (by decide) c⟩
      rw [gO_s (by omega)]
      exact nxt M' hI l hl
    | succ r ih =>
      intro m hm M' hI l hl
      refine L_Mod_seekFits_24 ⟨fun c => absurd ((nI_leI (a := 6) (b := m) (by omega) (by omega)).mp c) (by omega), fun _ => ?_⟩
      refine l3 G m hG1 (by omega) (fun M2 I2 l2 e2 => ih (m + 1) (by omega) M2 I2 l2 e2) 5 0 (by omega) M' hI l ?_
      rw [show lsF (fl3 M0 x y G m) 0 = [] from rfl, List.append_nil]; exact hl
  have l1 : ∀ r G, G + r = 19 → ∀ M', IV M' → ∀ l : List Int32, l = lsF (fl1 M0 x y) G → RX xs shL md_Mod_seekFits 14 [.ref 516, .int (nI x), .int (nI y), .int i, .int (nI l.length), .int (pick l i), .int (gO G), .null, .null] [] M' L Q := by
    intro r
    induction r with
    | zero =>
      intro G hG1 M' hI l hl
      have : G = 19 := by omega
      subst this
      have g := hQ M' hI.1
      have hl : l = flm M0 x y := hl
      rw [← hl] at g
      refine L_Mod_seekFits_14 ⟨fun _ => ⟨fun e => ?_, fun e => ?_⟩, fun c => absurd (by decide) c⟩
      · rw [if_pos e] at g; exact g
      · rw [if_neg e] at g; exact g
    | succ r ih =>
      intro G hG1 M' hI l hl
      refine L_Mod_seekFits_14 ⟨fun c => ?_, fun _ => ?_⟩
      · rw [i_lt, gO_i (by omega)] at c
        have c : (9 : Int) < G - 9 := c
        omega
      refine l2 G (by omega) (fun M2 I2 l2 e2 => ih (G + 1) (by omega) M2 I2 l2 e2) 6 0 (by omega) M' hI l ?_
      rw [show lsF (fl2 M0 x y G) 0 = [] from rfl, List.append_nil]; exact hl
  refine L_Mod_seekFits_0 (m_measure0 hG hE (fun M1 E1 N1 => ⟨rfl, ?_⟩))
  have := l1 19 0 (by omega) M1 ⟨E1, N1⟩ [] rfl
  rw [pick_nil] at this
  exact this
end TJ

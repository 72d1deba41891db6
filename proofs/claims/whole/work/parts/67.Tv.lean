/-! blame and fits: class and reference answer alike -/
theorem Sh_fr4 {M M' : Mem} {V : Vw} (hn : V.n ≤ 40) (h : Sh M V) (f : ∀ b j, ¬ rs b → 126 ≤ b → b < 336 → M' b j = M b j) : Sh M' V := by
  obtain ⟨⟨h1, h2, h3⟩, h4, h5, h6⟩ := h
  have n1 : ∀ b, b < 136 → ¬ rs b := fun b hb => rs_lo hb
  refine ⟨⟨?_, ?_, h3⟩, ?_, fun y hy x => ?_, fun t ht => ?_⟩
  · rw [f _ _ (n1 _ (by decide)) (by decide) (by decide)]; exact h1
  · rw [f _ _ (n1 _ (by decide)) (by decide) (by decide)]; exact h2
  · rw [f _ _ (n1 _ (by decide)) (by decide) (by decide)]; exact h4
  · rw [← h5 y hy x]; unfold gp; rw [f _ _ (n1 _ (by decide)) (by decide) (by decide)]
  · rw [f _ _ (rs_row t) (by omega) (by omega), f _ _ (rs_row t) (by omega) (by omega)]; exact h6 t ht
section TV
variable {xs : List Int32} {M : Mem} {L : Int64}
theorem Ms0_ct {M0 M' : Mem} (hE : Eq0 M0 M') (hN : Ms0 M0 M') {k : Nat} (hk : 22 ≤ k) (v : Int32) : Ms0 (up M' 516 k v) (up M' 516 k v) := by
  obtain ⟨m1, m2, m3⟩ := mn_516 hE hk v
  intro x y hx hy
  rw [m2] at hx; rw [m3] at hy
  rw [m2, m3, mLI_516 hE, up_ne _ _ (by omega)]
  exact hN x y hx hy
/-- whether blame may be asked for: 1 with the patches ahead, or 0 -/
theorem c_mayBlame (hR : Rel M) {Q : Option Value → Mem → Int64 → Prop}
    (h0 : ∀ M', Eq0 M M' → ¬ (¬ NE (AH (VM M 0 0 0) (mn M)) ∧ ¬ 20 ≤ M 516 24) → Q (some (.int 0)) M' L)
    (h1 : ∀ M', Eq0 M M' → (¬ NE (AH (VM M 0 0 0) (mn M)) ∧ ¬ 20 ≤ M 516 24) → Sh M' (VM M 0 0 0) → (∀ t, t < mn M → Rd M' (VM M 0 0 0) t) → (∀ t, t ≤ mn M → shw M' (339 + 4 * t) (AH (VM M 0 0 0) t)) → Q (some (.int 1)) M' L) : RX xs shL md_Peg_mayBlame 0 [.ref 0] [] M L Q := by
  have hG := Rel_GM hR
  have hV := GM_ok hG 0 0 0
  have hn : mn M ≤ 40 := hG.2.1.2
  have e8 : M 0 8 = M 516 24 := (hR.2.2.2.2.1 2 (by decide)).1
  refine L_Peg_mayBlame_0 ⟨fun c => h0 M (Eq0_refl M) (fun q => q.2 (by rw [← e8]; exact c)), fun c => ?_⟩
  refine c_look hR (fun M1 E1 g1 g2 s1 r1 a1 => ⟨_, rfl, isP_ahead (by omega), ?_⟩)
  have em := emp_iff (M := M) (a1 (mn M) (Nat.le_refl _)) (AH_in hV (mn M)) hV.2.1
  exact ⟨fun q => h1 M1 E1 ⟨em.mp q, by rw [← e8]; exact c⟩ s1 r1 a1, fun q => h0 M1 E1 (fun z => q (em.mpr z.1))⟩
theorem blame_core (hR : Rel M) {Q : Option Value → Mem → Int64 → Prop} (ok : ¬ NE (AH (VM M 0 0 0) (mn M)) ∧ ¬ 20 ≤ M 516 24) {M1 : Mem} (E1 : Eq0 M M1) (s1 : Sh M1 (VM M 0 0 0)) (r1 : ∀ t, t < mn M → Rd M1 (VM M 0 0 0) t) (a1 : ∀ t, t ≤ mn M → shw M1 (339 + 4 * t) (AH (VM M 0 0 0) t))
    (hQ : ∀ M2, Eq0 (up M 0 8 (M 0 8 + 1)) M2 → Fnd M2 (blm (VM M 0 0 0)) → Q none M2 L) : RX xs shL md_Reckoning_findBlamed 0 [.ref 336] [] (up M1 0 8 (M1 0 8 + 1)) L Q := by
  have hG := Rel_GM hR
  have hV := GM_ok hG 0 0 0
  have hn : mn M ≤ 40 := hG.2.1.2
  have e8 : M1 0 8 = M 0 8 := E1 _ _ (ns_lo (by decide) (by decide))
  rw [e8]
  have u1 : ∀ b k, ¬ (b = 0 ∧ k = 8) → up M1 0 8 (M 0 8 + 1) b k = M1 b k := fun b k z => up_ne _ _ z
  refine c_findBlamed hV VM_st (Sh_fr4 hn s1 (fun b j q hb _ => u1 b j (by omega))) (fun t ht => Rd_fr2 (r1 t ht) (fun b j hb => u1 b j (by omega))) (fun t ht => shw_fr (a1 t ht) (fun k => u1 _ k (by omega))) (fun M2 f2 g2 F2 => hQ M2 (fun b k z => ?_) F2)
  have e : up M1 0 8 (M 0 8 + 1) b k = up M 0 8 (M 0 8 + 1) b k := by
    by_cases e : b = 0 ∧ k = 8
    · rw [e.1, e.2, up_same, up_same]
    · rw [up_ne _ _ e, up_ne _ _ e]; exact E1 b k z
  rw [← e]
  by_cases hb : b < 336 ∨ (b = 336 ∧ k ≠ 9)
  · exact f2 b k hb
  · exact g2 b k (by unfold Scr at z; omega)
/-- the reference, over a memory in which a class's counter has gone on -/
theorem up0_GM (hG : GM M) (k : Nat) (v : Int32) : GM (up M 0 k v) := ec_GM (fun b j h1 _ _ _ => up_ne _ _ (by omega)) hG
theorem up0_VM (k : Nat) (v g m b : Int32) : VM (up M 0 k v) g m b = VM M g m b := VM_C (fun b j h1 _ _ _ => up_ne _ _ (by omega)) (fun t => up_ne _ _ (by omega)) g m b
theorem up0_mn (k : Nat) (v : Int32) : mn (up M 0 k v) = mn M ∧ mw (up M 0 k v) = mw M ∧ mh (up M 0 k v) = mh M := by
  refine ⟨?_, ?_, ?_⟩
  · unfold mn; rw [up_ne _ _ (by omega)]
  · unfold mw; rw [up_ne _ _ (by omega)]
  · unfold mh; rw [up_ne _ _ (by omega)]
theorem ct24 (hR : Rel M) (h : ¬ 20 ≤ M 516 24) : (M 516 24).toInt < 20 := by
  rw [i_le] at h
  have h : ¬ (20 : Int) ≤ (M 516 24).toInt := h
  omega
theorem m_blameSeek (hR : Rel M) (ok : ¬ NE (AH (VM M 0 0 0) (mn M)) ∧ ¬ 20 ≤ M 516 24) {M2 : Mem} (E2 : Eq0 (up M 0 8 (M 0 8 + 1)) M2) {i : Int32} {Q : Option Value → Mem → Int64 → Prop}
    (hQ : ∀ M3, Rel M3 → M3 516 33 = pick (blm (VM M 0 0 0)) i → Q (some (.int (nI (blm (VM M 0 0 0)).length))) M3 L) : RX xs shL md_Mod_isBlaming 0 [.ref 516] [] M2 L (fun r M_1 L_2 => ∃ v_3 : Int32, r = some (.int v_3) ∧ ((v_3 = 0 → False) ∧ (¬ (v_3 = 0) → RX xs shL md_Mod_seek 0 [.ref 516, .int i] [] (up M_1 516 24 ((M_1 516 24) + 1)) L_2 Q))) := by
  have hG := Rel_GM hR
  have GX := up0_GM hG 8 (M 0 8 + 1)
  obtain ⟨n1, n2, n3⟩ := up0_mn (M := M) 8 (M 0 8 + 1)
  have e24 : up M 0 8 (M 0 8 + 1) 516 24 = M 516 24 := up_ne _ _ (by omega)
  refine m_isBlaming GX E2 (fun M3 E3 N3 => ?_)
  rw [up0_VM, n1, e24]
  refine ⟨_, rfl, fun z => absurd ok (bI_p0 z), fun _ => ?_⟩
  have e3 : M3 516 24 = M 516 24 := (E3 _ _ (ns_516 (by decide))).trans e24
  have V4 : VM (up M3 516 24 (M3 516 24 + 1)) 0 0 0 = VM M 0 0 0 := (VM_516 E3 (by decide) _ 0 0 0).trans (up0_VM 8 _ 0 0 0)
  refine m_seek (ec_GM (EqC_516 E3 (by decide) _) GX) (Eq0_refl _) (Ms0_ct E3 N3 (by decide) _) (fun M4 E4 h4 => ?_)
  rw [V4] at h4 ⊢
  exact hQ M4 (Rel_ct hR (j := 2) (by decide) (ct24 hR ok.2) (M1 := M3) E3 E4) h4
theorem y_blamed (hR : Rel M) : Tw xs md_Peg_blamed md_Mod_blamed [.ref 0] [.ref 516] M L := by
  have hG := Rel_GM hR
  refine L_Peg_blamed_0 (c_mayBlame hR (fun M1 E1 no => ⟨_, rfl, fun _ => ⟨_, rfl, ?_⟩, fun e => absurd rfl e⟩) (fun M1 E1 ok s1 r1 a1 => ⟨_, rfl, fun e => absurd e (by decide), fun _ => ?_⟩))
  · refine L_Mod_blamed_0 (m_isBlaming hG E1 (fun M2 E2 _ => ⟨_, rfl, fun _ => ⟨rfl, Rel_0 hR E2⟩, fun z => absurd (bI_p1 z) no⟩))
  · refine blame_core hR ok E1 s1 r1 a1 (fun M2 E2 F2 => ⟨rfl, _, rfl, ?_⟩)
    rw [F2.1]
    refine L_Mod_blamed_0 (x_mono (m_blameSeek hR ok E2 (i := -1) (Q := fun r M5 _ => ∃ v7 : Int32, r = some (.int v7) ∧ some (Value.int v7) = some (Value.int (nI (blm (VM M 0 0 0)).length)) ∧ Rel M5) (fun M3 R3 _ => ⟨_, rfl, rfl, R3⟩)) ?_)
    rintro r M3 L3 ⟨v, h1, h2, h3⟩
    exact ⟨v, h1, fun z => (h2 z).elim, h3⟩
theorem y_blame (hR : Rel M) (i : Int32) : Tw xs md_Peg_blame md_Mod_blame [.ref 0, .int i] [.ref 516, .int i] M L := by
  have hG := Rel_GM hR
  refine L_Peg_blame_0 (c_mayBlame hR (fun M1 E1 no => ⟨_, rfl, fun _ => ⟨_, rfl, ?_⟩, fun e => absurd rfl e⟩) (fun M1 E1 ok s1 r1 a1 => ⟨_, rfl, fun e => absurd e (by decide), fun _ => ?_⟩))
  · refine L_Mod_blame_0 (m_isBlaming hG E1 (fun M2 E2 _ => ⟨_, rfl, fun _ => ⟨rfl, Rel_0 hR E2⟩, fun z => absurd (bI_p1 z) no⟩))
  · refine blame_core hR ok E1 s1 r1 a1 (fun M2 E2 F2 => ⟨rfl, c_foundAt F2 (blm_le hG.2.1.2) ⟨_, rfl, _, rfl, ?_⟩⟩)
    refine L_Mod_blame_0 (x_mono (m_blameSeek hR ok E2 (i := i) (Q := fun r M5 _ => ∃ v7 : Int32, r = some (.int v7) ∧ ((0 ≤ i → some (Value.int (M5 516 33)) = some (Value.int (pick (blm (VM M 0 0 0)) i)) ∧ Rel M5) ∧ (¬ 0 ≤ i → some (Value.int (-1)) = some (Value.int (pick (blm (VM M 0 0 0)) i)) ∧ Rel M5))) (fun M3 R3 h3 => ⟨_, rfl, fun z => ⟨?_, R3⟩, fun z => ⟨?_, R3⟩⟩)) ?_)
    · rw [h3]
    · unfold pick; rw [if_neg z]
    · rintro r M3 L3 ⟨v, h1, h2, h3⟩
      exact ⟨v, h1, fun z => (h2 z).elim, h3⟩
theorem up0_Rl (hR : Rel M) (v : Int32) : Rl (up M 0 6 v) := by
  have f : ∀ b k, b ≠ 0 → up M 0 6 v b k = M b k := fun b k h => up_ne _ _ (fun e => h e.1)
  obtain ⟨h1, h2, h3, h4, -, n2, -⟩ := hR
  exact ⟨RBd_fr h1 (fun b k q => f b k (by unfold bdC at q; omega)), RCh_fr h2 (fun b k q => f b k (by unfold chC at q; omega)), RLg_fr h3 (fun b k q => f b k (by unfold lgC at q; omega)), RWd_fr h4 (fun b k q => f b k (by unfold wdC at q; omega)), fun k hk => (f _ _ (by decide)).trans (n2 k hk)⟩
theorem y_fits (hR : Rel M) (a b : Int32) : Tw xs md_Peg_fits md_Mod_fits [.ref 0, .int a, .int b] [.ref 516, .int a, .int b] M L := by
  have hG := Rel_GM hR
  have ci := cell_iff hR (Eq0_refl M) (x := a) (y := b)
  have ct : (M 0 6 < 20 ↔ (M 516 22).toInt < 20) ∧ (20 ≤ M 0 6 ↔ M 516 22 = 20) := ct_lt hR (j := 0) (by decide)
  refine L_Peg_fits_0 ⟨fun h => ⟨fun c => ?_, fun c => ⟨_, rfl, L_Mod_fits_0 ⟨fun _ => ⟨fun _ => ⟨rfl, hR⟩, fun q => absurd (ct.2.mp (by rw [i_le]; rw [i_lt] at c; have c : ¬ (M 0 6).toInt < 20 := c; show (20 : Int) ≤ _; omega)) q⟩, fun q => absurd (ci.mpr h) q⟩⟩⟩, fun h => ⟨_, rfl, L_Mod_fits_0 ⟨fun q => absurd (ci.mp q) h, fun _ => ⟨rfl, hR⟩⟩⟩⟩
  obtain ⟨x, y, x1, y1, x2, y2, x3, y3⟩ := cell_nI hR h
  have hlt := ct.1.mp c
  have c22 : ¬ M 516 22 = 20 := fun e => by rw [e] at hlt; exact absurd hlt (by decide)
  obtain ⟨n1, n2, n3⟩ := up0_mn (M := M) 6 (M 0 6 + 1)
  rw [x3, y3]
  refine c_findFits (up0_Rl hR _) (by rw [n2]; exact x1) (by rw [n3]; exact y1) (fun M1 E1 g1 F1 => ⟨rfl, _, rfl, ?_⟩)
  rw [F1.1, flm_congr (M := M) (fun g m b => up0_VM 6 _ g m b) n1]
  have e9 : ∀ k, k < 26 → M1 516 k = M 516 k := fun k _ => (g1 516 k (by decide)).trans (up_ne _ _ (by omega))
  have ci1 : ((0 ≤ nI x ∧ nI x ≤ M1 516 9 - 1) ∧ 0 ≤ nI y ∧ nI y ≤ M1 516 10 - 1) := by rw [e9 9 (by decide), e9 10 (by decide), ← x3, ← y3]; exact ci.mpr h
  refine L_Mod_fits_0 ⟨fun _ => ?_, fun q => absurd ci1 q⟩
  rw [e9 22 (by decide)]
  refine ⟨fun q => absurd q c22, fun _ => ?_⟩
  have G4 : GM (up M1 516 22 (M 516 22 + 1)) := ec_GM (EqC_516 E1 (by decide) _) (up0_GM hG 6 _)
  obtain ⟨m1, m2, m3⟩ := mn_516 E1 (k := 22) (by decide) (M 516 22 + 1)
  refine m_seekFits G4 (Eq0_refl _) (by rw [m2, n2]; exact x1) (by rw [m3, n3]; exact y1) (fun M4 E4 => ⟨_, rfl, ?_, ?_⟩)
  · rw [if_pos rfl, flm_congr (M := M) (fun g m b => (VM_516 E1 (by decide) _ g m b).trans (up0_VM 6 _ g m b)) (m1.trans n1)]
  · refine Rel_ct hR (j := 0) (by decide) hlt (M1 := M1) E1 ?_
    show Eq0 (up M1 516 22 (M1 516 22 + 1)) M4
    rw [e9 22 (by decide)]; exact E4
theorem y_fit (hR : Rel M) (a b i : Int32) : Tw xs md_Peg_fit md_Mod_fit [.ref 0, .int a, .int b, .int i] [.ref 516, .int a, .int b, .int i] M L := by
  have hG := Rel_GM hR
  have ci := cell_iff hR (Eq0_refl M) (x := a) (y := b)
  have ct : (M 0 6 < 20 ↔ (M 516 22).toInt < 20) ∧ (20 ≤ M 0 6 ↔ M 516 22 = 20) := ct_lt hR (j := 0) (by decide)
  refine L_Peg_fit_0 ⟨fun h => ⟨fun c => ?_, fun c => ⟨_, rfl, L_Mod_fit_0 ⟨fun _ => ⟨fun _ => ⟨rfl, hR⟩, fun q => absurd (ct.2.mp (by rw [i_le]; rw [i_lt] at c; have c : ¬ (M 0 6).toInt < 20 := c; show (20 : Int) ≤ _; omega)) q⟩, fun q => absurd (ci.mpr h) q⟩⟩⟩, fun h => ⟨_, rfl, L_Mod_fit_0 ⟨fun q => absurd (ci.mp q) h, fun _ => ⟨rfl, hR⟩⟩⟩⟩
  obtain ⟨x, y, x1, y1, x2, y2, x3, y3⟩ := cell_nI hR h
  have hlt := ct.1.mp c
  have c22 : ¬ M 516 22 = 20 := fun e => by rw [e] at hlt; exact absurd hlt (by decide)
  obtain ⟨n1, n2, n3⟩ := up0_mn (M := M) 6 (M 0 6 + 1)
  rw [x3, y3]
  refine c_findFits (up0_Rl hR _) (by rw [n2]; exact x1) (by rw [n3]; exact y1) (fun M1 E1 g1 F1 => ⟨rfl, ?_⟩)
  rw [flm_congr (M := M) (fun g m b => up0_VM 6 _ g m b) n1] at F1
  refine c_foundAt F1 (by have := flm_le M x y; omega) ⟨_, rfl, _, rfl, ?_⟩
  have e9 : ∀ k, k < 26 → M1 516 k = M 516 k := fun k _ => (g1 516 k (by decide)).trans (up_ne _ _ (by omega))
  have ci1 : ((0 ≤ nI x ∧ nI x ≤ M1 516 9 - 1) ∧ 0 ≤ nI y ∧ nI y ≤ M1 516 10 - 1) := by rw [e9 9 (by decide), e9 10 (by decide), ← x3, ← y3]; exact ci.mpr h
  refine L_Mod_fit_0 ⟨fun _ => ?_, fun q => absurd ci1 q⟩
  rw [e9 22 (by decide)]
  have G4 : GM (up M1 516 22 (M 516 22 + 1)) := ec_GM (EqC_516 E1 (by decide) _) (up0_GM hG 6 _)
  obtain ⟨m1, m2, m3⟩ := mn_516 E1 (k := 22) (by decide) (M 516 22 + 1)
  have rel : ∀ M4, Eq0 (up M1 516 22 (M 516 22 + 1)) M4 → Rel M4 := fun M4 E4 => by
    refine Rel_ct hR (j := 0) (by decide) hlt (M1 := M1) E1 ?_
    show Eq0 (up M1 516 22 (M1 516 22 + 1)) M4
    rw [e9 22 (by decide)]; exact E4
  refine ⟨fun q => absurd q c22, fun _ => ⟨fun z => ?_, fun z => ⟨?_, rel _ (Eq0_refl _)⟩⟩⟩
  · refine m_seekFits G4 (Eq0_refl _) (by rw [m2, n2]; exact x1) (by rw [m3, n3]; exact y1) (fun M4 E4 => ⟨_, rfl, ?_, rel M4 E4⟩)
    rw [if_neg (fun e => by rw [e] at z; exact absurd z (by decide)), flm_congr (M := M) (fun g m b => (VM_516 E1 (by decide) _ g m b).trans (up0_VM 6 _ g m b)) (m1.trans n1)]
  · unfold pick; rw [if_neg z]
end TV

/-! questions: class and reference answer alike -/
theorem fauG_congr {f g : Nat → Int32} : ∀ k i d, (∀ j, i ≤ j → j < i + k → f j = g j) → fauG f k i d = fauG g k i d := by
  intro k
  induction k with
  | zero => intro i d _; rfl
  | succ k ih =>
    intro i d h
    have e := h i (by omega) (by omega)
    have n := fun d => ih (i + 1) d (fun j h1 h2 => h j (by omega) (by omega))
    simp only [fauG]
    rw [e, n, n, n]
theorem dueF_congr {f g : Nat → Int32} : ∀ i, (∀ j, j < i → f j = g j) → dueF f i = dueF g i := by
  intro i
  induction i with
  | zero => intro _; rfl
  | succ i ih => intro h; simp only [dueF]; rw [h i (by omega), ih (fun j hj => h j (by omega))]
theorem tlS_congr {f g : Nat → Int32} {n : Nat} (h : ∀ j, j < n → f j = g j) : ∀ k, k ≤ n → tlS f n k = tlS g n k := by
  intro k
  induction k with
  | zero => intro _; rfl
  | succ k ih =>
    intro hk
    simp only [tlS]
    rw [ih (by omega), h (n - (k + 1)) (by omega), dueF_congr (f := f) (g := g) (n - k) (fun j hj => h j (by omega))]
theorem okW_congr {f g : Nat → Int32} {n : Nat} (h : ∀ j, j < n → f j = g j) (hf : okW f n) : okW g n := by
  refine ⟨fun j hj => ?_, ?_⟩
  · rw [← dueF_congr (f := f) j (fun i hi => h i (by omega)), ← h j hj]; exact hf.1 j hj
  · rw [← dueF_congr (f := f) n (fun i hi => h i hi)]; exact hf.2
section TS
variable {xs : List Int32} {M : Mem} {L : Int64}
theorem y_fault (hR : Rel M) : Tw xs md_Peg_fault md_Mod_fault [.ref 0] [.ref 516] M L := by
  obtain ⟨w1, w2, w3, w4⟩ := hR.2.2.2.1
  refine L_Peg_fault_0 (c_firstFault (w1.trans w2) w3 ⟨_, rfl, _, rfl, L_Mod_fault_0 (m_faultOf w2 w3 ⟨_, rfl, ?_, hR⟩)⟩)
  unfold fauF
  rw [fauG_congr (f := M 519) (g := M 2) _ _ _ (fun j h1 h2 => (w4 j (by omega)).symm)]
theorem y_told (hR : Rel M) : Tw xs md_Peg_told md_Mod_told [.ref 0] [.ref 516] M L := by
  obtain ⟨w1, w2, w3, w4⟩ := hR.2.2.2.1
  have e : fauF (M 519) (nwd M) = fauF (M 2) (nwd M) := by
    unfold fauF
    exact fauG_congr (f := M 519) (g := M 2) _ _ _ (fun j h1 h2 => (w4 j (by omega)).symm)
  refine L_Peg_told_0 (c_firstFault (w1.trans w2) w3 ⟨_, rfl, fun z => ?_, fun z => ?_⟩)
  · have ok : okW (M 2) (nwd M) := by
      obtain ⟨a, b⟩ := fau_holds (f := M 2) w3 (nwd M) 0 (by omega) z
      exact ⟨fun j hj => a j (by omega) hj, b⟩
    refine c_meaning (w1.trans w2) w3 ok (fun M1 f1 => ⟨_, rfl, _, rfl, ?_⟩)
    have hE : Eq0 M M1 := fun b k q => f1 b k (fun z => q (Or.inl z))
    have f519 : M1 519 = M 519 := funext fun k => f1 _ k (by decide)
    have w2' : M1 516 2 = nI (nwd M) := (f1 _ _ (by decide)).trans w2
    refine L_Mod_told_0 (m_faultOf w2' w3 ⟨_, rfl, fun _ => ?_, fun q => absurd ?_ q⟩)
    · rw [w2']
      have ok' : okW (M1 519) (nwd M) := by rw [f519]; exact okW_congr (fun j hj => w4 j (by omega)) ok
      refine m_toldLoop w3 ok' (fun M2 f2 => ⟨?_, Rel_0 hR (fun b k q => (f2 b k (fun z => q (by rw [z]; unfold Scr; omega))).trans (hE b k q))⟩)
      rw [f519, tlS_congr (f := M 519) (g := M 2) (fun j hj => (w4 j (by omega)).symm) _ (Nat.le_refl _)]
    · rw [f519, e]; exact z
  · refine ⟨_, rfl, L_Mod_told_0 (m_faultOf w2 w3 ⟨_, rfl, fun q => absurd ?_ z, fun _ => ⟨rfl, hR⟩⟩)⟩
    rw [← e]; exact q
theorem y_leeway (hR : Rel M) (a b c : Int32) : Tw xs md_Peg_leeway md_Mod_leeway [.ref 0, .int a, .int b, .int c] [.ref 516, .int a, .int b, .int c] M L := by
  refine L_Peg_leeway_0 ⟨fun h => ⟨fun h2 => ⟨fun h3 => ⟨_, rfl, L_Mod_leeway_0 ⟨fun _ => ⟨fun _ => ⟨fun _ => ⟨?_, hR⟩, fun q => absurd h3 q⟩, fun q => absurd h2 q⟩, fun q => absurd h q⟩⟩, fun h3 => ⟨_, rfl, L_Mod_leeway_0 ⟨fun _ => ⟨fun _ => ⟨fun q => absurd q h3, fun _ => ⟨rfl, hR⟩⟩, fun q => absurd h2 q⟩, fun q => absurd h q⟩⟩⟩, fun h2 => ⟨_, rfl, L_Mod_leeway_0 ⟨fun _ => ⟨fun q => absurd q h2, fun _ => ⟨rfl, hR⟩⟩, fun q => absurd h q⟩⟩⟩, fun h => ⟨_, rfl, L_Mod_leeway_0 ⟨fun q => absurd q h, fun _ => ⟨rfl, hR⟩⟩⟩⟩
  obtain ⟨k, k1, k2⟩ := pt_nI h
  obtain ⟨j, j1, j2⟩ := pt_nI h2
  rw [k2, j2, ang_eq k k1 j j1]
theorem y_row (hR : Rel M) (a b : Int32) : Tw xs md_Peg_row md_Mod_row [.ref 0, .int a, .int b] [.ref 516, .int a, .int b] M L := by
  have ri := row_iff hR (M' := M) rfl (w := a)
  refine L_Peg_row_0 ⟨fun h => ⟨fun h2 => ?_, fun h2 => ⟨_, rfl, L_Mod_row_0 ⟨fun _ => ⟨fun q => absurd q h2, fun _ => ⟨rfl, hR⟩⟩, fun q => absurd (ri.mpr h) q⟩⟩⟩, fun h => ⟨_, rfl, L_Mod_row_0 ⟨fun q => absurd (ri.mp q) h, fun _ => ⟨rfl, hR⟩⟩⟩⟩
  obtain ⟨t, t1, t2, t3⟩ := row_nI2 hR h
  obtain ⟨j, j1, j2⟩ := le_nI (n := 4) (by decide) h2
  obtain ⟨r1, r2, -⟩ := hR.2.2.1.2.2.2.2.2.2.2.2 t t1
  have cl : a.toNatClampNeg = t := by rw [t3, nI_cl (by omega)]
  have fin : ∀ v : Int32, v = M 525 (5 * t + j) → ∃ v' : Int32, some (Value.int v) = some (Value.int v') ∧ RX xs shL md_Mod_row 0 [.ref 516, .int a, .int b] [] M L (fun r2 M2 _ => r2 = some (.int v') ∧ Rel M2) := by
    intro v hv
    refine ⟨_, rfl, L_Mod_row_0 ⟨fun _ => ⟨fun _ => ?_, fun q => absurd h2 q⟩, fun q => absurd (ri.mpr h) q⟩⟩
    rw [t3, j2, show (5 : Int32) * nI t + nI j = nI (5 * t + j) from nI_lin 5 t j, nI_cl (by omega)]
    exact ⟨vp_nI (by omega) (by omega), by rw [hv], hR⟩
  rw [cl]
  refine ⟨by rw [t3]; exact vp_nI (by omega) (by omega), L_Row_fact_0 t2 ?_⟩
  match j, j1 with
  | 0, _ => exact Or.inl ⟨j2, _, rfl, fin _ (r1 0 (by decide))⟩
  | 1, _ => exact Or.inr (Or.inl ⟨j2, _, rfl, fin _ (r1 1 (by decide))⟩)
  | 2, _ => exact Or.inr (Or.inr (Or.inl ⟨j2, _, rfl, fin _ (r1 2 (by decide))⟩))
  | 3, _ => exact Or.inr (Or.inr (Or.inr (Or.inl ⟨j2, _, rfl, fin _ (r1 3 (by decide))⟩)))
  | 4, _ =>
    refine Or.inr (Or.inr (Or.inr (Or.inr ⟨Or.inr (by rw [j2]; decide), _, rfl, fin _ ?_⟩)))
    have e4 : M (136 + 5 * t) 7 = M 525 (5 * t + 4) := r1 4 (by decide)
    rw [e4]
    rcases r2 with r2 | r2
    · rw [r2]; exact bI_f (fun q => q rfl)
    · rw [r2]; exact bI_t (by decide)
/-- the look ahead, from an agreement -/
theorem c_look (hR : Rel M) {Q : Option Value → Mem → Int64 → Prop} (hQ : ∀ M', Eq0 M M' → (∀ b k, 503 ≤ b → M' b k = M b k) → (∀ b k, b < 136 → M' b k = M b k) → Sh M' (VM M 0 0 0) → (∀ t, t < mn M → Rd M' (VM M 0 0 0) t) → (∀ t, t ≤ mn M → shw M' (339 + 4 * t) (AH (VM M 0 0 0) t)) → Q (some (.ref (339 + 4 * mn M))) M' L) : RX xs shL md_Reckoning_lookAhead 0 [.ref 336] [] M L Q :=
  v_lookAhead (GM_ok (Rel_GM hR) 0 0 0) (Rel_Sh hR 0 0 0) (Rel_PV hR) (fun M1 f1 s1 r1 a1 => hQ M1 (fun b k q => f1 b k (fun z => q (Or.inr (Or.inl z))) (fun t ht e => q (by unfold Scr; omega))) (fun b k hb => f1 b k (by unfold rs; omega) (fun t ht => by omega)) (fun b k hb => f1 b k (rs_lo hb) (fun t ht => by omega)) s1 r1 a1)
theorem y_patch (hR : Rel M) (a : Int32) : Tw xs md_Peg_patch md_Mod_patch [.ref 0, .int a] [.ref 516, .int a] M L := by
  have hG := Rel_GM hR
  have hV := GM_ok hG 0 0 0
  have l5 := hR.2.2.1.2.2.2.2.1
  refine L_Peg_patch_0 ⟨fun h => ?_, fun h => ⟨_, rfl, L_Mod_patch_0 ⟨fun q => absurd (by rw [l5]; exact q) h, fun _ => ⟨rfl, hR⟩⟩⟩⟩
  obtain ⟨t, t1, t2, t3⟩ := beh_nI hR h
  have cl : a.toNatClampNeg = t := by rw [t3, nI_cl (by omega)]
  refine c_look hR (fun M1 E1 g1 g2 s1 r1 a1 => ⟨_, rfl, isP_ahead (by have := hG.2.1.2; omega), ?_⟩)
  rw [cl]
  refine ⟨by rw [t3]; exact vp_nI (by omega) (by omega), t_size (isP_ahead (by omega)) (a1 t t1) (AH_in hV t) hV.2.1 hV.2.2.2.1 ⟨_, rfl, _, rfl, L_Mod_patch_0 ⟨fun _ => ?_, fun q => absurd (by rw [E1 _ _ (ns_516 (by decide)), ← l5]; exact h) q⟩⟩⟩
  refine m_goPlain hG E1 (fun M2 E2 N2 _ h2 => ⟨rfl, ?_⟩)
  rw [t3]
  refine m_lay t2 ⟨rfl, m_cells (w := mw M) (h := mh M) (MCH_fr hG (Eq0_rowN E2 (by decide) _ _)) (A := AH (VM M 0 0 0) t) (fun x y hx hy => ?_) ⟨_, rfl, rfl, Rel_0 hR (Eq0_rowN E2 (by decide) _ _)⟩⟩
  have w20 := hV.2.1
  have h20 := hV.2.2.2.1
  have hx' : x < (VM M 0 0 0).w := hx
  have hy' : y < (VM M 0 0 0).h := hy
  rw [rowN_lt _ _ _ (by omega), h2 t t1 x y hx hy, b01_and]
theorem y_has (hR : Rel M) (a b c : Int32) : Tw xs md_Peg_has md_Mod_has [.ref 0, .int a, .int b, .int c] [.ref 516, .int a, .int b, .int c] M L := by
  have hG := Rel_GM hR
  have hV := GM_ok hG 0 0 0
  have l5 := hR.2.2.1.2.2.2.2.1
  have ci := cell_iff hR (Eq0_refl M) (x := b) (y := c)
  refine L_Peg_has_0 ⟨fun h => ⟨fun h2 => ?_, fun h2 => ⟨_, rfl, L_Mod_has_0 ⟨fun _ => ⟨fun q => absurd (ci.mp q) h2, fun _ => ⟨rfl, hR⟩⟩, fun q => absurd (by rw [← l5]; exact h) q⟩⟩⟩, fun h => ⟨_, rfl, L_Mod_has_0 ⟨fun q => absurd (by rw [l5]; exact q) h, fun _ => ⟨rfl, hR⟩⟩⟩⟩
  obtain ⟨t, t1, t2, t3⟩ := beh_nI hR h
  obtain ⟨x, y, x1, y1, x2, y2, x3, y3⟩ := cell_nI hR h2
  have cl : a.toNatClampNeg = t := by rw [t3, nI_cl (by omega)]
  refine c_look hR (fun M1 E1 g1 g2 s1 r1 a1 => ⟨_, rfl, isP_ahead (by have := hG.2.1.2; omega), ?_⟩)
  rw [cl]
  have ci1 := cell_iff hR E1 (x := b) (y := c)
  refine ⟨by rw [t3]; exact vp_nI (by omega) (by omega), _, rfl, L_Mod_has_0 ⟨fun _ => ⟨fun _ => ?_, fun q => absurd (ci1.mpr h2) q⟩, fun q => absurd (by rw [E1 _ _ (ns_516 (by decide)), ← l5]; exact h) q⟩⟩
  refine m_goPlain hG E1 (fun M2 E2 N2 _ h2' => ⟨rfl, ?_⟩)
  have e0 : (400 : Int32) * a + (20 * c + b) = nI (400 * t + (20 * y + x)) := by rw [t3, x3, y3, nI_at]; exact nI_lin 400 t _
  rw [e0, nI_cl (by omega), h2' t t1 x y x1 y1]
  have ans : bI ((0 ≤ b ∧ b ≤ 19) ∧ (0 ≤ c ∧ c ≤ 19) ∧ gp M1 (339 + 4 * t) b.toNatClampNeg c.toNatClampNeg = true) = b01 (AH (VM M 0 0 0) t x y) := by
    rw [x3, y3, nI_cl (by omega), nI_cl (by omega), a1 t t1 y (by omega) x]
    cases e : AH (VM M 0 0 0) t x y with
    | false => exact bI_f (fun q => by have := q.2.2; cases this)
    | true => exact bI_t ⟨⟨by rw [i_le, i_nI (by omega)]; show (0 : Int) ≤ _; omega, by rw [i_le, i_nI (by omega)]; show _ ≤ (19 : Int); omega⟩, ⟨by rw [i_le, i_nI (by omega)]; show (0 : Int) ≤ _; omega, by rw [i_le, i_nI (by omega)]; show _ ≤ (19 : Int); omega⟩, rfl⟩
  refine ⟨vp_nI (by omega) (by omega), fun z => ⟨?_, Rel_0 hR E2⟩, fun z => ⟨?_, Rel_0 hR E2⟩⟩
  · rw [ans, z]
  · rw [ans]
    cases e : AH (VM M 0 0 0) t x y with
    | false => rw [e] at z; exact absurd rfl z
    | true => rfl
/-- here, in the class -/
theorem c_here (hR : Rel M) {t : Nat} (ht : t ≤ mn M) {Q : Option Value → Mem → Int64 → Prop} (hQ : ∀ M', Eq0 M M' → shw M' 503 (HR (VM M 0 0 0) t) → Q (some (.ref 503)) M' L) : RX xs shL md_Reckoning_seenFromEnd 0 [.ref 336, .int (nI t)] [] M L Q := by
  have hG := Rel_GM hR
  have hV := GM_ok hG 0 0 0
  have hn : mn M ≤ 40 := hG.2.1.2
  refine L_Reckoning_seenFromEnd_0 (c_look hR (fun M1 E1 g1 g2 s1 r1 a1 => ⟨_, rfl, isP_ahead (by omega), v_lookBack hV s1 r1 (fun M2 f2 b2 => ⟨rfl, ?_⟩)⟩))
  rw [nI_cl (by omega), setP_set]
  have a2 : shw M2 (339 + 4 * t) (AH (VM M 0 0 0) t) := shw_fr (a1 t ht) (fun k => f2 _ k (fun s hs => by omega))
  have es : setP M2 503 (fun x y => gp (setP M2 503 (gp M2 (339 + 4 * t))) 503 x y && gp (setP M2 503 (gp M2 (339 + 4 * t))) (341 + 4 * t) x y) = setP M2 503 (HR (VM M 0 0 0) t) := setP_congr _ _ (fun y hy x hx => by
    rw [gp_set _ _ _ hx hy, gp_setO _ _ (by omega), a2 y hy x, b2 t ht y hy x]; rfl)
  rw [es]
  refine ⟨vp_nI (by omega) (by omega), hQ _ (fun b k q => ?_) (shw_set hV.2.1 (fun x y hy q => AH_in hV t x y hy (Bool.and_eq_true _ _ ▸ q : _ ∧ _).1))⟩
  rw [setP_o _ _ (fun e => q (by unfold Scr; omega)), f2 b k (fun s hs e => q (by unfold Scr; omega))]
  exact E1 b k q
theorem HR_in {V : Vw} (hV : okV V) (t : Nat) : inC V.w V.h (HR V t) := fun x y hy q => AH_in hV t x y hy (Bool.and_eq_true _ _ ▸ q : _ ∧ _).1
theorem y_here (hR : Rel M) (a : Int32) : Tw xs md_Peg_here md_Mod_here [.ref 0, .int a] [.ref 516, .int a] M L := by
  have hG := Rel_GM hR
  have hV := GM_ok hG 0 0 0
  have l5 := hR.2.2.1.2.2.2.2.1
  refine L_Peg_here_0 ⟨fun h => ?_, fun h => ⟨_, rfl, L_Mod_here_0 ⟨fun q => absurd (by rw [l5]; exact q) h, fun _ => ⟨rfl, hR⟩⟩⟩⟩
  obtain ⟨t, t1, t2, t3⟩ := beh_nI hR h
  rw [t3]
  refine c_here hR t1 (fun M1 E1 s1 => ⟨_, rfl, isP_503, t_size isP_503 s1 (HR_in hV t) hV.2.1 hV.2.2.2.1 ⟨_, rfl, _, rfl, L_Mod_here_0 ⟨fun _ => ?_, fun q => absurd (by rw [E1 _ _ (ns_516 (by decide)), ← l5, ← t3]; exact h) q⟩⟩⟩)
  exact m_goBack hG E1 t1 (fun M2 E2 a2 => ⟨rfl, m_cells (MCH_fr hG E2) a2 ⟨_, rfl, rfl, Rel_0 hR E2⟩⟩)
theorem y_was (hR : Rel M) (a b c : Int32) : Tw xs md_Peg_was md_Mod_was [.ref 0, .int a, .int b, .int c] [.ref 516, .int a, .int b, .int c] M L := by
  have hG := Rel_GM hR
  have hV := GM_ok hG 0 0 0
  have l5 := hR.2.2.1.2.2.2.2.1
  have ci := cell_iff hR (Eq0_refl M) (x := b) (y := c)
  refine L_Peg_was_0 ⟨fun h => ⟨fun h2 => ?_, fun h2 => ⟨_, rfl, L_Mod_was_0 ⟨fun _ => ⟨fun q => absurd (ci.mp q) h2, fun _ => ⟨rfl, hR⟩⟩, fun q => absurd (by rw [← l5]; exact h) q⟩⟩⟩, fun h => ⟨_, rfl, L_Mod_was_0 ⟨fun q => absurd (by rw [l5]; exact q) h, fun _ => ⟨rfl, hR⟩⟩⟩⟩
  obtain ⟨t, t1, t2, t3⟩ := beh_nI hR h
  obtain ⟨x, y, x1, y1, x2, y2, x3, y3⟩ := cell_nI hR h2
  rw [t3]
  refine c_here hR t1 (fun M1 E1 s1 => ⟨_, rfl, isP_503, _, rfl, ?_⟩)
  have ci1 := cell_iff hR E1 (x := b) (y := c)
  refine L_Mod_was_0 ⟨fun _ => ⟨fun _ => ?_, fun q => absurd (ci1.mpr h2) q⟩, fun q => absurd (by rw [E1 _ _ (ns_516 (by decide)), ← l5, ← t3]; exact h) q⟩
  refine m_goBack hG E1 t1 (fun M2 E2 a2 => ⟨rfl, ?_⟩)
  have e0 : (20 : Int32) * c + b = nI (20 * y + x) := by rw [x3, y3, nI_at]
  rw [e0, nI_cl (by omega), a2 x y x1 y1]
  have ans : bI ((0 ≤ b ∧ b ≤ 19) ∧ (0 ≤ c ∧ c ≤ 19) ∧ gp M1 503 b.toNatClampNeg c.toNatClampNeg = true) = b01 (HR (VM M 0 0 0) t x y) := by
    rw [x3, y3, nI_cl (by omega), nI_cl (by omega), s1 y (by omega) x]
    cases e : HR (VM M 0 0 0) t x y with
    | false => exact bI_f (fun q => by have := q.2.2; cases this)
    | true => exact bI_t ⟨⟨by rw [i_le, i_nI (by omega)]; show (0 : Int) ≤ _; omega, by rw [i_le, i_nI (by omega)]; show _ ≤ (19 : Int); omega⟩, ⟨by rw [i_le, i_nI (by omega)]; show (0 : Int) ≤ _; omega, by rw [i_le, i_nI (by omega)]; show _ ≤ (19 : Int); omega⟩, rfl⟩
  refine ⟨vp_nI (by omega) (by omega), fun z => ⟨?_, Rel_0 hR E2⟩, fun z => ⟨?_, Rel_0 hR E2⟩⟩
  · rw [ans, z]
  · rw [ans]
    cases e : HR (VM M 0 0 0) t x y with
    | false => rw [e] at z; exact absurd rfl z
    | true => rfl
end TS

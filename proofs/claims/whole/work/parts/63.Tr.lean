/-! what doesn't touch class and reference's agreement -/
theorem sumF_fn {f g : Nat → Int32} (h : f = g) (n : Nat) : sumF f n = sumF g n := by rw [h]
theorem WC_fr {M M' : Mem} {v : Nat} (h : WC M v) (f : ∀ b k, 6 + 5 * v ≤ b → b < 11 + 5 * v → M' b k = M b k) : WC M' v := by
  have e0 : ∀ k, M' (6 + 5 * v) k = M (6 + 5 * v) k := fun k => f _ k (by omega) (by omega)
  have e1 : M' (6 + 5 * v + 1) = M (6 + 5 * v + 1) := funext fun k => f _ k (by omega) (by omega)
  have e2 : M' (6 + 5 * v + 2) = M (6 + 5 * v + 2) := funext fun k => f _ k (by omega) (by omega)
  have e3 : ∀ k, M' (6 + 5 * v + 3) k = M (6 + 5 * v + 3) k := fun k => f _ k (by omega) (by omega)
  have e4 : ∀ k, M' (6 + 5 * v + 4) k = M (6 + 5 * v + 4) k := fun k => f _ k (by omega) (by omega)
  obtain ⟨h1, h2, h3⟩ := h
  refine ⟨fun j hj => ?_, ?_, ?_⟩
  · rw [e3, e4]
    unfold eS nS
    rw [e1, e2, e0, e0]
    exact h1 j hj
  · rw [e0]; unfold lS; rw [e1, e2]; exact h2
  · rw [e0]; unfold aS; rw [e2]; exact h3
theorem WE_fr {M M' : Mem} {v : Nat} (h : WE M v) (f : ∀ b k, 6 + 5 * v ≤ b → b < 11 + 5 * v → M' b k = M b k) (g0 : ∀ k, k < 8 → M' 520 (8 * v + k) = M 520 (8 * v + k)) (g1 : ∀ k, k < 4 → M' 521 (4 * v + k) = M 521 (4 * v + k)) (g2 : ∀ k, k < 3 → M' 522 (3 * v + k) = M 522 (3 * v + k)) : WE M' v := by
  obtain ⟨h1, h2, h3, h4, h5⟩ := h
  refine ⟨fun k hk => ?_, fun k hk => ?_, fun k hk => ?_, ?_, ?_⟩
  · rw [f _ _ (by omega) (by omega), g0 k hk]; exact h1 k hk
  · rw [f _ _ (by omega) (by omega), g1 k hk]; exact h2 k hk
  · rw [f _ _ (by omega) (by omega), g2 k hk]; exact h3 k hk
  · rw [g2 1 (by decide)]; exact h4
  · rw [g2 2 (by decide)]; exact h5
theorem WF_fr {M M' : Mem} {v : Nat} (h : WF M v) (f : ∀ b k, 6 + 5 * v ≤ b → b < 11 + 5 * v → M' b k = M b k) : WF M' v := by
  obtain ⟨h1, h2, h3⟩ := h
  refine ⟨fun k hk => ?_, fun k hk => ?_, fun k hk => ?_⟩
  · rw [f _ _ (by omega) (by omega)]; exact h1 k hk
  · rw [f _ _ (by omega) (by omega)]; exact h2 k hk
  · rw [f _ _ (by omega) (by omega)]; exact h3 k hk
def bdC (b k : Nat) : Prop := b = 4 ∨ (6 ≤ b ∧ b < 126) ∨ (b = 516 ∧ (k = 4 ∨ k = 8)) ∨ (520 ≤ b ∧ b ≤ 522)
def chC (b k : Nat) : Prop := b = 126 ∨ b = 127 ∨ b = 129 ∨ b = 131 ∨ b = 133 ∨ (b = 516 ∧ (k = 9 ∨ k = 10 ∨ (13 ≤ k ∧ k ≤ 16))) ∨ b = 523 ∨ b = 524
def lgC (b k : Nat) : Prop := b = 134 ∨ (136 ≤ b ∧ b < 336 ∧ (b - 136) % 5 = 0) ∨ (b = 516 ∧ (k = 4 ∨ (17 ≤ k ∧ k ≤ 20))) ∨ b = 525
def wdC (b k : Nat) : Prop := b = 1 ∨ b = 2 ∨ (b = 516 ∧ k = 2) ∨ b = 519
def nmC2 (b k : Nat) : Prop := b = 0 ∨ (b = 516 ∧ (22 ≤ k ∧ k ≤ 24)) ∨ b = 517 ∨ b = 518
theorem RBd_fr {M M' : Mem} (h : RBd M) (f : ∀ b k, bdC b k → M' b k = M b k) : RBd M' := by
  obtain ⟨b1, b2, b3, b4, b5, b6, b7⟩ := h
  have e4 : M' 516 4 = M 516 4 := f _ _ (by unfold bdC; omega)
  have en : nw M' = nw M := by unfold nw; rw [e4]
  have fw : ∀ v, v < 24 → ∀ b k, 6 + 5 * v ≤ b → b < 11 + 5 * v → M' b k = M b k := fun v hv b k q1 q2 => f _ _ (by unfold bdC; omega)
  refine ⟨?_, ?_, by rw [en]; exact b3, ?_, fun v hv => WC_fr (b5 v hv) (fw v hv), fun v hv => ?_, fun v hv hv2 => ?_⟩
  · rw [e4, f 4 1 (by unfold bdC; omega)]; exact b1
  · rw [e4, en]; exact b2
  · rw [f 4 2 (by unfold bdC; omega), f 516 8 (by unfold bdC; omega)]; exact b4
  · rw [en] at hv
    exact WE_fr (b6 v hv) (fw v (by omega)) (fun k _ => f _ _ (by unfold bdC; omega)) (fun k _ => f _ _ (by unfold bdC; omega)) (fun k _ => f _ _ (by unfold bdC; omega))
  · rw [en] at hv
    exact WF_fr (b7 v hv hv2) (fw v hv2)
theorem shw_fr2 {M M' : Mem} {p : Nat} {A B : Nat → Nat → Bool} (h : shw M p A) (f : ∀ j, M' (p + 1) j = M (p + 1) j) (e : ∀ x y, y < 20 → B x y = A x y) : shw M' p B := fun y hy x => by
  rw [e x y hy, ← h y hy x]; unfold gp; rw [f]
theorem mOp_fr {M M' : Mem} (h9 : M' 516 9 = M 516 9) (h10 : M' 516 10 = M 516 10) (f : ∀ k, M' 523 k = M 523 k) : mOp M' = mOp M ∧ mLd M' = mLd M := by
  have e1 : mw M' = mw M := by unfold mw; rw [h9]
  have e2 : mh M' = mh M := by unfold mh; rw [h10]
  constructor <;> funext x y
  · unfold mOp; rw [e1, e2, f]
  · unfold mLd; rw [e1, e2, f]
theorem mWd_fr {M M' : Mem} (h9 : M' 516 9 = M 516 9) (h10 : M' 516 10 = M 516 10) (f : ∀ k, M' 524 k = M 524 k) : mWd M' = mWd M := by
  have e1 : mw M' = mw M := by unfold mw; rw [h9]
  have e2 : mh M' = mh M := by unfold mh; rw [h10]
  funext x y
  unfold mWd; rw [e1, e2, f]
theorem RCh_fr {M M' : Mem} (h : RCh M) (f : ∀ b k, chC b k → M' b k = M b k) : RCh M' := by
  obtain ⟨c1, c2, c3, c4, c5, c6, c7, c8, c9⟩ := h
  have e9 : M' 516 9 = M 516 9 := f _ _ (by unfold chC; omega)
  have e10 : M' 516 10 = M 516 10 := f _ _ (by unfold chC; omega)
  have ew : mw M' = mw M := by unfold mw; rw [e9]
  have eh : mh M' = mh M := by unfold mh; rw [e10]
  have f23 : ∀ k, M' 523 k = M 523 k := fun k => f _ _ (by unfold chC; omega)
  have f24 : ∀ k, M' 524 k = M 524 k := fun k => f _ _ (by unfold chC; omega)
  have ef := mOp_fr e9 e10 f23
  refine ⟨?_, ?_, ?_, ?_, fun j hj => ?_, fun x y hx hy => ?_, ?_, ?_, ?_⟩
  · rw [e9, ew]; exact c1
  · rw [e10, eh]; exact c2
  · rw [e9, f 126 4 (by unfold chC; omega)]; exact c3
  · rw [e10, f 126 5 (by unfold chC; omega)]; exact c4
  · rw [f 126 (6 + j) (by unfold chC; omega), f 516 (13 + j) (by unfold chC; omega)]; exact c5 j hj
  · rw [f 127 _ (by unfold chC; omega), f23, f24]; exact c6 x y hx hy
  · rw [ef.1]; exact shw_fr c7 (fun k => f _ _ (by unfold chC; omega))
  · rw [ef.2]; exact shw_fr c8 (fun k => f _ _ (by unfold chC; omega))
  · rw [mWd_fr e9 e10 f24]; exact shw_fr c9 (fun k => f _ _ (by unfold chC; omega))
theorem RwE_fr {M M' : Mem} {t : Nat} (ht : t < 40) (h : RwE M t) (f : ∀ k, M' (136 + 5 * t) k = M (136 + 5 * t) k) (g : ∀ j, j < 5 → M' 525 (5 * t + j) = M 525 (5 * t + j)) (hw : nw M ≤ nw M') : RwE M' t := by
  obtain ⟨r1, r2, r3⟩ := h
  have g0 : M' 525 (5 * t) = M 525 (5 * t) := g 0 (by decide)
  refine ⟨fun j hj => ?_, ?_, ?_⟩
  · rw [f, g j hj]; exact r1 j hj
  · rw [g 4 (by decide)]; exact r2
  · rw [g0, g 1 (by decide), g 2 (by decide)]
    rcases r3 with r3 | ⟨v, q1, q2⟩
    · exact Or.inl r3
    · exact Or.inr ⟨v, by omega, q2⟩
theorem RLg_fr {M M' : Mem} (h : RLg M) (f : ∀ b k, lgC b k → M' b k = M b k) : RLg M' := by
  obtain ⟨⟨l1, l1'⟩, ⟨l2, l2'⟩, ⟨l3, l3'⟩, ⟨l4, l4'⟩, l5, l6, l7, l8, l9⟩ := h
  have e20 : M' 516 20 = M 516 20 := f _ _ (by unfold lgC; omega)
  have e17 : M' 516 17 = M 516 17 := f _ _ (by unfold lgC; omega)
  have e18 : M' 516 18 = M 516 18 := f _ _ (by unfold lgC; omega)
  have e19 : M' 516 19 = M 516 19 := f _ _ (by unfold lgC; omega)
  have en : mn M' = mn M := by unfold mn; rw [e20]
  have ex : msx M' = msx M := by unfold msx; rw [e17]
  have ey : msy M' = msy M := by unfold msy; rw [e18]
  have er : msr M' = msr M := by unfold msr; rw [e19]
  have ew : nw M' = nw M := by unfold nw; rw [f 516 4 (by unfold lgC; omega)]
  refine ⟨⟨?_, ?_⟩, ⟨?_, ?_⟩, ⟨?_, ?_⟩, ⟨?_, ?_⟩, ?_, ?_, ?_, ?_, fun t ht => ?_⟩
  · rw [e20, en]; exact l1
  · rw [en]; exact l1'
  · rw [e17, ex]; exact l2
  · rw [ex]; exact l2'
  · rw [e18, ey]; exact l3
  · rw [ey]; exact l3'
  · rw [e19, er]; exact l4
  · rw [er]; exact l4'
  · rw [e20, f 134 _ (by unfold lgC; omega)]; exact l5
  · rw [e17, f 134 _ (by unfold lgC; omega)]; exact l6
  · rw [e18, f 134 _ (by unfold lgC; omega)]; exact l7
  · rw [e19, f 134 _ (by unfold lgC; omega)]; exact l8
  · rw [en] at ht
    exact RwE_fr (by omega) (l9 t ht) (fun k => f _ _ (by unfold lgC; omega)) (fun j hj => f _ _ (by unfold lgC; omega)) (by omega)
theorem RWd_fr {M M' : Mem} (h : RWd M) (f : ∀ b k, wdC b k → M' b k = M b k) : RWd M' := by
  obtain ⟨w1, w2, w3, w4⟩ := h
  have e2 : M' 516 2 = M 516 2 := f _ _ (by unfold wdC; omega)
  have en : nwd M' = nwd M := by unfold nwd; rw [e2]
  refine ⟨?_, ?_, ?_, fun i hi => ?_⟩
  · rw [e2, f 1 2 (by unfold wdC; omega)]; exact w1
  · rw [e2, en]; exact w2
  · rw [en]; exact w3
  · rw [f 2 _ (by unfold wdC; omega), f 519 _ (by unfold wdC; omega)]; exact w4 i hi
theorem RNm_fr {M M' : Mem} (h : RNm M) (f : ∀ b k, nmC2 b k → M' b k = M b k) : RNm M' := by
  obtain ⟨n1, n2, n3⟩ := h
  refine ⟨fun j hj => ?_, fun k hk => ?_, fun k hk => ?_⟩
  · rw [f 0 _ (by unfold nmC2; omega), f 516 (22 + j) (by unfold nmC2; omega)]; exact n1 j hj
  · rw [f 518 _ (by unfold nmC2; omega)]; exact n2 k hk
  · rw [f 517 _ (by unfold nmC2; omega)]; exact n3 k hk
theorem Rel_0 {M M' : Mem} (h : Rel M) (hE : Eq0 M M') : Rel M' := by
  obtain ⟨h1, h2, h3, h4, h5⟩ := h
  exact ⟨RBd_fr h1 (fun b k q => hE b k (by unfold bdC at q; unfold Scr rs; omega)), RCh_fr h2 (fun b k q => hE b k (by unfold chC at q; unfold Scr rs; omega)), RLg_fr h3 (fun b k q => hE b k (by unfold lgC at q; unfold Scr rs; omega)), RWd_fr h4 (fun b k q => hE b k (by unfold wdC at q; unfold Scr rs; omega)), RNm_fr h5 (fun b k q => hE b k (by unfold nmC2 at q; unfold Scr rs; omega))⟩
theorem lt1 {i x : Int32} (h : -2147483648 < x.toInt) : i < x ↔ i ≤ x - 1 := by
  have := i_hi x
  rw [i_lt, i_le, i_sub (by show _ ≤ _ - (1 : Int); omega) (by show _ - (1 : Int) < _; omega)]
  show _ ↔ i.toInt ≤ x.toInt - 1
  omega
theorem nI_gt {n : Nat} (h : n < 2147483648) : -2147483648 < (nI n).toInt := by rw [i_nI h]; omega
theorem in_nI {i : Int32} {n : Nat} (hn : n < 2147483648) (h : 0 ≤ i ∧ i < nI n) : ∃ k, k < n ∧ i = nI k := by
  rw [i_le, i_lt, i_nI hn] at h
  have h : (0 : Int) ≤ i.toInt ∧ i.toInt < n := h
  exact ⟨i.toInt.toNat, by omega, nI_of_toInt (by omega)⟩
theorem le_nI {i : Int32} {n : Nat} (hn : n < 2147483648) (h : 0 ≤ i ∧ i ≤ nI n) : ∃ k, k ≤ n ∧ i = nI k := by
  rw [i_le, i_le, i_nI hn] at h
  have h : (0 : Int) ≤ i.toInt ∧ i.toInt ≤ n := h
  exact ⟨i.toInt.toNat, by omega, nI_of_toInt (by omega)⟩
def Tw (xs : List Int32) (mc mm : Md) (ac am : List Value) (M : Mem) (L : Int64) : Prop := RX xs shL mc 0 ac [] M L (fun r M1 L1 => ∃ v : Int32, r = some (.int v) ∧ RX xs shL mm 0 am [] M1 L1 (fun r2 M2 _ => r2 = some (.int v) ∧ Rel M2))
/-- cells of the chart: class and reference -/
theorem cell_iff {M M' : Mem} (hR : Rel M) (hE : Eq0 M M') {x y : Int32} : ((0 ≤ x ∧ x ≤ M' 516 9 - 1) ∧ 0 ≤ y ∧ y ≤ M' 516 10 - 1) ↔ ((0 ≤ x ∧ x < M 126 4) ∧ 0 ≤ y ∧ y < M 126 5) := by
  obtain ⟨-, ⟨⟨c1, c2, c3⟩, ⟨c4, c5, c6⟩, d1, d2, -⟩, -⟩ := hR
  rw [hE _ _ (ns_516 (by decide)), hE _ _ (ns_516 (by decide)), d1, d2, lt1 (x := M 516 9) (by rw [c1]; exact nI_gt (by omega)), lt1 (x := M 516 10) (by rw [c4]; exact nI_gt (by omega))]
theorem cell_nI {M : Mem} (hR : Rel M) {x y : Int32} (h : (0 ≤ x ∧ x < M 126 4) ∧ 0 ≤ y ∧ y < M 126 5) : ∃ a b, a < mw M ∧ b < mh M ∧ a < 20 ∧ b < 20 ∧ x = nI a ∧ y = nI b := by
  obtain ⟨-, ⟨⟨c1, c2, c3⟩, ⟨c4, c5, c6⟩, d1, d2, -⟩, -⟩ := hR
  rw [d1, d2, c1, c4] at h
  obtain ⟨a, a1, a2⟩ := in_nI (by omega) h.1
  obtain ⟨b, b1, b2⟩ := in_nI (by omega) h.2
  exact ⟨a, b, a1, b1, by omega, by omega, a2, b2⟩
theorem watch_iff {M M' : Mem} (hR : Rel M) (hE : M' 516 4 = M 516 4) {w : Int32} : (0 ≤ w ∧ w ≤ M' 516 4 - 1) ↔ (0 ≤ w ∧ w < M 4 1) := by
  obtain ⟨⟨b1, b2, b3, -⟩, -⟩ := hR
  rw [hE, b1, lt1 (x := M 516 4) (by rw [b2]; exact nI_gt (by omega))]
theorem watch_nI {M : Mem} (hR : Rel M) {w : Int32} (h : 0 ≤ w ∧ w < M 4 1) : ∃ a, a < nw M ∧ a < 24 ∧ w = nI a := by
  obtain ⟨⟨b1, b2, b3, -⟩, -⟩ := hR
  rw [b1, b2] at h
  obtain ⟨a, a1, a2⟩ := in_nI (by omega) h
  exact ⟨a, a1, by omega, a2⟩
theorem row_iff {M M' : Mem} (hR : Rel M) (hE : M' 516 20 = M 516 20) {w : Int32} : (0 ≤ w ∧ w ≤ M' 516 20 - 1) ↔ (0 ≤ w ∧ w < M 134 1) := by
  obtain ⟨-, -, ⟨⟨l1, l2⟩, -, -, -, l5, -⟩, -⟩ := hR
  rw [hE, l5, lt1 (x := M 516 20) (by rw [l1]; exact nI_gt (by omega))]
theorem row_nI2 {M : Mem} (hR : Rel M) {w : Int32} (h : 0 ≤ w ∧ w < M 134 1) : ∃ a, a < mn M ∧ a < 40 ∧ w = nI a := by
  obtain ⟨-, -, ⟨⟨l1, l2⟩, -, -, -, l5, -⟩, -⟩ := hR
  rw [l5, l1] at h
  obtain ⟨a, a1, a2⟩ := in_nI (by omega) h
  exact ⟨a, a1, by omega, a2⟩
theorem beh_nI {M : Mem} (hR : Rel M) {w : Int32} (h : 0 ≤ w ∧ w ≤ M 134 1) : ∃ a, a ≤ mn M ∧ a ≤ 40 ∧ w = nI a := by
  obtain ⟨-, -, ⟨⟨l1, l2⟩, -, -, -, l5, -⟩, -⟩ := hR
  rw [l5, l1] at h
  obtain ⟨a, a1, a2⟩ := le_nI (by omega) h
  exact ⟨a, a1, by omega, a2⟩
section TR
variable {xs : List Int32} {M : Mem} {L : Int64}
theorem y_name (hR : Rel M) (a : Int32) : Tw xs md_Peg_name md_Mod_name [.ref 0, .int a] [.ref 516, .int a] M L := by
  refine L_Peg_name_0 ⟨fun h => ?_, fun h => ⟨_, rfl, L_Mod_name_0 ⟨fun q => absurd q h, fun _ => ⟨rfl, hR⟩⟩⟩⟩
  obtain ⟨k, k1, k2⟩ := pt_nI h
  subst k2
  rw [nI_cl (by omega)]
  refine ⟨vp_nI (by omega) (by omega), _, rfl, L_Mod_name_0 ⟨fun _ => ⟨vp_nI (by omega) (by omega), ?_, hR⟩, fun q => absurd h q⟩⟩
  rw [nI_cl (by omega), hR.2.2.2.2.2.2 k k1]; rfl
theorem y_read (hR : Rel M) (a : Int32) : Tw xs md_Peg_read md_Mod_read [.ref 0, .int a] [.ref 516, .int a] M L :=
  c_read ⟨_, rfl, m_read hR.2.2.2.2.2.2 ⟨rfl, hR⟩⟩
theorem y_turns (hR : Rel M) (a b : Int32) : Tw xs md_Peg_turns md_Mod_turns [.ref 0, .int a, .int b] [.ref 516, .int a, .int b] M L := by
  refine L_Peg_turns_0 ⟨fun h => ⟨fun h2 => ⟨_, rfl, L_Mod_turns_0 ⟨fun _ => ⟨fun _ => ⟨?_, hR⟩, fun q => absurd h2 q⟩, fun q => absurd h q⟩⟩, fun h2 => ⟨_, rfl, L_Mod_turns_0 ⟨fun _ => ⟨fun q => absurd q h2, fun _ => ⟨rfl, hR⟩⟩, fun q => absurd h q⟩⟩⟩, fun h => ⟨_, rfl, L_Mod_turns_0 ⟨fun q => absurd q h, fun _ => ⟨rfl, hR⟩⟩⟩⟩
  have h' := ptI.mp h
  have h2' := ptI.mp h2
  rw [m32 (v := b - a) (by rw [i_sub (by omega) (by omega)]; omega) (by rw [i_sub (by omega) (by omega)]; omega)]
theorem y_go (hR : Rel M) (a b : Int32) : Tw xs md_Peg_go md_Mod_go [.ref 0, .int a, .int b] [.ref 516, .int a, .int b] M L := by
  have hT := hR.2.2.2.2.2.1
  refine L_Peg_go_0 ⟨fun h => ⟨fun h2 => ⟨fun e => ⟨h, _, rfl, L_Mod_go_0 ⟨fun _ => ⟨fun _ => ⟨h, hT, rfl, hR⟩, fun q => absurd e q⟩, fun q => absurd h q⟩⟩, fun e => ⟨h, _, rfl, L_Mod_go_0 ⟨fun _ => ⟨fun q => absurd q e, fun _ => ⟨fun _ => ⟨h, hT, rfl, hR⟩, fun q => absurd ?_ q⟩⟩, fun q => absurd h q⟩⟩⟩, fun h2 => ⟨_, rfl, L_Mod_go_0 ⟨fun _ => ⟨fun q => absurd ?_ h2, fun _ => ⟨fun q => absurd ?_ h2, fun _ => ⟨rfl, hR⟩⟩⟩, fun q => absurd h q⟩⟩⟩, fun h => ⟨_, rfl, L_Mod_go_0 ⟨fun q => absurd q h, fun _ => ⟨rfl, hR⟩⟩⟩⟩
  · apply i_eq
    rw [i_le, i_le] at h2
    have h2 : (0 : Int) ≤ b.toInt ∧ b.toInt ≤ 1 := h2
    have : ¬ b.toInt = 0 := fun q => e (i_eq q)
    show b.toInt = 1
    omega
  · rw [q]; decide
  · rw [q]; decide
end TR

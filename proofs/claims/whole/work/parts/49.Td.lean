/-! how many cells; going back -/
def cntY (A : Nat → Nat → Bool) (w : Nat) : Nat → Nat
  | 0 => 0
  | y + 1 => cntY A w y + bs (fun x => A x y) w
def cnt (w h : Nat) (A : Nat → Nat → Bool) : Nat := cntY A w h
theorem cntY_congr {A B : Nat → Nat → Bool} {w h : Nat} (hAB : ∀ x y, x < w → y < h → A x y = B x y) : cntY A w h = cntY B w h := by
  induction h with
  | zero => rfl
  | succ h ih => simp only [cntY]; rw [ih (fun x y hx hy => hAB x y hx (by omega)), bs_congr (fun x hx => hAB x h hx (by omega))]
theorem cntY_w {A : Nat → Nat → Bool} {w n h : Nat} (hw : w ≤ n) (hA : ∀ x y, y < h → A x y = true → x < w) : cntY A n h = cntY A w h := by
  induction h with
  | zero => rfl
  | succ h ih =>
    simp only [cntY]
    rw [ih (fun x y hy q => hA x y (by omega) q)]
    congr 1
    rw [show n = w + (n - w) by omega, bs_add, bs_0 (n := n - w) (fun i hi => ?_), Nat.add_zero]
    cases e : A (w + i) h with
    | false => rfl
    | true => have := hA _ _ (by omega) e; omega
theorem cntY_h {A : Nat → Nat → Bool} {w h : Nat} : ∀ n, (∀ x y, h ≤ y → y < h + n → A x y = false) → cntY A w (h + n) = cntY A w h := by
  intro n
  induction n with
  | zero => intro _; rfl
  | succ n ih =>
    intro hA
    show cntY A w (h + n) + bs (fun x => A x (h + n)) w = _
    rw [ih (fun x y q1 q2 => hA x y q1 (by omega)), bs_0 (fun i _ => hA i (h + n) (by omega) (by omega)), Nat.add_zero]
theorem cnt_20 {A : Nat → Nat → Bool} {w h : Nat} (hA : inC w h A) (w20 : w ≤ 20) (h20 : h ≤ 20) : cntY A 20 20 = cnt w h A := by
  rw [cntY_w w20 (fun x y hy q => (hA x y hy q).1)]
  unfold cnt
  rw [show 20 = h + (20 - h) by omega]
  refine cntY_h _ (fun x y q1 q2 => ?_)
  cases e : A x y with
  | false => rfl
  | true => have := hA _ _ (by omega) e; omega
theorem bs_pos {f : Nat → Bool} : ∀ n, (bs f n = 0 ↔ ∀ i, i < n → f i = false) := by
  intro n
  induction n with
  | zero => exact ⟨fun _ i hi => absurd hi (by omega), fun _ => rfl⟩
  | succ n ih =>
    simp only [bs]
    constructor
    · intro q i hi
      by_cases e : i = n
      · subst e
        cases e2 : f i with
        | false => rfl
        | true => rw [e2] at q; simp at q
      · exact ih.mp (by omega) i (by omega)
    · intro q
      rw [ih.mpr (fun i hi => q i (by omega)), q n (by omega)]; rfl
theorem cntY_0 {A : Nat → Nat → Bool} {w : Nat} : ∀ h, (cntY A w h = 0 ↔ ∀ y, y < h → ∀ x, x < w → A x y = false) := by
  intro h
  induction h with
  | zero => exact ⟨fun _ y hy => absurd hy (by omega), fun _ => rfl⟩
  | succ h ih =>
    simp only [cntY]
    constructor
    · intro q y hy x hx
      by_cases e : y = h
      · subst e; exact (bs_pos (f := fun x => A x y) w).mp (by omega) x hx
      · exact ih.mp (by omega) y (by omega) x hx
    · intro q
      rw [ih.mpr (fun y hy => q y (by omega)), (bs_pos w).mpr (fun x hx => q h (by omega) x hx)]
theorem bs_t {f : Nat → Bool} {n : Nat} (h : f n = true) : bs f (n + 1) = bs f n + 1 := by simp only [bs]; rw [if_pos h]
theorem bs_f {f : Nat → Bool} {n : Nat} (h : f n = false) : bs f (n + 1) = bs f n := by simp only [bs]; rw [if_neg (by rw [h]; decide)]; rfl
theorem bs_le (f : Nat → Bool) (n : Nat) : bs f n ≤ n := by
  induction n with
  | zero => exact Nat.le_refl _
  | succ n ih => simp only [bs]; split <;> omega
theorem cntY_le (A : Nat → Nat → Bool) (w h : Nat) : cntY A w h ≤ w * h := by
  induction h with
  | zero => exact Nat.zero_le _
  | succ h ih => simp only [cntY]; have := bs_le (fun x => A x h) w; rw [Nat.mul_succ]; omega
section TD
variable {xs : List Int32} {S : List Shp} {M M0 : Mem} {L : Int64} {Q : Option Value → Mem → Int64 → Prop}
theorem s_bitCount {r : Nat} (hr : r < 1048576) (hQ : Q (some (.int (nI (bs r.testBit 20)))) M L) : RX xs S md_JInteger_bitCount 0 [.int (nI r)] [] M L Q := by
  refine L_JInteger_bitCount_0 ?_
  show Q (some (.int (q5 (q4 (q3 (q2 (q1 (nI r)))))))) M L
  rw [pop20 hr]
  exact hQ
theorem t_size {p w h : Nat} (hp : isP S p) {A : Nat → Nat → Bool} (hA : shw M p A) (hin : inC w h A) (w20 : w ≤ 20) (h20 : h ≤ 20) (hQ : Q (some (.int (nI (cnt w h A)))) M L) : RX xs S md_Patch_size 0 [.ref p] [] M L Q := by
  refine L_Patch_size_0 hp ?_
  have key : ∀ r j, j + r = 20 → RX xs S md_Patch_size 4 [.ref p, .int (nI (cntY A 20 j)), .int (nI j)] [] M L Q := by
    intro r
    induction r with
    | zero =>
      intro j hj
      have : j = 20 := by omega
      subst this
      rw [cnt_20 hin w20 h20]
      exact L_Patch_size_4 hp ⟨fun _ => hQ, fun c => absurd (by decide) c⟩
    | succ r ih =>
      intro j hj
      refine L_Patch_size_4 hp ⟨fun c => absurd ((nI_leI (a := 20) (b := j) (by omega) (by omega)).mp c) (by omega), fun _ => ?_⟩
      rw [nI_cl (by omega), nI_1]
      refine ⟨vp_nI (by omega) (by omega), ?_⟩
      obtain ⟨rr, r1, r2, r3⟩ := row_nI (M := M) (q := p) (y := j) (fun x hx => by
        cases e : gp M p x j with
        | false => rfl
        | true => rw [hA j (by omega) x] at e; have := hin x j (by omega) e; omega)
      rw [r2]
      refine s_bitCount (by omega) ⟨_, rfl, ?_⟩
      rw [nI_add]
      have : bs rr.testBit 20 = bs (fun x => A x j) 20 := bs_congr fun i _ => by rw [r3 i, hA j (by omega) i]
      rw [this]
      exact ih (j + 1) (by omega)
  exact key 20 0 (by omega)
theorem m_cells {w h : Nat} (hC : MCH M w h) {A : Nat → Nat → Bool} (hA : shA M 527 w h A) (hQ : Q (some (.int (nI (cnt w h A)))) M L) : RX xs shL md_Mod_cells 0 [.ref 516] [] M L Q := by
  have hC' := hC
  obtain ⟨c1, c2, w4, w20, h4, h20⟩ := hC
  refine L_Mod_cells_0 ?_
  refine grid (σ := Nat) (w := w) (h := h)
    (fun y s => RX xs shL md_Mod_cells 4 [.ref 516, .int (nI s), .int (nI y), .null] [] M L Q)
    (fun x y s => RX xs shL md_Mod_cells 14 [.ref 516, .int (nI s), .int (nI y), .int (nI x)] [] M L Q)
    (fun x y s => s = cntY A w y + bs (fun x => A x y) x) ?_ ?_ ?_ ?_ ?_ 0 rfl
  · intro s hs
    refine L_Mod_cells_4 ⟨fun _ => by rw [hs]; exact hQ, fun c => absurd ?_ c⟩
    rw [c2]; exact Int32.le_refl _
  · intro y s hy hs hi
    refine L_Mod_cells_4 ⟨fun c => ?_, fun _ => hi⟩
    rw [c2, nI_leI (by omega) (by omega)] at c; omega
  · intro y s hy hs ho
    refine L_Mod_cells_14 ⟨fun _ => by rw [nI_1]; exact ho, fun c => absurd ?_ c⟩
    rw [c1]; exact Int32.le_refl _
  · intro x y s hx hy hs hn
    refine L_Mod_cells_14 ⟨fun c => ?_, fun _ => ?_⟩
    · rw [c1, nI_leI (by omega) (by omega)] at c; omega
    rw [nI_at, nI_cl (by omega), nI_1 x, hA x y hx hy]
    refine ⟨vp_nI (by omega) (by omega), fun c => ?_, fun c => ?_⟩
    · rw [Int32.add_zero]
      refine hn s ?_
      rw [bs_f (f := fun x => A x y) (b01_0.mp c), hs]
    · rw [nI_1 s]
      refine hn (s + 1) ?_
      have : A x y = true := by cases e : A x y with
        | true => rfl
        | false => rw [e] at c; exact absurd rfl c
      rw [bs_t (f := fun x => A x y) this, hs]; rfl
  · intro y s hy hs
    exact hs
theorem m_landMany {w h : Nat} (hC : MCH M w h) (hQ : Q (some (.int (nI (cnt w h (fun x y => bB (mLI M w h x y)))))) M L) : RX xs shL md_Mod_landMany 0 [.ref 516] [] M L Q := by
  have hC' := hC
  obtain ⟨c1, c2, w4, w20, h4, h20⟩ := hC
  refine L_Mod_landMany_0 ?_
  refine grid (σ := Nat) (w := w) (h := h)
    (fun y s => RX xs shL md_Mod_landMany 4 [.ref 516, .int (nI s), .int (nI y), .null] [] M L Q)
    (fun x y s => RX xs shL md_Mod_landMany 14 [.ref 516, .int (nI s), .int (nI y), .int (nI x)] [] M L Q)
    (fun x y s => s = cntY (fun x y => bB (mLI M w h x y)) w y + bs (fun x => bB (mLI M w h x y)) x) ?_ ?_ ?_ ?_ ?_ 0 rfl
  · intro s hs
    refine L_Mod_landMany_4 ⟨fun _ => by rw [hs]; exact hQ, fun c => absurd ?_ c⟩
    rw [c2]; exact Int32.le_refl _
  · intro y s hy hs hi
    refine L_Mod_landMany_4 ⟨fun c => ?_, fun _ => hi⟩
    rw [c2, nI_leI (by omega) (by omega)] at c; omega
  · intro y s hy hs ho
    refine L_Mod_landMany_14 ⟨fun _ => by rw [nI_1]; exact ho, fun c => absurd ?_ c⟩
    rw [c1]; exact Int32.le_refl _
  · intro x y s hx hy hs hn
    refine L_Mod_landMany_14 ⟨fun c => ?_, fun _ => ?_⟩
    · rw [c1, nI_leI (by omega) (by omega)] at c; omega
    refine s_Mod_isLand hC' ⟨_, rfl, ?_⟩
    rw [i_nI (by omega), i_nI (by omega), nI_1 x]
    refine ⟨fun c => ?_, fun c => ?_⟩
    · rw [Int32.add_zero]
      refine hn s ?_
      rw [bs_f (f := fun x => bB (mLI M w h x y)) (bB_f (bI_p0 c)), hs]
    · rw [nI_1 s]
      refine hn (s + 1) ?_
      rw [bs_t (f := fun x => bB (mLI M w h x y)) (bB_t (bI_p1 c)), hs]; rfl
  · intro y s hy hs
    exact hs
/-- here, in the reference -/
noncomputable def HR (V : Vw) (t x y : Nat) : Bool := AH V t x y && BK V t x y
theorem m_goBack (hG : GM M0) (hE : Eq0 M0 M) {t : Nat} (ht : t ≤ mn M0) (hQ : ∀ M', Eq0 M0 M' → shA M' 527 (mw M0) (mh M0) (HR (VM M0 0 0 0) t) → Q none M' L) : RX xs shL md_Mod_goBack 0 [.ref 516, .int (nI t)] [] M L Q := by
  have hV := GM_ok hG 0 0 0
  have hn : mn M0 ≤ 40 := hG.2.1.2
  have w20 : mw M0 ≤ 20 := hV.2.1
  have h20 : mh M0 ≤ 20 := hV.2.2.2.1
  refine L_Mod_goBack_0 (m_goPlain hG hE (fun M1 E1 N1 a1 h1 => ⟨rfl, ?_⟩))
  have key : ∀ r j, j = t + r → j ≤ mn M0 → ∀ v : Int32, v.toInt = (j : Int) - 1 → ∀ M', Eq0 M0 M' → Hs M0 M' (VM M0 0 0 0) (mn M0) → shA M' 527 (mw M0) (mh M0) (HR (VM M0 0 0 0) j) → RX xs shL md_Mod_goBack 11 [.ref 516, .int (nI t), .int v, .null] [] M' L Q := by
    intro r
    induction r with
    | zero =>
      intro j hj hjn v hv M' hE' hH hA
      have : j = t := by omega
      subst this
      refine L_Mod_goBack_11 ⟨fun _ => hQ M' hE' hA, fun c => absurd ?_ c⟩
      rw [i_lt, hv, i_nI (by omega)]; omega
    | succ r ih =>
      intro j hj hjn v hv M' hE' hH hA
      have e : v = nI (t + r) := nI_of_toInt (by omega)
      subst e
      have e525 : ∀ k, M' 525 k = M0 525 k := fun k => hE' _ k (ns_5 (by decide) (by decide))
      have n5 : (5 : Int32) * nI (t + r) = nI (5 * (t + r)) := nI_mul 5 _
      have ej : j = t + r + 1 := by omega
      subst ej
      have fin : ∀ M2, Eq0 M0 M2 → (∀ b k, 529 ≤ b → M2 b k = M' b k) → (∀ x y, x < mw M0 → y < mh M0 → M2 527 (20 * y + x) = b01 (@ite _ ((VM M0 0 0 0).isW (t + r)) (Classical.propDecidable _) (rchA (mw M0) (mh M0) (HR (VM M0 0 0 0) (t + r + 1)) (-((VM M0 0 0 0).R (t + r) ((VM M0 0 0 0).cn (t + r)) 1)) (-((VM M0 0 0 0).R (t + r) ((VM M0 0 0 0).cn (t + r)) 0)) (-((VM M0 0 0 0).R (t + r) ((VM M0 0 0 0).cn (t + r)) 3)) (-((VM M0 0 0 0).R (t + r) ((VM M0 0 0 0).cn (t + r)) 2)) x y && (VM M0 0 0 0).op x y) (HR (VM M0 0 0 0) (t + r + 1) x y))) → RX xs shL md_Mod_goBack 62 [.ref 516, .int (nI t), .int (nI (t + r)), .int 0] [] M2 L Q := by
        intro M2 E2 f2 a2
        refine m_goBackCut (by omega) (ih (t + r) rfl (by omega) _ ?_ _ (Eq0_rowN E2 (by decide) _ _) (fun s hs x y hx hy => ?_) (fun x y hx hy => ?_))
        · rw [i_add (by rw [i_nI (by omega)]; show _ ≤ _ + (-1 : Int); omega) (by rw [i_nI (by omega)]; show _ + (-1 : Int) < _; omega), i_nI (by omega)]; rfl
        · rw [rowN_o _ _ _ (by decide), f2 _ _ (by decide)]; exact hH s hs x y hx hy
        · rw [rowN_lt _ _ _ (by omega)]
          have hh : M2 529 (400 * (t + r) + (20 * y + x)) = b01 (AH (VM M0 0 0 0) (t + r) x y) := by rw [f2 _ _ (by decide)]; exact hH (t + r) (by omega) x y hx hy
          unfold ctH
          rw [hh, a2 x y hx hy]
          have hst := here_step hV (t := t + r) (B := BK (VM M0 0 0 0) (t + r + 1)) VM_st (BK'_in hV _) (BK'_op _) x y (by omega)
          rw [← BK_s (V := VM M0 0 0 0) (t := t + r) (by show t + r < mn M0; omega)] at hst
          have e2 : HR (VM M0 0 0 0) (t + r) x y = (AH (VM M0 0 0 0) (t + r) x y && BK (VM M0 0 0 0) (t + r) x y) := rfl
          rw [e2, hst]
          generalize AH (VM M0 0 0 0) (t + r) x y = u
          show (if b01 ?z = 0 then 0 else if b01 u = 0 then 0 else 1) = b01 (u && ?z)
          generalize (@ite _ ((VM M0 0 0 0).isW (t + r)) (Classical.propDecidable _) (rchA (mw M0) (mh M0) (HR (VM M0 0 0 0) (t + r + 1)) (-((VM M0 0 0 0).R (t + r) ((VM M0 0 0 0).cn (t + r)) 1)) (-((VM M0 0 0 0).R (t + r) ((VM M0 0 0 0).cn (t + r)) 0)) (-((VM M0 0 0 0).R (t + r) ((VM M0 0 0 0).cn (t + r)) 3)) (-((VM M0 0 0 0).R (t + r) ((VM M0 0 0 0).cn (t + r)) 2)) x y && (VM M0 0 0 0).op x y) (HR (VM M0 0 0 0) (t + r + 1) x y)) = z
          cases u <;> cases z <;> rfl
      refine L_Mod_goBack_11 ⟨fun c => ?_, fun _ => ?_⟩
      · rw [nI_ltI (by omega) (by omega)] at c; omega
      rw [n5, nI_cl (by omega), e525]
      refine ⟨vp_nI (by omega) (by omega), fun cw => ?_, fun cw => ?_⟩
      · refine fin M' hE' (fun _ _ _ => rfl) (fun x y hx hy => ?_)
        rw [if_neg (show ¬ (VM M0 0 0 0).isW (t + r) from fun q => q cw)]
        exact hA x y hx hy
      · refine m_wayOf (c := bB (M0 525 (5 * (t + r) + 4) = 1)) hG hE' (by omega) cw (by decide) rfl ⟨rfl, ?_⟩
        have hEg := Eq0_gW hE' (mE M0 (rwW M0 (t + r)) (if bB (M0 525 (5 * (t + r) + 4) = 1) then 0 else 0) (bOf M0 (rwW M0 (t + r)) 0 0) (bB (M0 525 (5 * (t + r) + 4) = 1))) (mN M0 (rwW M0 (t + r)) (if bB (M0 525 (5 * (t + r) + 4) = 1) then 0 else 0) (bOf M0 (rwW M0 (t + r)) 0 0) (bB (M0 525 (5 * (t + r) + 4) = 1))) (mSp M0 (rwW M0 (t + r)) (bB (M0 525 (5 * (t + r) + 4) = 1)))
        rw [gW_26, gW_27, gW_28, hEg 516 13 (ns_516 (by decide)), hEg 516 14 (ns_516 (by decide)), hEg 516 15 (ns_516 (by decide)), hEg 516 16 (ns_516 (by decide))]
        have bd := fun k => mRe_b M0 (mE M0 (rwW M0 (t + r)) (if bB (M0 525 (5 * (t + r) + 4) = 1) then 0 else 0) (bOf M0 (rwW M0 (t + r)) 0 0) (bB (M0 525 (5 * (t + r) + 4) = 1))) (mN M0 (rwW M0 (t + r)) (if bB (M0 525 (5 * (t + r) + 4) = 1) then 0 else 0) (bOf M0 (rwW M0 (t + r)) 0 0) (bB (M0 525 (5 * (t + r) + 4) = 1))) (mSp M0 (rwW M0 (t + r)) (bB (M0 525 (5 * (t + r) + 4) = 1))) k
        have ng := fun k => i_neg (x := mRe M0 (mE M0 (rwW M0 (t + r)) (if bB (M0 525 (5 * (t + r) + 4) = 1) then 0 else 0) (bOf M0 (rwW M0 (t + r)) 0 0) (bB (M0 525 (5 * (t + r) + 4) = 1))) (mN M0 (rwW M0 (t + r)) (if bB (M0 525 (5 * (t + r) + 4) = 1) then 0 else 0) (bOf M0 (rwW M0 (t + r)) 0 0) (bB (M0 525 (5 * (t + r) + 4) = 1))) (mSp M0 (rwW M0 (t + r)) (bB (M0 525 (5 * (t + r) + 4) = 1))) k) (by have := bd k; omega)
        have b0 := bd 0
        have b1 := bd 1
        have b2 := bd 2
        have b3 := bd 3
        refine m_dilate (i1 := -(mRe M0 _ _ _ 1)) (i2 := -(mRe M0 _ _ _ 0)) (i3 := -(mRe M0 _ _ _ 3)) (i4 := -(mRe M0 _ _ _ 2)) (MCH_fr hG hEg) (shA_fr hA (fun k => gW_o _ _ _ _ (by decide) k)) (by rw [ng]; omega) (by rw [ng]; omega) (by rw [ng]; omega) (by rw [ng]; omega) (by rw [ng]; omega) (by rw [ng]; omega) (by rw [ng]; omega) (by rw [ng]; omega) ⟨rfl, fin _ (Eq0_setR (Eq0_setR hEg (by decide) _ _) (by decide) _ _) (fun b k hb => ?_) (fun x y hx hy => ?_)⟩
        · rw [setR_o _ _ _ (by omega), setR_o _ _ _ (by omega), gW_o _ _ _ _ (by omega)]
        · rw [setR_t _ _ _ (by omega) ⟨hx, hy⟩, if_pos (show (VM M0 0 0 0).isW (t + r) from cw), ng, ng, ng, ng, dil_eq (w := mw M0) (h := mh M0) (fun x y hy q => AH_in hV (t + r + 1) x y hy (Bool.and_eq_true _ _ ▸ q : _ ∧ _).1) h20 hx hy, hEg 523 _ (ns_5 (by decide) (by decide))]
          have : (VM M0 0 0 0).op x y = bB (¬ M0 523 (20 * y + x) = 0) := bB_congr ⟨fun q => q.2.2, fun q => ⟨hx, hy, q⟩⟩
          rw [this]
          rfl
  refine key (mn M0 - t) (mn M0) (by omega) (by omega) _ ?_ M1 E1 h1 (shA_congr a1 (fun x y hx hy => ?_))
  · rw [E1 _ _ (ns_516 (by decide)), hG.2.1.1, i_sub (by rw [i_nI (by omega)]; show _ ≤ _ - (1 : Int); omega) (by rw [i_nI (by omega)]; show _ - (1 : Int) < _; omega), i_nI (by omega)]; rfl
  · unfold HR
    have e : BK (VM M0 0 0 0) (mn M0) = (VM M0 0 0 0).op := BK_n _
    rw [e]
    cases e2 : AH (VM M0 0 0 0) (mn M0) x y with
    | false => rfl
    | true => rw [AH_op VM_st _ x y (by omega) e2]; rfl
end TD

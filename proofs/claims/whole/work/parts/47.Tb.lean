/-! a step of the reference, and all of them -/
theorem shA_fr {M M' : Mem} {a w h : Nat} {A : Nat → Nat → Bool} (hA : shA M a w h A) (f : ∀ k, M' a k = M a k) : shA M' a w h A := fun x y hx hy => (f _).trans (hA x y hx hy)
theorem shA_congr {M : Mem} {a w h : Nat} {A B : Nat → Nat → Bool} (hA : shA M a w h A) (f : ∀ x y, x < w → y < h → A x y = B x y) : shA M a w h B := fun x y hx hy => by rw [hA x y hx hy, f x y hx hy]
theorem shA_setR {M : Mem} {a w h : Nat} (w20 : w ≤ 20) (A : Nat → Nat → Bool) : shA (setR M a (regC w h) (fun x y => b01 (A x y))) a w h A := fun x y hx hy => by rw [setR_t _ _ _ (by omega) ⟨hx, hy⟩]
theorem Eq0_setR {M0 M : Mem} (hE : Eq0 M0 M) {a : Nat} (ha : 526 ≤ a) (P : Nat → Nat → Prop) (f : Nat → Nat → Int32) : Eq0 M0 (setR M a P f) := fun b k q => by
  rw [setR_o _ _ _ (fun e => q (by unfold Scr; omega))]; exact hE b k q
theorem Eq0_rowS {M0 M : Mem} (hE : Eq0 M0 M) {a : Nat} (ha : 526 ≤ a) (o n : Nat) (f : Nat → Int32) : Eq0 M0 (rowS M a o n f) := fun b k q => by
  rw [rowS_o _ _ _ _ (fun e => q (by unfold Scr; omega))]; exact hE b k q
theorem Eq0_rowN {M0 M : Mem} (hE : Eq0 M0 M) {a : Nat} (ha : 526 ≤ a) (n : Nat) (f : Nat → Int32) : Eq0 M0 (rowN M a n f) := fun b k q => by
  rw [rowN_o _ _ _ (fun e => q (by unfold Scr; omega))]; exact hE b k q
theorem Eq0_gW {M0 M : Mem} (hE : Eq0 M0 M) (e n s : Int32) : Eq0 M0 (gW M e n s) := fun b k q => by
  by_cases hb : b = 516
  · subst hb
    have : k < 26 := by unfold Scr at q; omega
    rw [gW_k _ _ _ _ (by omega)]; exact hE _ _ q
  · rw [gW_o _ _ _ _ hb]; exact hE _ _ q
theorem MCH_fr {M0 M : Mem} (hG : GM M0) (hE : Eq0 M0 M) : MCH M (mw M0) (mh M0) := by
  unfold MCH
  rw [hE _ _ (ns_516 (by decide)), hE _ _ (ns_516 (by decide))]; exact hG.1
theorem mLI_0 {M0 M : Mem} (hE : Eq0 M0 M) (w h : Nat) : mLI M w h = mLI M0 w h := mLI_fr (fun k => hE _ k (ns_5 (by decide) (by decide))) w h
theorem Ms0_Msd {M0 M : Mem} (hE : Eq0 M0 M) (h : Ms0 M0 M) : Msd M (mw M0) (mh M0) := fun x y hx hy => by rw [mLI_0 hE]; exact h x y hx hy
section TB
variable {xs : List Int32} {M M0 : Mem} {L : Int64} {Q : Option Value → Mem → Int64 → Prop}
theorem m_step (hG : GM M0) (hE : Eq0 M0 M) (hN : Ms0 M0 M) {t : Nat} (ht : t < mn M0) {A : Nat → Nat → Bool} (hA : shA M 527 (mw M0) (mh M0) A) (hin : inC (mw M0) (mh M0) A) {g m b : Int32} (hb : -2 ≤ b.toInt ∧ b.toInt ≤ 2)
    (hQ : ∀ M', Eq0 M0 M' → (∀ b k, (529 ≤ b ∨ (b = 516 ∧ 29 ≤ k)) → M' b k = M b k) → shA M' 527 (mw M0) (mh M0) (stV (VM M0 g m b) t ((VM M0 g m b).cn t) A) → Q none M' L) : RX xs shL md_Mod_step 0 [.ref 516, .int (nI t), .int g, .int m, .int b] [] M L Q := by
  have hC := MCH_fr hG hE
  have hC' := hC
  obtain ⟨c1, c2, w4, w20, h4, h20⟩ := hC
  have e525 : ∀ k, M 525 k = M0 525 k := fun k => hE _ k (ns_5 (by decide) (by decide))
  have e523 : ∀ k, M 523 k = M0 523 k := fun k => hE _ k (ns_5 (by decide) (by decide))
  have e524 : ∀ k, M 524 k = M0 524 k := fun k => hE _ k (ns_5 (by decide) (by decide))
  have hn : mn M0 ≤ 40 := hG.2.1.2
  have n5 : (5 : Int32) * nI t = nI (5 * t) := nI_mul 5 t
  have n54 : nI (5 * t) + 4 = nI (5 * t + 4) := nI_add (5 * t) 4
  refine L_Mod_step_0 ?_
  rw [n5, n54, nI_cl (by omega), nI_cl (by omega), e525, e525]
  refine ⟨vp_nI (by omega) (by omega), fun cw => ⟨vp_nI (by omega) (by omega), fun cc => ?_, fun cc => ?_⟩, fun cw => ?_⟩
  · have hw : ¬ (VM M0 g m b).isW t := fun q => q cw
    refine m_cutBy hC' (Ms0_Msd hE hN) (by omega) hA (fun x y hx hy => by rw [e524]; exact hG.2.2.2.2.2.2.1 x y hx hy) (by rw [e525, e525]; exact hG.2.2.2.2.2.2.2.1 t ht cw) ⟨rfl, hQ _ (Eq0_setR hE (by decide) _ _) (fun b k hb => setR_o _ _ _ (by omega) k) (shA_congr (shA_setR w20 _) (fun x y hx hy => ?_))⟩
    rw [stV_S hw, show (VM M0 g m b).cn t = true from bB_t cc, e525, e525, e525]
    rw [sgR_fr (M := M0) (fun b k hb => by rcases hb with rfl | rfl; exact e523 k; exact e524 k), ← sgV_in M0 _ _ _ hx hy]
    rfl
  · have hw : ¬ (VM M0 g m b).isW t := fun q => q cw
    refine hQ _ hE (fun _ _ _ => rfl) (shA_congr hA (fun x y hx hy => ?_))
    rw [stV_S hw, show (VM M0 g m b).cn t = false from bB_f cc]
    simp
  · have hw : (VM M0 g m b).isW t := cw
    refine m_wayOf hG hE ht cw hb rfl ⟨rfl, ?_⟩
    have hEg := Eq0_gW hE (mE M0 (rwW M0 t) (if bB (M0 525 (5 * t + 4) = 1) then g else 0) (bOf M0 (rwW M0 t) m b) (bB (M0 525 (5 * t + 4) = 1))) (mN M0 (rwW M0 t) (if bB (M0 525 (5 * t + 4) = 1) then g else 0) (bOf M0 (rwW M0 t) m b) (bB (M0 525 (5 * t + 4) = 1))) (mSp M0 (rwW M0 t) (bB (M0 525 (5 * t + 4) = 1)))
    rw [gW_26, gW_27, gW_28, hEg 516 13 (ns_516 (by decide)), hEg 516 14 (ns_516 (by decide)), hEg 516 15 (ns_516 (by decide)), hEg 516 16 (ns_516 (by decide))]
    have bd := fun k => mRe_b M0 (mE M0 (rwW M0 t) (if bB (M0 525 (5 * t + 4) = 1) then g else 0) (bOf M0 (rwW M0 t) m b) (bB (M0 525 (5 * t + 4) = 1))) (mN M0 (rwW M0 t) (if bB (M0 525 (5 * t + 4) = 1) then g else 0) (bOf M0 (rwW M0 t) m b) (bB (M0 525 (5 * t + 4) = 1))) (mSp M0 (rwW M0 t) (bB (M0 525 (5 * t + 4) = 1))) k
    refine m_dilate (MCH_fr hG hEg) (shA_fr hA (fun k => gW_o _ _ _ _ (by decide) k)) (bd 0).1 (bd 0).2 (bd 1).1 (bd 1).2 (bd 2).1 (bd 2).2 (bd 3).1 (bd 3).2 ⟨rfl, hQ _ (Eq0_setR (Eq0_setR hEg (by decide) _ _) (by decide) _ _) (fun b k hb => ?_) (shA_congr (shA_setR w20 _) (fun x y hx hy => ?_))⟩
    · rw [setR_o _ _ _ (by omega), setR_o _ _ _ (by omega)]
      by_cases e : b = 516
      · subst e; rw [gW_k _ _ _ _ (by omega)]
      · rw [gW_o _ _ _ _ e]
    · rw [stV_W hw, dil_eq hin h20 hx hy, hEg 523 _ (ns_5 (by decide) (by decide))]
      have : (VM M0 g m b).op x y = bB (¬ M0 523 (20 * y + x) = 0) := bB_congr ⟨fun q => q.2.2, fun q => ⟨hx, hy, q⟩⟩
      rw [this]
      rfl
/-- history is the patch along the log -/
def Hs (M0 M : Mem) (V : Vw) (j : Nat) : Prop := ∀ t, t ≤ j → ∀ x y, x < mw M0 → y < mh M0 → M 529 (400 * t + (20 * y + x)) = b01 (AH V t x y)
theorem m_beginV (hG : GM M0) (hE : Eq0 M0 M) {g m b : Int32} (hQ : ∀ M', Eq0 M0 M' → (∀ b k, b ≠ 527 → M' b k = M b k) → shA M' 527 (mw M0) (mh M0) (VM M0 g m b).st → Q none M' L) : RX xs shL md_Mod_begin 0 [.ref 516] [] M L Q := by
  have hC := MCH_fr hG hE
  have hG' := hG
  obtain ⟨-, -, ⟨x1, x2⟩, ⟨y1, y2⟩, ⟨r1, r2⟩, -⟩ := hG'
  refine m_begin hC (by rw [hE _ _ (ns_516 (by decide))]; exact x1) (by rw [hE _ _ (ns_516 (by decide))]; exact y1) (by rw [hE _ _ (ns_516 (by decide))]; exact r1) x2 y2 r2 (hQ _ (Eq0_setR hE (by decide) _ _) (fun b k hb => setR_o _ _ _ (by omega) k) (shA_congr (shA_setR hC.2.2.2.1 _) (fun x y hx hy => ?_)))
  unfold bgS
  rw [mLI_0 hE]
  have : bB (¬ mLI M0 (mw M0) (mh M0) x y) = mOp M0 x y := by
    refine bB_congr ?_
    unfold mLI
    constructor
    · intro q; exact ⟨hx, hy, fun e => q ⟨by omega, by omega, by omega, by omega, e⟩⟩
    · rintro ⟨-, -, q⟩ ⟨-, -, -, -, e⟩; exact q e
  rw [this]
  rfl
theorem m_goAll (hG : GM M0) (hE : Eq0 M0 M) (hN : Ms0 M0 M) {g m b : Int32} (hb : -2 ≤ b.toInt ∧ b.toInt ≤ 2)
    (hQ : ∀ M', Eq0 M0 M' → (∀ b k, 530 ≤ b → M' b k = M b k) → shA M' 527 (mw M0) (mh M0) (AH (VM M0 g m b) (mn M0)) → Hs M0 M' (VM M0 g m b) (mn M0) → Q none M' L) : RX xs shL md_Mod_goAll 0 [.ref 516, .int g, .int m, .int b] [] M L Q := by
  have hV := GM_ok hG g m b
  have hn : mn M0 ≤ 40 := hG.2.1.2
  have w20 : mw M0 ≤ 20 := hV.2.1
  have h20 : mh M0 ≤ 20 := hV.2.2.2.1
  have keepH : ∀ (M1 : Mem) (t : Nat) (A : Nat → Nat → Bool), shA M1 527 (mw M0) (mh M0) A → ∀ x y, x < mw M0 → y < mh M0 → rowS M1 529 (400 * t) 400 (fun k => M1 527 k &&& 1) 529 (400 * t + (20 * y + x)) = b01 (A x y) := by
    intro M1 t A hA x y hx hy
    unfold rowS
    rw [if_pos ⟨rfl, by omega, by omega⟩, show 400 * t + (20 * y + x) - 400 * t = 20 * y + x by omega]
    show M1 527 (20 * y + x) &&& 1 = _
    rw [hA x y hx hy, b01_and]
  have keepO : ∀ (M1 : Mem) (t s k : Nat), s < t → k < 400 → rowS M1 529 (400 * t) 400 (fun k => M1 527 k &&& 1) 529 (400 * s + k) = M1 529 (400 * s + k) := by
    intro M1 t s k hs hk
    unfold rowS
    rw [if_neg (by rintro ⟨-, q, -⟩; omega)]
  refine L_Mod_goAll_0 (m_beginV (g := g) (m := m) (b := b) hG hE (fun M1 E1 f1 a1 => ⟨rfl, m_keep (t := 0) (by omega) ⟨rfl, ?_⟩⟩))
  have key : ∀ r j, j + r = mn M0 → ∀ M', Eq0 M0 M' → (∀ b k, 530 ≤ b → M' b k = M b k) → shA M' 527 (mw M0) (mh M0) (AH (VM M0 g m b) j) → Hs M0 M' (VM M0 g m b) j → RX xs shL md_Mod_goAll 12 [.ref 516, .int g, .int m, .int b, .int (nI j)] [] M' L Q := by
    intro r
    induction r with
    | zero =>
      intro j hj M' hE' hf hA hH
      have : j = mn M0 := by omega
      subst this
      refine L_Mod_goAll_12 ⟨fun _ => hQ M' hE' hf hA hH, fun c => absurd ?_ c⟩
      rw [hE' _ _ (ns_516 (by decide)), hG.2.1.1]; exact Int32.le_refl _
    | succ r ih =>
      intro j hj M' hE' hf hA hH
      refine L_Mod_goAll_12 ⟨fun c => ?_, fun _ => ?_⟩
      · rw [hE' _ _ (ns_516 (by decide)), hG.2.1.1, nI_leI (by omega) (by omega)] at c; omega
      rw [nI_1]
      refine m_step hG hE' (fun x y hx hy => by rw [hf _ _ (by decide)]; exact hN x y hx hy) (by omega) hA (AH_in hV j) hb (fun M2 E2 f2 a2 => ⟨rfl, m_keep (by omega) ⟨rfl, ?_⟩⟩)
      refine ih (j + 1) (by omega) _ (Eq0_rowS E2 (by decide) _ _ _) (fun b k hb => ?_) (shA_fr a2 (fun k => rowS_o _ _ _ _ (by decide) k)) (fun t ht x y hx hy => ?_)
      · rw [rowS_o _ _ _ _ (by omega), f2 _ _ (by omega)]; exact hf b k hb
      · by_cases e : t = j + 1
        · subst e; exact keepH M2 (j + 1) _ a2 x y hx hy
        · rw [keepO M2 (j + 1) t _ (by omega) (by omega), f2 _ _ (by omega)]; exact hH t (by omega) x y hx hy
  refine key (mn M0) 0 (by omega) _ (Eq0_rowS E1 (by decide) _ _ _) (fun b k hb => ?_) (shA_fr a1 (fun k => rowS_o _ _ _ _ (by decide) k)) (fun t ht x y hx hy => ?_)
  · rw [rowS_o _ _ _ _ (by omega), f1 _ _ (by omega)]
  · have : t = 0 := by omega
    subst this
    exact keepH M1 0 _ a1 x y hx hy
theorem m_measure0 (hG : GM M0) (hE : Eq0 M0 M) (hQ : ∀ M', Eq0 M0 M' → Ms0 M0 M' → Q none M' L) : RX xs shL md_Mod_measure 0 [.ref 516] [] M L Q := by
  have hC := MCH_fr hG hE
  refine m_measure hC (hQ _ (Eq0_setR hE (by decide) _ _) (fun x y hx hy => ?_))
  rw [setR_t _ _ _ (by have := hC.2.2.2.1; omega) ⟨hx, hy⟩, mLI_0 hE]
theorem m_goPlain (hG : GM M0) (hE : Eq0 M0 M)
    (hQ : ∀ M', Eq0 M0 M' → Ms0 M0 M' → shA M' 527 (mw M0) (mh M0) (AH (VM M0 0 0 0) (mn M0)) → Hs M0 M' (VM M0 0 0 0) (mn M0) → Q none M' L) : RX xs shL md_Mod_goPlain 0 [.ref 516] [] M L Q := by
  refine L_Mod_goPlain_0 (m_measure0 hG hE (fun M1 E1 N1 => ⟨rfl, m_goAll hG E1 N1 (by decide) (fun M2 E2 f2 a2 h2 => ⟨rfl, hQ M2 E2 (fun x y hx hy => ?_) a2 h2⟩)⟩))
  rw [f2 _ _ (by decide)]; exact N1 x y hx hy
end TB

/-! rows that count otherwise; whether she is anywhere -/
def NE (A : Nat → Nat → Bool) : Prop := ∃ x y, y < 20 ∧ A x y = true
noncomputable def AHc (V : Vw) (c : Nat → Bool) : Nat → Nat → Nat → Bool
  | 0 => V.st
  | t + 1 => stV V t (c t) (AHc V c t)
theorem AHc_cn (V : Vw) : ∀ t, AHc V V.cn t = AH V t := by
  intro t
  induction t with
  | zero => rfl
  | succ t ih => show stV V t (V.cn t) (AHc V V.cn t) = stV V t (V.cn t) (AH V t); rw [ih]
theorem AHc_congr (V : Vw) {c d : Nat → Bool} : ∀ t, (∀ s, s < t → c s = d s) → AHc V c t = AHc V d t := by
  intro t
  induction t with
  | zero => intro _; rfl
  | succ t ih => intro q; show stV V t (c t) (AHc V c t) = stV V t (d t) (AHc V d t); rw [ih (fun s hs => q s (by omega)), q t (by omega)]
theorem AHc_in {V : Vw} (hV : okV V) (c : Nat → Bool) : ∀ t, inC V.w V.h (AHc V c t) := by
  intro t
  induction t with
  | zero => exact hV.2.2.2.2.2.2.1
  | succ t ih => exact stV_in ih
theorem AHc_op {V : Vw} (hs : sub V.st V.op) (c : Nat → Bool) : ∀ t, sub (AHc V c t) V.op := by
  intro t
  induction t with
  | zero => exact hs
  | succ t ih => exact stV_op ih
theorem nonE {V : Vw} (hV : okV V) (hs : sub V.st V.op) {c : Nat → Bool} : ∀ k t, t + k = V.n → (∀ s, t ≤ s → s < V.n → c s = V.cn s) → (NE (AHc V c V.n) ↔ meets (AHc V c t) (BK V t)) := by
  intro k
  induction k with
  | zero =>
    intro t ht _
    have : t = V.n := by omega
    subst this
    rw [BK_n]
    exact ⟨fun ⟨x, y, h1, h2⟩ => ⟨x, y, h1, h2, AHc_op hs c _ x y h1 h2⟩, fun ⟨x, y, h1, h2, _⟩ => ⟨x, y, h1, h2⟩⟩
  | succ k ih =>
    intro t ht hc
    rw [ih (t + 1) (by omega) (fun s h1 h2 => hc s (by omega) h2), BK_s (t := t) (by omega)]
    show meets (stV V t (c t) (AHc V c t)) _ ↔ _
    rw [hc t (by omega) (by omega)]
    exact meet_step hV (AHc_in hV c t) (AHc_op hs c t) (BK'_in hV _) (BK'_op _)
theorem NE_st {V : Vw} {t : Nat} {c : Bool} {A : Nat → Nat → Bool} (hV : okV V) (h : NE (stV V t c A)) : NE A := by
  obtain ⟨x, y, h1, h2⟩ := h
  by_cases hw : V.isW t
  · rw [stV_W hw, Bool.and_eq_true] at h2
    obtain ⟨-, -, x', y', q1, q2, -⟩ := bB_iff.mp h2.1
    exact ⟨x', y', by have := hV.2.2.2.1; omega, q2⟩
  · rw [stV_S hw, Bool.and_eq_true] at h2
    exact ⟨x, y, h1, h2.1⟩
theorem NE_AH {V : Vw} (hV : okV V) : ∀ k t, NE (AH V (t + k)) → NE (AH V t) := by
  intro k
  induction k with
  | zero => intro t h; exact h
  | succ k ih => intro t h; exact ih t (NE_st (V := V) (t := t + k) (c := V.cn (t + k)) hV h)
theorem cnt_NE {A : Nat → Nat → Bool} {w h : Nat} (hA : inC w h A) (h20 : h ≤ 20) : cnt w h A = 0 ↔ ¬ NE A := by
  unfold cnt
  rw [cntY_0]
  constructor
  · rintro q ⟨x, y, h1, h2⟩
    have := hA x y h1 h2
    rw [q y this.2 x this.1] at h2; cases h2
  · intro q y hy x hx
    cases e : A x y with
    | false => rfl
    | true => exact absurd ⟨x, y, by omega, e⟩ q
theorem cnt_400 {A : Nat → Nat → Bool} {w h : Nat} (hw : w ≤ 20) (hh : h ≤ 20) : cnt w h A ≤ 400 := Nat.le_trans (cntY_le A w h) (Nat.mul_le_mul hw hh)
theorem cntI_0 {A : Nat → Nat → Bool} {w h : Nat} (hA : inC w h A) (hw : w ≤ 20) (hh : h ≤ 20) : nI (cnt w h A) = 0 ↔ ¬ NE A := by
  rw [← cnt_NE hA hh]
  have := cnt_400 (A := A) hw hh
  constructor
  · intro q
    have e : (nI (cnt w h A)).toInt = 0 := by rw [q]; rfl
    rw [i_nI (by omega)] at e; omega
  · intro q; rw [q]; rfl
/-- memories that differ in what counts alone -/
def EqC (M M' : Mem) : Prop := ∀ b k, 516 ≤ b → ¬ Scr b k → (b = 525 → k % 5 ≠ 4) → (b = 516 → k < 22) → M' b k = M b k
theorem mRe_fr {M M' : Mem} (f : ∀ k, k < 22 → M' 516 k = M 516 k) : mRe M' = mRe M := by
  funext e n s k
  unfold mRe
  rw [f 13 (by decide), f 14 (by decide), f 15 (by decide), f 16 (by decide)]
theorem ec_lo {M M' : Mem} (h : EqC M M') {k : Nat} (hk : k < 22) : M' 516 k = M 516 k := h _ _ (by decide) (ns_516 (by omega)) (fun e => absurd e (by decide)) (fun _ => hk)
theorem ec_hi {M M' : Mem} (h : EqC M M') {b : Nat} (h1 : 517 ≤ b) (h2 : b < 525) (k : Nat) : M' b k = M b k := h _ _ (by omega) (ns_5 h1 (by omega)) (fun e => by omega) (fun e => by omega)
theorem ec_rw {M M' : Mem} (h : EqC M M') (t j : Nat) (hj : j < 4) : M' 525 (5 * t + j) = M 525 (5 * t + j) := h _ _ (by decide) (ns_5 (by decide) (by decide)) (fun _ => by omega) (fun e => absurd e (by decide))
theorem ec_mRv {M M' : Mem} (h : EqC M M') : mRv M' = mRv M := by
  funext w g b c k
  have e1 : mpg M' = mpg M := by funext a k; exact ec_hi h (by decide) (by decide) _
  have e2 : mkn M' = mkn M := by funext a k; exact ec_hi h (by decide) (by decide) _
  unfold mRv mE mN mSp mES mNS
  rw [mRe_fr (fun k hk => ec_lo h hk), e1, e2, ec_lo h (k := 8) (by decide), ec_hi h (b := 522) (by decide) (by decide), ec_hi h (b := 522) (by decide) (by decide)]
theorem ec_VM {M M' : Mem} (h : EqC M M') (g m b : Int32) : VM M' g m b = ((VM M g m b).w, (VM M g m b).h, (VM M g m b).n, (VM M g m b).op, (VM M g m b).st, (VM M g m b).isW, (VM M' g m b).cn, (VM M g m b).sg, (VM M g m b).R) := by
  have e1 : mw M' = mw M := by unfold mw; rw [ec_lo h (by decide)]
  have e2 : mh M' = mh M := by unfold mh; rw [ec_lo h (by decide)]
  have e3 : mn M' = mn M := by unfold mn; rw [ec_lo h (by decide)]
  have e4 : mOp M' = mOp M := by funext x y; unfold mOp; rw [e1, e2, ec_hi h (by decide) (by decide)]
  have e5 : boxP M' = boxP M := by funext x y; unfold boxP msx msy msr; rw [ec_lo h (k := 17) (by decide), ec_lo h (k := 18) (by decide), ec_lo h (k := 19) (by decide)]
  have e6 : ∀ t, M' 525 (5 * t) = M 525 (5 * t) := fun t => ec_rw h t 0 (by decide)
  have e7 : rwW M' = rwW M := by funext t; unfold rwW; rw [e6]
  have e8 : bOf M' = bOf M := by funext w m b; unfold bOf; rw [ec_hi h (by decide) (by decide)]
  show (mw M', mh M', mn M', mOp M', (fun x y => mOp M' x y && bB (boxP M' x y)), (fun t => ¬ M' 525 (5 * t) = -1), (fun t => bB (M' 525 (5 * t + 4) = 1)), (fun t => sgV M' (M' 525 (5 * t + 1)) (M' 525 (5 * t + 2)) (M' 525 (5 * t + 3))), (fun t c k => (mRv M' (rwW M' t) (if c then g else 0) (bOf M' (rwW M' t) m b) c k).toInt)) = _
  have e9 : (fun t => sgV M' (M' 525 (5 * t + 1)) (M' 525 (5 * t + 2)) (M' 525 (5 * t + 3))) = (fun t => sgV M (M 525 (5 * t + 1)) (M 525 (5 * t + 2)) (M 525 (5 * t + 3))) := by
    funext t x y
    rw [ec_rw h t 1 (by decide), ec_rw h t 2 (by decide), ec_rw h t 3 (by decide)]
    unfold sgV
    rw [e1, e2, sgR_fr (M := M) (fun b k hb => ec_hi h (by omega) (by omega) k)]
  have e10 : (fun t => ¬ M' 525 (5 * t) = -1) = (fun t => ¬ M 525 (5 * t) = -1) := by funext t; rw [e6]
  rw [e9, e10, e1, e2, e3, e4, e5, e7, e8, ec_mRv h]
  rfl
theorem ec_st {M M' : Mem} (h : EqC M M') (g m b : Int32) : stV (VM M' g m b) = stV (VM M g m b) := by rw [ec_VM h]; rfl
theorem ec_AH {M M' : Mem} (h : EqC M M') (g m b : Int32) : ∀ t, AH (VM M' g m b) t = AHc (VM M g m b) (VM M' g m b).cn t := by
  intro t
  induction t with
  | zero => show (VM M' g m b).st = _; rw [ec_VM h]; rfl
  | succ t ih => show stV (VM M' g m b) t _ (AH _ t) = stV _ _ _ _; rw [ih, ec_st h]
theorem ec_GM {M M' : Mem} (h : EqC M M') (hG : GM M) : GM M' := by
  have e1 : mw M' = mw M := by unfold mw; rw [ec_lo h (by decide)]
  have e2 : mh M' = mh M := by unfold mh; rw [ec_lo h (by decide)]
  have e3 : mn M' = mn M := by unfold mn; rw [ec_lo h (by decide)]
  have e4 : msx M' = msx M := by unfold msx; rw [ec_lo h (by decide)]
  have e5 : msy M' = msy M := by unfold msy; rw [ec_lo h (by decide)]
  have e6 : msr M' = msr M := by unfold msr; rw [ec_lo h (by decide)]
  have e7 : ∀ t, M' 525 (5 * t) = M 525 (5 * t) := fun t => ec_rw h t 0 (by decide)
  have e8 : rwW M' = rwW M := by funext t; unfold rwW; rw [e7]
  have e9 : mpg M' = mpg M := by funext a k; exact ec_hi h (by decide) (by decide) _
  have eT : tabT M' ↔ tabT M := by unfold tabT; exact ⟨fun q k hk => (ec_hi h (by decide) (by decide) k).symm.trans (q k hk), fun q k hk => (ec_hi h (by decide) (by decide) k).trans (q k hk)⟩
  obtain ⟨g1, g2, g3, g4, g5, g6, g7, g8, g9⟩ := hG
  refine ⟨?_, ?_, ?_, ?_, ?_, eT.mpr g6, ?_, ?_, ?_⟩
  · unfold MCH; rw [e1, e2, ec_lo h (by decide), ec_lo h (by decide)]; exact g1
  · rw [e3, ec_lo h (by decide)]; exact g2
  · rw [e4, ec_lo h (by decide)]; exact g3
  · rw [e5, ec_lo h (by decide)]; exact g4
  · rw [e6, ec_lo h (by decide)]; exact g5
  · intro x y hx hy
    rw [e1] at hx; rw [e2] at hy
    rw [ec_hi h (by decide) (by decide)]; exact g7 x y hx hy
  · intro t ht
    rw [e3] at ht
    rw [e7, ec_rw h t 1 (by decide), ec_rw h t 2 (by decide)]; exact g8 t ht
  · intro t ht
    rw [e3] at ht
    rw [e7, e8, e9, ec_hi h (by decide) (by decide), ec_hi h (by decide) (by decide)]; exact g9 t ht
theorem EqC_of {M M' : Mem} (h : Eq0 M M') : EqC M M' := fun b k _ q _ _ => h b k q
theorem VM_C {M M' : Mem} (h : EqC M M') (hc : ∀ t, M' 525 (5 * t + 4) = M 525 (5 * t + 4)) (g m b : Int32) : VM M' g m b = VM M g m b := by
  have e : (VM M' g m b).cn = (VM M g m b).cn := by
    funext t
    show bB (M' 525 (5 * t + 4) = 1) = bB (M 525 (5 * t + 4) = 1)
    rw [hc]
  rw [ec_VM h, e]
  rfl
theorem VM_0 {M M' : Mem} (h : Eq0 M M') (g m b : Int32) : VM M' g m b = VM M g m b := by
  have e : (VM M' g m b).cn = (VM M g m b).cn := by
    funext t
    show bB (M' 525 (5 * t + 4) = 1) = bB (M 525 (5 * t + 4) = 1)
    rw [h _ _ (ns_5 (by decide) (by decide))]
  rw [ec_VM (EqC_of h), e]
  rfl
theorem GM_0 {M M' : Mem} (h : Eq0 M M') (hG : GM M) : GM M' := ec_GM (EqC_of h) hG
section TE
variable {xs : List Int32} {M M0 : Mem} {L : Int64} {Q : Option Value → Mem → Int64 → Prop}
theorem m_isEmptyNow (hG : GM M0) (hE : Eq0 M0 M) (hN : Ms0 M0 M) (hQ : ∀ M', Eq0 M0 M' → (∀ b k, (529 ≤ b ∨ (b = 516 ∧ 29 ≤ k)) → M' b k = M b k) → Q (some (.int (bI (¬ NE (AH (VM M0 0 0 0) (mn M0)))))) M' L) : RX xs shL md_Mod_isEmptyNow 0 [.ref 516] [] M L Q := by
  have hV := GM_ok hG 0 0 0
  have hn : mn M0 ≤ 40 := hG.2.1.2
  have w20 : mw M0 ≤ 20 := hV.2.1
  have h20 : mh M0 ≤ 20 := hV.2.2.2.1
  have key : ∀ r j, j + r = mn M0 → ∀ M', Eq0 M0 M' → (∀ b k, (529 ≤ b ∨ (b = 516 ∧ 29 ≤ k)) → M' b k = M b k) → shA M' 527 (mw M0) (mh M0) (AH (VM M0 0 0 0) j) → ∀ v : Int32, v = bI (¬ NE (AH (VM M0 0 0 0) j)) → RX xs shL md_Mod_isEmptyNow 19 [.ref 516, .int v, .int (nI j)] [] M' L Q := by
    intro r
    induction r with
    | zero =>
      intro j hj M' hE' hf hA v hv
      have : j = mn M0 := by omega
      subst this
      refine L_Mod_isEmptyNow_19 ⟨fun _ => ⟨by rw [hv]; exact bI_01, by rw [hv]; exact hQ M' hE' hf⟩, fun c => absurd ?_ c⟩
      rw [hE' _ _ (ns_516 (by decide)), hG.2.1.1]; exact Int32.le_refl _
    | succ r ih =>
      intro j hj M' hE' hf hA v hv
      refine L_Mod_isEmptyNow_19 ⟨fun c => ?_, fun _ => ⟨fun c => ?_, fun c => ⟨by rw [hv]; exact bI_01, ?_⟩⟩⟩
      · rw [hE' _ _ (ns_516 (by decide)), hG.2.1.1, nI_leI (by omega) (by omega)] at c; omega
      · rw [nI_1]
        refine m_step hG hE' (fun x y hx hy => by rw [hf _ _ (by omega)]; exact hN x y hx hy) (by omega) hA (AH_in hV j) (by decide) (fun M2 E2 f2 a2 => ⟨rfl, m_cells (MCH_fr hG E2) a2 ⟨_, rfl, ?_⟩⟩)
        have fr : ∀ b k, (529 ≤ b ∨ (b = 516 ∧ 29 ≤ k)) → M2 b k = M b k := fun b k hb => (f2 b k hb).trans (hf b k hb)
        refine ⟨fun z => ih (j + 1) (by omega) M2 E2 fr a2 1 ?_, fun z => ih (j + 1) (by omega) M2 E2 fr a2 0 ?_⟩
        · exact (bI_t ((cntI_0 (AH_in hV (j + 1)) w20 h20).mp z)).symm
        · exact (bI_f (fun q => z ((cntI_0 (AH_in hV (j + 1)) w20 h20).mpr q))).symm
      · rw [hv] at c
        have c1 := bI_p1 c
        have c2 : ¬ NE (AH (VM M0 0 0 0) (mn M0)) := fun q => c1 (NE_AH hV (mn M0 - j) j (by rw [show j + (mn M0 - j) = mn M0 by omega]; exact q))
        rw [hv, bI_t c1, ← bI_t c2]
        exact hQ M' hE' hf
  refine L_Mod_isEmptyNow_0 (m_beginV (g := 0) (m := 0) (b := 0) hG hE (fun M1 E1 f1 a1 => ⟨rfl, m_cells (MCH_fr hG E1) a1 ⟨_, rfl, ?_⟩⟩))
  have fr : ∀ b k, (529 ≤ b ∨ (b = 516 ∧ 29 ≤ k)) → M1 b k = M b k := fun b k hb => f1 b k (by omega)
  refine ⟨fun z => key (mn M0) 0 (by omega) M1 E1 fr a1 1 ?_, fun z => key (mn M0) 0 (by omega) M1 E1 fr a1 0 ?_⟩
  · exact (bI_t ((cntI_0 (AH_in hV 0) w20 h20).mp z)).symm
  · exact (bI_f (fun q => z ((cntI_0 (AH_in hV 0) w20 h20).mpr q))).symm
/-- without the counting of rows a and b -/
def ovc (V : Vw) (a b : Nat) (t : Nat) : Bool := if t = a ∨ t = b then false else V.cn t
noncomputable def hlp (V : Vw) (a b : Nat) : Prop := NE (AHc V (ovc V a b) V.n)
theorem m_helps (hG : GM M0) (hE : Eq0 M0 M) (hN : Ms0 M0 M) {a b : Nat} (ha : a < mn M0) (hb : b < mn M0) (hQ : ∀ M', Eq0 M0 M' → (∀ b k, (529 ≤ b ∨ (b = 516 ∧ 29 ≤ k)) → M' b k = M b k) → Q (some (.int (bI (hlp (VM M0 0 0 0) a b)))) M' L) : RX xs shL md_Mod_helps 0 [.ref 516, .int (nI a), .int (nI b)] [] M L Q := by
  have hn : mn M0 ≤ 40 := hG.2.1.2
  have na : (5 : Int32) * nI a + 4 = nI (5 * a + 4) := nI_lin 5 a 4
  have nb : (5 : Int32) * nI b + 4 = nI (5 * b + 4) := nI_lin 5 b 4
  refine L_Mod_helps_0 ?_
  rw [na, nb, nI_cl (by omega), nI_cl (by omega)]
  refine ⟨vp_nI (by omega) (by omega), vp_nI (by omega) (by omega), ?_⟩
  have hC : EqC M0 (up (up M0 525 (5 * a + 4) 0) 525 (5 * b + 4) 0) := fun c k _ _ q _ => by
    rw [up_ne _ _ (fun e => q e.1 (by omega)), up_ne _ _ (fun e => q e.1 (by omega))]
  have hE2 : Eq0 (up (up M0 525 (5 * a + 4) 0) 525 (5 * b + 4) 0) (up (up M 525 (5 * a + 4) 0) 525 (5 * b + 4) 0) := fun c k q => by
    unfold up
    split
    · rfl
    · split
      · rfl
      · exact hE c k q
  have em : mn (up (up M0 525 (5 * a + 4) 0) 525 (5 * b + 4) 0) = mn M0 := by unfold mn; rw [ec_lo hC (by decide)]
  have ew : mw (up (up M0 525 (5 * a + 4) 0) 525 (5 * b + 4) 0) = mw M0 := by unfold mw; rw [ec_lo hC (by decide)]
  have eh : mh (up (up M0 525 (5 * a + 4) 0) 525 (5 * b + 4) 0) = mh M0 := by unfold mh; rw [ec_lo hC (by decide)]
  refine m_isEmptyNow (ec_GM hC hG) hE2 (fun x y hx hy => ?_) (fun M' E' f' => ?_)
  · rw [ew] at hx; rw [eh] at hy
    rw [ew, eh, mLI_fr (M := M0) (fun k => ec_hi hC (by decide) (by decide) k), up_ne _ _ (by omega), up_ne _ _ (by omega)]
    exact hN x y hx hy
  · rw [em, ec_AH hC]
    have ec : AHc (VM M0 0 0 0) (VM (up (up M0 525 (5 * a + 4) 0) 525 (5 * b + 4) 0) 0 0 0).cn (mn M0) = AHc (VM M0 0 0 0) (ovc (VM M0 0 0 0) a b) (mn M0) := by
      refine AHc_congr _ _ (fun s hs => ?_)
      show bB (up (up M0 525 (5 * a + 4) 0) 525 (5 * b + 4) 0 525 (5 * s + 4) = 1) = _
      unfold ovc up
      by_cases e1 : s = b
      · rw [if_pos ⟨rfl, by omega⟩, if_pos (Or.inr e1)]; exact bB_f (by decide)
      · by_cases e2 : s = a
        · rw [if_neg (by omega), if_pos ⟨rfl, by omega⟩, if_pos (Or.inl e2)]; exact bB_f (by decide)
        · rw [if_neg (by omega), if_neg (by omega), if_neg (by omega)]; rfl
    rw [ec]
    have back : Eq0 M0 (up (up M' 525 (5 * b + 4) (M 525 (5 * b + 4))) 525 (5 * a + 4) (M 525 (5 * a + 4))) := fun c k q => by
      have q1 := E' c k q
      have q2 := hE c k q
      unfold up at q1 ⊢
      split
      · rename_i e; rw [← e.1, ← e.2]; exact q2
      · split
        · rename_i e; rw [← e.1, ← e.2]; exact q2
        · rename_i e1 e2
          rw [if_neg e2, if_neg e1] at q1
          exact q1
    have fr : ∀ c k, (529 ≤ c ∨ (c = 516 ∧ 29 ≤ k)) → up (up M' 525 (5 * b + 4) (M 525 (5 * b + 4))) 525 (5 * a + 4) (M 525 (5 * a + 4)) c k = M c k := fun c k hc => by
      rw [up_ne _ _ (by omega), up_ne _ _ (by omega), f' c k hc, up_ne _ _ (by omega), up_ne _ _ (by omega)]
    have goal := hQ _ back fr
    refine ⟨_, rfl, fun z => ?_, fun z => ?_⟩
    · have : hlp (VM M0 0 0 0) a b := Classical.byContradiction fun q => bI_p0 z q
      rw [bI_t this] at goal
      exact goal
    · have : ¬ hlp (VM M0 0 0 0) a b := bI_p1 z
      rw [bI_f this] at goal
      exact goal
end TE

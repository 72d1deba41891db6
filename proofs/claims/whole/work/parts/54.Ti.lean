/-! fits: the class -/
def bO (B : Nat) : Int32 := nI B - 2
def gO (G : Nat) : Int32 := nI G - 9
theorem bO_i {B : Nat} (h : B < 1000) : (bO B).toInt = (B : Int) - 2 := by
  unfold bO; rw [i_sub (by rw [i_nI (by omega)]; show _ ≤ _ - (2 : Int); omega) (by rw [i_nI (by omega)]; show _ - (2 : Int) < _; omega), i_nI (by omega)]; rfl
theorem gO_i {B : Nat} (h : B < 1000) : (gO B).toInt = (B : Int) - 9 := by
  unfold gO; rw [i_sub (by rw [i_nI (by omega)]; show _ ≤ _ - (9 : Int); omega) (by rw [i_nI (by omega)]; show _ - (9 : Int) < _; omega), i_nI (by omega)]; rfl
theorem bO_s {B : Nat} (h : B < 100) : bO B + 1 = bO (B + 1) := i_eq (by
  have := bO_i (B := B) (by omega)
  rw [i_add (by show _ ≤ _ + (1 : Int); omega) (by show _ + (1 : Int) < _; omega), this, bO_i (by omega)]; show _ - 2 + (1 : Int) = _; omega)
theorem gO_s {B : Nat} (h : B < 100) : gO B + 1 = gO (B + 1) := i_eq (by
  have := gO_i (B := B) (by omega)
  rw [i_add (by show _ ≤ _ + (1 : Int); omega) (by show _ + (1 : Int) < _; omega), this, gO_i (by omega)]; show _ - 9 + (1 : Int) = _; omega)
noncomputable def mSt (M : Mem) : Nat → Nat → Bool := fun x y => mOp M x y && bB (boxP M x y)
def mIsW (M : Mem) (t : Nat) : Prop := ¬ M 525 (5 * t) = -1
noncomputable def mCn (M : Mem) (t : Nat) : Bool := bB (M 525 (5 * t + 4) = 1)
noncomputable def mSg (M : Mem) (t : Nat) : Nat → Nat → Bool := sgV M (M 525 (5 * t + 1)) (M 525 (5 * t + 2)) (M 525 (5 * t + 3))
noncomputable def VFR (M : Mem) (g m b : Int32) (t : Nat) (c : Bool) (k : Nat) : Int := if c && mCn M t then (mRv M (rwW M t) g (bOf M (rwW M t) m b) true k).toInt else (mRv M (rwW M t) 0 0 c k).toInt
noncomputable def VF (M : Mem) (g m b : Int32) : Vw := (mw M, mh M, mn M, mOp M, mSt M, mIsW M, mCn M, mSg M, VFR M g m b)
theorem mRv_f (M : Mem) (w : Nat) (b b' : Int32) (k : Nat) : mRv M w 0 b false k = mRv M w 0 b' false k := by unfold mRv mE mN; simp only [Bool.false_eq_true, if_false]
theorem bOf_0 (M : Mem) (w : Nat) (m : Int32) : bOf M w m 0 = 0 := by unfold bOf; split <;> rfl
theorem VM_R (M : Mem) (g m b : Int32) (t : Nat) (c : Bool) (k : Nat) : (VM M g m b).R t c k = (mRv M (rwW M t) (if c then g else 0) (bOf M (rwW M t) m b) c k).toInt := rfl
theorem VF_R (M : Mem) (g m b : Int32) (t : Nat) (c : Bool) (k : Nat) : (VF M g m b).R t c k = VFR M g m b t c k := rfl
theorem VFR_f (M : Mem) (g m b : Int32) (t k : Nat) : VFR M g m b t false k = (mRv M (rwW M t) 0 0 false k).toInt := by unfold VFR; rw [Bool.false_and]; rfl
theorem VFR_n {M : Mem} {t : Nat} (h : mCn M t = false) (g m b : Int32) (c : Bool) (k : Nat) : VFR M g m b t c k = (mRv M (rwW M t) 0 0 c k).toInt := by unfold VFR; rw [h, Bool.and_false]; rfl
theorem VFR_t {M : Mem} {t : Nat} (h : mCn M t = true) (g m b : Int32) (k : Nat) : VFR M g m b t true k = (mRv M (rwW M t) g (bOf M (rwW M t) m b) true k).toInt := by unfold VFR; rw [h]; rfl
theorem stVF_W {M : Mem} {t : Nat} (hw : mIsW M t) (g m b : Int32) (c : Bool) (A : Nat → Nat → Bool) (x y : Nat) : stV (VF M g m b) t c A x y = (rchA (mw M) (mh M) A (VFR M g m b t c 0) (VFR M g m b t c 1) (VFR M g m b t c 2) (VFR M g m b t c 3) x y && mOp M x y) := stV_W (V := VF M g m b) hw c A x y
theorem stVF_S {M : Mem} {t : Nat} (hw : ¬ mIsW M t) (g m b : Int32) (c : Bool) (A : Nat → Nat → Bool) (x y : Nat) : stV (VF M g m b) t c A x y = (A x y && (!c || mSg M t x y)) := stV_S (V := VF M g m b) hw c A x y
theorem stVM_W {M : Mem} {t : Nat} (hw : mIsW M t) (g m b : Int32) (c : Bool) (A : Nat → Nat → Bool) (x y : Nat) : stV (VM M g m b) t c A x y = (rchA (mw M) (mh M) A ((VM M g m b).R t c 0) ((VM M g m b).R t c 1) ((VM M g m b).R t c 2) ((VM M g m b).R t c 3) x y && mOp M x y) := stV_W (V := VM M g m b) hw c A x y
theorem stVM_S {M : Mem} {t : Nat} (hw : ¬ mIsW M t) (g m b : Int32) (c : Bool) (A : Nat → Nat → Bool) (x y : Nat) : stV (VM M g m b) t c A x y = (A x y && (!c || mSg M t x y)) := stV_S (V := VM M g m b) hw c A x y
theorem AHF_0 (M : Mem) (g m b : Int32) : AH (VF M g m b) 0 = mSt M := rfl
theorem AHF_s (M : Mem) (g m b : Int32) (t : Nat) : AH (VF M g m b) (t + 1) = stV (VF M g m b) t (mCn M t) (AH (VF M g m b) t) := rfl
theorem AHM_0 (M : Mem) (g m b : Int32) : AH (VM M g m b) 0 = mSt M := rfl
theorem AHM_s (M : Mem) (g m b : Int32) (t : Nat) : AH (VM M g m b) (t + 1) = stV (VM M g m b) t (mCn M t) (AH (VM M g m b) t) := rfl
theorem VFR_VM (M : Mem) (g m b : Int32) (t k : Nat) : VFR M g m b t (mCn M t) k = (VM M g m b).R t (mCn M t) k := by
  rw [VM_R]
  cases hc : mCn M t with
  | true => rw [VFR_t hc]; simp only [if_true]
  | false => rw [VFR_f]; simp only [Bool.false_eq_true, if_false]; rw [mRv_f M _ 0 (bOf M (rwW M t) m b)]
theorem AH_VF (M : Mem) (g m b : Int32) : ∀ t, AH (VF M g m b) t = AH (VM M g m b) t := by
  intro t
  induction t with
  | zero => rw [AHF_0, AHM_0]
  | succ t ih =>
    rw [AHF_s, AHM_s, ih]
    funext x y
    by_cases hw : mIsW M t
    · rw [stVF_W hw, stVM_W hw, VFR_VM, VFR_VM, VFR_VM, VFR_VM]
    · rw [stVF_S hw, stVM_S hw]
theorem VF_ok {M : Mem} (h : GM M) (g m b : Int32) : okV (VF M g m b) := by
  obtain ⟨⟨-, -, h1, h2, h3, h4⟩, ⟨-, h5⟩, -⟩ := h
  refine ⟨h1, h2, h3, h4, h5, fun x y _ q => ?_, fun x y _ q => ?_, fun t c k _ _ _ => ?_⟩
  · have q : mOp M x y = true := q
    exact ⟨(bB_iff.mp q).1, (bB_iff.mp q).2.1⟩
  · have q : mSt M x y = true := q
    have q : mOp M x y = true := (Bool.and_eq_true _ _ ▸ q : _ ∧ _).1
    exact ⟨(bB_iff.mp q).1, (bB_iff.mp q).2.1⟩
  · rw [VF_R]
    unfold VFR
    split
    · exact mRe_b _ _ _ _ _
    · exact mRe_b _ _ _ _ _
theorem AH_same {M : Mem} {g m b g' m' b' : Int32} : ∀ f, (∀ t, t < f → mIsW M t → ∀ k, k < 4 → VFR M g m b t (mCn M t) k = VFR M g' m' b' t (mCn M t) k) → AH (VF M g m b) f = AH (VF M g' m' b') f := by
  intro f
  induction f with
  | zero => intro _; rw [AHF_0, AHF_0]
  | succ t ih =>
    intro h
    rw [AHF_s, AHF_s, ih (fun s hs => h s (by omega))]
    funext x y
    by_cases hw : mIsW M t
    · have q := h t (by omega) hw
      rw [stVF_W hw, stVF_W hw, q 0 (by decide), q 1 (by decide), q 2 (by decide), q 3 (by decide)]
    · rw [stVF_S hw, stVF_S hw]
def RdF (M0 M : Mem) (R : Nat → Bool → Nat → Int) (t : Nat) : Prop := (mIsW M0 t → ∀ k, k < 4 → (M (136 + 5 * t + 1) k).toInt = R t true k ∧ (M (136 + 5 * t + 2) k).toInt = R t false k) ∧ (¬ mIsW M0 t → ∀ y, y < 20 → ∀ x, x < 32 → gp M (136 + 5 * t + 3) x y = mSg M0 t x y)
theorem RdF_Rd {M0 M : Mem} {g m b : Int32} {t : Nat} (h : RdF M0 M (VFR M0 g m b) t) : Rd M (VF M0 g m b) t := h
theorem RdM_Rd {M0 M : Mem} {t : Nat} (h : Rd M (VM M0 0 0 0) t) : RdF M0 M (VFR M0 0 0 0) t := by
  refine ⟨fun hw k hk => ?_, h.2⟩
  have e : ∀ c, VFR M0 0 0 0 t c k = (VM M0 0 0 0).R t c k := fun c => by
    rw [VM_R]; unfold VFR
    rw [bOf_0]
    cases c with
    | true => simp only [Bool.true_and, if_true]; cases mCn M0 t <;> simp
    | false => simp
  rw [e, e]; exact h.1 hw k hk
theorem RdF_fr {M0 M M' : Mem} {R : Nat → Bool → Nat → Int} {t : Nat} (h : RdF M0 M R t) (f : ∀ b j, b = 136 + 5 * t + 1 ∨ b = 136 + 5 * t + 2 ∨ b = 136 + 5 * t + 3 + 1 → M' b j = M b j) : RdF M0 M' R t := by
  refine ⟨fun hw k hk => ?_, fun hw y hy x hx => ?_⟩
  · rw [f _ _ (by omega), f _ _ (by omega)]; exact h.1 hw k hk
  · rw [← h.2 hw y hy x hx]; unfold gp; rw [f _ _ (by omega)]
def ShM (M0 M : Mem) : Prop := CH M (mw M0) (mh M0) ∧ M 134 1 = nI (mn M0) ∧ shw M 128 (mOp M0) ∧ ∀ t, t < mn M0 → (M (136 + 5 * t) 3 = -1 ↔ ¬ mIsW M0 t) ∧ (mCn M0 t = bB (¬ M (136 + 5 * t) 7 = 0))
theorem ShM_VF {M0 M : Mem} (h : ShM M0 M) (g m b : Int32) : Sh M (VF M0 g m b) := h
theorem ShM_VM {M0 M : Mem} (g m b : Int32) (h : Sh M (VM M0 g m b)) : ShM M0 M := h
def ShF (M0 M : Mem) (g m b : Int32) : Prop := (∀ c k, c < 136 → M c k = M0 c k) ∧ (∀ c k, 516 ≤ c → M c k = M0 c k) ∧ (∀ t k, t < 40 → M (136 + 5 * t) k = M0 (136 + 5 * t) k) ∧ (∀ t, t < mn M0 → RdF M0 M (VFR M0 g m b) t) ∧ ∀ t, t ≤ mn M0 → shw M (339 + 4 * t) (AH (VF M0 g m b) t)
theorem Sh_of {M0 M : Mem} (hR : Rl M0) (f1 : ∀ c k, c < 136 → M c k = M0 c k) (f3 : ∀ t k, t < 40 → M (136 + 5 * t) k = M0 (136 + 5 * t) k) : ShM M0 M := by
  obtain ⟨⟨h1, h2, h3⟩, h4, h5, h6⟩ := ShM_VM 0 0 0 (Rl_Sh hR 0 0 0)
  have hn : mn M0 ≤ 40 := hR.2.2.1.1.2
  refine ⟨⟨(f1 _ _ (by decide)).trans h1, (f1 _ _ (by decide)).trans h2, h3⟩, (f1 _ _ (by decide)).trans h4, fun y hy x => ?_, fun t ht => ?_⟩
  · have := h5 y hy x
    unfold gp at this ⊢
    rw [f1 _ _ (by decide)]; exact this
  · rw [f3 _ _ (by omega), f3 _ _ (by omega)]; exact h6 t ht
theorem ShF_fr {M0 M M' : Mem} {g m b : Int32} (hn : mn M0 ≤ 40) (h : ShF M0 M g m b) (f : ∀ c k, c ≠ 509 → ¬ (c = 336 ∧ k = 9) → M' c k = M c k) : ShF M0 M' g m b := by
  obtain ⟨s1, s2, s3, s4, s5⟩ := h
  exact ⟨fun c k hc => (f c k (by omega) (by omega)).trans (s1 c k hc), fun c k hc => (f c k (by omega) (by omega)).trans (s2 c k hc), fun t k ht => (f _ k (by omega) (by omega)).trans (s3 t k ht), fun t ht => RdF_fr (s4 t ht) (fun c k hc => f c k (by omega) (by omega)), fun t ht => shw_fr (s5 t ht) (fun k => f _ k (by omega) (by omega))⟩
section TI
variable {xs : List Int32} {M M0 : Mem} {L : Int64} {Q : Option Value → Mem → Int64 → Prop}
theorem c_lookAheadBy (hR : Rl M0) {g0 m0 b0 : Int32} (h : ShF M0 M g0 m0 b0) {g m : Int32} {B : Nat} (hB : B < 5)
    (hQ : ∀ M', ShF M0 M' g m (bO B) → (∀ c k, (∀ t, t < 40 → c ≠ 136 + 5 * t + 1) → (∀ t, t ≤ 40 → c ≠ 340 + 4 * t) → M' c k = M c k) → Q (some (.ref (339 + 4 * mn M0))) M' L) : RX xs shL md_Reckoning_lookAheadBy 0 [.ref 336, .int g, .int m, .int (bO B)] [] M L Q := by
  obtain ⟨s1, s2, s3, s4, s5⟩ := h
  have hn : mn M0 ≤ 40 := hR.2.2.1.1.2
  have hG := Rl_GM hR
  have hV1 := VF_ok hG g m (bO B)
  have hb := hR.1
  have hc := hR.2.1
  have key : ∀ j, j ≤ mn M0 → ∀ v : Int32, v.toInt = (j : Int) - 1 → ∀ f, f ≤ mn M0 → ∀ M', (∀ c k, (∀ t, t < 40 → c ≠ 136 + 5 * t + 1) → M' c k = M c k) → (∀ t, t < j → RdF M0 M' (VFR M0 g0 m0 b0) t) → (∀ t, j ≤ t → t < mn M0 → RdF M0 M' (VFR M0 g m (bO B)) t) → (∀ t, j ≤ t → t < f → mIsW M0 t → ∀ k, k < 4 → VFR M0 g0 m0 b0 t (mCn M0 t) k = VFR M0 g m (bO B) t (mCn M0 t) k) → RX xs shL md_Reckoning_lookAheadBy 20 [.ref 336, .int g, .int m, .int (bO B), .int (nI f), .int v, .null, .null] [] M' L Q := by
    intro j
    induction j with
    | zero =>
      intro _ v hv f hf M' fr r0 r1 same
      have f1 : ∀ c k, c < 136 → M' c k = M0 c k := fun c k hc => (fr c k (fun t ht => by omega)).trans (s1 c k hc)
      have f2 : ∀ c k, 516 ≤ c → M' c k = M0 c k := fun c k hc => (fr c k (fun t ht => by omega)).trans (s2 c k hc)
      have f3 : ∀ t k, t < 40 → M' (136 + 5 * t) k = M0 (136 + 5 * t) k := fun t k ht => (fr _ k (fun s hs => by omega)).trans (s3 t k ht)
      have hS := Sh_of hR f1 f3
      refine L_Reckoning_lookAheadBy_20 ⟨fun _ => ?_, fun c => absurd ?_ c⟩
      · refine v_takeOnFrom hV1 (ShM_VF hS g m (bO B)) (fun t ht => RdF_Rd (r1 t (by omega) ht)) hf (fun t ht => ?_) (fun M2 g2 w2 => ⟨rfl, ?_⟩)
        · rw [← AH_same (g := g0) (m := m0) (b := b0) t (fun s hs hw k hk => same s (by omega) (by omega) hw k hk)]
          exact shw_fr (s5 t (by omega)) (fun k => fr _ k (fun s hs => by omega))
        · have e1 : M2 134 1 = nI (mn M0) := (g2 _ _ (fun t _ => by omega)).trans hS.2.1
          rw [e1, nI_cl (by omega)]
          refine ⟨vp_nI (by omega) (by omega), hQ M2 ⟨fun c k hc => (g2 c k (fun t _ => by omega)).trans (f1 c k hc), fun c k hc => (g2 c k (fun t ht => by omega)).trans (f2 c k hc), fun t k ht => (g2 _ k (fun s hs => by omega)).trans (f3 t k ht), fun t ht => RdF_fr (r1 t (by omega) ht) (fun c k hc => g2 c k (fun s hs => by omega)), w2⟩ (fun c k q1 q2 => by rw [g2 _ _ q2, fr _ _ q1])⟩
      · rw [i_lt, hv]; show (_ : Int) < 0; omega
    | succ j ih =>
      intro hj v hv f hf M' fr r0 r1 same
      have ev : v = nI j := nI_of_toInt (by omega)
      subst ev
      have f1 : ∀ c k, c < 136 → M' c k = M0 c k := fun c k hc => (fr c k (fun t ht => by omega)).trans (s1 c k hc)
      have f3 : ∀ t k, t < 40 → M' (136 + 5 * t) k = M0 (136 + 5 * t) k := fun t k ht => (fr _ k (fun s hs => by omega)).trans (s3 t k ht)
      have hS := Sh_of hR f1 f3
      obtain ⟨q1, q2⟩ := hS.2.2.2 j (by omega)
      have nx : (nI j + (-1)).toInt = (j : Int) - 1 := by
        rw [i_add (by rw [i_nI (by omega)]; show _ ≤ _ + (-1 : Int); omega) (by rw [i_nI (by omega)]; show _ + (-1 : Int) < _; omega), i_nI (by omega)]; rfl
      -- the row stays as it is
      have stay : (mIsW M0 j → mCn M0 j = false) → RX xs shL md_Reckoning_lookAheadBy 20 [.ref 336, .int g, .int m, .int (bO B), .int (nI f), .int (nI j + (-1)), .null, .null] [] M' L Q := by
        intro hcn
        refine ih (by omega) _ nx f hf M' fr (fun t ht => r0 t (by omega)) (fun t h1 h2 => ?_) (fun t h1 h2 hw k hk => ?_)
        · by_cases e : t = j
          · subst e
            have old := r0 t (by omega)
            refine ⟨fun hw k hk => ?_, fun hw y hy x hx => old.2 hw y hy x hx⟩
            have := old.1 hw k hk
            rw [VFR_n (hcn hw), VFR_n (hcn hw)] at this
            rw [VFR_n (hcn hw), VFR_n (hcn hw)]
            exact this
          · exact r1 t (by omega) h2
        · by_cases e : t = j
          · subst e
            rw [VFR_n (hcn hw), VFR_n (hcn hw)]
          · exact same t (by omega) h2 hw k hk
      refine L_Reckoning_lookAheadBy_20 ⟨fun c => ?_, fun _ => ?_⟩
      · rw [i_lt, i_nI (by omega)] at c
        have c : (j : Int) < 0 := c
        omega
      rw [nI_cl (by omega)]
      refine ⟨vp_nI (by omega) (by omega), fun cw => ⟨fun cc => stay (fun _ => ?_), fun cc => ?_⟩, fun cw => stay (fun hw => absurd (fun e => ?_) cw)⟩
      · rw [q2]; exact bB_f (fun z => z cc)
      · have hcn : mCn M0 j = true := by rw [q2]; exact bB_t cc
        have hw : mIsW M0 j := Classical.byContradiction fun z => cw (q1.mpr z)
        obtain ⟨vv, v1, v2⟩ : ∃ v, v < nw M0 ∧ M0 525 (5 * j) = nI v := by
          rcases (hR.2.2.1.2.2.2.2.2.2.2.2 j (by omega)).2.2 with ⟨z, -⟩ | z
          · exact absurd z hw
          · exact z
        have nw24 := hb.2.2.1
        have e0 : M' (136 + 5 * j) 3 = nI vv := by rw [f3 _ _ (by omega)]; exact ((hR.2.2.1.2.2.2.2.2.2.2.2 j (by omega)).1 0 (by decide)).trans v2
        have erw : rwW M0 j = vv := by unfold rwW; rw [v2, nI_cl (by omega)]
        rw [e0, nI_cl (by omega)]
        have eh : M' (6 + 5 * vv) 6 = M0 522 (3 * vv) := by rw [f1 _ _ (by omega)]; exact (hb.2.2.2.2.2.1 vv v1).2.2.1 0 (by decide)
        rw [eh]
        have go : ∀ Bq : Nat, Bq < 5 → nI Bq - 2 = bOf M0 vv m (bO B) → ∀ bb : Int32, bb = nI Bq - 2 → RX xs shL md_Reckoning_stretchCounted 0 [.ref 336, .ref (136 + 5 * j), .int g, .int bb] [] M' L (fun r M_20 L_21 => ∃ v_22, r = some (.int v_22) ∧ ((v_22 = 0 → RX xs shL md_Reckoning_lookAheadBy 20 [.ref 336, .int g, .int m, .int (bO B), .int (nI f), .int (nI j + (-1)), .null, .null] [] M_20 L_21 Q) ∧ (¬ (v_22 = 0) → RX xs shL md_Reckoning_lookAheadBy 20 [.ref 336, .int g, .int m, .int (bO B), .int (nI j), .int (nI j + (-1)), .null, .null] [] M_20 L_21 Q))) := by
          intro Bq hBq eB bb ebb
          rw [ebb]
          refine t_stretchCounted (by omega) (by omega) hBq e0 ⟨_, rfl, ?_⟩
          have ecr : cRv M' vv g Bq = fun k => mRv M0 vv g (bOf M0 vv m (bO B)) true k := by
            rw [cRv_fr (fun c k hc => f1 c k hc) (by omega)]
            funext k
            rw [cRv_m hb hc v1 g hBq k, eB]
          have newR : ∀ k, VFR M0 g m (bO B) j true k = (cRv M' vv g Bq k).toInt := fun k => by rw [VFR_t hcn, erw, ecr]
          have old := r0 j (by omega)
          have fr2 : ∀ c k, (∀ t, t < 40 → c ≠ 136 + 5 * t + 1) → rowN M' (136 + 5 * j + 1) 4 (cRv M' vv g Bq) c k = M c k := fun c k hc => by
            rw [rowN_o _ _ _ (hc j (by omega))]; exact fr c k hc
          have ro : ∀ t, t < j → RdF M0 (rowN M' (136 + 5 * j + 1) 4 (cRv M' vv g Bq)) (VFR M0 g0 m0 b0) t := fun t ht => RdF_fr (r0 t (by omega)) (fun c k hc => rowN_o _ _ _ (by omega) k)
          have rn : ∀ t, j ≤ t → t < mn M0 → RdF M0 (rowN M' (136 + 5 * j + 1) 4 (cRv M' vv g Bq)) (VFR M0 g m (bO B)) t := fun t h1 h2 => by
            by_cases e : t = j
            · subst e
              refine ⟨fun _ k hk => ⟨?_, ?_⟩, fun z => absurd hw z⟩
              · rw [rowN_lt _ _ _ hk]; exact (newR k).symm
              · rw [rowN_o _ _ _ (by omega), (old.1 hw k hk).2, VFR_f, VFR_f]
            · exact RdF_fr (r1 t (by omega) h2) (fun c k hc => rowN_o _ _ _ (by omega) k)
          refine ⟨fun z => ih (by omega) _ nx f hf _ fr2 ro rn (fun t h1 h2 hw' k hk => ?_), fun z => ih (by omega) _ nx j (by omega) _ fr2 ro rn (fun t h1 h2 => by omega)⟩
          by_cases e : t = j
          · subst e
            have un : ∀ k, k < 4 → M' (136 + 5 * t + 1) k = cRv M' vv g Bq k := Classical.not_not.mp (bI_p0 z)
            rw [hcn, newR k, ← un k hk, (old.1 hw k hk).1]
          · exact same t (by omega) h2 hw' k hk
        have z2 : ((0 : Int32)) = nI 2 - 2 := by decide
        refine ⟨vp_nI (by omega) (by omega), fun ch => ⟨fun e => absurd e (by decide), fun _ => ?_⟩, fun ch => ⟨fun _ => ?_, fun e => absurd rfl e⟩⟩
        · exact go B hB (by unfold bOf; rw [if_pos ch]; rfl) _ rfl
        · exact go 2 (by decide) (by unfold bOf; rw [if_neg ch]; exact z2.symm) _ z2
      · have e2 := q1.mp e
        exact e2 hw
  have e1 : M 134 1 = nI (mn M0) := (s1 _ _ (by decide)).trans (hR.2.2.1.2.2.2.2.1.trans hR.2.2.1.1.1)
  refine L_Reckoning_lookAheadBy_0 ?_
  rw [e1]
  refine key (mn M0) (Nat.le_refl _) _ ?_ (mn M0) (Nat.le_refl _) M (fun _ _ _ => rfl) s4 (fun t h1 h2 => by omega) (fun t h1 h2 => by omega)
  rw [i_sub (by rw [i_nI (by omega)]; show _ ≤ _ - (1 : Int); omega) (by rw [i_nI (by omega)]; show _ - (1 : Int) < _; omega), i_nI (by omega)]; rfl
end TI

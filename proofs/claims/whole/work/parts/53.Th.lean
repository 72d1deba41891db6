/-! class and reference agree -/
def nw (M : Mem) : Nat := (M 516 4).toNatClampNeg
def nwd (M : Mem) : Nat := (M 516 2).toNatClampNeg
noncomputable def mLd (M : Mem) (x y : Nat) : Bool := bB (x < mw M ∧ y < mh M ∧ M 523 (20 * y + x) = 0)
noncomputable def mWd (M : Mem) (x y : Nat) : Bool := bB (x < mw M ∧ y < mh M ∧ ¬ M 524 (20 * y + x) = 0)
def WC (M : Mem) (v : Nat) : Prop := (∀ j, j < 5 → M (6 + 5 * v + 3) j = eS M v j ∧ M (6 + 5 * v + 4) j = nS M v j) ∧ M (6 + 5 * v) 4 = lS M v * 1000 ∧ M (6 + 5 * v) 5 = aS M v * 1000
def WE (M : Mem) (v : Nat) : Prop := (∀ k, k < 8 → M (6 + 5 * v + 1) k = M 520 (8 * v + k) ∧ -1 ≤ (M 520 (8 * v + k)).toInt ∧ (M 520 (8 * v + k)).toInt ≤ 31) ∧ (∀ k, k < 4 → M (6 + 5 * v + 2) k = M 521 (4 * v + k)) ∧ (∀ k, k < 3 → M (6 + 5 * v) (6 + k) = M 522 (3 * v + k)) ∧ (0 ≤ (M 522 (3 * v + 1)).toInt ∧ (M 522 (3 * v + 1)).toInt ≤ 31) ∧ (0 ≤ (M 522 (3 * v + 2)).toInt ∧ (M 522 (3 * v + 2)).toInt ≤ 2)
def WF (M : Mem) (v : Nat) : Prop := (∀ k, k < 8 → M (6 + 5 * v + 1) k = -1) ∧ (∀ k, k < 4 → M (6 + 5 * v + 2) k = 0) ∧ ∀ k, k < 3 → M (6 + 5 * v) (6 + k) = 0
def RBd (M : Mem) : Prop := M 4 1 = M 516 4 ∧ M 516 4 = nI (nw M) ∧ nw M ≤ 24 ∧ M 4 2 = M 516 8 ∧ (∀ v, v < 24 → WC M v) ∧ (∀ v, v < nw M → WE M v) ∧ ∀ v, nw M ≤ v → v < 24 → WF M v
def RCh (M : Mem) : Prop := (M 516 9 = nI (mw M) ∧ 4 ≤ mw M ∧ mw M ≤ 20) ∧ (M 516 10 = nI (mh M) ∧ 4 ≤ mh M ∧ mh M ≤ 20) ∧ M 126 4 = M 516 9 ∧ M 126 5 = M 516 10 ∧ (∀ j, j < 4 → M 126 (6 + j) = M 516 (13 + j)) ∧ (∀ x y, x < 20 → y < 20 → M 127 (20 * y + x) = M 523 (20 * y + x) ∧ (0 ≤ (M 523 (20 * y + x)).toInt ∧ (M 523 (20 * y + x)).toInt ≤ 99) ∧ (M 524 (20 * y + x) = 0 ∨ M 524 (20 * y + x) = 1)) ∧ shw M 128 (mOp M) ∧ shw M 130 (mLd M) ∧ shw M 132 (mWd M)
def SgOk (s a : Int32) : Prop := 0 ≤ a.toInt ∧ a.toInt ≤ 99 ∧ (¬ s = 0 → ¬ s = 1 → ¬ s = 3 → ¬ s = 4 → a.toInt ≤ 8)
def RwE (M : Mem) (t : Nat) : Prop := (∀ j, j < 5 → M (136 + 5 * t) (3 + j) = M 525 (5 * t + j)) ∧ (M 525 (5 * t + 4) = 0 ∨ M 525 (5 * t + 4) = 1) ∧ ((M 525 (5 * t) = -1 ∧ SgOk (M 525 (5 * t + 1)) (M 525 (5 * t + 2))) ∨ ∃ v, v < nw M ∧ M 525 (5 * t) = nI v)
def RLg (M : Mem) : Prop := (M 516 20 = nI (mn M) ∧ mn M ≤ 40) ∧ (M 516 17 = nI (msx M) ∧ msx M < 1000) ∧ (M 516 18 = nI (msy M) ∧ msy M < 1000) ∧ (M 516 19 = nI (msr M) ∧ msr M < 1000) ∧ M 134 1 = M 516 20 ∧ M 134 2 = M 516 17 ∧ M 134 3 = M 516 18 ∧ M 134 4 = M 516 19 ∧ ∀ t, t < mn M → RwE M t
def RWd (M : Mem) : Prop := M 1 2 = M 516 2 ∧ M 516 2 = nI (nwd M) ∧ nwd M ≤ 24 ∧ ∀ i, i < 24 → M 2 i = M 519 i
def RNm (M : Mem) : Prop := (∀ j, j < 3 → M 0 (6 + j) = M 516 (22 + j) ∧ 0 ≤ (M 516 (22 + j)).toInt ∧ (M 516 (22 + j)).toInt ≤ 20) ∧ tabT M ∧ ∀ k, k < 32 → M 517 k = namesT.getD k 0
def Rel (M : Mem) : Prop := RBd M ∧ RCh M ∧ RLg M ∧ RWd M ∧ RNm M
def Rl (M : Mem) : Prop := RBd M ∧ RCh M ∧ RLg M ∧ RWd M ∧ tabT M
theorem Rel_Rl {M : Mem} (h : Rel M) : Rl M := ⟨h.1, h.2.1, h.2.2.1, h.2.2.2.1, h.2.2.2.2.2.1⟩
theorem Rl_GM {M : Mem} (h : Rl M) : GM M := by
  obtain ⟨⟨b1, b2, b3, b4, b5, b6, b7⟩, ⟨⟨c1, c2, c3⟩, ⟨c4, c5, c6⟩, -, -, -, c7, -⟩, ⟨l1, l2, l3, l4, -, -, -, -, l5⟩, -, n1⟩ := h
  refine ⟨⟨c1, c4, c2, c3, c5, c6⟩, l1, l2, l3, l4, n1, fun x y hx hy => (c7 x y (by omega) (by omega)).2.2, fun t ht e s1 s2 s3 s4 => ?_, fun t ht e => ?_⟩
  · rcases (l5 t ht).2.2 with ⟨q1, q2, q3, q4⟩ | ⟨v, q1, q2⟩
    · exact ⟨q2, q4 s1 s2 s3 s4⟩
    · rw [e] at q2
      have := congrArg Int32.toInt q2
      rw [i_nI (by omega)] at this
      have : (-1 : Int) = v := this
      omega
  · rcases (l5 t ht).2.2 with ⟨q1, -⟩ | ⟨v, q1, q2⟩
    · exact absurd q1 e
    · have ev : rwW M t = v := by unfold rwW; rw [q2, nI_cl (by omega)]
      rw [ev]
      obtain ⟨w1, w2, w3, w4, w5⟩ := b6 v q1
      exact ⟨q2, by omega, fun k hk => (w1 k hk).2, w4, w5⟩
theorem Rel_GM {M : Mem} (h : Rel M) : GM M := Rl_GM (Rel_Rl h)
theorem sumF_th (f : Nat → Int32) (n : Nat) : sumF (thS f) n = 1000 * sumF f n := by
  induction n with
  | zero => rfl
  | succ n ih => simp only [sumF]; rw [ih, Int32.mul_add]; rfl
theorem cRv_m {M : Mem} (h : RBd M) (hc : RCh M) {v : Nat} (hv : v < nw M) (g : Int32) {j : Nat} (hj : j < 5) (k : Nat) : cRv M v g j k = mRv M v g (nI j - 2) true k := by
  obtain ⟨b1, b2, b3, b4, b5, b6, b7⟩ := h
  obtain ⟨-, -, -, -, c1, -⟩ := hc
  obtain ⟨w1, w2, w3⟩ := b5 v (by omega)
  obtain ⟨e1, e2, e3, -, -⟩ := b6 v hv
  have s7 : M (6 + 5 * v) 7 = M 522 (3 * v + 1) := e3 1 (by decide)
  have s8 : M (6 + 5 * v) 8 = M 522 (3 * v + 2) := e3 2 (by decide)
  have kk : ∀ k, k < 8 → M (6 + 5 * v + 2) (k / 2) = mkn M v (k / 2) := fun k hk => e2 (k / 2) (by omega)
  have pp : ∀ k, k < 8 → M (6 + 5 * v + 1) k = mpg M v k := fun k hk => (e1 k hk).1
  have x1 : M (6 + 5 * v + 3) j = mES M v (nI j - 2) := by
    rw [(w1 j hj).1]
    unfold eS mES
    rw [s7, s8]
    exact sumF_congr fun k hk => by unfold eT; rw [pp k hk, kk k hk]
  have x2 : M (6 + 5 * v + 4) j = mNS M v (nI j - 2) := by
    rw [(w1 j hj).2]
    unfold nS mNS
    rw [s7, s8]
    exact sumF_congr fun k hk => by unfold nT; rw [pp k hk, kk k hk]
  have x3 : M (6 + 5 * v) 4 + M 4 2 = mSp M v true := by
    have xl : sumF (lT (M (6 + 5 * v + 1)) (M (6 + 5 * v + 2))) 8 = sumF (lT (mpg M v) (mkn M v)) 8 := sumF_congr fun k hk => by unfold lT; rw [pp k hk, kk k hk]
    rw [w2, b4]
    unfold mSp lS
    rw [xl, if_pos rfl, sumF_th, Int32.add_comm, Int32.mul_comm]
  unfold cRv mRv mRe rchv mE mN
  rw [if_pos rfl, if_pos rfl, x1, x2, x3, fdvd100, fdvd100, fdvd8000, fdvd8000, fdvd8000, fdvd8000, c1 0 (by decide), c1 1 (by decide), c1 2 (by decide), c1 3 (by decide)]
theorem uRv_m {M : Mem} (h : RBd M) (hc : RCh M) {v : Nat} (hv : v < nw M) (b : Int32) (k : Nat) : uRv M v k = mRv M v 0 b false k := by
  obtain ⟨b1, b2, b3, b4, b5, b6, b7⟩ := h
  obtain ⟨-, -, -, -, c1, -⟩ := hc
  obtain ⟨w1, w2, w3⟩ := b5 v (by omega)
  obtain ⟨e1, e2, e3, -, -⟩ := b6 v hv
  have kk : ∀ k, k < 8 → M (6 + 5 * v + 2) (k / 2) = mkn M v (k / 2) := fun k hk => e2 (k / 2) (by omega)
  have x3 : M (6 + 5 * v) 5 + M 4 2 = mSp M v false := by
    have xl : sumF (aT (M (6 + 5 * v + 2))) 8 = sumF (aT (mkn M v)) 8 := sumF_congr fun k hk => by unfold aT; rw [kk k hk]
    rw [w3, b4]
    unfold mSp aS
    rw [xl, if_neg (by decide), sumF_th, Int32.add_comm, Int32.mul_comm]
  have d0 : dwn ((0 : Int32) * (100 + 0)) 100 = 0 := by decide
  unfold uRv mRv mRe rchv mE mN
  rw [if_neg (show ¬ false = true by decide), if_neg (show ¬ false = true by decide), d0, x3, fdvd8000, fdvd8000, fdvd8000, fdvd8000, c1 0 (by decide), c1 1 (by decide), c1 2 (by decide), c1 3 (by decide)]
theorem near_eq {M : Mem} {x y : Nat} (hx : x < mw M) (hy : y < mh M) (h20 : mh M ≤ 20) {A : Nat → Nat → Bool} (hA : ∀ y, y < 20 → ∀ x, A x y = mLd M x y) (r : Int) : nrS (mw M) (mh M) A r x y = true ↔ ldW (mLI M (mw M) (mh M)) x y r := by
  unfold nrS rchA ldW
  rw [bB_iff]
  constructor
  · rintro ⟨-, -, a, b, q1, q2, q3, q4, q5, q6⟩
    rw [hA b (by omega)] at q2
    obtain ⟨p1, p2, p3⟩ := bB_iff.mp q2
    exact ⟨a, b, ⟨by omega, by omega, by omega, by omega, by simpa using p3⟩, by omega, by omega, by omega, by omega⟩
  · rintro ⟨a, b, ⟨p1, p2, p3, p4, p5⟩, q1, q2, q3, q4⟩
    refine ⟨hx, hy, a.toNat, b.toNat, by omega, ?_, by omega, by omega, by omega, by omega⟩
    rw [hA _ (by omega)]
    exact bB_t ⟨by omega, by omega, p5⟩
theorem bool_iff {a b : Bool} (h : a = true ↔ b = true) : a = b := by cases a <;> cases b <;> simp_all
theorem sg_eq {M : Mem} (hc : RCh M) {s a : Int32} (b : Int32) (ho : SgOk s a) {x y : Nat} (hy : y < 20) : sgM M (mw M) (mh M) s a b x y = sgV M s a b x y := by
  obtain ⟨⟨c1, c2, c3⟩, ⟨c4, c5, c6⟩, -, -, -, c7, c8, c9, c10⟩ := hc
  obtain ⟨o1, o2, -⟩ := ho
  have nin : ¬ (x < mw M ∧ y < mh M) → (∀ r : Int, nrS (mw M) (mh M) (gp M 130) r x y = false) := fun q r => bB_f (fun z => q ⟨z.1, z.2.1⟩)
  unfold sgM sgV
  by_cases s0 : s = 0
  · subst s0
    rw [if_pos rfl, if_neg (by decide)]
    unfold dpS sgR
    rw [if_pos rfl]
    apply bool_iff
    rw [bB_iff, Bool.and_eq_true, bB_iff, bB_iff]
    constructor
    · rintro ⟨q1, q2, q3, q4⟩
      have e := (c7 x y (by omega) hy).1
      rw [e] at q3 q4
      exact ⟨⟨q1, q2⟩, q3, q4⟩
    · rintro ⟨⟨q1, q2⟩, q3, q4⟩
      have e := (c7 x y (by omega) hy).1
      rw [e]
      exact ⟨q1, q2, q3, q4⟩
  rw [if_neg s0]
  by_cases s1 : s = 1
  · subst s1
    rw [if_pos rfl, if_neg (by decide)]
    unfold dpS sgR
    rw [if_neg (by decide), if_pos rfl]
    apply bool_iff
    rw [bB_iff, Bool.and_eq_true, bB_iff, bB_iff]
    have ea : (a + 1).toInt = a.toInt + 1 := i_add (by show _ ≤ _ + (1 : Int); omega) (by show _ + (1 : Int) < _; omega)
    constructor
    · rintro ⟨q1, q2, q3, q4⟩
      have e := (c7 x y (by omega) hy).1
      rw [e, i_le, ea] at q3
      exact ⟨⟨q1, q2⟩, by rw [i_le]; omega⟩
    · rintro ⟨⟨q1, q2⟩, q3⟩
      obtain ⟨e, ⟨e1, e2⟩, -⟩ := c7 x y (by omega) hy
      rw [i_le] at q3
      rw [e, i_le, i_le, ea]
      exact ⟨q1, q2, by omega, e2⟩
  rw [if_neg s1]
  by_cases s2 : s = 2
  · subst s2
    rw [if_pos rfl, if_neg (by decide)]
    unfold sgR
    rw [if_neg (by decide), if_neg (by decide), if_pos rfl]
    by_cases q : x < mw M ∧ y < mh M
    · rw [bB_t q, Bool.true_and]
      exact bool_iff ((near_eq q.1 q.2 c6 c9 _).trans bB_iff.symm)
    · rw [nin q, bB_f q]; rfl
  rw [if_neg s2]
  by_cases s3 : s = 3
  · subst s3
    rw [if_pos rfl, if_neg (by decide)]
    unfold sgR
    rw [if_neg (by decide), if_neg (by decide), if_neg (by decide), if_pos rfl, c10 y hy x]
    apply bool_iff
    rw [Bool.and_eq_true, bB_iff, bB_iff]
    unfold mWd
    rw [bB_iff]
    exact ⟨fun ⟨q1, q2, q3⟩ => ⟨⟨q1, q2⟩, q3⟩, fun ⟨⟨q1, q2⟩, q3⟩ => ⟨q1, q2, q3⟩⟩
  rw [if_neg s3]
  by_cases s4 : s = 4
  · rw [if_pos s4, if_pos s4]
  rw [if_neg s4, if_neg s4]
  unfold sgR
  rw [if_neg s0, if_neg s1, if_neg s2, if_neg s3, if_neg s4, c8 y hy x]
  by_cases q : x < mw M ∧ y < mh M
  · rw [bB_t q, Bool.true_and]
    have ne := near_eq q.1 q.2 c6 c9 a.toInt
    apply bool_iff
    rw [Bool.and_eq_true, Bool.not_eq_true', bB_iff]
    constructor
    · rintro ⟨-, q2⟩ q3
      rw [ne.mpr q3] at q2; cases q2
    · intro q3
      have : nrS (mw M) (mh M) (gp M 130) a.toInt x y = false := by
        cases e : nrS (mw M) (mh M) (gp M 130) a.toInt x y with
        | false => rfl
        | true => exact absurd (ne.mp e) q3
      refine ⟨bB_t ⟨q.1, q.2, fun e => q3 ⟨x, y, ⟨by omega, by omega, by omega, by omega, by simpa using e⟩, by omega, by omega, by omega, by omega⟩⟩, this⟩
  · rw [bB_f q]
    have : mOp M x y = false := bB_f (fun z => q ⟨z.1, z.2.1⟩)
    rw [this]; rfl
theorem Rl_Sh {M : Mem} (h : Rl M) (g m b : Int32) : Sh M (VM M g m b) := by
  obtain ⟨⟨b1, b2, b3, b4, b5, b6, b7⟩, ⟨⟨c1, c2, c3⟩, ⟨c4, c5, c6⟩, d1, d2, -, c7, c8, -⟩, ⟨⟨l1, l2⟩, -, -, -, e1, -, -, -, l5⟩, -, -⟩ := h
  refine ⟨⟨d1.trans c1, d2.trans c4, c2, c3, c5, c6⟩, e1.trans l1, c8, fun t ht => ?_⟩
  obtain ⟨r1, r2, r3⟩ := l5 t ht
  have r10 : M (136 + 5 * t) 3 = M 525 (5 * t) := r1 0 (by decide)
  have r14 : M (136 + 5 * t) 7 = M 525 (5 * t + 4) := r1 4 (by decide)
  rw [r10, r14]
  refine ⟨⟨fun q z => z q, fun q => Classical.not_not.mp q⟩, ?_⟩
  show bB (M 525 (5 * t + 4) = 1) = _
  refine bB_congr ⟨fun q => by rw [q]; decide, fun q => ?_⟩
  rcases r2 with r2 | r2
  · exact absurd r2 q
  · exact r2
theorem Rel_Sh {M : Mem} (h : Rel M) (g m b : Int32) : Sh M (VM M g m b) := Rl_Sh (Rel_Rl h) g m b
theorem Rl_PV {M : Mem} (h : Rl M) : PV M (VM M 0 0 0) := by
  have h' := h
  obtain ⟨hb, hc, ⟨⟨l1, l2⟩, ⟨x1, x2⟩, ⟨y1, y2⟩, ⟨z1, z2⟩, e1, e2, e3, e4, l5⟩, -, -⟩ := h'
  refine ⟨⟨msx M, msy M, msr M, e2.trans x1, e3.trans y1, e4.trans z1, x2, y2, z2, rfl⟩, shw_in hc.2.2.2.2.2.2.2.1 (fun x y _ q => ⟨(bB_iff.mp q).1, (bB_iff.mp q).2.1⟩), fun t ht => ?_⟩
  obtain ⟨r1, r2, r3⟩ := l5 t ht
  have r10 : M (136 + 5 * t) 3 = M 525 (5 * t) := r1 0 (by decide)
  have r11 : M (136 + 5 * t) 4 = M 525 (5 * t + 1) := r1 1 (by decide)
  have r12 : M (136 + 5 * t) 5 = M 525 (5 * t + 2) := r1 2 (by decide)
  have r13 : M (136 + 5 * t) 6 = M 525 (5 * t + 3) := r1 3 (by decide)
  rw [r10, r11, r12, r13]
  rcases r3 with ⟨q1, q2⟩ | ⟨v, q1, q2⟩
  · exact ⟨fun z => absurd q1 z, fun _ => ⟨fun y hy x _ => sg_eq hc _ q2 hy, q2.1, by have := q2.2.1; omega⟩⟩
  · have ev : rwW M t = v := by have := hb.2.2.1; unfold rwW; rw [q2, nI_cl (by omega)]
    refine ⟨fun _ => ⟨v, by have := hb.2.2.1; omega, q2, fun k _ => ?_⟩, fun z => absurd (fun e => ?_) z⟩
    · have b0 : bOf M v 0 0 = 0 := by unfold bOf; split <;> rfl
      rw [cRv_m hb hc q1 0 (j := 2) (by decide) k, uRv_m hb hc q1 0 k]
      show _ = (mRv M (rwW M t) _ (bOf M (rwW M t) 0 0) true k).toInt ∧ _ = (mRv M (rwW M t) _ (bOf M (rwW M t) 0 0) false k).toInt
      rw [ev, b0]
      exact ⟨rfl, rfl⟩
    · rw [q2] at e
      have := congrArg Int32.toInt e
      rw [i_nI (by have := hb.2.2.1; omega)] at this
      have : (v : Int) = -1 := this
      omega
theorem Rel_PV {M : Mem} (h : Rel M) : PV M (VM M 0 0 0) := Rl_PV (Rel_Rl h)

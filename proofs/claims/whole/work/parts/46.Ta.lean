/-! the reference's memory as a view; what a question may write -/
def Scr (b k : Nat) : Prop := b = 3 ∨ rs b ∨ (337 ≤ b ∧ b < 516) ∨ (b = 336 ∧ k = 9) ∨ 526 ≤ b ∨ (b = 516 ∧ 26 ≤ k)
def Eq0 (M0 M : Mem) : Prop := ∀ b k, ¬ Scr b k → M b k = M0 b k
theorem ns_516 {k : Nat} (h : k < 26) : ¬ Scr 516 k := by unfold Scr rs; omega
theorem ns_5 {b k : Nat} (h1 : 517 ≤ b) (h2 : b < 526) : ¬ Scr b k := by unfold Scr rs; omega
theorem ns_lo {b k : Nat} (h : b < 136) (h3 : b ≠ 3) : ¬ Scr b k := by unfold Scr rs; omega
theorem ns_row (t k : Nat) (h : t < 40) : ¬ Scr (136 + 5 * t) k := by unfold Scr rs; omega
theorem Eq0_refl (M : Mem) : Eq0 M M := fun _ _ _ => rfl
theorem Eq0_trans {M0 M1 M2 : Mem} (h : Eq0 M0 M1) (h2 : Eq0 M1 M2) : Eq0 M0 M2 := fun b k q => (h2 b k q).trans (h b k q)
theorem Eq0_symm {M0 M1 : Mem} (h : Eq0 M0 M1) : Eq0 M1 M0 := fun b k q => (h b k q).symm
def mw (M : Mem) : Nat := (M 516 9).toNatClampNeg
def mh (M : Mem) : Nat := (M 516 10).toNatClampNeg
def mn (M : Mem) : Nat := (M 516 20).toNatClampNeg
def msx (M : Mem) : Nat := (M 516 17).toNatClampNeg
def msy (M : Mem) : Nat := (M 516 18).toNatClampNeg
def msr (M : Mem) : Nat := (M 516 19).toNatClampNeg
def rwW (M : Mem) (t : Nat) : Nat := (M 525 (5 * t)).toNatClampNeg
noncomputable def mOp (M : Mem) (x y : Nat) : Bool := bB (x < mw M ∧ y < mh M ∧ ¬ M 523 (20 * y + x) = 0)
def boxP (M : Mem) (x y : Nat) : Prop := (msx M : Int) - msr M ≤ x ∧ (x : Int) ≤ msx M + msr M ∧ (msy M : Int) - msr M ≤ y ∧ (y : Int) ≤ msy M + msr M
def mES (M : Mem) (w : Nat) (b : Int32) : Int32 := sumF (eT (mpg M w) (mkn M w) (M 522 (3 * w + 1)) (M 522 (3 * w + 2)) b) 8
def mNS (M : Mem) (w : Nat) (b : Int32) : Int32 := sumF (nT (mpg M w) (mkn M w) (M 522 (3 * w + 1)) (M 522 (3 * w + 2)) b) 8
def mSp (M : Mem) (w : Nat) (c : Bool) : Int32 := M 516 8 + sumF (thS (if c then lT (mpg M w) (mkn M w) else aT (mkn M w))) 8
def mE (M : Mem) (w : Nat) (g b : Int32) (c : Bool) : Int32 := dwn ((if c then mES M w b else 0) * (100 + g)) 100
def mN (M : Mem) (w : Nat) (g b : Int32) (c : Bool) : Int32 := dwn ((if c then mNS M w b else 0) * (100 + g)) 100
def mRe (M : Mem) (e n s : Int32) (k : Nat) : Int32 := if k = 0 then dwn ((e + M 516 13) - s) 8000 else if k = 1 then -(dwn (-((e + M 516 14) + s)) 8000) else if k = 2 then dwn ((n + M 516 15) - s) 8000 else -(dwn (-((n + M 516 16) + s)) 8000)
def mRv (M : Mem) (w : Nat) (g b : Int32) (c : Bool) (k : Nat) : Int32 := mRe M (mE M w g b c) (mN M w g b c) (mSp M w c) k
def bOf (M : Mem) (w : Nat) (m b : Int32) : Int32 := if M 522 (3 * w) = m then b else 0
/-- what a sign lets stay, off the chart as the class has it -/
noncomputable def sgV (M : Mem) (s a b : Int32) (x y : Nat) : Bool := if s = 4 then bB (x < mw M ∧ a.toInt ≤ y ∧ (y : Int) ≤ b.toInt) else (bB (x < mw M ∧ y < mh M) && sgR M (mw M) (mh M) s a b x y)
theorem sgV_in (M : Mem) (s a b : Int32) {x y : Nat} (hx : x < mw M) (hy : y < mh M) : sgV M s a b x y = sgR M (mw M) (mh M) s a b x y := by
  unfold sgV
  by_cases e : s = 4
  · rw [if_pos e, e]
    unfold sgR
    rw [if_neg (by decide), if_neg (by decide), if_neg (by decide), if_neg (by decide), if_pos rfl]
    exact bB_congr ⟨fun q => q.2, fun q => ⟨hx, q⟩⟩
  · rw [if_neg e, bB_t ⟨hx, hy⟩, Bool.true_and]
noncomputable def VM (M : Mem) (g m b : Int32) : Vw := (mw M, mh M, mn M, mOp M, fun x y => mOp M x y && bB (boxP M x y), fun t => ¬ M 525 (5 * t) = -1, fun t => bB (M 525 (5 * t + 4) = 1), fun t => sgV M (M 525 (5 * t + 1)) (M 525 (5 * t + 2)) (M 525 (5 * t + 3)), fun t c k => (mRv M (rwW M t) (if c then g else 0) (bOf M (rwW M t) m b) c k).toInt)
theorem b1M (a : Int32) : -300000 ≤ (dwn a 8000).toInt ∧ (dwn a 8000).toInt ≤ 300000 := by
  rw [dwn8000]
  have := i_lo a
  have := i_hi a
  omega
theorem mRe_b (M : Mem) (e n s : Int32) (k : Nat) : -1000000 ≤ (mRe M e n s k).toInt ∧ (mRe M e n s k).toInt ≤ 1000000 := by
  unfold mRe
  split
  · have := b1M ((e + M 516 13) - s); omega
  · split
    · have := b1M (-((e + M 516 14) + s)); rw [i_neg (by omega)]; omega
    · split
      · have := b1M ((n + M 516 15) - s); omega
      · have := b1M (-((n + M 516 16) + s)); rw [i_neg (by omega)]; omega
/-- the reference's state is as it should be -/
def GM (M : Mem) : Prop := MCH M (mw M) (mh M) ∧ (M 516 20 = nI (mn M) ∧ mn M ≤ 40) ∧ (M 516 17 = nI (msx M) ∧ msx M < 1000) ∧ (M 516 18 = nI (msy M) ∧ msy M < 1000) ∧ (M 516 19 = nI (msr M) ∧ msr M < 1000) ∧ tabT M ∧ (∀ x y, x < mw M → y < mh M → M 524 (20 * y + x) = 0 ∨ M 524 (20 * y + x) = 1) ∧
  (∀ t, t < mn M → M 525 (5 * t) = -1 → ¬ M 525 (5 * t + 1) = 0 → ¬ M 525 (5 * t + 1) = 1 → ¬ M 525 (5 * t + 1) = 3 → ¬ M 525 (5 * t + 1) = 4 → 0 ≤ (M 525 (5 * t + 2)).toInt ∧ (M 525 (5 * t + 2)).toInt ≤ 8) ∧
  (∀ t, t < mn M → ¬ M 525 (5 * t) = -1 → M 525 (5 * t) = nI (rwW M t) ∧ rwW M t < 24 ∧ (∀ k, k < 8 → -1 ≤ (mpg M (rwW M t) k).toInt ∧ (mpg M (rwW M t) k).toInt ≤ 31) ∧ (0 ≤ (M 522 (3 * rwW M t + 1)).toInt ∧ (M 522 (3 * rwW M t + 1)).toInt ≤ 31) ∧ (0 ≤ (M 522 (3 * rwW M t + 2)).toInt ∧ (M 522 (3 * rwW M t + 2)).toInt ≤ 2))
theorem GM_ok {M : Mem} (h : GM M) (g m b : Int32) : okV (VM M g m b) := by
  obtain ⟨⟨-, -, h1, h2, h3, h4⟩, ⟨-, h5⟩, -⟩ := h
  refine ⟨h1, h2, h3, h4, h5, fun x y _ q => ?_, fun x y _ q => ?_, fun t c k _ _ _ => mRe_b _ _ _ _ _⟩
  · exact ⟨(bB_iff.mp q).1, (bB_iff.mp q).2.1⟩
  · have q := (Bool.and_eq_true _ _ ▸ q : _ ∧ _).1
    exact ⟨(bB_iff.mp q).1, (bB_iff.mp q).2.1⟩
theorem VM_st {M : Mem} {g m b : Int32} : sub (VM M g m b).st (VM M g m b).op := fun _ _ _ q => (Bool.and_eq_true _ _ ▸ q : _ ∧ _).1
/-- nearOf is measured -/
def Ms0 (M0 M : Mem) : Prop := ∀ x y, x < mw M0 → y < mh M0 → M 530 (20 * y + x) = nvF (mLI M0 (mw M0) (mh M0)) x y
theorem dil_eq {w h : Nat} {A : Nat → Nat → Bool} (hA : inC w h A) (h20 : h ≤ 20) {W E So No : Int} {x y : Nat} (hx : x < w) (hy : y < h) : nB h (eB w A W E) So No x y = rchA w h A W E So No x y := by
  unfold nB rchA
  refine bB_congr ⟨?_, ?_⟩
  · rintro ⟨b, b1, b2, b3, b4⟩
    obtain ⟨a, a1, a2, a3, a4⟩ := bB_iff.mp b4
    exact ⟨hx, hy, a, b, b1, a4, a2, a3, b2, b3⟩
  · rintro ⟨-, -, a, b, b1, a4, a2, a3, b2, b3⟩
    exact ⟨b, b1, b2, b3, bB_t ⟨a, (hA a b (by omega) a4).1, a2, a3, a4⟩⟩
section TA
variable {xs : List Int32} {M M0 : Mem} {L : Int64} {Q : Option Value → Mem → Int64 → Prop}
theorem m_wayOf (hG : GM M0) (hE : Eq0 M0 M) {t : Nat} (ht : t < mn M0) (hw : ¬ M0 525 (5 * t) = -1) {g m b : Int32} (hb : -2 ≤ b.toInt ∧ b.toInt ≤ 2) {c : Bool} (hc : c = bB (M0 525 (5 * t + 4) = 1))
    (hQ : Q none (gW M (mE M0 (rwW M0 t) (if c then g else 0) (bOf M0 (rwW M0 t) m b) c) (mN M0 (rwW M0 t) (if c then g else 0) (bOf M0 (rwW M0 t) m b) c) (mSp M0 (rwW M0 t) c)) L) : RX xs shL md_Mod_wayOf 0 [.ref 516, .int (nI t), .int g, .int m, .int b] [] M L Q := by
  obtain ⟨-, ⟨-, hn⟩, -, -, -, hT, -, -, hr⟩ := hG
  obtain ⟨r1, r2, r3, r4, r5⟩ := hr t ht hw
  have e525 : ∀ k, M 525 k = M0 525 k := fun k => hE _ k (ns_5 (by decide) (by decide))
  have e522 : ∀ k, M 522 k = M0 522 k := fun k => hE _ k (ns_5 (by decide) (by decide))
  have e521 : ∀ k, M 521 k = M0 521 k := fun k => hE _ k (ns_5 (by decide) (by decide))
  have e520 : ∀ k, M 520 k = M0 520 k := fun k => hE _ k (ns_5 (by decide) (by decide))
  have ep : mpg M = mpg M0 := by funext a k; exact e520 _
  have ek : mkn M = mkn M0 := by funext a k; exact e521 _
  have e8 : M 516 8 = M0 516 8 := hE _ _ (ns_516 (by decide))
  have hT' : tabT M := fun k hk => (hE _ _ (ns_5 (by decide) (by decide))).trans (hT k hk)
  have go : ∀ (g' b' c' : Int32), (-2 ≤ b'.toInt ∧ b'.toInt ≤ 2) → (c' = 0 ↔ c = false) → g' = (if c then g else 0) → b' = bOf M0 (rwW M0 t) m b → RX xs shL md_Mod_goWatch 0 [.ref 516, .int (nI (rwW M0 t)), .int g', .int b', .int c'] [] M L (fun r M' L' => r = none ∧ Q none M' L') := by
    intro g' b' c' hb' hc' hg' hbb
    refine s_Mod_goWatch r2 hT' (by rw [ep]; exact r3) (by rw [e522]; exact r4) (by rw [e522]; exact r5) hb' ⟨rfl, ?_⟩
    rw [ep, ek, e522, e522, e8]
    rw [← hg', ← hbb] at hQ
    cases c with
    | true =>
      have c0 : ¬ c' = 0 := fun q => by have := hc'.mp q; cases this
      rw [if_neg c0, if_neg c0, if_neg c0]
      exact hQ
    | false =>
      have c0 : c' = 0 := hc'.mpr rfl
      rw [if_pos c0, if_pos c0, if_pos c0]
      exact hQ
  have n5 : (5 : Int32) * nI t = nI (5 * t) := nI_mul 5 t
  have n54 : nI (5 * t) + 4 = nI (5 * t + 4) := nI_add (5 * t) 4
  have n3 : (3 : Int32) * nI (rwW M0 t) = nI (3 * rwW M0 t) := nI_mul 3 _
  refine L_Mod_wayOf_0 ?_
  rw [n5, n54, nI_cl (by omega), nI_cl (by omega), e525, e525, r1, n3, nI_cl (by omega), e522]
  refine ⟨vp_nI (by omega) (by omega), vp_nI (by omega) (by omega), fun c1 => ?_, fun c1 => ?_⟩
  · have hct : c = true := by rw [hc]; exact bB_t c1
    refine ⟨fun e => absurd e (by decide), fun _ => ⟨vp_nI (by omega) (by omega), fun q => ?_, fun q => ?_⟩⟩
    · exact go _ _ _ hb (by rw [hct]; decide) (by rw [hct]; rfl) (by unfold bOf; rw [if_pos q])
    · exact go _ _ _ (by decide) (by rw [hct]; decide) (by rw [hct]; rfl) (by unfold bOf; rw [if_neg q])
  · have hct : c = false := by rw [hc]; exact bB_f c1
    refine ⟨fun _ => ⟨vp_nI (by omega) (by omega), fun q => ?_, fun q => ?_⟩, fun e => absurd rfl e⟩
    · exact go _ _ _ hb (by rw [hct]; decide) (by rw [hct]; rfl) (by unfold bOf; rw [if_pos q])
    · exact go _ _ _ (by decide) (by rw [hct]; decide) (by rw [hct]; rfl) (by unfold bOf; rw [if_neg q])
end TA

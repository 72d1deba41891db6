/-! facts of the shapes -/
noncomputable def bI (p : Prop) : Int32 := @ite Int32 p (Classical.propDecidable p) 1 0
theorem bI_t {p : Prop} (h : p) : bI p = 1 := if_pos h
theorem bI_f {p : Prop} (h : ¬ p) : bI p = 0 := if_neg h
theorem bI_01 {p : Prop} : bI p = 0 ∨ bI p = 1 := by
  rcases Classical.em p with h | h
  · exact Or.inr (bI_t h)
  · exact Or.inl (bI_f h)
theorem bI_p1 {p : Prop} (h : ¬ bI p = 0) : p := by
  rcases Classical.em p with q | q
  · exact q
  · exact absurd (bI_f q) h
theorem bI_p0 {p : Prop} (h : bI p = 0) : ¬ p := fun q => by rw [bI_t q] at h; exact absurd h (by decide)
theorem bI_congr {p q : Prop} (h : p ↔ q) : bI p = bI q := by rw [propext h]
theorem nar_b {v : Int32} (h : v = 0 ∨ v = 1) : narrow .boolean (.int v) = .int v := by rcases h with rfl | rfl <;> rfl
theorem vp_lt {i : Int32} {n : Nat} (h : vp_in i n) : i.toNatClampNeg < n := Nat.not_le.mp fun q => h (Or.inr q)
theorem sw_out {x a b : Int32} {lo hi : Int} (h : x < a ∨ b < x) (ha : a.toInt = lo) (hb : b.toInt = hi) : x.toInt < lo ∨ hi < x.toInt := by
  rcases h with h | h
  · left; rw [← ha]; exact Int32.lt_iff_toInt_lt.mp h
  · right; rw [← hb]; exact Int32.lt_iff_toInt_lt.mp h
/-- fewer locals known -/
def lle : List Value → List Value → Prop
  | [], _ => True
  | .null :: a, _ :: b => lle a b
  | v :: a, w :: b => v = w ∧ lle a b
  | .null :: a, [] => lle a []
  | _ :: _, [] => False
theorem lle_nil {l : List Value} : lle [] l := by simp [lle]
theorem lle_get : ∀ {a b : List Value}, lle a b → ∀ (i : Nat) (v : Value), a[i]? = some v → v ≠ .null → b[i]? = some v := by
  intro a
  induction a with
  | nil => intro b _ i v h; simp at h
  | cons u us ih =>
    intro b hl i v h hn
    cases b with
    | nil =>
      by_cases hu : u = .null
      · subst hu
        have hl : lle us [] := by simpa [lle] using hl
        match i, h with
        | 0, h => simp at h; exact absurd h.symm hn
        | i + 1, h => have := ih hl i v (by simpa using h) hn; simp at this
      · cases u <;> first | exact absurd rfl hu | simp [lle] at hl
    | cons w ws =>
      by_cases hu : u = .null
      · subst hu
        have hl : lle us ws := by simpa [lle] using hl
        match i, h with
        | 0, h => simp at h; exact absurd h.symm hn
        | i + 1, h => exact ih hl i v (by simpa using h) hn
      · have hl : u = w ∧ lle us ws := by cases u <;> first | exact absurd rfl hu | simpa [lle] using hl
        match i, h with
        | 0, h => simp at h ⊢; rw [← h]; exact hl.1.symm
        | i + 1, h => exact ih hl.2 i v (by simpa using h) hn
theorem r_weak {xs : List Int32} {m : Md} {pc : Nat} {lv lv' st : List Value} {h : List Ce} {bc bs : Nat} {Q : Option Value → List Ce → Prop} (hl : lle lv' lv) (kk : RR xs m pc lv' st h bc bs Q) : RR xs m pc lv st h bc bs Q := by
  intro l p e R s mi args below meth c Z z D ar ac H locs cells slots ls C E hW hF hB hL
  exact kk l p e R s mi args below meth c Z z D ar ac H locs cells slots ls C E hW hF hB ⟨hL.1, hL.2.1, fun i v hi hn => hL.2.2 i v (lle_get hl i v hi hn) hn⟩
def isP (S : List Shp) (p : Nat) : Prop := fR S p 4 0 (p + 1) ∧ aI S (p + 1) 20 ∧ isO S p 4 ∧ p < 516
theorem isP_R {S : List Shp} {p : Nat} (h : isP S p) : fR S p 4 0 (p + 1) := h.1
theorem isP_A {S : List Shp} {p : Nat} (h : isP S p) : aI S (p + 1) 20 := h.2.1
theorem isP_O {S : List Shp} {p : Nat} (h : isP S p) : isO S p 4 := h.2.2.1
theorem isP_l {S : List Shp} {p : Nat} (h : isP S p) : p < 516 := h.2.2.2
def isRe (S : List Shp) (p : Nat) : Prop := (∀ k, k < 4 → fI S p 5 k) ∧ isO S p 5 ∧ p < 516
theorem isRe_I {S : List Shp} {p : Nat} (h : isRe S p) (k : Nat) (hk : k < 4) : fI S p 5 k := h.1 k hk
theorem isRe_O {S : List Shp} {p : Nat} (h : isRe S p) : isO S p 5 := h.2.1
def cvr (S : List Shp) (lo hi : Nat) : Prop := ∀ a, lo ≤ a → a < hi → S[a]? = shL[a]?
theorem fI_cv {S : List Shp} {a ci k : Nat} (h : fI shL a ci k) (hS : S[a]? = shL[a]?) : fI S a ci k := by unfold fI fIb at *; rw [hS]; exact h
theorem fR_cv {S : List Shp} {a ci k b : Nat} (h : fR shL a ci k b) (hS : S[a]? = shL[a]?) : fR S a ci k b := by unfold fR fRb at *; rw [hS]; exact h
theorem aI_cv {S : List Shp} {a n : Nat} (h : aI shL a n) (hS : S[a]? = shL[a]?) : aI S a n := by unfold aI aIb at *; rw [hS]; exact h
theorem aZ_cv {S : List Shp} {a n : Nat} (h : aZ shL a n) (hS : S[a]? = shL[a]?) : aZ S a n := by unfold aZ aZb at *; rw [hS]; exact h
theorem isO_cv {S : List Shp} {a ci : Nat} (h : isO shL a ci) (hS : S[a]? = shL[a]?) : isO S a ci := by unfold isO at *; rw [hS]; exact h
theorem isP_cv {S : List Shp} {p : Nat} (h : isP shL p) (hS : S[p]? = shL[p]?) (hS' : S[p + 1]? = shL[p + 1]?) : isP S p := ⟨fR_cv h.1 hS, aI_cv h.2.1 hS', isO_cv h.2.2.1 hS, h.2.2.2⟩
theorem oneL_shL : oneL shL := by
  have hall : (List.range 531).all (fun b => b == 516 || (match shL[b]? with | some t => (match t with | (0, _, _, _, sl) => sl.all (fun e => e != 1) | _ => true) | none => true)) = true := by decide +kernel
  intro b x y z sl hne ht e he
  have hlt : b < 531 := by rw [← shL_len]; exact (List.getElem?_eq_some_iff.mp ht).1
  have := List.all_eq_true.mp hall b (List.mem_range.mpr hlt)
  rw [ht] at this
  have h2 : sl.all (fun e => e != 1) = true := by simpa [hne] using this
  have := List.all_eq_true.mp h2 e he
  simpa using this
def isPb (p : Nat) : Bool := fRb shL p 4 0 (p + 1) && aIb shL (p + 1) 20 && (match shL[p]? with
  | some (0, c, _, _, _) => c == 4
  | _ => false) && decide (p < 516)
theorem isP_of {p : Nat} (h : isPb p = true) : isP shL p := by
  simp only [isPb, Bool.and_eq_true, decide_eq_true_eq] at h
  exact ⟨h.1.1.1, h.1.1.2, h.1.2, h.2⟩
def isReb (p : Nat) : Bool := (List.range 4).all (fun k => fIb shL p 5 k) && (match shL[p]? with
  | some (0, c, _, _, _) => c == 5
  | _ => false) && decide (p < 516)
theorem isRe_of {p : Nat} (h : isReb p = true) : isRe shL p := by
  simp only [isReb, Bool.and_eq_true, decide_eq_true_eq] at h
  exact ⟨fun k hk => List.all_eq_true.mp h.1.1 k (List.mem_range.mpr hk), h.1.2, h.2⟩
theorem allB {n : Nat} {f : Nat → Bool} (h : (List.range n).all f = true) {i : Nat} (hi : i < n) : f i = true := List.all_eq_true.mp h i (List.mem_range.mpr hi)
theorem isP_128 : isP shL 128 := isP_of (by decide +kernel)
theorem isP_130 : isP shL 130 := isP_of (by decide +kernel)
theorem isP_132 : isP shL 132 := isP_of (by decide +kernel)
theorem isP_503 : isP shL 503 := isP_of (by decide +kernel)
theorem isP_505 : isP shL 505 := isP_of (by decide +kernel)
theorem isP_507 : isP shL 507 := isP_of (by decide +kernel)
theorem isP_511 : isP shL 511 := isP_of (by decide +kernel)
theorem isP_513 : isP shL 513 := isP_of (by decide +kernel)
theorem isRe_515 : isRe shL 515 := isRe_of (by decide +kernel)
theorem isP_ahead {t : Nat} (h : t < 41) : isP shL (339 + 4 * t) := isP_of (allB (f := fun t => isPb (339 + 4 * t)) (n := 41) (by decide +kernel) h)
theorem isP_back {t : Nat} (h : t < 41) : isP shL (341 + 4 * t) := isP_of (allB (f := fun t => isPb (341 + 4 * t)) (n := 41) (by decide +kernel) h)
theorem rw_p {t : Nat} (h : t < 40) : isP shL (136 + 5 * t + 3) := isP_of (allB (f := fun t => isPb (136 + 5 * t + 3)) (n := 40) (by decide +kernel) h)
theorem rw_re1 {t : Nat} (h : t < 40) : isRe shL (136 + 5 * t + 1) := isRe_of (allB (f := fun t => isReb (136 + 5 * t + 1)) (n := 40) (by decide +kernel) h)
theorem rw_re2 {t : Nat} (h : t < 40) : isRe shL (136 + 5 * t + 2) := isRe_of (allB (f := fun t => isReb (136 + 5 * t + 2)) (n := 40) (by decide +kernel) h)
theorem rw_I {t : Nat} (h : t < 40) (k : Nat) (hk : 3 ≤ k) (hk2 : k < 8) : fI shL (136 + 5 * t) 7 k := by
  have := allB (f := fun t => (List.range 5).all fun k => fIb shL (136 + 5 * t) 7 (k + 3)) (n := 40) (by decide +kernel) h
  have := allB this (i := k - 3) (by omega)
  rw [show k - 3 + 3 = k by omega] at this
  exact this
theorem rw_R0 {t : Nat} (h : t < 40) : fR shL (136 + 5 * t) 7 0 (136 + 5 * t + 1) := allB (f := fun t => fRb shL (136 + 5 * t) 7 0 (136 + 5 * t + 1)) (n := 40) (by decide +kernel) h
theorem rw_R1 {t : Nat} (h : t < 40) : fR shL (136 + 5 * t) 7 1 (136 + 5 * t + 2) := allB (f := fun t => fRb shL (136 + 5 * t) 7 1 (136 + 5 * t + 2)) (n := 40) (by decide +kernel) h
theorem rw_R2 {t : Nat} (h : t < 40) : fR shL (136 + 5 * t) 7 2 (136 + 5 * t + 3) := allB (f := fun t => fRb shL (136 + 5 * t) 7 2 (136 + 5 * t + 3)) (n := 40) (by decide +kernel) h
theorem rw_O {t : Nat} (h : t < 40) : isO shL (136 + 5 * t) 7 := allB (f := fun t => (match shL[136 + 5 * t]? with
  | some (0, c, _, _, _) => c == 7
  | _ => false)) (n := 40) (by decide +kernel) h
theorem wt_I {t : Nat} (h : t < 24) (k : Nat) (hk : 4 ≤ k) (hk2 : k < 9) : fI shL (6 + 5 * t) 9 k := by
  have := allB (f := fun t => (List.range 5).all fun k => fIb shL (6 + 5 * t) 9 (k + 4)) (n := 24) (by decide +kernel) h
  have := allB this (i := k - 4) (by omega)
  rw [show k - 4 + 4 = k by omega] at this
  exact this
theorem wt_R0 {t : Nat} (h : t < 24) : fR shL (6 + 5 * t) 9 0 (6 + 5 * t + 1) := allB (f := fun t => fRb shL (6 + 5 * t) 9 0 (6 + 5 * t + 1)) (n := 24) (by decide +kernel) h
theorem wt_A0 {t : Nat} (h : t < 24) : aI shL (6 + 5 * t + 1) 8 := allB (f := fun t => aIb shL (6 + 5 * t + 1) 8) (n := 24) (by decide +kernel) h
theorem wt_R1 {t : Nat} (h : t < 24) : fR shL (6 + 5 * t) 9 1 (6 + 5 * t + 2) := allB (f := fun t => fRb shL (6 + 5 * t) 9 1 (6 + 5 * t + 2)) (n := 24) (by decide +kernel) h
theorem wt_A1 {t : Nat} (h : t < 24) : aI shL (6 + 5 * t + 2) 4 := allB (f := fun t => aIb shL (6 + 5 * t + 2) 4) (n := 24) (by decide +kernel) h
theorem wt_R2 {t : Nat} (h : t < 24) : fR shL (6 + 5 * t) 9 2 (6 + 5 * t + 3) := allB (f := fun t => fRb shL (6 + 5 * t) 9 2 (6 + 5 * t + 3)) (n := 24) (by decide +kernel) h
theorem wt_A2 {t : Nat} (h : t < 24) : aI shL (6 + 5 * t + 3) 5 := allB (f := fun t => aIb shL (6 + 5 * t + 3) 5) (n := 24) (by decide +kernel) h
theorem wt_R3 {t : Nat} (h : t < 24) : fR shL (6 + 5 * t) 9 3 (6 + 5 * t + 4) := allB (f := fun t => fRb shL (6 + 5 * t) 9 3 (6 + 5 * t + 4)) (n := 24) (by decide +kernel) h
theorem wt_A3 {t : Nat} (h : t < 24) : aI shL (6 + 5 * t + 4) 5 := allB (f := fun t => aIb shL (6 + 5 * t + 4) 5) (n := 24) (by decide +kernel) h
theorem wt_O {t : Nat} (h : t < 24) : isO shL (6 + 5 * t) 9 := allB (f := fun t => (match shL[6 + 5 * t]? with
  | some (0, c, _, _, _) => c == 9
  | _ => false)) (n := 24) (by decide +kernel) h
theorem gO_0 : isO shL 0 11 := by unfold isO; decide +kernel
theorem gR_0_0 : fR shL 0 11 0 1 := by unfold fR; decide +kernel
theorem gR_0_1 : fR shL 0 11 1 4 := by unfold fR; decide +kernel
theorem gR_0_2 : fR shL 0 11 2 126 := by unfold fR; decide +kernel
theorem gR_0_3 : fR shL 0 11 3 134 := by unfold fR; decide +kernel
theorem gR_0_4 : fR shL 0 11 4 336 := by unfold fR; decide +kernel
theorem gR_0_5 : fR shL 0 11 5 510 := by unfold fR; decide +kernel
theorem gI_0_6 : fI shL 0 11 6 := by unfold fI; decide +kernel
theorem gI_0_7 : fI shL 0 11 7 := by unfold fI; decide +kernel
theorem gI_0_8 : fI shL 0 11 8 := by unfold fI; decide +kernel
theorem gO_1 : isO shL 1 10 := by unfold isO; decide +kernel
theorem gR_1_0 : fR shL 1 10 0 2 := by unfold fR; decide +kernel
theorem gR_1_1 : fR shL 1 10 1 3 := by unfold fR; decide +kernel
theorem gI_1_2 : fI shL 1 10 2 := by unfold fI; decide +kernel
theorem gO_4 : isO shL 4 0 := by unfold isO; decide +kernel
theorem gR_4_0 : fR shL 4 0 0 5 := by unfold fR; decide +kernel
theorem gI_4_1 : fI shL 4 0 1 := by unfold fI; decide +kernel
theorem gI_4_2 : fI shL 4 0 2 := by unfold fI; decide +kernel
theorem gO_126 : isO shL 126 1 := by unfold isO; decide +kernel
theorem gR_126_0 : fR shL 126 1 0 127 := by unfold fR; decide +kernel
theorem gR_126_1 : fR shL 126 1 1 128 := by unfold fR; decide +kernel
theorem gR_126_2 : fR shL 126 1 2 130 := by unfold fR; decide +kernel
theorem gR_126_3 : fR shL 126 1 3 132 := by unfold fR; decide +kernel
theorem gI_126_4 : fI shL 126 1 4 := by unfold fI; decide +kernel
theorem gI_126_5 : fI shL 126 1 5 := by unfold fI; decide +kernel
theorem gI_126_6 : fI shL 126 1 6 := by unfold fI; decide +kernel
theorem gI_126_7 : fI shL 126 1 7 := by unfold fI; decide +kernel
theorem gI_126_8 : fI shL 126 1 8 := by unfold fI; decide +kernel
theorem gI_126_9 : fI shL 126 1 9 := by unfold fI; decide +kernel
theorem gO_134 : isO shL 134 3 := by unfold isO; decide +kernel
theorem gR_134_0 : fR shL 134 3 0 135 := by unfold fR; decide +kernel
theorem gI_134_1 : fI shL 134 3 1 := by unfold fI; decide +kernel
theorem gI_134_2 : fI shL 134 3 2 := by unfold fI; decide +kernel
theorem gI_134_3 : fI shL 134 3 3 := by unfold fI; decide +kernel
theorem gI_134_4 : fI shL 134 3 4 := by unfold fI; decide +kernel
theorem gO_336 : isO shL 336 6 := by unfold isO; decide +kernel
theorem gR_336_0 : fR shL 336 6 0 126 := by unfold fR; decide +kernel
theorem gR_336_1 : fR shL 336 6 1 4 := by unfold fR; decide +kernel
theorem gR_336_2 : fR shL 336 6 2 134 := by unfold fR; decide +kernel
theorem gR_336_3 : fR shL 336 6 3 337 := by unfold fR; decide +kernel
theorem gR_336_4 : fR shL 336 6 4 338 := by unfold fR; decide +kernel
theorem gR_336_5 : fR shL 336 6 5 503 := by unfold fR; decide +kernel
theorem gR_336_6 : fR shL 336 6 6 505 := by unfold fR; decide +kernel
theorem gR_336_7 : fR shL 336 6 7 507 := by unfold fR; decide +kernel
theorem gR_336_8 : fR shL 336 6 8 509 := by unfold fR; decide +kernel
theorem gI_336_9 : fI shL 336 6 9 := by unfold fI; decide +kernel
theorem gO_510 : isO shL 510 8 := by unfold isO; decide +kernel
theorem gR_510_0 : fR shL 510 8 0 126 := by unfold fR; decide +kernel
theorem gR_510_1 : fR shL 510 8 1 511 := by unfold fR; decide +kernel
theorem gR_510_2 : fR shL 510 8 2 513 := by unfold fR; decide +kernel
theorem gR_510_3 : fR shL 510 8 3 515 := by unfold fR; decide +kernel
theorem gI_510_4 : fI shL 510 8 4 := by unfold fI; decide +kernel
theorem gI_510_5 : fI shL 510 8 5 := by unfold fI; decide +kernel
theorem gO_516 : isO shL 516 12 := by unfold isO; decide +kernel
theorem gR_516_0 : fR shL 516 12 0 517 := by unfold fR; decide +kernel
theorem gR_516_1 : fR shL 516 12 1 518 := by unfold fR; decide +kernel
theorem gI_516_2 : fI shL 516 12 2 := by unfold fI; decide +kernel
theorem gR_516_3 : fR shL 516 12 3 519 := by unfold fR; decide +kernel
theorem gI_516_4 : fI shL 516 12 4 := by unfold fI; decide +kernel
theorem gR_516_5 : fR shL 516 12 5 520 := by unfold fR; decide +kernel
theorem gR_516_6 : fR shL 516 12 6 521 := by unfold fR; decide +kernel
theorem gR_516_7 : fR shL 516 12 7 522 := by unfold fR; decide +kernel
theorem gI_516_8 : fI shL 516 12 8 := by unfold fI; decide +kernel
theorem gI_516_9 : fI shL 516 12 9 := by unfold fI; decide +kernel
theorem gI_516_10 : fI shL 516 12 10 := by unfold fI; decide +kernel
theorem gR_516_11 : fR shL 516 12 11 523 := by unfold fR; decide +kernel
theorem gR_516_12 : fR shL 516 12 12 524 := by unfold fR; decide +kernel
theorem gI_516_13 : fI shL 516 12 13 := by unfold fI; decide +kernel
theorem gI_516_14 : fI shL 516 12 14 := by unfold fI; decide +kernel
theorem gI_516_15 : fI shL 516 12 15 := by unfold fI; decide +kernel
theorem gI_516_16 : fI shL 516 12 16 := by unfold fI; decide +kernel
theorem gI_516_17 : fI shL 516 12 17 := by unfold fI; decide +kernel
theorem gI_516_18 : fI shL 516 12 18 := by unfold fI; decide +kernel
theorem gI_516_19 : fI shL 516 12 19 := by unfold fI; decide +kernel
theorem gI_516_20 : fI shL 516 12 20 := by unfold fI; decide +kernel
theorem gR_516_21 : fR shL 516 12 21 525 := by unfold fR; decide +kernel
theorem gI_516_22 : fI shL 516 12 22 := by unfold fI; decide +kernel
theorem gI_516_23 : fI shL 516 12 23 := by unfold fI; decide +kernel
theorem gI_516_24 : fI shL 516 12 24 := by unfold fI; decide +kernel
theorem gR_516_25 : fR shL 516 12 25 526 := by unfold fR; decide +kernel
theorem gI_516_26 : fI shL 516 12 26 := by unfold fI; decide +kernel
theorem gI_516_27 : fI shL 516 12 27 := by unfold fI; decide +kernel
theorem gI_516_28 : fI shL 516 12 28 := by unfold fI; decide +kernel
theorem gR_516_29 : fR shL 516 12 29 527 := by unfold fR; decide +kernel
theorem gR_516_30 : fR shL 516 12 30 528 := by unfold fR; decide +kernel
theorem gR_516_31 : fR shL 516 12 31 529 := by unfold fR; decide +kernel
theorem gR_516_32 : fR shL 516 12 32 530 := by unfold fR; decide +kernel
theorem gI_516_33 : fI shL 516 12 33 := by unfold fI; decide +kernel
theorem gL_516_34 : fLb shL 516 12 34 = true := by decide +kernel
theorem aI_2 : aI shL 2 24 := by unfold aI; decide +kernel
theorem aI_3 : aI shL 3 24 := by unfold aI; decide +kernel
theorem aR_5 : aR shL 5 9 24 6 5 := by unfold aR; decide +kernel
theorem aI_127 : aI shL 127 400 := by unfold aI; decide +kernel
theorem aR_135 : aR shL 135 7 40 136 5 := by unfold aR; decide +kernel
theorem aR_337 : aR shL 337 4 41 339 4 := by unfold aR; decide +kernel
theorem aR_338 : aR shL 338 4 41 341 4 := by unfold aR; decide +kernel
theorem aI_509 : aI shL 509 780 := by unfold aI; decide +kernel
theorem aI_517 : aI shL 517 32 := by unfold aI; decide +kernel
theorem aI_518 : aI shL 518 9 := by unfold aI; decide +kernel
theorem aI_519 : aI shL 519 24 := by unfold aI; decide +kernel
theorem aI_520 : aI shL 520 192 := by unfold aI; decide +kernel
theorem aI_521 : aI shL 521 96 := by unfold aI; decide +kernel
theorem aI_522 : aI shL 522 72 := by unfold aI; decide +kernel
theorem aI_523 : aI shL 523 400 := by unfold aI; decide +kernel
theorem aZ_524 : aZ shL 524 400 := by unfold aZ; decide +kernel
theorem aI_525 : aI shL 525 200 := by unfold aI; decide +kernel
theorem aI_526 : aI shL 526 24 := by unfold aI; decide +kernel
theorem aZ_527 : aZ shL 527 400 := by unfold aZ; decide +kernel
theorem aZ_528 : aZ shL 528 400 := by unfold aZ; decide +kernel
theorem aZ_529 : aZ shL 529 16400 := by unfold aZ; decide +kernel
theorem aI_530 : aI shL 530 400 := by unfold aI; decide +kernel

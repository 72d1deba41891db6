/-! sure courses, in both -/
noncomputable def sureT (M : Mem) (p v d : Int32) (r : Int) (T : Nat) (A : Nat → Nat → Bool) : Nat := lft (agT M p v) (sgT M p v r) (dyT d) T 1 A
noncomputable def seeT (M : Mem) (p v d : Int32) (r : Int) (T x y : Nat) : Nat := seeG (agT M p v) (sgT M p v r) (dyT d) x y T 1
def crT (S : Nat → Nat) : Nat → Option (Nat × Nat)
  | 0 => none
  | p + 1 => match crT S p with
    | none => if 0 < S p then some (p, S p) else none
    | some q => if 0 < S p ∧ S p < q.2 then some (p, S p) else some q
def crA (o : Option (Nat × Nat)) : Int32 := match o with
  | none => -1
  | some q => nI q.1
def crL (o : Option (Nat × Nat)) : Int32 := match o with
  | none => 0
  | some q => nI q.2
def crM (T : Nat) (o : Option (Nat × Nat)) : Nat := match o with
  | none => T
  | some q => q.2 - 1
theorem crT_ok {S : Nat → Nat} {T : Nat} (hS : ∀ p, S p ≤ T) : ∀ p q, crT S p = some q → q.1 < p ∧ 1 ≤ q.2 ∧ q.2 ≤ T := by
  intro p
  induction p with
  | zero => intro q h; cases h
  | succ p ih =>
    intro q h
    have hp := hS p
    simp only [crT] at h
    split at h
    · split at h
      · cases h; exact ⟨by omega, by omega, hp⟩
      · cases h
    · rename_i q' e
      have := ih q' e
      split at h
      · cases h; exact ⟨by omega, by omega, hp⟩
      · cases h; omega
theorem crT_none {S : Nat → Nat} {p : Nat} (h : crT S p = none) : crT S (p + 1) = if 0 < S p then some (p, S p) else none := by simp only [crT]; rw [h]
theorem crT_some {S : Nat → Nat} {p : Nat} {q : Nat × Nat} (h : crT S p = some q) : crT S (p + 1) = if 0 < S p ∧ S p < q.2 then some (p, S p) else some q := by simp only [crT]; rw [h]
section TN
variable {xs : List Int32} {M M0 : Mem} {L : Int64} {Q : Option Value → Mem → Int64 → Prop}
theorem m_sureBy (hG : GM M0) (hE : Eq0 M0 M) (hN : Ms0 M0 M) {A : Nat → Nat → Bool} (hA : shA M 527 (mw M0) (mh M0) A) (hin : inC (mw M0) (mh M0) A) (hne : NE A) {p v d : Int32} {r : Nat} (hp : 0 ≤ p ∧ p ≤ 31) (hr : r ≤ 8) {T : Nat} (hT : T ≤ 96)
    (hQ : Q (some (.int (nI (sureT M0 p v d r T A)))) M L) : RX xs shL md_Mod_sureBy 0 [.ref 516, .int p, .int v, .int (nI T), .int d, .int (nI r)] [] M L Q := by
  have hC := MCH_fr hG hE
  obtain ⟨c1, c2, w4, w20, h4, h20⟩ := hC
  obtain ⟨z1, z2⟩ := lft_see (ag := agT M0 p v) (sg := sgT M0 p v r) (dy := dyT d) T 1 A (Nat.le_refl _) hne
  have sb : ∀ x y, seeT M0 p v d r T x y ≤ 96 := fun x y => by
    have := seeG_ge (ag := agT M0 p v) (sg := sgT M0 p v r) (dy := dyT d) (x := x) (y := y) T 1
    unfold seeT; omega
  refine L_Mod_sureBy_0 ?_
  refine grid (σ := Nat) (w := mw M0) (h := mh M0)
    (fun y s => RX xs shL md_Mod_sureBy 6 [.ref 516, .int p, .int v, .int (nI T), .int d, .int (nI r), .int (nI s), .int (nI y), .null, .null] [] M L Q)
    (fun x y s => RX xs shL md_Mod_sureBy 18 [.ref 516, .int p, .int v, .int (nI T), .int d, .int (nI r), .int (nI s), .int (nI y), .int (nI x), .null] [] M L Q)
    (fun x y s => (∀ x' y', reg (mw M0) x y x' y' → A x' y' = true → ¬ seeT M0 p v d r T x' y' = 0 ∧ seeT M0 p v d r T x' y' ≤ s) ∧ (s = 0 ∨ ∃ x' y', y' < 20 ∧ A x' y' = true ∧ seeT M0 p v d r T x' y' = s) ∧ s ≤ 96) ?_ ?_ ?_ ?_ ?_ 0 ⟨fun x' y' q => absurd q (reg_00 x' y'), Or.inl rfl, by omega⟩
  · intro s ⟨s1, s2, s3⟩
    refine L_Mod_sureBy_6 ⟨fun _ => ?_, fun c => absurd ?_ c⟩
    · have all : ∀ x y, y < 20 → A x y = true → ¬ seeT M0 p v d r T x y = 0 ∧ seeT M0 p v d r T x y ≤ s := fun x y q1 q2 => s1 x y ((reg_end x y).mpr (hin x y q1 q2)) q2
      obtain ⟨j1, x0, y0, j2, j3, j4⟩ := z2 (fun x y q1 q2 => (all x y q1 q2).1)
      have e : s = sureT M0 p v d r T A := by
        have a1 := (all x0 y0 j2 j3)
        have j4' : seeT M0 p v d r T x0 y0 = sureT M0 p v d r T A := j4
        rcases s2 with s2 | ⟨x', y', q1, q2, q3⟩
        · omega
        · have := j1 x' y' q1 q2
          have this : seeT M0 p v d r T x' y' ≤ sureT M0 p v d r T A := this
          omega
      rw [e]; exact hQ
    · rw [c2]; exact Int32.le_refl _
  · intro y s hy hs hi
    refine L_Mod_sureBy_6 ⟨fun c => ?_, fun _ => hi⟩
    rw [c2, nI_leI (by omega) (by omega)] at c; omega
  · intro y s hy hs ho
    refine L_Mod_sureBy_18 ⟨fun _ => by rw [nI_1]; exact ho, fun c => absurd ?_ c⟩
    rw [c1]; exact Int32.le_refl _
  · intro x y s hx hy ⟨s1, s2, s3⟩ hn
    refine L_Mod_sureBy_18 ⟨fun c => ?_, fun _ => ?_⟩
    · rw [c1, nI_leI (by omega) (by omega)] at c; omega
    rw [nI_at, nI_cl (by omega), nI_1 x, hA x y hx hy]
    refine ⟨vp_nI (by omega) (by omega), fun c => ?_, fun c => ?_⟩
    · have hf := b01_0.mp c
      refine hn s ⟨fun x' y' q1 q2 => ?_, s2, s3⟩
      rcases (reg_up hx x' y').mp q1 with q | ⟨rfl, rfl⟩
      · exact s1 x' y' q q2
      · rw [hf] at q2; cases q2
    · have ht : A x y = true := by
        cases e : A x y with
        | true => rfl
        | false => rw [e] at c; exact absurd rfl c
      refine m_seesAt hG hE hN hp hr (by omega) (by omega) hT ⟨_, rfl, ?_⟩
      have b := sb x y
      show (nI (seeT M0 p v d r T x y) = 0 → _) ∧ (¬ nI (seeT M0 p v d r T x y) = 0 → _)
      refine ⟨fun z => ?_, fun z => ⟨fun z3 => ?_, fun z3 => ?_⟩⟩
      · have e0 : seeT M0 p v d r T x y = 0 := by
          have := congrArg Int32.toInt z
          rw [i_nI (by omega)] at this
          have : (seeT M0 p v d r T x y : Int) = 0 := this
          omega
        have : sureT M0 p v d r T A = 0 := z1 ⟨x, y, by omega, ht, e0⟩
        rw [this] at hQ; exact hQ
      · have z3 : nI (seeT M0 p v d r T x y) ≤ nI s := z3
        rw [nI_leI (by omega) (by omega)] at z3
        refine hn s ⟨fun x' y' q1 q2 => ?_, s2, s3⟩
        rcases (reg_up hx x' y').mp q1 with q | ⟨rfl, rfl⟩
        · exact s1 x' y' q q2
        · exact ⟨fun e => z (by rw [e]; rfl), z3⟩
      · have z3 : ¬ nI (seeT M0 p v d r T x y) ≤ nI s := z3
        rw [nI_leI (by omega) (by omega)] at z3
        refine hn (seeT M0 p v d r T x y) ⟨fun x' y' q1 q2 => ?_, Or.inr ⟨x, y, by omega, ht, rfl⟩, b⟩
        rcases (reg_up hx x' y').mp q1 with q | ⟨rfl, rfl⟩
        · have := s1 x' y' q q2
          exact ⟨this.1, by omega⟩
        · exact ⟨fun e => z (by rw [e]; rfl), Nat.le_refl _⟩
  · intro y s hy ⟨s1, s2, s3⟩
    exact ⟨fun x' y' q1 q2 => s1 x' y' ((reg_row x' y').mpr q1) q2, s2, s3⟩
theorem sure_le (M : Mem) (p v d : Int32) (r : Int) (T : Nat) (A : Nat → Nat → Bool) : sureT M p v d r T A ≤ T := by
  have := lft_ge (ag := agT M p v) (sg := sgT M p v r) (dy := dyT d) T 1 A
  unfold sureT; omega
theorem nI_le0 {n : Nat} (h : n < 1000) : nI n ≤ 0 ↔ n = 0 := by
  rw [i_le, i_nI (by omega)]
  show (n : Int) ≤ 0 ↔ _
  omega
theorem m_courseLoop (hG : GM M0) (hE : Eq0 M0 M) (hN : Ms0 M0 M) {A : Nat → Nat → Bool} (hA : shA M 527 (mw M0) (mh M0) A) (hin : inC (mw M0) (mh M0) A) (hne : NE A) {v d : Int32} {r : Nat} (hr : r ≤ 8) {T : Nat} (hT : T ≤ 96)
    (hQ : Q (some (.int (crA (crT (fun p => sureT M0 (nI p) v d r T A) 32)))) M L) : RX xs shL md_Mod_course 56 [.ref 516, .int v, .int (nI T), .int d, .int (nI r), .int (-1), .int 0, .int 0, .null] [] M L Q := by
  have key : ∀ k p, p + k = 32 → RX xs shL md_Mod_course 56 [.ref 516, .int v, .int (nI T), .int d, .int (nI r), .int (crA (crT (fun p => sureT M0 (nI p) v d r T A) p)), .int (crL (crT (fun p => sureT M0 (nI p) v d r T A) p)), .int (nI p), .null] [] M L Q := by
    intro k
    induction k with
    | zero =>
      intro p hp
      have : p = 32 := by omega
      subst this
      exact L_Mod_course_56 ⟨fun _ => hQ, fun c => absurd (by decide) c⟩
    | succ k ih =>
      intro p hp
      have nx := ih (p + 1) (by omega)
      have sl := sure_le M0 (nI p) v d r T A
      refine L_Mod_course_56 ⟨fun c => absurd ((nI_leI (a := 32) (b := p) (by omega) (by omega)).mp c) (by omega), fun _ => ?_⟩
      rw [nI_1]
      have hpI : 0 ≤ nI p ∧ nI p ≤ 31 := by
        rw [i_le, i_le, i_nI (by omega)]
        exact ⟨by show (0 : Int) ≤ _; omega, by show _ ≤ (31 : Int); omega⟩
      refine m_sureBy hG hE hN hA hin hne hpI hr hT ⟨_, rfl, ?_⟩
      cases hc : crT (fun p => sureT M0 (nI p) v d r T A) p with
      | none =>
        rw [crT_none hc] at nx
        refine ⟨fun z => ?_, fun z => ⟨fun _ => ?_, fun e => absurd rfl e⟩⟩
        · rw [nI_le0 (by omega)] at z
          rw [if_neg (by omega)] at nx; exact nx
        · rw [nI_le0 (by omega)] at z
          rw [if_pos (by omega)] at nx; exact nx
      | some q =>
        have ok := crT_ok (S := fun p => sureT M0 (nI p) v d r T A) (T := T) (fun p => sure_le _ _ _ _ _ _ _) p q hc
        rw [crT_some hc] at nx
        have e1 : ¬ nI q.1 = -1 := nI_m1 (by omega)
        refine ⟨fun z => ?_, fun z => ⟨fun e => absurd e e1, fun _ => ⟨fun c => ?_, fun c => ?_⟩⟩⟩
        · rw [nI_le0 (by omega)] at z
          rw [if_neg (by omega)] at nx; exact nx
        · have c : nI q.2 ≤ nI (sureT M0 (nI p) v d r T A) := c
          rw [nI_leI (by omega) (by omega)] at c
          rw [if_neg (by omega)] at nx; exact nx
        · have c : ¬ nI q.2 ≤ nI (sureT M0 (nI p) v d r T A) := c
          rw [nI_leI (by omega) (by omega)] at c
          rw [nI_le0 (by omega)] at z
          rw [if_pos (by omega)] at nx; exact nx
  exact key 32 0 (by omega)
theorem c_fitOut {w h : Nat} (hw : w = mw M0) (hh : h = mh M0) (hC : CH M w h) (hL : shw M 130 (mLd M0)) {v d : Int32} {r : Nat} (hr : r ≤ 8) (hQ : ∀ M', (∀ b k, b ≠ 512 → ¬ (b = 510 ∧ (k = 4 ∨ k = 5)) → M' b k = M b k) → Vy M0 M' v d r → Q none M' L) : RX xs shL md_Voyage_fitOut 0 [.ref 510, .int v, .int d, .int (nI r)] [] M L Q := by
  subst hw hh
  have f0 : ∀ b k, ¬ (b = 510 ∧ (k = 4 ∨ k = 5)) → up (up M 510 4 v) 510 5 d b k = M b k := fun b k q => by rw [up_ne _ _ (by omega), up_ne _ _ (by omega)]
  have hr' := i_nI (n := r) (by omega)
  have hL' : shw (up (up M 510 4 v) 510 5 d) 130 (mLd M0) := shw_fr hL (fun k => f0 _ k (by omega))
  refine L_Voyage_fitOut_0 (t_findNear (w := mw M0) (h := mh M0) isP_511 (by decide) ⟨(f0 _ _ (by omega)).trans hC.1, (f0 _ _ (by omega)).trans hC.2.1, hC.2.2⟩ (shw_in hL' (mLd_in M0)) (by omega) (by omega) ⟨rfl, ?_⟩)
  have es : ∀ x y, nrS (mw M0) (mh M0) (gp (up (up M 510 4 v) 510 5 d) 130) (nI r).toInt x y = nrB M0 r x y := fun x y => by
    unfold nrS nrB nrS
    rw [hr']
    exact rchA_congr hC.2.2.2.2.2 (fun y hy x => hL' y hy x) _ _ _ _ x y
  have es' : nrS (mw M0) (mh M0) (gp (up (up M 510 4 v) 510 5 d) 130) (nI r).toInt = nrB M0 r := by funext x y; exact es x y
  rw [es']
  have f1 : ∀ b k, b ≠ 512 → ¬ (b = 510 ∧ (k = 4 ∨ k = 5)) → setP (up (up M 510 4 v) 510 5 d) 511 (nrB M0 r) b k = M b k := fun b k h1 h2 => by rw [setP_o _ _ h1]; exact f0 b k h2
  refine hQ _ f1 ⟨⟨(f1 _ _ (by decide) (by omega)).trans hC.1, (f1 _ _ (by decide) (by omega)).trans hC.2.1, hC.2.2⟩, shw_fr hL (fun k => f1 _ k (by decide) (by omega)), shw_set hC.2.2.2.1 (nrB_in M0 r), ?_, ?_⟩
  · rw [setP_o _ _ (by decide), up_ne _ _ (by omega)]; exact up_same _ _ _ _
  · rw [setP_o _ _ (by decide)]; exact up_same _ _ _ _
theorem c_cell {p v d : Int32} {r : Int} (hp : 0 ≤ p ∧ p ≤ 31) (hV : Vy M0 M v d r) {x y : Nat} (hx : x < mw M0) (hy : y < mh M0) {T : Nat} (hT : T ≤ 96)
    (hQ : ∀ M', (∀ b k, b ≠ 514 → b ≠ 515 → M' b k = M b k) → Q (some (.int (nI (seeT M0 p v d r T x y)))) M' L) : RX xs shL md_Voyage_sightedFromCell 0 [.ref 510, .int (nI x), .int (nI y), .int p, .int (nI T)] [] M L Q := by
  obtain ⟨-, -, w4, w20, h4, h20⟩ := hV.1
  have ex := i_nI (n := x) (by omega)
  have ey := i_nI (n := y) (by omega)
  refine L_Voyage_sightedFromCell_0 ?_
  rw [setP_set]
  let A : Nat → Nat → Bool := fun x' y' => bB (x' = x ∧ y' = y)
  have hA : ∀ x' y', A x' y' = true ↔ x' = x ∧ y' = y := fun x' y' => bB_iff
  have hin : inC (mw M0) (mh M0) A := fun x' y' _ q => by obtain ⟨rfl, rfl⟩ := (hA x' y').mp q; exact ⟨hx, hy⟩
  have es : setP M 513 (rcF (nI x).toInt (nI y).toInt (nI x).toInt (nI y).toInt (bB (¬ (1 : Int32) = 0)) (gp (setP M 513 (fun _ _ => false)) 513)) = setP M 513 A := setP_congr _ _ (fun y' hy' x' hx' => by
    unfold rcF
    rw [ex, ey, gp_set _ _ _ hx' hy']
    apply bool_iff
    rw [hA]
    by_cases e : (x : Int) ≤ x' ∧ (x' : Int) ≤ x ∧ x' < 20 ∧ (y : Int) ≤ y' ∧ (y' : Int) ≤ y
    · rw [ifB_t e, bB_t (by decide)]; exact ⟨fun _ => by omega, fun _ => rfl⟩
    · rw [ifB_f e]; exact ⟨fun q => absurd q (by decide), fun q => absurd q (by omega)⟩)
  rw [es]
  have f1 : ∀ b k, b ≠ 514 → b ≠ 515 → setP M 513 A b k = M b k := fun b k h1 _ => setP_o _ _ h1 k
  refine c_sighted hp (Vy_fr hV f1) (shw_set w20 hin) hin hT (fun M2 f2 => ⟨_, rfl, ?_⟩)
  rw [lft_one (x0 := x) (y0 := y) (by omega) T 1 (Nat.le_refl _) (fun x' y' _ => hA x' y')]
  exact hQ M2 (fun b k h1 h2 => (f2 b k h1 h2).trans (f1 b k h1 h2))
theorem c_all {p v d : Int32} {r : Int} (hp : 0 ≤ p ∧ p ≤ 31) (hV : Vy M0 M v d r) {q : Nat} (hq : isP shL q) {A : Nat → Nat → Bool} (hA : shw M q A) (hin : inC (mw M0) (mh M0) A) {T : Nat} (hT : T ≤ 96)
    (hQ : ∀ M', (∀ b k, b ≠ 514 → b ≠ 515 → M' b k = M b k) → Q (some (.int (nI (sureT M0 p v d r T A)))) M' L) : RX xs shL md_Voyage_sightedFromAll 0 [.ref 510, .ref q, .int p, .int (nI T)] [] M L Q := by
  obtain ⟨-, -, w4, w20, h4, h20⟩ := hV.1
  refine L_Voyage_sightedFromAll_0 hq ?_
  have es : setP M 513 (gp M q) = setP M 513 A := setP_congr _ _ (fun y hy x _ => hA y hy x)
  rw [es]
  have f1 : ∀ b k, b ≠ 514 → b ≠ 515 → setP M 513 A b k = M b k := fun b k h1 _ => setP_o _ _ h1 k
  exact c_sighted hp (Vy_fr hV f1) (shw_set w20 hin) hin hT (fun M2 f2 => ⟨_, rfl, hQ M2 (fun b k h1 h2 => (f2 b k h1 h2).trans (f1 b k h1 h2))⟩)
theorem c_soonest {v d : Int32} {r : Int} (hV : Vy M0 M v d r) {q : Nat} (hq : isP shL q) (q1 : q + 1 ≠ 514) (q2 : q + 1 ≠ 515) {A : Nat → Nat → Bool} (hA : shw M q A) (hin : inC (mw M0) (mh M0) A) {T : Nat} (hT : T ≤ 96)
    (hQ : ∀ M', (∀ b k, b ≠ 514 → b ≠ 515 → M' b k = M b k) → Q (some (.int (crA (crT (fun p => sureT M0 (nI p) v d r T A) 32)))) M' L) : RX xs shL md_Voyage_soonestPoint 0 [.ref 510, .ref q, .int (nI T)] [] M L Q := by
  have key : ∀ k p, p + k = 32 → ∀ M', (∀ b k, b ≠ 514 → b ≠ 515 → M' b k = M b k) → RX xs shL md_Voyage_soonestPoint 8 [.ref 510, .ref q, .null, .int (crA (crT (fun p => sureT M0 (nI p) v d r T A) p)), .int (nI (crM T (crT (fun p => sureT M0 (nI p) v d r T A) p))), .int (nI p), .null] [] M' L Q := by
    intro k
    induction k with
    | zero =>
      intro p hp M' fr
      have : p = 32 := by omega
      subst this
      exact L_Voyage_soonestPoint_8 ⟨fun _ => hQ M' fr, fun c => absurd (by decide) c⟩
    | succ k ih =>
      intro p hp M' fr
      have nx := ih (p + 1) (by omega)
      have sl := sure_le M0 (nI p) v d r T A
      have hpI : 0 ≤ nI p ∧ nI p ≤ 31 := by
        rw [i_le, i_le, i_nI (by omega)]
        exact ⟨by show (0 : Int) ≤ _; omega, by show _ ≤ (31 : Int); omega⟩
      have ml : crM T (crT (fun p => sureT M0 (nI p) v d r T A) p) ≤ T := by
        cases hc : crT (fun p => sureT M0 (nI p) v d r T A) p with
        | none => exact Nat.le_refl _
        | some q =>
          have ok := crT_ok (S := fun p => sureT M0 (nI p) v d r T A) (T := T) (fun p => sure_le _ _ _ _ _ _ _) p q hc
          show q.2 - 1 ≤ T
          omega
      refine L_Voyage_soonestPoint_8 ⟨fun c => absurd ((nI_leI (a := 32) (b := p) (by omega) (by omega)).mp c) (by omega), fun _ => ?_⟩
      refine c_all hpI (Vy_fr hV fr) hq (shw_fr hA (fun k => fr _ k q1 q2)) hin (Nat.le_trans ml hT) (fun M2 f2 => ⟨_, rfl, ?_⟩)
      have nx := nx M2 (fun b k h1 h2 => (f2 b k h1 h2).trans (fr b k h1 h2))
      rw [nI_1]
      have less : sureT M0 (nI p) v d r (crM T (crT (fun p => sureT M0 (nI p) v d r T A) p)) A = if sureT M0 (nI p) v d r T A < 1 + crM T (crT (fun p => sureT M0 (nI p) v d r T A) p) then sureT M0 (nI p) v d r T A else 0 := lft_less _ T 1 A ml
      rw [less]
      cases hc : crT (fun p => sureT M0 (nI p) v d r T A) p with
      | none =>
        rw [crT_none hc] at nx
        rw [if_pos (by show _ < 1 + T; omega)]
        refine ⟨fun z => ?_, fun z => ?_⟩
        · rw [nI_le0 (by omega)] at z
          rw [if_neg (by omega)] at nx; exact nx
        · rw [nI_le0 (by omega)] at z
          rw [if_pos (by omega)] at nx
          rw [show nI (sureT M0 (nI p) v d r T A) - 1 = nI (sureT M0 (nI p) v d r T A - 1) from nI_subN (b := 1) (by omega)]
          exact nx
      | some q =>
        have ok := crT_ok (S := fun p => sureT M0 (nI p) v d r T A) (T := T) (fun p => sure_le _ _ _ _ _ _ _) p q hc
        rw [crT_some hc] at nx
        by_cases c : sureT M0 (nI p) v d r T A < q.2
        · rw [if_pos (by show _ < 1 + (q.2 - 1); omega)]
          refine ⟨fun z => ?_, fun z => ?_⟩
          · rw [nI_le0 (by omega)] at z
            rw [if_neg (by omega)] at nx; exact nx
          · rw [nI_le0 (by omega)] at z
            rw [if_pos (by omega)] at nx
            rw [show nI (sureT M0 (nI p) v d r T A) - 1 = nI (sureT M0 (nI p) v d r T A - 1) from nI_subN (b := 1) (by omega)]
            exact nx
        · rw [if_neg (by show ¬ _ < 1 + (q.2 - 1); omega)]
          refine ⟨fun z => ?_, fun z => absurd (by decide) z⟩
          rw [if_neg (by omega)] at nx; exact nx
  exact L_Voyage_soonestPoint_0 hq (key 32 0 (by omega) M (fun _ _ _ _ => rfl))
end TN

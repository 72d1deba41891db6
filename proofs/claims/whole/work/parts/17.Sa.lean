/-! specs of the leaves -/
def imax (a b : Int32) : Int32 := if a < b then b else a
def imin (a b : Int32) : Int32 := if b < a then b else a
def fdv (a b : Int32) : Int32 := if 0 ≤ a ^^^ b then a / b else if a / b * b = a then a / b else a / b - 1
def dwn (a b : Int32) : Int32 := if 0 ≤ a - a / b * b then a / b else a / b - 1
def fbits (n : Int32) : Int32 := (1 <<< (n &&& 31)) - 1
section SA
variable {xs : List Int32} {S : List Shp} {M : Mem} {L : Int64} {Q : Option Value → Mem → Int64 → Prop}
theorem s_JMath_max {a b : Int32} (h : Q (some (.int (imax a b))) M L) : RX xs S md_JMath_max 0 [.int a, .int b] [] M L Q :=
  L_JMath_max_0 ⟨fun c => by rw [imax, if_pos c] at h; exact h, fun c => by rw [imax, if_neg c] at h; exact h⟩
theorem s_JMath_min {a b : Int32} (h : Q (some (.int (imin a b))) M L) : RX xs S md_JMath_min 0 [.int a, .int b] [] M L Q :=
  L_JMath_min_0 ⟨fun c => by rw [imin, if_pos c] at h; exact h, fun c => by rw [imin, if_neg c] at h; exact h⟩
theorem s_JMath_floorDiv {a b : Int32} (hb : ¬ b = 0) (h : Q (some (.int (fdv a b))) M L) : RX xs S md_JMath_floorDiv 0 [.int a, .int b] [] M L Q := by
  unfold fdv at h
  exact L_JMath_floorDiv_0 ⟨hb, fun c => by rw [if_pos c] at h; exact h, fun c => by
    rw [if_neg c] at h
    exact ⟨fun c2 => by rw [if_pos c2] at h; exact h, fun c2 => by rw [if_neg c2] at h; exact h⟩⟩
theorem s_Peg_isWithin {v lo hi : Int32} (h : Q (some (.int (bI (lo ≤ v ∧ v ≤ hi)))) M L) : RX xs S md_Peg_isWithin 0 [.int v, .int lo, .int hi] [] M L Q := by
  refine L_Peg_isWithin_0 ⟨fun c => ?_, fun c => ⟨fun c2 => ?_, fun c2 => ?_⟩⟩
  · rw [bI_f (fun q => absurd c (Int32.not_lt.mpr q.1))] at h; exact h
  · rw [bI_f (fun q => absurd c2 (Int32.not_lt.mpr q.2))] at h; exact h
  · rw [bI_t ⟨Int32.not_lt.mp c, Int32.not_lt.mp c2⟩] at h; exact h
theorem s_Mod_in {v lo hi : Int32} (h : Q (some (.int (bI (lo ≤ v ∧ v ≤ hi)))) M L) : RX xs S md_Mod_in 0 [.int v, .int lo, .int hi] [] M L Q := by
  refine L_Mod_in_0 ⟨fun c => ?_, fun c => ⟨fun c2 => ?_, fun c2 => ?_⟩⟩
  · rw [bI_f (fun q => absurd c (Int32.not_lt.mpr q.1))] at h; exact h
  · rw [bI_f (fun q => absurd c2 (Int32.not_lt.mpr q.2))] at h; exact h
  · rw [bI_t ⟨Int32.not_lt.mp c, Int32.not_lt.mp c2⟩] at h; exact h
theorem s_Peg_asNumber {v : Int32} (h : Q (some (.int (bI (¬ v = 0)))) M L) : RX xs S md_Peg_asNumber 0 [.int v] [] M L Q :=
  L_Peg_asNumber_0 ⟨fun c => by rw [bI_f (fun q => q c)] at h; exact h, fun c => by rw [bI_t c] at h; exact h⟩
theorem s_Peg_asNumberB {p : Prop} (h : Q (some (.int (bI p))) M L) : RX xs S md_Peg_asNumber 0 [.int (bI p)] [] M L Q :=
  L_Peg_asNumber_0 ⟨fun c => by rw [c] at h; exact h, fun c => by rw [bI_t (bI_p1 c)] at h; exact h⟩
theorem s_Peg_fold {a : Int64} {b : Int32} (h : Q (some (.long (31 * a + b.toInt64))) M L) : RX xs S md_Peg_fold 0 [.long a, .null, .int b] [] M L Q := L_Peg_fold_0 h
theorem s_Peg_isStream {a b : Int32} (h : Q (some (.int (bI ((-20000) ≤ a ∧ b ≤ 20000 ∧ a ≤ b)))) M L) : RX xs S md_Peg_isStream 0 [.int a, .int b] [] M L Q := by
  refine L_Peg_isStream_0 ⟨fun c => ?_, fun c => ⟨fun c2 => ?_, fun c2 => ⟨fun c3 => ?_, fun c3 => ?_⟩⟩⟩
  · rw [bI_f (fun q => absurd c (Int32.not_lt.mpr q.1))] at h; exact h
  · rw [bI_f (fun q => absurd c2 (Int32.not_lt.mpr q.2.1))] at h; exact h
  · rw [bI_f (fun q => absurd c3 (Int32.not_lt.mpr q.2.2))] at h; exact h
  · rw [bI_t ⟨Int32.not_lt.mp c, Int32.not_lt.mp c2, Int32.not_lt.mp c3⟩] at h; exact h
theorem s_Compass_isPoint {v : Int32} (h : Q (some (.int (bI (0 ≤ v ∧ v ≤ 31)))) M L) : RX xs S md_Compass_isPoint 0 [.int v] [] M L Q := by
  have e : (32 : Int32) ≤ v ↔ ¬ v ≤ 31 := by rw [i_le, i_le]; show (32 : Int) ≤ _ ↔ ¬ _ ≤ (31 : Int); omega
  refine L_Compass_isPoint_0 ⟨fun c => ?_, fun c => ⟨fun c2 => ?_, fun c2 => ?_⟩⟩
  · rw [bI_f (fun q => absurd c (Int32.not_lt.mpr q.1))] at h; exact h
  · rw [bI_f (fun q => (e.mp c2) q.2)] at h; exact h
  · rw [bI_t ⟨Int32.not_lt.mp c, Classical.not_not.mp (fun q => c2 (e.mpr q))⟩] at h; exact h
theorem s_Compass_turned {a b : Int32} (h : Q (some (.int ((a + b) &&& 31))) M L) : RX xs S md_Compass_turned 0 [.int a, .int b] [] M L Q := L_Compass_turned_0 h
theorem s_Compass_turnsBetween {a b : Int32} (h : Q (some (.int ((b - a) &&& 31))) M L) : RX xs S md_Compass_turnsBetween 0 [.int a, .int b] [] M L Q := L_Compass_turnsBetween_0 h
theorem s_Patch_firstBits {a : Int32} (h : Q (some (.int (fbits a))) M L) : RX xs S md_Patch_firstBits 0 [.int a] [] M L Q := L_Patch_firstBits_0 h
theorem s_Mod_at {a b : Int32} (h : Q (some (.int (20 * b + a))) M L) : RX xs S md_Mod_at 0 [.int a, .int b] [] M L Q := L_Mod_at_0 h
theorem s_Mod_turnsOf {a b : Int32} (h : Q (some (.int (((b - a) + 32) - ((b - a) + 32) / 32 * 32))) M L) : RX xs S md_Mod_turnsOf 0 [.int a, .int b] [] M L Q := L_Mod_turnsOf_0 h
theorem s_Mod_down {a b : Int32} (hb : ¬ b = 0) (h : Q (some (.int (dwn a b))) M L) : RX xs S md_Mod_down 0 [.int a, .int b] [] M L Q := by
  unfold dwn at h
  exact L_Mod_down_0 ⟨hb, fun c => by rw [if_pos c] at h; exact h, fun c => by rw [if_neg c] at h; exact h⟩
theorem s_Watch_mostOf {a : Int32} (h : Q (some (.int (if a = 0 then 5 else if a = 1 then 31 else 2))) M L) : RX xs S md_Watch_mostOf 0 [.int a] [] M L Q :=
  L_Watch_mostOf_0 ⟨fun c => by rw [if_pos c] at h; exact h, fun c => by
    rw [if_neg c] at h
    exact ⟨fun c2 => by rw [if_pos c2] at h; exact h, fun c2 => by rw [if_neg c2] at h; exact h⟩⟩
theorem s_Row_needsFirst {a : Int32} (h : Q (some (.int (bI (¬ a = 3)))) M L) : RX xs S md_Row_needsFirst 0 [.int a] [] M L Q :=
  L_Row_needsFirst_0 ⟨fun c => by rw [bI_f (fun q => q c)] at h; exact h, fun c => by rw [bI_t c] at h; exact h⟩
theorem s_Row_needsSecond {a : Int32} (h : Q (some (.int (bI (a = 0 ∨ a = 4)))) M L) : RX xs S md_Row_needsSecond 0 [.int a] [] M L Q :=
  L_Row_needsSecond_0 ⟨fun c => by rw [bI_t (Or.inl c)] at h; exact h, fun c => ⟨fun c2 => by rw [bI_t (Or.inr c2)] at h; exact h, fun c2 => by rw [bI_f (fun q => q.elim c c2)] at h; exact h⟩⟩
theorem s_Board_isWatch {v : Int32} (h : Q (some (.int (bI (0 ≤ v ∧ v < M 4 1)))) M L) : RX xs shL md_Board_isWatch 0 [.ref 4, .int v] [] M L Q := by
  refine L_Board_isWatch_0 ⟨fun c => ?_, fun c => ⟨fun c2 => ?_, fun c2 => ?_⟩⟩
  · rw [bI_f (fun q => absurd c (Int32.not_lt.mpr q.1))] at h; exact h
  · rw [bI_f (fun q => absurd q.2 (Int32.not_lt.mpr c2))] at h; exact h
  · rw [bI_t ⟨Int32.not_lt.mp c, Int32.not_le.mp c2⟩] at h; exact h
theorem s_Log_isRow {v : Int32} (h : Q (some (.int (bI (0 ≤ v ∧ v < M 134 1)))) M L) : RX xs shL md_Log_isRow 0 [.ref 134, .int v] [] M L Q := by
  refine L_Log_isRow_0 ⟨fun c => ?_, fun c => ⟨fun c2 => ?_, fun c2 => ?_⟩⟩
  · rw [bI_f (fun q => absurd c (Int32.not_lt.mpr q.1))] at h; exact h
  · rw [bI_f (fun q => absurd q.2 (Int32.not_lt.mpr c2))] at h; exact h
  · rw [bI_t ⟨Int32.not_lt.mp c, Int32.not_le.mp c2⟩] at h; exact h
theorem s_Log_isBehind {v : Int32} (h : Q (some (.int (bI (0 ≤ v ∧ v ≤ M 134 1)))) M L) : RX xs shL md_Log_isBehind 0 [.ref 134, .int v] [] M L Q := by
  refine L_Log_isBehind_0 ⟨fun c => ?_, fun c => ⟨fun c2 => ?_, fun c2 => ?_⟩⟩
  · rw [bI_f (fun q => absurd c (Int32.not_lt.mpr q.1))] at h; exact h
  · rw [bI_f (fun q => absurd c2 (Int32.not_lt.mpr q.2))] at h; exact h
  · rw [bI_t ⟨Int32.not_lt.mp c, Int32.not_lt.mp c2⟩] at h; exact h
theorem s_Chart_isCell {x y : Int32} (h : Q (some (.int (bI ((0 ≤ x ∧ x < M 126 4) ∧ 0 ≤ y ∧ y < M 126 5)))) M L) : RX xs shL md_Chart_isCell 0 [.ref 126, .int x, .int y] [] M L Q := by
  refine L_Chart_isCell_0 ⟨fun c => ?_, fun c => ⟨fun c2 => ?_, fun c2 => ⟨fun c3 => ?_, fun c3 => ⟨fun c4 => ?_, fun c4 => ?_⟩⟩⟩⟩
  · rw [bI_f (fun q => absurd c (Int32.not_lt.mpr q.1.1))] at h; exact h
  · rw [bI_f (fun q => absurd q.1.2 (Int32.not_lt.mpr c2))] at h; exact h
  · rw [bI_f (fun q => absurd c3 (Int32.not_lt.mpr q.2.1))] at h; exact h
  · rw [bI_f (fun q => absurd q.2.2 (Int32.not_lt.mpr c4))] at h; exact h
  · rw [bI_t ⟨⟨Int32.not_lt.mp c, Int32.not_le.mp c2⟩, Int32.not_lt.mp c3, Int32.not_le.mp c4⟩] at h; exact h
theorem s_Row_isWatch {t : Nat} (ht : t < 40) (h : Q (some (.int (bI (¬ M (136 + 5 * t) 3 = -1)))) M L) : RX xs shL md_Row_isWatch 0 [.ref (136 + 5 * t)] [] M L Q :=
  L_Row_isWatch_0 ht ⟨fun c => by rw [bI_f (fun q => q c)] at h; exact h, fun c => by rw [bI_t c] at h; exact h⟩
theorem s_Reach_become {p : Nat} (hp : isRe S p) {a b c d : Int32} (h : Q (some (.int (bI (¬ (M p 0 = a ∧ M p 1 = b ∧ M p 2 = c ∧ M p 3 = d))))) (up (up (up (up M p 0 a) p 1 b) p 2 c) p 3 d) L) : RX xs S md_Reach_become 0 [.ref p, .int a, .int b, .int c, .int d] [] M L Q := by
  have n10 : ¬ ((1 : Int32) = 0) := by decide
  refine L_Reach_become_0 hp ⟨fun c1 => ⟨fun c2 => ⟨fun c3 => ⟨fun c4 => ⟨fun q => absurd q n10, fun _ => ?_⟩, fun c4 => ⟨fun _ => ?_, fun q => absurd rfl q⟩⟩, fun c3 => ⟨fun _ => ?_, fun q => absurd rfl q⟩⟩, fun c2 => ⟨fun _ => ?_, fun q => absurd rfl q⟩⟩, fun c1 => ⟨fun _ => ?_, fun q => absurd rfl q⟩⟩
  · rw [bI_f (fun q => q ⟨c1, c2, c3, c4⟩)] at h; exact h
  · rw [bI_t (fun q => c4 q.2.2.2)] at h; exact h
  · rw [bI_t (fun q => c3 q.2.2.1)] at h; exact h
  · rw [bI_t (fun q => c2 q.2.1)] at h; exact h
  · rw [bI_t (fun q => c1 q.1)] at h; exact h
/-! loops over rows -/
theorem s_JArrays_fill {p n : Nat} (ha : aI S p n) (hn : n < 2147483648) {v : Int32} (h : Q none (rowN M p n (fun _ => v)) L) : RX xs S md_JArrays_fill 0 [.ref p, .int v] [] M L Q := by
  refine L_JArrays_fill_0 ha ?_
  have key : ∀ k j, j + k = n → RX xs S md_JArrays_fill 5 [.ref p, .int v, .int (nI j), .int (Int32.ofNat n)] [] (rowN M p j (fun _ => v)) L Q := by
    intro k
    induction k with
    | zero =>
      intro j hj
      have : j = n := by omega
      subst this
      exact L_JArrays_fill_5 ha ⟨fun _ => h, fun c => absurd (Int32.le_refl _) c⟩
    | succ k ih =>
      intro j hj
      refine L_JArrays_fill_5 ha ⟨fun c => absurd ((nI_leI (a := n) (b := j) (by omega) (by omega)).mp c) (by omega), fun _ => ⟨vp_nI (by omega) hn, ?_⟩⟩
      rw [nI_cl (by omega), rowN_up _ _ _ _ rfl, nI_1]
      exact ih (j + 1) (by omega)
  have := key n 0 (by omega)
  rw [rowN_0] at this
  exact this
theorem s_Patch_cutTo {p q : Nat} (hp : isP S p) (hq : isP S q) (h : Q none (rowN M (p + 1) 20 (fun y => M (p + 1) y &&& M (q + 1) y)) L) : RX xs S md_Patch_cutTo 0 [.ref p, .ref q] [] M L Q := by
  refine L_Patch_cutTo_0 hp hq ?_
  have key : ∀ k j, j + k = 20 → RX xs S md_Patch_cutTo 2 [.ref p, .ref q, .int (nI j)] [] (rowN M (p + 1) j (fun y => M (p + 1) y &&& M (q + 1) y)) L Q := by
    intro k
    induction k with
    | zero =>
      intro j hj
      have : j = 20 := by omega
      subst this
      exact L_Patch_cutTo_2 hp hq ⟨fun _ => h, fun c => absurd (by decide) c⟩
    | succ k ih =>
      intro j hj
      refine L_Patch_cutTo_2 hp hq ⟨fun c => absurd ((nI_leI (a := 20) (b := j) (by omega) (by omega)).mp c) (by omega), fun _ => ⟨vp_nI (by omega) (by omega), ?_⟩⟩
      rw [nI_cl (by omega), rowN_ge _ _ _ (Nat.le_refl _), rowN_ge _ _ _ (Nat.le_refl _), rowN_up _ _ _ _ rfl, nI_1]
      exact ih (j + 1) (by omega)
  have := key 20 0 (by omega)
  rw [rowN_0] at this
  exact this
theorem s_Patch_turnOver {p q : Nat} (hp : isP S p) (hq : isP S q) (h : Q none (rowN M (p + 1) 20 (fun y => M (q + 1) y &&& (M (p + 1) y ^^^ (-1)))) L) : RX xs S md_Patch_turnOver 0 [.ref p, .ref q] [] M L Q := by
  refine L_Patch_turnOver_0 hp hq ?_
  have key : ∀ k j, j + k = 20 → RX xs S md_Patch_turnOver 2 [.ref p, .ref q, .int (nI j)] [] (rowN M (p + 1) j (fun y => M (q + 1) y &&& (M (p + 1) y ^^^ (-1)))) L Q := by
    intro k
    induction k with
    | zero =>
      intro j hj
      have : j = 20 := by omega
      subst this
      exact L_Patch_turnOver_2 hp hq ⟨fun _ => h, fun c => absurd (by decide) c⟩
    | succ k ih =>
      intro j hj
      refine L_Patch_turnOver_2 hp hq ⟨fun c => absurd ((nI_leI (a := 20) (b := j) (by omega) (by omega)).mp c) (by omega), fun _ => ⟨vp_nI (by omega) (by omega), ?_⟩⟩
      rw [nI_cl (by omega), rowN_ge _ _ _ (Nat.le_refl _), rowN_ge _ _ _ (Nat.le_refl _), rowN_up _ _ _ _ rfl, nI_1]
      exact ih (j + 1) (by omega)
  have := key 20 0 (by omega)
  rw [rowN_0] at this
  exact this
theorem s_Patch_copy {p q : Nat} (hp : isP S p) (hq : isP S q) (h : Q none (cpR M (p + 1) (q + 1) 20) L) : RX xs S md_Patch_copy 0 [.ref p, .ref q] [] M L Q := L_Patch_copy_0 hp hq h
theorem s_Patch_isEmpty {p : Nat} (hp : isP S p) (h : Q (some (.int (bI (∀ y, y < 20 → M (p + 1) y = 0)))) M L) : RX xs S md_Patch_isEmpty 0 [.ref p] [] M L Q := by
  refine L_Patch_isEmpty_0 hp ?_
  have key : ∀ k j, j + k = 20 → (∀ y, y < j → M (p + 1) y = 0) → RX xs S md_Patch_isEmpty 2 [.ref p, .int (nI j)] [] M L Q := by
    intro k
    induction k with
    | zero =>
      intro j hj hz
      have : j = 20 := by omega
      subst this
      exact L_Patch_isEmpty_2 hp ⟨fun _ => by rw [bI_t hz] at h; exact h, fun c => absurd (by decide) c⟩
    | succ k ih =>
      intro j hj hz
      refine L_Patch_isEmpty_2 hp ⟨fun c => absurd ((nI_leI (a := 20) (b := j) (by omega) (by omega)).mp c) (by omega), fun _ => ⟨vp_nI (by omega) (by omega), ?_⟩⟩
      rw [nI_cl (by omega), nI_1]
      refine ⟨fun c => ih (j + 1) (by omega) (fun y hy => ?_), fun c => ?_⟩
      · by_cases e : y = j
        · rw [e]; exact c
        · exact hz y (by omega)
      · rw [bI_f (fun q => c (q j (by omega)))] at h; exact h
  exact key 20 0 (by omega) (fun y hy => absurd hy (Nat.not_lt_zero y))
theorem s_Patch_meets {p q : Nat} (hp : isP S p) (hq : isP S q) (h : Q (some (.int (bI (¬ ∀ y, y < 20 → M (p + 1) y &&& M (q + 1) y = 0)))) M L) : RX xs S md_Patch_meets 0 [.ref p, .ref q] [] M L Q := by
  refine L_Patch_meets_0 hp hq ?_
  have key : ∀ k j, j + k = 20 → (∀ y, y < j → M (p + 1) y &&& M (q + 1) y = 0) → RX xs S md_Patch_meets 2 [.ref p, .ref q, .int (nI j)] [] M L Q := by
    intro k
    induction k with
    | zero =>
      intro j hj hz
      have : j = 20 := by omega
      subst this
      exact L_Patch_meets_2 hp hq ⟨fun _ => by rw [bI_f (fun q => q hz)] at h; exact h, fun c => absurd (by decide) c⟩
    | succ k ih =>
      intro j hj hz
      refine L_Patch_meets_2 hp hq ⟨fun c => absurd ((nI_leI (a := 20) (b := j) (by omega) (by omega)).mp c) (by omega), fun _ => ⟨vp_nI (by omega) (by omega), ?_⟩⟩
      rw [nI_cl (by omega), nI_1]
      refine ⟨fun c => ih (j + 1) (by omega) (fun y hy => ?_), fun c => ?_⟩
      · by_cases e : y = j
        · rw [e]; exact c
        · exact hz y (by omega)
      · rw [bI_t (fun q => c (q j (by omega)))] at h; exact h
  exact key 20 0 (by omega) (fun y hy => absurd hy (Nat.not_lt_zero y))
theorem s_Log_holdsWatch {w : Int32} {n : Nat} (hs : M 134 1 = nI n) (hn : n ≤ 40) (h : Q (some (.int (bI (∃ t, t < n ∧ M (136 + 5 * t) 3 = w)))) M L) : RX xs shL md_Log_holdsWatch 0 [.ref 134, .int w] [] M L Q := by
  refine L_Log_holdsWatch_0 ?_
  have key : ∀ k j, j + k = n → (∀ t, t < j → ¬ M (136 + 5 * t) 3 = w) → RX xs shL md_Log_holdsWatch 2 [.ref 134, .int w, .int (nI j)] [] M L Q := by
    intro k
    induction k with
    | zero =>
      intro j hj hz
      have : j = n := by omega
      subst this
      refine L_Log_holdsWatch_2 ⟨fun _ => ?_, fun c => absurd (by rw [hs]; exact Int32.le_refl _) c⟩
      rw [bI_f (fun ⟨t, h1, h2⟩ => hz t h1 h2)] at h; exact h
    | succ k ih =>
      intro j hj hz
      refine L_Log_holdsWatch_2 ⟨fun c => absurd ((nI_leI (a := n) (b := j) (by omega) (by omega)).mp (by rw [← hs]; exact c)) (by omega), fun _ => ⟨vp_nI (by omega) (by omega), ?_⟩⟩
      rw [nI_cl (by omega), nI_1]
      refine ⟨fun c => ?_, fun c => ih (j + 1) (by omega) (fun t ht => ?_)⟩
      · rw [bI_t ⟨j, by omega, c⟩] at h; exact h
      · by_cases e : t = j
        · rw [e]; exact c
        · exact hz t (by omega)
  exact key n 0 (by omega) (fun y hy => absurd hy (Nat.not_lt_zero y))
end SA

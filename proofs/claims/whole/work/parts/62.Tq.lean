/-! names read, in both -/
def hzG : Nat → Nat → Bool
  | 0, _ => false
  | k + 1, m => if m = 0 then false else if m % 6 = 0 then true else hzG k (m / 6)
def ltG : Nat → Nat → Nat
  | 0, _ => 0
  | k + 1, m => if m = 0 then 0 else 1 + ltG k (m / 6)
def pnG (v : Int32) : Nat → Nat → Int32
  | 0, _ => -1
  | k + 1, p => if namesT.getD p 0 = v then nI p else pnG v k (p + 1)
theorem pnG_t {v : Int32} {k p : Nat} (h : namesT.getD p 0 = v) : pnG v (k + 1) p = nI p := by simp only [pnG]; rw [if_pos h]
theorem pnG_f {v : Int32} {k p : Nat} (h : ¬ namesT.getD p 0 = v) : pnG v (k + 1) p = pnG v k (p + 1) := by simp only [pnG]; rw [if_neg h]
theorem hzG_0 {k m : Nat} (h : m = 0) : hzG (k + 1) m = false := by simp only [hzG]; rw [if_pos h]
theorem hzG_t {k m : Nat} (h : ¬ m = 0) (h2 : m % 6 = 0) : hzG (k + 1) m = true := by simp only [hzG]; rw [if_neg h, if_pos h2]
theorem hzG_f {k m : Nat} (h : ¬ m = 0) (h2 : ¬ m % 6 = 0) : hzG (k + 1) m = hzG k (m / 6) := by simp only [hzG]; rw [if_neg h, if_neg h2]
def nmN : List Nat := [1, 68, 44, 319, 8, 320, 80, 103, 2, 105, 92, 752, 20, 753, 128, 140, 3, 142, 130, 825, 22, 826, 166, 177, 4, 175, 154, 394, 10, 391, 46, 70]
/-- a beginning: some front of a name -/
def isBg (x : Nat) : Prop := ∃ p, p < 32 ∧ ∃ j, j < 4 ∧ 0 < nmN.getD p 0 / 6 ^ j ∧ nmN.getD p 0 / 6 ^ j = x
theorem nmI : ∀ p, p < 32 → namesT.getD p 0 = nI (nmN.getD p 0) ∧ nmN.getD p 0 < 1000 ∧ 0 < nmN.getD p 0 := by
  have h : (List.range 32).all (fun p => decide (namesT.getD p 0 = nI (nmN.getD p 0) ∧ nmN.getD p 0 < 1000 ∧ 0 < nmN.getD p 0)) = true := by decide +kernel
  intro p hp
  simpa using List.all_eq_true.mp h p (List.mem_range.mpr hp)
theorem div6 {m : Nat} (h : m < 2147483648) : nI m / 6 = nI (m / 6) := by
  apply i_eq
  rw [i_div (fun q => absurd q.2 (by decide)), i_nI h, i_nI (by omega)]
  show (m : Int).tdiv 6 = _
  rw [Int.tdiv_eq_ediv_of_nonneg (by omega)]
  omega
theorem mod6 {m : Nat} (h : m < 2147483648) : nI m - nI m / 6 * 6 = 0 ↔ m % 6 = 0 := by
  rw [div6 h, show nI (m / 6) * 6 = nI (m / 6 * 6) from nI_mul _ 6, nI_subN (by omega)]
  have e : m - m / 6 * 6 = m % 6 := by omega
  rw [e]
  exact ⟨fun q => by have := congrArg Int32.toInt q; rw [i_nI (by omega)] at this; have : ((m % 6 : Nat) : Int) = 0 := this; omega, fun q => by rw [q]; rfl⟩
theorem le0N {m : Nat} (h : m < 2147483648) : nI m ≤ 0 ↔ m = 0 := by
  rw [i_le, i_nI h]
  show (m : Int) ≤ 0 ↔ _
  omega
theorem lt_name : ∀ p, p < 32 → ltG 12 (nmN.getD p 0) ≤ 4 ∧ ∀ j, j < 4 → 0 < nmN.getD p 0 / 6 ^ j → ltG 12 (nmN.getD p 0 / 6 ^ j) + j = ltG 12 (nmN.getD p 0) := by
  have h : (List.range 32).all (fun p => decide (ltG 12 (nmN.getD p 0) ≤ 4) && (List.range 4).all (fun j => decide (0 < nmN.getD p 0 / 6 ^ j → ltG 12 (nmN.getD p 0 / 6 ^ j) + j = ltG 12 (nmN.getD p 0)))) = true := by decide +kernel
  intro p hp
  have := List.all_eq_true.mp h p (List.mem_range.mpr hp)
  rw [Bool.and_eq_true] at this
  refine ⟨by simpa using this.1, fun j hj => ?_⟩
  have := List.all_eq_true.mp this.2 j (List.mem_range.mpr hj)
  exact of_decide_eq_true this
theorem lt_pos {k m : Nat} (h : 0 < m) : 1 ≤ ltG (k + 1) m := by simp only [ltG]; rw [if_neg (by omega)]; omega
theorem lt_end : ∀ k m, m < 6 ^ k → m / 6 ^ ltG k m = 0 := by
  intro k
  induction k with
  | zero => intro m h; have : m = 0 := by simpa using h
            subst this; rfl
  | succ k ih =>
    intro m h
    by_cases e : m = 0
    · subst e; simp
    · have hk : m / 6 < 6 ^ k := by
        rw [Nat.pow_succ] at h
        exact Nat.div_lt_of_lt_mul (by omega)
      simp only [ltG]
      rw [if_neg e, Nat.pow_add, ← Nat.div_div_eq_div_mul]
      exact ih _ hk
theorem bg_front {x : Nat} (h : isBg x) (h6 : 0 < x / 6) : isBg (x / 6) := by
  obtain ⟨p, hp, j, hj, h1, rfl⟩ := h
  have e : nmN.getD p 0 / 6 ^ j / 6 = nmN.getD p 0 / 6 ^ (j + 1) := by rw [Nat.div_div_eq_div_mul, ← Nat.pow_succ]
  by_cases hj4 : j + 1 < 4
  · exact ⟨p, hp, j + 1, hj4, by rw [← e]; exact h6, e.symm⟩
  · have ej : j = 3 := by omega
    subst ej
    have l := (lt_name p hp).2 3 (by decide) h1
    have l4 := (lt_name p hp).1
    have b := (nmI p hp).2.1
    have : nmN.getD p 0 / 6 ^ 3 / 6 = 0 := by
      have : nmN.getD p 0 / 6 ^ 3 < 6 := by show nmN.getD p 0 / 216 < 6; omega
      omega
    omega
theorem bg_iff {x p : Nat} (hx : 0 < x) (hx2 : x < 2147483648) (hp : p < 32) : (ltG 12 x ≤ ltG 12 (nmN.getD p 0) ∧ nmN.getD p 0 / 6 ^ (ltG 12 (nmN.getD p 0) - ltG 12 x) = x) ↔ ∃ j, j < 4 ∧ 0 < nmN.getD p 0 / 6 ^ j ∧ nmN.getD p 0 / 6 ^ j = x := by
  have l4 := (lt_name p hp).1
  have lx : 1 ≤ ltG 12 x := lt_pos hx
  constructor
  · rintro ⟨h1, h2⟩
    exact ⟨_, by omega, by rw [h2]; exact hx, h2⟩
  · rintro ⟨j, hj, h1, h2⟩
    have l := (lt_name p hp).2 j hj h1
    rw [h2] at l
    refine ⟨by omega, ?_⟩
    rw [show ltG 12 (nmN.getD p 0) - ltG 12 x = j by omega]; exact h2
noncomputable def cbG : Nat → Nat → Nat
  | 0, _ => 0
  | k + 1, m => if m = 0 then 0 else (if bB (isBg m) then 1 else 0) + cbG k (m / 6)
noncomputable def ofG : Nat → Nat → Nat
  | 0, _ => 0
  | k + 1, m => if m = 0 then 0 else if bB (isBg m) then ltG (k + 1) m else ofG k (m / 6)
theorem cb_all : ∀ k m, (isBg m ∨ m = 0) → cbG k m = ltG k m := by
  intro k
  induction k with
  | zero => intro m _; rfl
  | succ k ih =>
    intro m h
    simp only [cbG, ltG]
    by_cases e : m = 0
    · rw [if_pos e, if_pos e]
    · rw [if_neg e, if_neg e]
      have hb : isBg m := by rcases h with h | h; exact h; exact absurd h e
      rw [ifB_t hb, ih (m / 6) ?_]
      by_cases z : m / 6 = 0
      · exact Or.inr z
      · exact Or.inl (bg_front hb (by omega))
theorem cb_of : ∀ k m, cbG k m = ofG k m := by
  intro k
  induction k with
  | zero => intro m; rfl
  | succ k ih =>
    intro m
    by_cases hb : isBg m
    · rw [cb_all (k + 1) m (Or.inl hb)]
      simp only [ofG]
      by_cases e : m = 0
      · rw [if_pos e]; simp only [ltG]; rw [if_pos e]
      · rw [if_neg e, ifB_t hb]
    · simp only [cbG, ofG]
      by_cases e : m = 0
      · rw [if_pos e, if_pos e]
      · rw [if_neg e, if_neg e, ifB_f hb, ifB_f hb, ih]; omega
theorem lt_step {k m : Nat} (h : m ≠ 0) : ltG (k + 1) m = 1 + ltG k (m / 6) := by simp only [ltG]; rw [if_neg h]
section TQ
variable {xs : List Int32} {S : List Shp} {M M0 : Mem} {L : Int64} {Q : Option Value → Mem → Int64 → Prop}
theorem c_hasZero {m : Nat} (hm : m < 2147483648) (hQ : Q (some (.int (b01 (hzG 12 m)))) M L) : RX xs S md_Compass_hasFigureZero 0 [.int (nI m)] [] M L Q := by
  have key : ∀ k m, m < 6 ^ k → m < 2147483648 → Q (some (.int (b01 (hzG k m)))) M L → RX xs S md_Compass_hasFigureZero 2 [.null, .int (nI m)] [] M L Q := by
    intro k
    induction k with
    | zero =>
      intro m h h2 hq
      have : m = 0 := by simpa using h
      subst this
      exact L_Compass_hasFigureZero_2 ⟨fun _ => hq, fun c => absurd (by decide) c⟩
    | succ k ih =>
      intro m h h2 hq
      simp only [hzG] at hq
      have hk : m / 6 < 6 ^ k := by
        rw [Nat.pow_succ] at h
        exact Nat.div_lt_of_lt_mul (by omega)
      refine L_Compass_hasFigureZero_2 ⟨fun c => ?_, fun c => ⟨fun z => ?_, fun z => ?_⟩⟩
      · rw [le0N h2] at c
        rw [if_pos c] at hq; exact hq
      · rw [le0N h2] at c
        rw [mod6 h2] at z
        rw [if_neg c, if_pos z] at hq; exact hq
      · rw [le0N h2] at c
        rw [mod6 h2] at z
        rw [if_neg c, if_neg z] at hq
        rw [div6 h2]
        exact ih (m / 6) hk (by omega) hq
  exact L_Compass_hasFigureZero_0 (key 12 m (by show m < 2176782336; omega) hm hQ)
theorem c_pointNamed {v : Int32} (hQ : Q (some (.int (pnG v 32 0))) M L) : RX xs S md_Compass_pointNamed 0 [.int v] [] M L Q := by
  have key : ∀ k p, p + k = 32 → Q (some (.int (pnG v k p))) M L → RX xs S md_Compass_pointNamed 2 [.int v, .int (nI p)] [] M L Q := by
    intro k
    induction k with
    | zero =>
      intro p hp hq
      have : p = 32 := by omega
      subst this
      exact L_Compass_pointNamed_2 ⟨fun _ => hq, fun c => absurd (by decide) c⟩
    | succ k ih =>
      intro p hp hq
      simp only [pnG] at hq
      refine L_Compass_pointNamed_2 ⟨fun c => absurd ((nI_leI (a := 32) (b := p) (by omega) (by omega)).mp c) (by omega), fun _ => ?_⟩
      rw [nI_cl (by omega), nI_1]
      refine ⟨vp_nI (by omega) (by omega), fun z => ?_, fun z => ih (p + 1) (by omega) ?_⟩
      · have z : namesT.getD p 0 = v := z
        rw [if_pos z] at hq; exact hq
      · have z : ¬ namesT.getD p 0 = v := z
        rw [if_neg z] at hq; exact hq
  exact L_Compass_pointNamed_0 (key 32 0 (by omega) hQ)
theorem c_isBeginning {x : Nat} (hx : 0 < x) (hx2 : x < 2147483648) (hQ : Q (some (.int (bI (isBg x)))) M L) : RX xs S md_Compass_isBeginning 0 [.int (nI x)] [] M L Q := by
  have yes : isBg x → Q (some (.int 1)) M L := fun h => by rw [bI_t h] at hQ; exact hQ
  have no : ¬ isBg x → Q (some (.int 0)) M L := fun h => by rw [bI_f h] at hQ; exact hQ
  have row : ∀ p, p < 32 → ((¬ ∃ j, j < 4 ∧ 0 < nmN.getD p 0 / 6 ^ j ∧ nmN.getD p 0 / 6 ^ j = x) → RX xs S md_Compass_isBeginning 2 [.int (nI x), .int (nI (p + 1)), .null] [] M L Q) → ∀ k j, j + k = 4 → (∀ i, i < j → ¬ nmN.getD p 0 / 6 ^ i = x) → RX xs S md_Compass_isBeginning 14 [.int (nI x), .int (nI p), .int (nI (nmN.getD p 0 / 6 ^ j))] [] M L Q := by
    intro p hp nxt k
    have b := (nmI p hp).2.1
    induction k with
    | zero =>
      intro j hj nf
      have : j = 4 := by omega
      subst this
      have e : nmN.getD p 0 / 6 ^ 4 = 0 := by show nmN.getD p 0 / 1296 = 0; omega
      rw [e]
      refine L_Compass_isBeginning_14 ⟨fun _ => ?_, fun c => absurd (by decide) c⟩
      rw [nI_1]
      exact nxt (fun ⟨i, q1, q2, q3⟩ => nf i q1 q3)
    | succ k ih =>
      intro j hj nf
      have bl : nmN.getD p 0 / 6 ^ j ≤ nmN.getD p 0 := Nat.div_le_self _ _
      refine L_Compass_isBeginning_14 ⟨fun c => ?_, fun c => ⟨fun z => ?_, fun z => ?_⟩⟩
      · rw [le0N (by omega)] at c
        rw [nI_1]
        refine nxt (fun ⟨i, q1, q2, q3⟩ => ?_)
        by_cases e : i < j
        · exact nf i e q3
        · have : nmN.getD p 0 / 6 ^ i = nmN.getD p 0 / 6 ^ j / 6 ^ (i - j) := by rw [Nat.div_div_eq_div_mul, ← Nat.pow_add]; congr 2; omega
          rw [this, c, Nat.zero_div] at q2; omega
      · rw [le0N (by omega)] at c
        refine yes ⟨p, hp, j, by omega, Nat.pos_of_ne_zero c, ?_⟩
        have := congrArg Int32.toInt z
        rw [i_nI (by omega), i_nI (by omega)] at this
        omega
      · rw [div6 (by omega), show nmN.getD p 0 / 6 ^ j / 6 = nmN.getD p 0 / 6 ^ (j + 1) by rw [Nat.div_div_eq_div_mul, ← Nat.pow_succ]]
        refine ih (j + 1) (by omega) (fun i hi e => ?_)
        by_cases ei : i = j
        · subst ei; exact z (by rw [e])
        · exact nf i (by omega) e
  have all : ∀ k p, p + k = 32 → (∀ p', p' < p → ¬ ∃ j, j < 4 ∧ 0 < nmN.getD p' 0 / 6 ^ j ∧ nmN.getD p' 0 / 6 ^ j = x) → RX xs S md_Compass_isBeginning 2 [.int (nI x), .int (nI p), .null] [] M L Q := by
    intro k
    induction k with
    | zero =>
      intro p hp nf
      have : p = 32 := by omega
      subst this
      exact L_Compass_isBeginning_2 ⟨fun _ => no (fun ⟨p, h1, h2⟩ => nf p h1 h2), fun c => absurd (by decide) c⟩
    | succ k ih =>
      intro p hp nf
      refine L_Compass_isBeginning_2 ⟨fun c => absurd ((nI_leI (a := 32) (b := p) (by omega) (by omega)).mp c) (by omega), fun _ => ⟨vp_nI (by omega) (by omega), ?_⟩⟩
      have e : (roT xs 1).getD (nI p).toNatClampNeg 0 = nI (nmN.getD p 0 / 6 ^ 0) := by
        rw [nI_cl (by omega), Nat.pow_zero, Nat.div_one]
        exact (nmI p (by omega)).1
      rw [e]
      refine row p (by omega) (fun q => ih (p + 1) (by omega) (fun p' hp' => ?_)) 4 0 (by omega) (fun i hi => by omega)
      by_cases ep : p' = p
      · subst ep; exact q
      · exact nf p' (by omega)
  exact L_Compass_isBeginning_0 (all 32 0 (by omega) (fun p hp => by omega))
theorem c_letters {m : Nat} (hm : m < 2147483648) (hQ : Q (some (.int (nI (cbG 12 m)))) M L) : RX xs S md_Compass_lettersThatBegin 0 [.int (nI m)] [] M L Q := by
  have key : ∀ k m c, m < 6 ^ k → m < 2147483648 → Q (some (.int (nI (c + cbG k m)))) M L → RX xs S md_Compass_lettersThatBegin 4 [.null, .int (nI c), .int (nI m)] [] M L Q := by
    intro k
    induction k with
    | zero =>
      intro m c h h2 hq
      have : m = 0 := by simpa using h
      subst this
      exact L_Compass_lettersThatBegin_4 ⟨fun _ => hq, fun c => absurd (by decide) c⟩
    | succ k ih =>
      intro m c h h2 hq
      simp only [cbG] at hq
      have hk : m / 6 < 6 ^ k := by
        rw [Nat.pow_succ] at h
        exact Nat.div_lt_of_lt_mul (by omega)
      refine L_Compass_lettersThatBegin_4 ⟨fun c => ?_, fun z => ?_⟩
      · rw [le0N h2] at c
        rw [if_pos c] at hq; exact hq
      · rw [le0N h2] at z
        rw [if_neg z] at hq
        refine c_isBeginning (by omega) h2 ⟨_, rfl, fun e => ?_, fun e => ?_⟩
        · rw [ifB_f (bI_p0 e), Nat.zero_add] at hq
          rw [div6 h2]
          exact ih (m / 6) c hk (by omega) hq
        · rw [ifB_t (bI_p1 e), ← Nat.add_assoc] at hq
          rw [div6 h2, nI_1]
          exact ih (m / 6) (c + 1) hk (by omega) hq
  have := key 12 m 0 (by show m < 2176782336; omega) hm (by rw [Nat.zero_add]; exact hQ)
  exact L_Compass_lettersThatBegin_0 this
theorem m_lettersOf {m : Nat} (hm : m < 2147483648) (hQ : Q (some (.int (nI (ltG 12 m)))) M L) : RX xs S md_Mod_lettersOf 0 [.int (nI m)] [] M L Q := by
  have key : ∀ k m c, m < 6 ^ k → m < 2147483648 → Q (some (.int (nI (c + ltG k m)))) M L → RX xs S md_Mod_lettersOf 4 [.null, .int (nI c), .int (nI m)] [] M L Q := by
    intro k
    induction k with
    | zero =>
      intro m c h h2 hq
      have : m = 0 := by simpa using h
      subst this
      exact L_Mod_lettersOf_4 ⟨fun _ => hq, fun c => absurd (by decide) c⟩
    | succ k ih =>
      intro m c h h2 hq
      simp only [ltG] at hq
      have hk : m / 6 < 6 ^ k := by
        rw [Nat.pow_succ] at h
        exact Nat.div_lt_of_lt_mul (by omega)
      refine L_Mod_lettersOf_4 ⟨fun c => ?_, fun z => ?_⟩
      · rw [le0N h2] at c
        rw [if_pos c] at hq; exact hq
      · rw [le0N h2] at z
        rw [if_neg z, ← Nat.add_assoc] at hq
        rw [div6 h2, nI_1]
        exact ih (m / 6) (c + 1) hk (by omega) hq
  have := key 12 m 0 (by show m < 2176782336; omega) hm (by rw [Nat.zero_add]; exact hQ)
  exact L_Mod_lettersOf_0 this
theorem m_cutOff {m c : Nat} (hm : m < 2147483648) (hc : c < 1000) (hQ : Q (some (.int (nI (m / 6 ^ c)))) M L) : RX xs S md_Mod_cutOff 0 [.int (nI m), .int (nI c)] [] M L Q := by
  have key : ∀ k j, j + k = c → RX xs S md_Mod_cutOff 4 [.null, .int (nI c), .int (nI (m / 6 ^ j)), .int (nI j)] [] M L Q := by
    intro k
    induction k with
    | zero =>
      intro j hj
      have : j = c := by omega
      subst this
      exact L_Mod_cutOff_4 ⟨fun _ => hQ, fun c => absurd (Int32.le_refl _) c⟩
    | succ k ih =>
      intro j hj
      have bl : m / 6 ^ j ≤ m := Nat.div_le_self _ _
      refine L_Mod_cutOff_4 ⟨fun z => absurd ((nI_leI (a := c) (b := j) (by omega) (by omega)).mp z) (by omega), fun _ => ?_⟩
      rw [div6 (by omega), nI_1, show m / 6 ^ j / 6 = m / 6 ^ (j + 1) by rw [Nat.div_div_eq_div_mul, ← Nat.pow_succ]]
      exact ih (j + 1) (by omega)
  have := key c 0 (by omega)
  rw [Nat.pow_zero, Nat.div_one] at this
  exact L_Mod_cutOff_0 this
theorem m_begins (hnm : ∀ k, k < 32 → M 517 k = namesT.getD k 0) {x : Nat} (hx : 0 < x) (hx2 : x < 2147483648) (hQ : Q (some (.int (bI (isBg x)))) M L) : RX xs shL md_Mod_begins 0 [.ref 516, .int (nI x)] [] M L Q := by
  have yes : isBg x → Q (some (.int 1)) M L := fun h => by rw [bI_t h] at hQ; exact hQ
  have no : ¬ isBg x → Q (some (.int 0)) M L := fun h => by rw [bI_f h] at hQ; exact hQ
  have lb : ∀ m, ltG 12 m ≤ 12 := by
    have : ∀ k m, ltG k m ≤ k := by
      intro k
      induction k with
      | zero => intro m; exact Nat.le_refl _
      | succ k ih => intro m; simp only [ltG]; split; omega; have := ih (m / 6); omega
    exact this 12
  have all : ∀ k p, p + k = 32 → (∀ p', p' < p → ¬ ∃ j, j < 4 ∧ 0 < nmN.getD p' 0 / 6 ^ j ∧ nmN.getD p' 0 / 6 ^ j = x) → RX xs shL md_Mod_begins 7 [.ref 516, .int (nI x), .int (nI (ltG 12 x)), .int (nI p), .null] [] M L Q := by
    intro k
    induction k with
    | zero =>
      intro p hp nf
      have : p = 32 := by omega
      subst this
      exact L_Mod_begins_7 ⟨fun _ => no (fun ⟨p, h1, h2⟩ => nf p h1 h2), fun c => absurd (by decide) c⟩
    | succ k ih =>
      intro p hp nf
      obtain ⟨n1, n2, n3⟩ := nmI p (by omega)
      have nxt : (¬ ∃ j, j < 4 ∧ 0 < nmN.getD p 0 / 6 ^ j ∧ nmN.getD p 0 / 6 ^ j = x) → RX xs shL md_Mod_begins 7 [.ref 516, .int (nI x), .int (nI (ltG 12 x)), .int (nI (p + 1)), .null] [] M L Q := fun q => ih (p + 1) (by omega) (fun p' hp' => by
        by_cases ep : p' = p
        · subst ep; exact q
        · exact nf p' (by omega))
      refine L_Mod_begins_7 ⟨fun c => absurd ((nI_leI (a := 32) (b := p) (by omega) (by omega)).mp c) (by omega), fun _ => ⟨vp_nI (by omega) (by omega), ?_⟩⟩
      rw [nI_cl (by omega), hnm p (by omega), n1, nI_1]
      refine m_lettersOf (by omega) ⟨_, rfl, ?_⟩
      have l1 := lb x
      have l2 := lb (nmN.getD p 0)
      have bi := bg_iff hx hx2 (p := p) (by omega)
      have ed : (nI (ltG 12 (nmN.getD p 0)) - nI (ltG 12 x)).toInt = (ltG 12 (nmN.getD p 0) : Int) - ltG 12 x := by
        rw [i_sub (by rw [i_nI (by omega), i_nI (by omega)]; omega) (by rw [i_nI (by omega), i_nI (by omega)]; omega), i_nI (by omega), i_nI (by omega)]
      refine ⟨fun c => nxt (fun q => ?_), fun c => ?_⟩
      · rw [i_lt, ed] at c
        have c : (ltG 12 (nmN.getD p 0) : Int) - ltG 12 x < 0 := c
        have := (bi.mpr q).1
        omega
      · rw [i_lt, ed] at c
        have c : ¬ ((ltG 12 (nmN.getD p 0) : Int) - ltG 12 x < 0) := c
        rw [nI_subN (by omega), hnm p (by omega), n1]
        refine m_cutOff (by omega) (by omega) ⟨_, rfl, fun z => ?_, fun z => nxt (fun q => z ?_)⟩
        · have z : nI (nmN.getD p 0 / 6 ^ (ltG 12 (nmN.getD p 0) - ltG 12 x)) = nI x := z
          have bl : nmN.getD p 0 / 6 ^ (ltG 12 (nmN.getD p 0) - ltG 12 x) ≤ nmN.getD p 0 := Nat.div_le_self _ _
          have := congrArg Int32.toInt z
          rw [i_nI (by omega), i_nI (by omega)] at this
          exact yes ⟨p, by omega, bi.mp ⟨by omega, by omega⟩⟩
        · rw [(bi.mpr q).2]
  exact L_Mod_begins_0 (m_lettersOf hx2 ⟨_, rfl, all 32 0 (by omega) (fun p hp => by omega)⟩)
noncomputable def readF (v : Int32) : Int32 := if v < 1 then -102 else if hzG 12 v.toNatClampNeg = true then -102 else if pnG v 32 0 = -1 then (-1000) - nI (ofG 12 v.toNatClampNeg) else pnG v 32 0
theorem c_read {v : Int32} (hQ : Q (some (.int (readF v))) M L) : RX xs shL md_Peg_read 0 [.ref 0, .int v] [] M L Q := by
  unfold readF at hQ
  refine L_Peg_read_0 ⟨fun c => ?_, fun c => ?_⟩
  · rw [if_pos c] at hQ; exact hQ
  rw [if_neg c] at hQ
  have hv : v = nI v.toNatClampNeg := by
    rw [i_lt] at c
    have c : ¬ v.toInt < 1 := c
    apply i_eq
    have := i_hi v
    rw [i_nI (by have := clampI (x := v) (by omega); omega)]
    exact (clampI (by omega)).symm
  have hm : v.toNatClampNeg < 2147483648 := by
    have := i_hi v
    rw [i_lt] at c
    have c : ¬ v.toInt < 1 := c
    have := clampI (x := v) (by omega)
    omega
  generalize v.toNatClampNeg = m at *
  subst hv
  refine c_hasZero hm ⟨_, rfl, fun z => ?_, fun z => ?_⟩
  · rw [if_neg (by rw [b01_0.mp z]; decide)] at hQ
    refine c_pointNamed ⟨_, rfl, fun e => ?_, fun e => ?_⟩
    · rw [if_pos e] at hQ
      refine c_letters hm ⟨_, rfl, ?_⟩
      rw [cb_of]; exact hQ
    · rw [if_neg e] at hQ; exact hQ
  · rw [if_pos (by cases e : hzG 12 m with
      | true => rfl
      | false => rw [e] at z; exact absurd rfl z)] at hQ
    exact hQ
theorem m_read (hnm : ∀ k, k < 32 → M 517 k = namesT.getD k 0) {v : Int32} (hQ : Q (some (.int (readF v))) M L) : RX xs shL md_Mod_read 0 [.ref 516, .int v] [] M L Q := by
  unfold readF at hQ
  refine L_Mod_read_0 ⟨fun c => ?_, fun c => ?_⟩
  · rw [i_le] at c
    have c : 1 ≤ v.toInt := c
    rw [if_neg (by rw [i_lt]; show ¬ v.toInt < 1; omega)] at hQ
    have cl := clampI (x := v) (by omega)
    have hi := i_hi v
    have hm : v.toNatClampNeg < 2147483648 := by omega
    have hm1 : 1 ≤ v.toNatClampNeg := by omega
    have hv : v = nI v.toNatClampNeg := i_eq (by rw [i_nI hm]; exact cl.symm)
    generalize v.toNatClampNeg = m at *
    subst hv
    -- no name: its letters
    have off : ∀ k o, m / 6 ^ o < 6 ^ k → k + o = 12 → ltG 12 m = o + ltG k (m / 6 ^ o) → Q (some (.int ((-1000) - nI (ofG k (m / 6 ^ o))))) M L → RX xs shL md_Mod_read 65 [.ref 516, .int (nI m), .int (nI (ltG 12 m)), .int (nI o)] [] M L Q := by
      intro k
      induction k with
      | zero =>
        intro o h1 h2 h3 hq
        have e : m / 6 ^ o = 0 := by simpa using h1
        have e2 : ltG 12 m = o := by rw [h3]; rfl
        rw [e2]
        refine L_Mod_read_65 ⟨fun _ => ?_, fun c => absurd (Int32.le_refl _) c⟩
        rw [nI_subN (Nat.le_refl _), Nat.sub_self]
        exact hq
      | succ k ih =>
        intro o h1 h2 h3 hq
        have bl : m / 6 ^ o ≤ m := Nat.div_le_self _ _
        have e6 : m / 6 ^ o / 6 = m / 6 ^ (o + 1) := by rw [Nat.div_div_eq_div_mul, ← Nat.pow_succ]
        simp only [ofG] at hq
        by_cases z : m / 6 ^ o = 0
        · have e2 : ltG 12 m = o := by rw [h3, z]; rfl
          rw [if_pos z] at hq
          rw [e2]
          refine L_Mod_read_65 ⟨fun _ => ?_, fun c => absurd (Int32.le_refl _) c⟩
          rw [nI_subN (Nat.le_refl _), Nat.sub_self]
          exact hq
        · rw [if_neg z] at hq
          have ls := lt_step (k := k) z
          have hk : m / 6 ^ o / 6 < 6 ^ k := by
            rw [Nat.pow_succ] at h1
            exact Nat.div_lt_of_lt_mul (by omega)
          have l12 : ltG 12 m ≤ 12 := by
            have : ∀ k m, ltG k m ≤ k := by
              intro k
              induction k with
              | zero => intro m; exact Nat.le_refl _
              | succ k ih => intro m; simp only [ltG]; split; omega; have := ih (m / 6); omega
            exact this 12 m
          refine L_Mod_read_65 ⟨fun c => ?_, fun _ => ?_⟩
          · rw [nI_leI (by omega) (by omega)] at c; omega
          refine m_cutOff hm (by omega) ⟨_, rfl, m_begins hnm (Nat.pos_of_ne_zero z) (Nat.lt_of_le_of_lt bl hm) ⟨_, rfl, fun e => ?_, fun e => ?_⟩⟩
          · rw [ifB_f (bI_p0 e), e6] at hq
            rw [nI_1]
            rw [e6] at hk ls
            exact ih (o + 1) hk (by omega) (by omega) hq
          · rw [ifB_t (bI_p1 e)] at hq
            rw [nI_subN (by omega), show ltG 12 m - o = ltG (k + 1) (m / 6 ^ o) by omega]
            exact hq
    have pn : ∀ k p, p + k = 32 → Q (some (.int (if pnG (nI m) k p = -1 then (-1000) - nI (ofG 12 m) else pnG (nI m) k p))) M L → RX xs shL md_Mod_read 34 [.ref 516, .int (nI m), .int (nI p), .null] [] M L Q := by
      intro k
      induction k with
      | zero =>
        intro p hp hq
        have : p = 32 := by omega
        subst this
        refine L_Mod_read_34 ⟨fun _ => m_lettersOf hm ⟨_, rfl, ?_⟩, fun c => absurd (by decide) c⟩
        refine off 12 0 (by rw [Nat.pow_zero, Nat.div_one]; show m < 2176782336; omega) (by omega) (by rw [Nat.pow_zero, Nat.div_one, Nat.zero_add]) ?_
        rw [Nat.pow_zero, Nat.div_one]
        exact hq
      | succ k ih =>
        intro p hp hq
        refine L_Mod_read_34 ⟨fun c => absurd ((nI_leI (a := 32) (b := p) (by omega) (by omega)).mp c) (by omega), fun _ => ?_⟩
        rw [nI_cl (by omega), nI_1, hnm p (by omega)]
        refine ⟨vp_nI (by omega) (by omega), fun z => ?_, fun z => ih (p + 1) (by omega) ?_⟩
        · rw [pnG_t z, if_neg (nI_m1 (by omega))] at hq; exact hq
        · rw [pnG_f z] at hq; exact hq
    have hz : ∀ k i, i < 6 ^ k → i < 2147483648 → Q (some (.int (if hzG k i = true then -102 else if pnG (nI m) 32 0 = -1 then (-1000) - nI (ofG 12 m) else pnG (nI m) 32 0))) M L → RX xs shL md_Mod_read 10 [.ref 516, .int (nI m), .int (nI i), .null] [] M L Q := by
      intro k
      induction k with
      | zero =>
        intro i h h2 hq
        have : i = 0 := by simpa using h
        subst this
        rw [if_neg (by decide)] at hq
        exact L_Mod_read_10 ⟨fun _ => pn 32 0 (by omega) hq, fun c => absurd (by decide) c⟩
      | succ k ih =>
        intro i h h2 hq
        have hk : i / 6 < 6 ^ k := by
          rw [Nat.pow_succ] at h
          exact Nat.div_lt_of_lt_mul (by omega)
        refine L_Mod_read_10 ⟨fun c => ?_, fun c => ⟨fun z => ?_, fun z => ?_⟩⟩
        · rw [le0N h2] at c
          rw [hzG_0 c, if_neg (by decide)] at hq
          exact pn 32 0 (by omega) hq
        · rw [le0N h2] at c
          rw [mod6 h2] at z
          rw [hzG_t c z, if_pos rfl] at hq; exact hq
        · rw [le0N h2] at c
          rw [mod6 h2] at z
          rw [hzG_f c z] at hq
          rw [div6 h2]
          exact ih (i / 6) hk (by omega) hq
    exact hz 12 m (by show m < 2176782336; omega) hm hQ
  · rw [if_pos (by rw [i_lt]; rw [i_le] at c; have c : ¬ 1 ≤ v.toInt := c; show v.toInt < 1; omega)] at hQ
    exact hQ
end TQ

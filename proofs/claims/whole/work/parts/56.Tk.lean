/-! courses in the class: aground, sighted -/
def nbP (N : Nat → Nat → Bool) (x y : Nat) (i k : Int) : Prop := 0 ≤ (x : Int) + i ∧ (0 ≤ (y : Int) + k ∧ (y : Int) + k ≤ 19) ∧ N ((x : Int) + i).toNat ((y : Int) + k).toNat = true
def agP (N : Nat → Nat → Bool) (W E So No : Int) (x y : Nat) : Prop := ∃ i k : Int, W ≤ i ∧ i ≤ E ∧ So ≤ k ∧ k ≤ No ∧ nbP N x y i k
def sgP (N : Nat → Nat → Bool) (W E So No : Int) (x y : Nat) : Prop := ∀ i k : Int, W ≤ i → i ≤ E → So ≤ k → k ≤ No → nbP N x y i k
theorem shw_20 {M : Mem} {p w h : Nat} {A : Nat → Nat → Bool} (hA : shw M p A) (hin : inC w h A) (w20 : w ≤ 20) : ∀ x y, y < 20 → 20 ≤ x → gp M p x y = false := fun x y hy hx => by
  rw [hA y hy x]
  cases e : A x y with
  | false => rfl
  | true => have := (hin x y hy e).1; omega
theorem i_add1 {v : Int32} (h : v.toInt ≤ 1000000) : (v + 1).toInt = v.toInt + 1 := by
  have := i_lo v
  exact i_add (by show _ ≤ _ + (1 : Int); omega) (by show _ + (1 : Int) < _; omega)
theorem and0 {a b : Int32} : a &&& b = 0 ↔ ∀ x, x < 32 → ¬ (bt a x = true ∧ bt b x = true) := by
  constructor
  · intro h x hx q
    have := congrArg (fun z => bt z x) h
    simp only [b_and, b_0, q.1, q.2] at this
    cases this
  · intro h
    apply b_ext
    intro i hi
    rw [b_and, b_0]
    cases e1 : bt a i <;> cases e2 : bt b i <;> first | rfl | exact absurd ⟨e1, e2⟩ (h i hi)
section TK
variable {xs : List Int32} {M M0 : Mem} {L : Int64} {Q : Option Value → Mem → Int64 → Prop}
theorem c_aground {w h : Nat} (hC : CH M w h) {A N : Nat → Nat → Bool} (hA : shw M 513 A) (hin : inC w h A) (hN : shw M 130 N) (hNin : inC w h N) (hb : ∀ j, j < 4 → -400000 ≤ (M 515 j).toInt ∧ (M 515 j).toInt ≤ 400000)
    (hQ : Q (some (.int (bI (∃ x y, y < 20 ∧ A x y = true ∧ agP N (M 515 0).toInt (M 515 1).toInt (M 515 2).toInt (M 515 3).toInt x y)))) M L) : RX xs shL md_Voyage_isOneAground 0 [.ref 510] [] M L Q := by
  obtain ⟨c1, c2, w4, w20, h4, h20⟩ := hC
  have b0 := hb 0 (by decide)
  have b1 := hb 1 (by decide)
  have b2 := hb 2 (by decide)
  have b3 := hb 3 (by decide)
  have hyes : (∃ x y, y < 20 ∧ A x y = true ∧ agP N (M 515 0).toInt (M 515 1).toInt (M 515 2).toInt (M 515 3).toInt x y) → Q (some (.int 1)) M L := fun q => by rw [bI_t q] at hQ; exact hQ
  have hno : ¬ (∃ x y, y < 20 ∧ A x y = true ∧ agP N (M 515 0).toInt (M 515 1).toInt (M 515 2).toInt (M 515 3).toInt x y) → Q (some (.int 0)) M L := fun q => by rw [bI_f q] at hQ; exact hQ
  -- one row
  have row : ∀ y, y < h → ((∀ x, A x y = true → ¬ agP N (M 515 0).toInt (M 515 1).toInt (M 515 2).toInt (M 515 3).toInt x y) → RX xs shL md_Voyage_isOneAground 2 [.ref 510, .int (nI (y + 1)), .null, .null] [] M L Q) → ∀ n : Nat, ∀ k : Int32, (M 515 2).toInt ≤ k.toInt → k.toInt ≤ 400001 → (M 515 3).toInt + 1 - k.toInt ≤ n → (∀ x, A x y = true → ∀ i k' : Int, (M 515 0).toInt ≤ i → i ≤ (M 515 1).toInt → (M 515 2).toInt ≤ k' → k' < k.toInt → ¬ nbP N x y i k') → RX xs shL md_Voyage_isOneAground 21 [.ref 510, .int (nI y), .int k, .null] [] M L Q := by
    intro y hy nxt n
    induction n with
    | zero =>
      intro k k1 k2 hn nf
      refine L_Voyage_isOneAground_21 ?_
      rw [nI_cl (by omega), nI_1]
      have done : RX xs shL md_Voyage_isOneAground 2 [.ref 510, .int (nI (y + 1)), .null, .null] [] M L Q := nxt (fun x hx ⟨i, k', q1, q2, q3, q4, q5⟩ => nf x hx i k' q1 q2 q3 (by omega) q5)
      exact ⟨vp_nI (by omega) (by omega), fun _ => done, fun _ => ⟨fun _ => done, fun c => absurd (by rw [i_lt]; omega) c⟩⟩
    | succ n ih =>
      intro k k1 k2 hn nf
      have inner : ∀ m : Nat, ∀ i : Int32, (M 515 0).toInt ≤ i.toInt → i.toInt ≤ 400001 → k.toInt ≤ (M 515 3).toInt → (M 515 1).toInt + 1 - i.toInt ≤ m → (∀ x, A x y = true → ∀ i' : Int, (M 515 0).toInt ≤ i' → i' < i.toInt → ¬ nbP N x y i' k.toInt) → RX xs shL md_Voyage_isOneAground 52 [.ref 510, .int (nI y), .int k, .int i] [] M L Q := by
        intro m
        induction m with
        | zero =>
          intro i i1 i2 hk hm nf2
          refine L_Voyage_isOneAground_52 ⟨fun _ => ih (k + 1) (by rw [i_add1 (by omega)]; omega) (by rw [i_add1 (by omega)]; omega) (by rw [i_add1 (by omega)]; omega) (fun x hx i' k' q1 q2 q3 q4 => ?_), fun c => absurd (by rw [i_lt]; omega) c⟩
          rw [i_add1 (by omega)] at q4
          by_cases e : k' = k.toInt
          · rw [e]; exact nf2 x hx i' q1 (by omega)
          · exact nf x hx i' k' q1 q2 q3 (by omega)
        | succ m ihm =>
          intro i i1 i2 hk hm nf2
          refine L_Voyage_isOneAground_52 ⟨fun c => ?_, fun c => ⟨vp_nI (by omega) (by omega), ?_⟩⟩
          · rw [i_lt] at c
            refine ih (k + 1) (by rw [i_add1 (by omega)]; omega) (by rw [i_add1 (by omega)]; omega) (by rw [i_add1 (by omega)]; omega) (fun x hx i' k' q1 q2 q3 q4 => ?_)
            rw [i_add1 (by omega)] at q4
            by_cases e : k' = k.toInt
            · rw [e]; exact nf2 x hx i' q1 (by omega)
            · exact nf x hx i' k' q1 q2 q3 (by omega)
          · rw [i_lt] at c
            have ey : (nI y + k).toInt = (y : Int) + k.toInt := by
              have := i_nI (n := y) (by omega)
              rw [i_add (by omega) (by omega), this]
            refine t_seenFrom isP_130 (shw_20 hN hNin w20) (by omega) (fun v hv => ⟨_, rfl, ?_⟩)
            rw [nI_cl (by omega)]
            have hit : ∀ x, A x y = true → (bt v x = true ↔ nbP N x y i.toInt k.toInt) := fun x hx => by
              have hx20 := (hin x y (by omega) hx).1
              rw [hv x (by omega), ey]
              unfold nbP
              refine and_congr_right fun q1 => and_congr_right fun q2 => ?_
              rw [hN _ (by omega)]
            refine ⟨fun z => ?_, fun z => ?_⟩
            · refine ihm (i + 1) (by rw [i_add1 (by omega)]; omega) (by rw [i_add1 (by omega)]; omega) hk (by rw [i_add1 (by omega)]; omega) (fun x hx i' q1 q2 => ?_)
              rw [i_add1 (by omega)] at q2
              by_cases e : i' = i.toInt
              · rw [e]
                intro q
                have hx20 := (hin x y (by omega) hx).1
                exact and0.mp z x (by omega) ⟨by rw [← hx]; exact (hA y (by omega) x), (hit x hx).mpr q⟩
              · exact nf2 x hx i' q1 (by omega)
            · have : ∃ x, x < 32 ∧ bt (M (513 + 1) y) x = true ∧ bt v x = true := Classical.byContradiction fun q => z (and0.mpr (fun x hx q2 => q ⟨x, hx, q2⟩))
              obtain ⟨x, -, x2, x3⟩ := this
              have hx : A x y = true := by rw [← hA y (by omega) x]; exact x2
              exact hyes ⟨x, y, by omega, hx, i.toInt, k.toInt, by omega, by omega, by omega, by omega, (hit x hx).mp x3⟩
      refine L_Voyage_isOneAground_21 ?_
      rw [nI_cl (by omega), nI_1]
      refine ⟨vp_nI (by omega) (by omega), fun z => nxt (fun x hx => ?_), fun _ => ⟨fun c => nxt (fun x hx ⟨i, k', q1, q2, q3, q4, q5⟩ => nf x hx i k' q1 q2 q3 (by rw [i_lt] at c; omega) q5), fun c => ?_⟩⟩
      · have : gp M 513 x y = false := by unfold gp; rw [z, b_0]
        rw [hA y (by omega) x, hx] at this; cases this
      · rw [i_lt] at c
        exact inner ((M 515 1).toInt + 1 - (M 515 0).toInt).toNat (M 515 0) (by omega) (by omega) (by omega) (by omega) (fun x hx i' q1 q2 => by omega)
  have all : ∀ r y, y + r = h → (∀ y', y' < y → ∀ x, A x y' = true → ¬ agP N (M 515 0).toInt (M 515 1).toInt (M 515 2).toInt (M 515 3).toInt x y') → RX xs shL md_Voyage_isOneAground 2 [.ref 510, .int (nI y), .null, .null] [] M L Q := by
    intro r
    induction r with
    | zero =>
      intro y hy nf
      have : y = h := by omega
      subst this
      refine L_Voyage_isOneAground_2 ⟨fun _ => hno (fun ⟨x, y', q1, q2, q3⟩ => nf y' (hin x y' q1 q2).2 x q2 q3), fun c => absurd ?_ c⟩
      rw [c2]; exact Int32.le_refl _
    | succ r ih =>
      intro y hy nf
      refine L_Voyage_isOneAground_2 ⟨fun c => ?_, fun _ => ?_⟩
      · rw [c2, nI_leI (by omega) (by omega)] at c; omega
      · refine row y (by omega) (fun q => ih (y + 1) (by omega) (fun y' hy' => ?_)) ((M 515 3).toInt + 1 - (M 515 2).toInt).toNat (M 515 2) (by omega) (by omega) (by omega) (fun x hx i k' q1 q2 q3 q4 => by omega)
        by_cases e : y' = y
        · subst e; exact q
        · exact nf y' (by omega)
  exact L_Voyage_isOneAground_0 (all h 0 (by omega) (fun y' hy' => by omega))
noncomputable def drS (A N : Nat → Nat → Bool) (W E So No : Int) (x y : Nat) : Bool := A x y && !bB (sgP N W E So No x y)
theorem c_drop {w h : Nat} (hC : CH M w h) {A N : Nat → Nat → Bool} (hA : shw M 513 A) (hin : inC w h A) (hN : shw M 511 N) (hNin : inC w h N) (hb : ∀ j, j < 4 → -400000 ≤ (M 515 j).toInt ∧ (M 515 j).toInt ≤ 400000)
    (hQ : Q none (setP M 513 (drS A N (M 515 0).toInt (M 515 1).toInt (M 515 2).toInt (M 515 3).toInt)) L) : RX xs shL md_Voyage_dropSighted 0 [.ref 510] [] M L Q := by
  obtain ⟨c1, c2, w4, w20, h4, h20⟩ := hC
  have b0 := hb 0 (by decide)
  have b1 := hb 1 (by decide)
  have b2 := hb 2 (by decide)
  have b3 := hb 3 (by decide)
  generalize e0 : (M 515 0).toInt = W at *
  generalize e1 : (M 515 1).toInt = E at *
  generalize e2 : (M 515 2).toInt = So at *
  generalize e3 : (M 515 3).toInt = No at *
  have row : ∀ y, y < h → ∀ M', (∀ b k, b ≠ 514 → M' b k = M b k) → shw M' 511 N → (∀ x, x < 32 → bt (M' 514 y) x = A x y) → (∀ v : Int32, (∀ x, x < 32 → bt v x = drS A N W E So No x y) → RX xs shL md_Voyage_dropSighted 2 [.ref 510, .int (nI (y + 1)), .null, .null, .null] [] (up M' 514 y v) L Q) → ∀ n : Nat, ∀ s k : Int32, So ≤ k.toInt → k.toInt ≤ 400001 → No + 1 - k.toInt ≤ n → (∀ x, x < 32 → (bt s x = true ↔ A x y = true ∧ ∀ i k' : Int, W ≤ i → i ≤ E → So ≤ k' → k' ≤ No → k' < k.toInt → nbP N x y i k')) → RX xs shL md_Voyage_dropSighted 31 [.ref 510, .int (nI y), .int s, .int k, .null] [] M' L Q := by
    intro y hy M' fr hN' hA' nxt n
    have f5 : ∀ j, M' 515 j = M 515 j := fun j => fr _ j (by decide)
    have fin : ∀ s k : Int32, (s = 0 ∨ No < k.toInt) → (∀ x, x < 32 → (bt s x = true ↔ A x y = true ∧ ∀ i k' : Int, W ≤ i → i ≤ E → So ≤ k' → k' ≤ No → k' < k.toInt → nbP N x y i k')) → RX xs shL md_Voyage_dropSighted 2 [.ref 510, .int (nI (y + 1)), .null, .null, .null] [] (up M' (513 + 1) y (M' (513 + 1) y &&& (s ^^^ (-1)))) L Q := by
      intro s k hk hs
      refine nxt _ (fun x hx => ?_)
      rw [b_and, bt_not _ hx, hA' x hx]
      unfold drS
      cases e : A x y with
      | false => rfl
      | true =>
        simp only [Bool.true_and]
        congr 1
        apply bool_iff
        rw [hs x hx, bB_iff, e]
        constructor
        · intro q
          rcases hk with hk | hk
          · have := (hs x hx).mpr ⟨e, q.2⟩
            rw [hk, b_0] at this; cases this
          · exact fun i k' q1 q2 q3 q4 => q.2 i k' q1 q2 q3 q4 (by omega)
        · exact fun q => ⟨rfl, fun i k' q1 q2 q3 q4 _ => q i k' q1 q2 q3 q4⟩
    have vp := vp_nI (k := y) (n := 20) (by omega) (by omega)
    have n3 : (M' 515 3).toInt = No := by rw [f5]; exact e3
    have n1 : (M' 515 1).toInt = E := by rw [f5]; exact e1
    have n0 : (M' 515 0).toInt = W := by rw [f5]; exact e0
    induction n with
    | zero =>
      intro s k k1 k2 hn hs
      refine L_Voyage_dropSighted_31 ?_
      rw [nI_cl (by omega), nI_1]
      exact ⟨fun z => ⟨vp, fin s k (Or.inl z) hs⟩, fun _ => ⟨fun _ => ⟨vp, fin s k (Or.inr (by omega)) hs⟩, fun c => absurd (by rw [i_lt]; omega) c⟩⟩
    | succ n ih =>
      intro s k k1 k2 hn hs
      have inner : k.toInt ≤ No → ∀ m : Nat, ∀ s i : Int32, W ≤ i.toInt → i.toInt ≤ 400001 → E + 1 - i.toInt ≤ m → (∀ x, x < 32 → (bt s x = true ↔ A x y = true ∧ ∀ i' k' : Int, W ≤ i' → i' ≤ E → So ≤ k' → k' ≤ No → (k' < k.toInt ∨ (k' = k.toInt ∧ i' < i.toInt)) → nbP N x y i' k')) → RX xs shL md_Voyage_dropSighted 55 [.ref 510, .int (nI y), .int s, .int k, .int i] [] M' L Q := by
        intro hk m
        have out : ∀ s i : Int32, E < i.toInt → (∀ x, x < 32 → (bt s x = true ↔ A x y = true ∧ ∀ i' k' : Int, W ≤ i' → i' ≤ E → So ≤ k' → k' ≤ No → (k' < k.toInt ∨ (k' = k.toInt ∧ i' < i.toInt)) → nbP N x y i' k')) → RX xs shL md_Voyage_dropSighted 31 [.ref 510, .int (nI y), .int s, .int (k + 1), .null] [] M' L Q := by
          intro s i hi hs
          refine ih s (k + 1) (by rw [i_add1 (by omega)]; omega) (by rw [i_add1 (by omega)]; omega) (by rw [i_add1 (by omega)]; omega) (fun x hx => (hs x hx).trans (and_congr_right fun _ => ?_))
          rw [i_add1 (by omega)]
          exact ⟨fun q i' k' q1 q2 q3 q4 q5 => q i' k' q1 q2 q3 q4 (by omega), fun q i' k' q1 q2 q3 q4 q5 => q i' k' q1 q2 q3 q4 (by omega)⟩
        induction m with
        | zero =>
          intro s i i1 i2 hm hs
          exact L_Voyage_dropSighted_55 ⟨fun _ => out s i (by omega) hs, fun c => absurd (by rw [i_lt]; omega) c⟩
        | succ m ihm =>
          intro s i i1 i2 hm hs
          refine L_Voyage_dropSighted_55 ⟨fun c => out s i (by rw [i_lt] at c; omega) hs, fun c => ?_⟩
          rw [i_lt] at c
          have ey : (nI y + k).toInt = (y : Int) + k.toInt := by
            have := i_nI (n := y) (by omega)
            rw [i_add (by omega) (by omega), this]
          refine t_seenFrom isP_511 (shw_20 hN' hNin w20) (by omega) (fun v hv => ⟨_, rfl, ?_⟩)
          refine ihm (s &&& v) (i + 1) (by rw [i_add1 (by omega)]; omega) (by rw [i_add1 (by omega)]; omega) (by rw [i_add1 (by omega)]; omega) (fun x hx => ?_)
          rw [b_and, Bool.and_eq_true, hs x hx, i_add1 (by omega)]
          constructor
          · rintro ⟨⟨p1, p2⟩, p3⟩
            refine ⟨p1, fun i' k' q1 q2 q3 q4 q5 => ?_⟩
            by_cases e : k' = k.toInt ∧ i' = i.toInt
            · rw [e.1, e.2]
              have hx20 := (hin x y (by omega) p1).1
              rw [hv x (by omega), ey] at p3
              unfold nbP
              refine ⟨p3.1, p3.2.1, ?_⟩
              rw [← hN' _ (by omega)]; exact p3.2.2
            · exact p2 i' k' q1 q2 q3 q4 (by omega)
          · rintro ⟨p1, p2⟩
            refine ⟨⟨p1, fun i' k' q1 q2 q3 q4 q5 => p2 i' k' q1 q2 q3 q4 (by omega)⟩, ?_⟩
            have hx20 := (hin x y (by omega) p1).1
            have q := p2 i.toInt k.toInt i1 (by omega) k1 hk (Or.inr ⟨rfl, by omega⟩)
            rw [hv x (by omega), ey]
            refine ⟨q.1, q.2.1, ?_⟩
            rw [hN' _ (by have := q.2.1; omega)]; exact q.2.2
      refine L_Voyage_dropSighted_31 ?_
      rw [nI_cl (by omega), nI_1]
      refine ⟨fun z => ⟨vp, fin s k (Or.inl z) hs⟩, fun _ => ⟨fun c => ⟨vp, fin s k (Or.inr (by rw [i_lt] at c; omega)) hs⟩, fun c => ?_⟩⟩
      rw [i_lt] at c
      refine inner (by omega) (E + 1 - W).toNat s (M' 515 0) (by omega) (by omega) (by omega) (fun x hx => (hs x hx).trans (and_congr_right fun _ => ?_))
      exact ⟨fun q i' k' q1 q2 q3 q4 q5 => q i' k' q1 q2 q3 q4 (by omega), fun q i' k' q1 q2 q3 q4 q5 => q i' k' q1 q2 q3 q4 (by omega)⟩
  have all : ∀ r y, y + r = h → RX xs shL md_Voyage_dropSighted 2 [.ref 510, .int (nI y), .null, .null, .null] [] (setP M 513 (fun x y' => if y' < y then drS A N W E So No x y' else A x y')) L Q := by
    intro r
    induction r with
    | zero =>
      intro y hy
      have : y = h := by omega
      subst this
      have es : setP M 513 (fun x y' => if y' < y then drS A N W E So No x y' else A x y') = setP M 513 (drS A N W E So No) := setP_congr _ _ (fun y' hy' x hx => by
        by_cases e : y' < y
        · rw [if_pos e]
        · rw [if_neg e]
          have : A x y' = false := by
            cases e2 : A x y' with
            | false => rfl
            | true => have := (hin x y' hy' e2).2; omega
          unfold drS
          rw [this]; rfl)
      rw [es]
      refine L_Voyage_dropSighted_2 ⟨fun _ => hQ, fun c => absurd ?_ c⟩
      rw [setP_o _ _ (by decide), c2]; exact Int32.le_refl _
    | succ r ih =>
      intro y hy
      refine L_Voyage_dropSighted_2 ⟨fun c => ?_, fun _ => ?_⟩
      · rw [setP_o _ _ (by decide), c2, nI_leI (by omega) (by omega)] at c; omega
      rw [nI_cl (by omega)]
      refine ⟨vp_nI (by omega) (by omega), ?_⟩
      have old : ∀ x, x < 32 → bt (setP M 513 (fun x y' => if y' < y then drS A N W E So No x y' else A x y') 514 y) x = A x y := fun x hx => by
        have := gp_set M 513 (fun x y' => if y' < y then drS A N W E So No x y' else A x y') hx (y := y) (by omega)
        rw [if_neg (by omega)] at this
        exact this
      have f5 : ∀ j, setP M 513 (fun x y' => if y' < y then drS A N W E So No x y' else A x y') 515 j = M 515 j := fun j => setP_o _ _ (by decide) j
      refine row y (by omega) _ (fun b k hb => setP_o _ _ hb k) (shw_fr hN (fun k => setP_o _ _ (by decide) k)) old (fun v hv => ?_) (No + 1 - So).toNat _ _ (by rw [f5]; omega) (by rw [f5]; omega) (by rw [f5]; omega) (fun x hx => ?_)
      · have es := up_setP (M := M) (p := 513) (j := y) (f := fun x y' => if y' < y then drS A N W E So No x y' else A x y') (g := fun x y' => if y' < y + 1 then drS A N W E So No x y' else A x y') (v := v) (by omega) (fun x hx => by rw [if_pos (by omega)]; exact hv x hx) (fun y' hne hy' x hx => by
          by_cases e : y' < y
          · rw [if_pos e, if_pos (by omega)]
          · rw [if_neg e, if_neg (by omega)])
        rw [show (514 : Nat) = 513 + 1 from rfl, es]
        exact ih (y + 1) (by omega)
      · rw [old x hx]
        refine ⟨fun q => ⟨q, fun i k' q1 q2 q3 q4 q5 => ?_⟩, fun q => q.1⟩
        rw [f5] at q5
        omega
  refine L_Voyage_dropSighted_0 ?_
  have := all h 0 (by omega)
  have es : setP M 513 (fun x y' => if y' < 0 then drS A N W E So No x y' else A x y') = M := by
    rw [setP_congr M 513 (g := gp M 513) (fun y' hy' x hx => by rw [if_neg (by omega), hA y' hy' x])]
    exact setP_self M 513
  rw [es] at this
  exact this
end TK

/-! courses: the class sails, the reference sees -/
theorem nb_land {M : Mem} (h20 : mh M ≤ 20) {x y : Nat} {i k : Int} : nbP (mLd M) x y i k ↔ mLI M (mw M) (mh M) (x + i) (y + k) := by
  unfold nbP mLd mLI
  rw [bB_iff]
  constructor
  · rintro ⟨q1, ⟨q2, q3⟩, q4, q5, q6⟩
    exact ⟨q1, by omega, q2, by omega, q6⟩
  · rintro ⟨q1, q2, q3, q4, q5⟩
    exact ⟨q1, ⟨q3, by omega⟩, by omega, by omega, q5⟩
theorem nb_near {M : Mem} (h20 : mh M ≤ 20) {x y : Nat} {i k r : Int} : nbP (nrB M r) x y i k ↔ (0 ≤ (x : Int) + i ∧ (x : Int) + i < mw M ∧ 0 ≤ (y : Int) + k ∧ (y : Int) + k < mh M) ∧ ldW (mLI M (mw M) (mh M)) (x + i) (y + k) r := by
  unfold nbP nrB
  constructor
  · rintro ⟨q1, ⟨q2, q3⟩, q4⟩
    have q5 : ((x : Int) + i).toNat < mw M ∧ ((y : Int) + k).toNat < mh M := rchA_in q4
    have := (near_eq (M := M) q5.1 q5.2 h20 (fun _ _ _ => rfl) r).mp q4
    rw [show ((((x : Int) + i).toNat : Nat) : Int) = x + i by omega, show ((((y : Int) + k).toNat : Nat) : Int) = y + k by omega] at this
    exact ⟨⟨q1, by omega, q2, by omega⟩, this⟩
  · rintro ⟨⟨q1, q2, q3, q4⟩, q5⟩
    refine ⟨q1, ⟨q3, by omega⟩, (near_eq (M := M) (by omega) (by omega) h20 (fun _ _ _ => rfl) r).mpr ?_⟩
    rw [show ((((x : Int) + i).toNat : Nat) : Int) = x + i by omega, show ((((y : Int) + k).toNat : Nat) : Int) = y + k by omega]
    exact q5
theorem nrB_in (M : Mem) (r : Int) : inC (mw M) (mh M) (nrB M r) := fun x y _ q => rchA_in q
theorem mLd_in (M : Mem) : inC (mw M) (mh M) (mLd M) := fun x y _ q => ⟨(bB_iff.mp q).1, (bB_iff.mp q).2.1⟩
section TM
variable {xs : List Int32} {M M0 : Mem} {L : Int64} {Q : Option Value → Mem → Int64 → Prop}
/-- the class's voyage is fitted out -/
def Vy (M0 M : Mem) (v d : Int32) (r : Int) : Prop := CH M (mw M0) (mh M0) ∧ shw M 130 (mLd M0) ∧ shw M 511 (nrB M0 r) ∧ M 510 4 = v ∧ M 510 5 = d
theorem Vy_fr {M0 M M' : Mem} {v d : Int32} {r : Int} (h : Vy M0 M v d r) (f : ∀ b k, b ≠ 514 → b ≠ 515 → M' b k = M b k) : Vy M0 M' v d r := by
  obtain ⟨⟨h1, h2, h3⟩, h4, h5, h6, h7⟩ := h
  exact ⟨⟨(f _ _ (by decide) (by decide)).trans h1, (f _ _ (by decide) (by decide)).trans h2, h3⟩, shw_fr h4 (fun k => f _ k (by decide) (by decide)), shw_fr h5 (fun k => f _ k (by decide) (by decide)), (f _ _ (by decide) (by decide)).trans h6, (f _ _ (by decide) (by decide)).trans h7⟩
theorem c_sighted {p v d : Int32} {r : Int} (hp : 0 ≤ p ∧ p ≤ 31) (hV : Vy M0 M v d r) {A : Nat → Nat → Bool} (hA : shw M 513 A) (hin : inC (mw M0) (mh M0) A) {T : Nat} (hT : T ≤ 96)
    (hQ : ∀ M', (∀ b k, b ≠ 514 → b ≠ 515 → M' b k = M b k) → Q (some (.int (nI (lft (agT M0 p v) (sgT M0 p v r) (dyT d) T 1 A)))) M' L) : RX xs shL md_Voyage_sightedFromLeft 0 [.ref 510, .int p, .int (nI T)] [] M L Q := by
  have key : ∀ k t A, t + k = T + 1 → 1 ≤ t → inC (mw M0) (mh M0) A → ∀ M', (∀ b k, b ≠ 514 → b ≠ 515 → M' b k = M b k) → shw M' 513 A → (∀ M', (∀ b k, b ≠ 514 → b ≠ 515 → M' b k = M b k) → Q (some (.int (nI (lft (agT M0 p v) (sgT M0 p v r) (dyT d) k t A)))) M' L) → RX xs shL md_Voyage_sightedFromLeft 2 [.ref 510, .int p, .int (nI T), .int (nI t), .null, .null] [] M' L Q := by
    intro k
    induction k with
    | zero =>
      intro t A ht t1 hin M' fr hA hq
      refine L_Voyage_sightedFromLeft_2 ⟨fun _ => hq M' fr, fun c => absurd ?_ c⟩
      rw [nI_ltI (by omega) (by omega)]; omega
    | succ k ih =>
      intro t A ht t1 hin M' fr hA hq
      have hV' := Vy_fr hV fr
      refine L_Voyage_sightedFromLeft_2 ⟨fun c => ?_, fun _ => ⟨hp, ?_⟩⟩
      · rw [nI_ltI (by omega) (by omega)] at c; omega
      rw [hV'.2.2.2.1, fdvd8000, fdvd8000, fdvd8000, fdvd8000]
      refine s_Reach_become isRe_515 ⟨_, rfl, ?_⟩
      have fr2 : ∀ b k, b ≠ 514 → b ≠ 515 → up (up (up (up M' 515 0 (bxW p v t)) 515 1 (bxE p v t)) 515 2 (bxS p v t)) 515 3 (bxN p v t) b k = M b k := fun b k h1 h2 => by
        rw [up_ne _ _ (fun e => h2 e.1), up_ne _ _ (fun e => h2 e.1), up_ne _ _ (fun e => h2 e.1), up_ne _ _ (fun e => h2 e.1)]; exact fr b k h1 h2
      have fr3 : ∀ b k, b ≠ 515 → up (up (up (up M' 515 0 (bxW p v t)) 515 1 (bxE p v t)) 515 2 (bxS p v t)) 515 3 (bxN p v t) b k = M' b k := fun b k h2 => by
        rw [up_ne _ _ (fun e => h2 e.1), up_ne _ _ (fun e => h2 e.1), up_ne _ _ (fun e => h2 e.1), up_ne _ _ (fun e => h2 e.1)]
      have e3 : up (up (up (up M' 515 0 (bxW p v t)) 515 1 (bxE p v t)) 515 2 (bxS p v t)) 515 3 (bxN p v t) 515 3 = bxN p v t := up_same _ _ _ _
      have e2 : up (up (up (up M' 515 0 (bxW p v t)) 515 1 (bxE p v t)) 515 2 (bxS p v t)) 515 3 (bxN p v t) 515 2 = bxS p v t := by rw [up_ne _ _ (by omega)]; exact up_same _ _ _ _
      have e1 : up (up (up (up M' 515 0 (bxW p v t)) 515 1 (bxE p v t)) 515 2 (bxS p v t)) 515 3 (bxN p v t) 515 1 = bxE p v t := by rw [up_ne _ _ (by omega), up_ne _ _ (by omega)]; exact up_same _ _ _ _
      have e0 : up (up (up (up M' 515 0 (bxW p v t)) 515 1 (bxE p v t)) 515 2 (bxS p v t)) 515 3 (bxN p v t) 515 0 = bxW p v t := by rw [up_ne _ _ (by omega), up_ne _ _ (by omega), up_ne _ _ (by omega)]; exact up_same _ _ _ _
      show RX xs shL md_Voyage_isOneAground 0 [.ref 510] [] (up (up (up (up M' 515 0 (bxW p v t)) 515 1 (bxE p v t)) 515 2 (bxS p v t)) 515 3 (bxN p v t)) L _
      generalize up (up (up (up M' 515 0 (bxW p v t)) 515 1 (bxE p v t)) 515 2 (bxS p v t)) 515 3 (bxN p v t) = M2 at *
      have hV2 := Vy_fr hV fr2
      have hA2 : shw M2 513 A := shw_fr hA (fun k => fr3 _ k (by decide))
      have hb : ∀ j, j < 4 → -400000 ≤ (M2 515 j).toInt ∧ (M2 515 j).toInt ≤ 400000 := by
        intro j hj
        obtain ⟨q0, q1, q2, q3⟩ := bx_b p v t
        match j, hj with
        | 0, _ => rw [e0]; exact q0
        | 1, _ => rw [e1]; exact q1
        | 2, _ => rw [e2]; exact q2
        | 3, _ => rw [e3]; exact q3
      refine c_aground hV2.1 hA2 hin hV2.2.1 (mLd_in M0) hb ⟨_, rfl, ?_⟩
      rw [hV2.2.2.2.2, e0, e1, e2, e3, nI_1]
      refine ⟨fun z => ?_, fun z => ?_⟩
      · have na : ¬ ∃ x y, y < 20 ∧ A x y = true ∧ agT M0 p v t x y := bI_p0 z
        refine ⟨fun c => ?_, fun c => ?_⟩
        · refine ih (t + 1) A (by omega) (by omega) hin M2 fr2 hA2 (fun M3 f3 => ?_)
          have := hq M3 f3
          rw [lft_x na (fun q => q c)] at this
          exact this
        · refine c_drop hV2.1 hA2 hin hV2.2.2.1 (nrB_in M0 r) hb ⟨rfl, ?_⟩
          rw [e0, e1, e2, e3]
          have eS : drS A (nrB M0 r) (bxW p v t).toInt (bxE p v t).toInt (bxS p v t).toInt (bxN p v t).toInt = fun x y => A x y && !bB (sgT M0 p v r t x y) := rfl
          rw [eS]
          have hin3 : inC (mw M0) (mh M0) (fun x y => A x y && !bB (sgT M0 p v r t x y)) := fun x y hy q => hin x y hy (Bool.and_eq_true _ _ ▸ q : _ ∧ _).1
          have s3 := shw_set (M := M2) (p := 513) hV2.1.2.2.2.1 hin3
          have f3 : ∀ b k, b ≠ 514 → b ≠ 515 → setP M2 513 (fun x y => A x y && !bB (sgT M0 p v r t x y)) b k = M b k := fun b k h1 h2 => by rw [setP_o _ _ h1]; exact fr2 b k h1 h2
          have emp : (∀ y, y < 20 → ∀ x, x < 32 → gp (setP M2 513 (fun x y => A x y && !bB (sgT M0 p v r t x y))) 513 x y = false) ↔ ¬ NE (fun x y => A x y && !bB (sgT M0 p v r t x y)) := by
            constructor
            · rintro q ⟨x, y, q1, q2⟩
              have q3 := (hin3 x y q1 q2).1
              have := q y q1 x (by have := hV2.1.2.2.2.1; omega)
              rw [s3 y q1 x, q2] at this; cases this
            · intro q y hy x hx
              rw [s3 y hy x]
              cases e : (A x y && !bB (sgT M0 p v r t x y)) with
              | false => exact e
              | true => exact absurd ⟨x, y, hy, e⟩ q
          refine ⟨fun c2 => ?_, fun c2 => ?_⟩
          · have := hq _ f3
            rw [lft_t na c (emp.mp c2)] at this
            exact this
          · refine ih (t + 1) _ (by omega) (by omega) hin3 _ f3 s3 (fun M3 f3 => ?_)
            have := hq M3 f3
            rw [lft_n na c (fun q => c2 (emp.mpr q))] at this
            exact this
      · have := hq M2 fr2
        rw [lft_0 (bI_p1 z)] at this
        exact this
  exact L_Voyage_sightedFromLeft_0 (key T 1 A (by omega) (by omega) hin M (fun _ _ _ _ => rfl) hA hQ)
/-- the reference -/
theorem m_seesAt (hG : GM M0) (hE : Eq0 M0 M) (hN : Ms0 M0 M) {p v d : Int32} {r : Nat} (hp : 0 ≤ p ∧ p ≤ 31) (hr : r ≤ 8) {x y : Nat} (hx : x < 20) (hy : y < 20) {T : Nat} (hT : T ≤ 96)
    (hQ : Q (some (.int (nI (seeG (agT M0 p v) (sgT M0 p v r) (dyT d) x y T 1)))) M L) : RX xs shL md_Mod_seesAt 0 [.ref 516, .int (nI x), .int (nI y), .int p, .int v, .int (nI T), .int d, .int (nI r)] [] M L Q := by
  have hC := MCH_fr hG hE
  have h20 : mh M0 ≤ 20 := hC.2.2.2.2.2
  have hTb : tabT M := fun k hk => (hE _ _ (ns_5 (by decide) (by decide))).trans (hG.2.2.2.2.2.1 k hk)
  have ex := i_nI (n := x) (by omega)
  have ey := i_nI (n := y) (by omega)
  have key : ∀ k t, t + k = T + 1 → 1 ≤ t → Q (some (.int (nI (seeG (agT M0 p v) (sgT M0 p v r) (dyT d) x y k t)))) M L → RX xs shL md_Mod_seesAt 3 [.ref 516, .int (nI x), .int (nI y), .int p, .int v, .int (nI T), .int d, .int (nI r), .int (nI t), .null, .null, .null] [] M L Q := by
    intro k
    induction k with
    | zero =>
      intro t ht t1 hq
      refine L_Mod_seesAt_3 ⟨fun _ => hq, fun c => absurd ?_ c⟩
      rw [nI_ltI (by omega) (by omega)]; omega
    | succ k ih =>
      intro t ht t1 hq
      obtain ⟨b0, b1, b2, b3⟩ := bx_b p v t
      have hland : agT M0 p v t x y → Q (some (.int 0)) M L := fun q => by rw [seeG_0 q] at hq; exact hq
      have rows : ∀ n : Nat, ∀ f kk : Int32, (bxS p v t).toInt ≤ kk.toInt → kk.toInt ≤ 400001 → (bxN p v t).toInt + 1 - kk.toInt ≤ n →
          (∀ i k' : Int, (bxW p v t).toInt ≤ i → i ≤ (bxE p v t).toInt → (bxS p v t).toInt ≤ k' → k' ≤ (bxN p v t).toInt → k' < kk.toInt → ¬ nbP (mLd M0) x y i k') →
          (f = bI (∀ i k' : Int, (bxW p v t).toInt ≤ i → i ≤ (bxE p v t).toInt → (bxS p v t).toInt ≤ k' → k' ≤ (bxN p v t).toInt → k' < kk.toInt → nbP (nrB M0 r) x y i k')) →
          RX xs shL md_Mod_seesAt 32 [.ref 516, .int (nI x), .int (nI y), .int p, .int v, .int (nI T), .int d, .int (nI r), .int (nI t), .int f, .int kk, .null] [] M L Q := by
        have fin : ∀ f kk : Int32, (bxN p v t).toInt < kk.toInt →
            (∀ i k' : Int, (bxW p v t).toInt ≤ i → i ≤ (bxE p v t).toInt → (bxS p v t).toInt ≤ k' → k' ≤ (bxN p v t).toInt → k' < kk.toInt → ¬ nbP (mLd M0) x y i k') →
            (f = bI (∀ i k' : Int, (bxW p v t).toInt ≤ i → i ≤ (bxE p v t).toInt → (bxS p v t).toInt ≤ k' → k' ≤ (bxN p v t).toInt → k' < kk.toInt → nbP (nrB M0 r) x y i k')) →
            ((f = 0 → RX xs shL md_Mod_seesAt 3 [.ref 516, .int (nI x), .int (nI y), .int p, .int v, .int (nI T), .int d, .int (nI r), .int (nI t + 1), .null, .null, .null] [] M L Q) ∧ (¬ (f = 0) → ((24 ≤ (((nI t - 1) + d) - ((nI t - 1) + d) / 48 * 48) → RX xs shL md_Mod_seesAt 3 [.ref 516, .int (nI x), .int (nI y), .int p, .int v, .int (nI T), .int d, .int (nI r), .int (nI t + 1), .null, .null, .null] [] M L Q) ∧ (¬ (24 ≤ (((nI t - 1) + d) - ((nI t - 1) + d) / 48 * 48)) → Q (some (.int (nI t))) M L)))) := by
          intro f kk hk nl nf
          have na : ¬ agT M0 p v t x y := fun ⟨i, k', q1, q2, q3, q4, q5⟩ => nl i k' q1 q2 q3 q4 (by omega) q5
          have sg : (∀ i k' : Int, (bxW p v t).toInt ≤ i → i ≤ (bxE p v t).toInt → (bxS p v t).toInt ≤ k' → k' ≤ (bxN p v t).toInt → k' < kk.toInt → nbP (nrB M0 r) x y i k') ↔ sgT M0 p v r t x y := ⟨fun q i k' q1 q2 q3 q4 => q i k' q1 q2 q3 q4 (by omega), fun q i k' q1 q2 q3 q4 _ => q i k' q1 q2 q3 q4⟩
          rw [bI_congr sg] at nf
          rw [nI_1]
          refine ⟨fun z => ih (t + 1) (by omega) (by omega) ?_, fun z => ⟨fun c => ih (t + 1) (by omega) (by omega) ?_, fun c => ?_⟩⟩
          · rw [nf] at z
            rw [seeG_n na (fun q => bI_p0 z q.1)] at hq; exact hq
          · rw [seeG_n na (fun q : sgT M0 p v r t x y ∧ dyT d t => q.2 c)] at hq; exact hq
          · rw [nf] at z
            rw [seeG_t na ⟨bI_p1 z, c⟩] at hq; exact hq
        intro n
        induction n with
        | zero =>
          intro f kk k1 k2 hn nl nf
          refine L_Mod_seesAt_32 ⟨hp, hTb, fun _ => fin f kk (by omega) nl nf, fun c => absurd ?_ c⟩
          show bxN p v t < kk
          rw [i_lt]; omega
        | succ n ihn =>
          intro f kk k1 k2 hn nl nf
          have inner : kk.toInt ≤ (bxN p v t).toInt → ∀ m : Nat, ∀ f i : Int32, (bxW p v t).toInt ≤ i.toInt → i.toInt ≤ 400001 → (bxE p v t).toInt + 1 - i.toInt ≤ m →
              (∀ i' k' : Int, (bxW p v t).toInt ≤ i' → i' ≤ (bxE p v t).toInt → (bxS p v t).toInt ≤ k' → k' ≤ (bxN p v t).toInt → (k' < kk.toInt ∨ (k' = kk.toInt ∧ i' < i.toInt)) → ¬ nbP (mLd M0) x y i' k') →
              (f = bI (∀ i' k' : Int, (bxW p v t).toInt ≤ i' → i' ≤ (bxE p v t).toInt → (bxS p v t).toInt ≤ k' → k' ≤ (bxN p v t).toInt → (k' < kk.toInt ∨ (k' = kk.toInt ∧ i' < i.toInt)) → nbP (nrB M0 r) x y i' k')) →
              RX xs shL md_Mod_seesAt 73 [.ref 516, .int (nI x), .int (nI y), .int p, .int v, .int (nI T), .int d, .int (nI r), .int (nI t), .int f, .int kk, .int i] [] M L Q := by
            intro hk m
            have out : ∀ f i : Int32, (bxE p v t).toInt < i.toInt →
                (∀ i' k' : Int, (bxW p v t).toInt ≤ i' → i' ≤ (bxE p v t).toInt → (bxS p v t).toInt ≤ k' → k' ≤ (bxN p v t).toInt → (k' < kk.toInt ∨ (k' = kk.toInt ∧ i' < i.toInt)) → ¬ nbP (mLd M0) x y i' k') →
                (f = bI (∀ i' k' : Int, (bxW p v t).toInt ≤ i' → i' ≤ (bxE p v t).toInt → (bxS p v t).toInt ≤ k' → k' ≤ (bxN p v t).toInt → (k' < kk.toInt ∨ (k' = kk.toInt ∧ i' < i.toInt)) → nbP (nrB M0 r) x y i' k')) →
                RX xs shL md_Mod_seesAt 32 [.ref 516, .int (nI x), .int (nI y), .int p, .int v, .int (nI T), .int d, .int (nI r), .int (nI t), .int f, .int (kk + 1), .null] [] M L Q := by
              intro f i hi nl nf
              refine ihn f (kk + 1) (by rw [i_add1 (by omega)]; omega) (by rw [i_add1 (by omega)]; omega) (by rw [i_add1 (by omega)]; omega) (fun i' k' q1 q2 q3 q4 q5 => ?_) ?_
              · rw [i_add1 (by omega)] at q5
                exact nl i' k' q1 q2 q3 q4 (by omega)
              · rw [nf, i_add1 (by omega)]
                exact bI_congr ⟨fun q i' k' q1 q2 q3 q4 q5 => q i' k' q1 q2 q3 q4 (by omega), fun q i' k' q1 q2 q3 q4 q5 => q i' k' q1 q2 q3 q4 (by omega)⟩
            induction m with
            | zero =>
              intro f i i1 i2 hm nl nf
              refine L_Mod_seesAt_73 ⟨hp, hTb, fun _ => out f i (by omega) nl nf, fun c => absurd ?_ c⟩
              show bxE p v t < i
              rw [i_lt]; omega
            | succ m ihm =>
              intro f i i1 i2 hm nl nf
              refine L_Mod_seesAt_73 ⟨hp, hTb, fun c => ?_, fun c => ?_⟩
              · have c : bxE p v t < i := c
                rw [i_lt] at c
                exact out f i (by omega) nl nf
              have c : ¬ bxE p v t < i := c
              rw [i_lt] at c
              have ax : (nI x + i).toInt = (x : Int) + i.toInt := by rw [i_add (by omega) (by omega), ex]
              have ay : (nI y + kk).toInt = (y : Int) + kk.toInt := by rw [i_add (by omega) (by omega), ey]
              refine s_Mod_isLand hC ⟨_, rfl, ?_⟩
              rw [mLI_0 hE, ax, ay, ← bI_congr (nb_land (M := M0) h20)]
              refine ⟨fun z => ?_, fun z => ?_⟩
              · have nl' : ∀ i' k' : Int, (bxW p v t).toInt ≤ i' → i' ≤ (bxE p v t).toInt → (bxS p v t).toInt ≤ k' → k' ≤ (bxN p v t).toInt → (k' < kk.toInt ∨ (k' = kk.toInt ∧ i' < (i + 1).toInt)) → ¬ nbP (mLd M0) x y i' k' := fun i' k' q1 q2 q3 q4 q5 => by
                  rw [i_add1 (by omega)] at q5
                  by_cases e : k' = kk.toInt ∧ i' = i.toInt
                  · rw [e.1, e.2]; exact bI_p0 z
                  · exact nl i' k' q1 q2 q3 q4 (by omega)
                have go : ∀ f' : Int32, (f' = bI (∀ i' k' : Int, (bxW p v t).toInt ≤ i' → i' ≤ (bxE p v t).toInt → (bxS p v t).toInt ≤ k' → k' ≤ (bxN p v t).toInt → (k' < kk.toInt ∨ (k' = kk.toInt ∧ i' < (i + 1).toInt)) → nbP (nrB M0 r) x y i' k')) → RX xs shL md_Mod_seesAt 73 [.ref 516, .int (nI x), .int (nI y), .int p, .int v, .int (nI T), .int d, .int (nI r), .int (nI t), .int f', .int kk, .int (i + 1)] [] M L Q := fun f' h' => ihm f' (i + 1) (by rw [i_add1 (by omega)]; omega) (by rw [i_add1 (by omega)]; omega) (by rw [i_add1 (by omega)]; omega) nl' h'
                have sp : (∀ i' k' : Int, (bxW p v t).toInt ≤ i' → i' ≤ (bxE p v t).toInt → (bxS p v t).toInt ≤ k' → k' ≤ (bxN p v t).toInt → (k' < kk.toInt ∨ (k' = kk.toInt ∧ i' < (i + 1).toInt)) → nbP (nrB M0 r) x y i' k') ↔ (∀ i' k' : Int, (bxW p v t).toInt ≤ i' → i' ≤ (bxE p v t).toInt → (bxS p v t).toInt ≤ k' → k' ≤ (bxN p v t).toInt → (k' < kk.toInt ∨ (k' = kk.toInt ∧ i' < i.toInt)) → nbP (nrB M0 r) x y i' k') ∧ nbP (nrB M0 r) x y i.toInt kk.toInt := by
                  rw [i_add1 (by omega)]
                  constructor
                  · exact fun q => ⟨fun i' k' q1 q2 q3 q4 q5 => q i' k' q1 q2 q3 q4 (by omega), q _ _ (by omega) (by omega) (by omega) (by omega) (by omega)⟩
                  · rintro ⟨q, q'⟩ i' k' q1 q2 q3 q4 q5
                    by_cases e : k' = kk.toInt ∧ i' = i.toInt
                    · rw [e.1, e.2]; exact q'
                    · exact q i' k' q1 q2 q3 q4 (by omega)
                rw [bI_congr sp] at go
                refine ⟨fun z0 => go 0 ?_, fun z0 => ?_⟩
                · rw [nf] at z0
                  exact (bI_f (fun q => bI_p0 z0 q.1)).symm
                · rw [nf] at z0
                  refine s_Mod_isNear hC (Ms0_Msd hE hN) hr ⟨_, rfl, ?_⟩
                  rw [mLI_0 hE, ax, ay, ← bI_congr (nb_near (M := M0) h20)]
                  refine ⟨fun z2 => go 0 ?_, fun z2 => go 1 ?_⟩
                  · exact (bI_f (fun q => bI_p0 z2 q.2)).symm
                  · exact (bI_t ⟨bI_p1 z0, bI_p1 z2⟩).symm
              · exact hland ⟨i.toInt, kk.toInt, by omega, by omega, by omega, by omega, bI_p1 z⟩
          refine L_Mod_seesAt_32 ⟨hp, hTb, fun c => ?_, fun c => ?_⟩
          · have c : bxN p v t < kk := c
            rw [i_lt] at c
            exact fin f kk (by omega) nl nf
          · have c : ¬ bxN p v t < kk := c
            rw [i_lt] at c
            refine inner (by omega) ((bxE p v t).toInt + 1 - (bxW p v t).toInt).toNat f (bxW p v t) (by omega) (by omega) (by omega) (fun i' k' q1 q2 q3 q4 q5 => nl i' k' q1 q2 q3 q4 (by omega)) ?_
            rw [nf]
            exact bI_congr ⟨fun q i' k' q1 q2 q3 q4 q5 => q i' k' q1 q2 q3 q4 (by omega), fun q i' k' q1 q2 q3 q4 q5 => q i' k' q1 q2 q3 q4 (by omega)⟩
      refine L_Mod_seesAt_3 ⟨fun c => ?_, fun _ => ⟨hp, hTb, ?_⟩⟩
      · rw [nI_ltI (by omega) (by omega)] at c; omega
      · exact rows ((bxN p v t).toInt + 1 - (bxS p v t).toInt).toNat 1 (bxS p v t) (by omega) (by omega) (by omega) (fun i k' q1 q2 q3 q4 q5 => by omega) (bI_t (fun i k' q1 q2 q3 q4 q5 => by omega)).symm
  exact L_Mod_seesAt_0 (key T 1 (by omega) (by omega) hQ)
end TM

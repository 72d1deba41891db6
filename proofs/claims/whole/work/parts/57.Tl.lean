/-! courses: when she is sighted -/
def bxW (p v : Int32) (t : Nat) : Int32 := dwn ((nI t * v) * nrt ((p + 24) &&& 31)) 8000
def bxE (p v : Int32) (t : Nat) : Int32 := -(dwn (-((nI t * v) * nrt ((p + 24) &&& 31))) 8000)
def bxS (p v : Int32) (t : Nat) : Int32 := dwn ((nI t * v) * nrt p) 8000
def bxN (p v : Int32) (t : Nat) : Int32 := -(dwn (-((nI t * v) * nrt p)) 8000)
theorem bx_b (p v : Int32) (t : Nat) : (-400000 ≤ (bxW p v t).toInt ∧ (bxW p v t).toInt ≤ 400000) ∧ (-400000 ≤ (bxE p v t).toInt ∧ (bxE p v t).toInt ≤ 400000) ∧ (-400000 ≤ (bxS p v t).toInt ∧ (bxS p v t).toInt ≤ 400000) ∧ (-400000 ≤ (bxN p v t).toInt ∧ (bxN p v t).toInt ≤ 400000) := by
  have h1 := b1M ((nI t * v) * nrt ((p + 24) &&& 31))
  have h2 := b1M (-((nI t * v) * nrt ((p + 24) &&& 31)))
  have h3 := b1M ((nI t * v) * nrt p)
  have h4 := b1M (-((nI t * v) * nrt p))
  unfold bxW bxE bxS bxN
  rw [i_neg (by omega), i_neg (by omega)]
  omega
def dyT (d : Int32) (t : Nat) : Prop := ¬ 24 ≤ (((nI t - 1) + d) - ((nI t - 1) + d) / 48 * 48)
noncomputable def nrB (M : Mem) (r : Int) : Nat → Nat → Bool := nrS (mw M) (mh M) (mLd M) r
def agT (M : Mem) (p v : Int32) (t x y : Nat) : Prop := agP (mLd M) (bxW p v t).toInt (bxE p v t).toInt (bxS p v t).toInt (bxN p v t).toInt x y
def sgT (M : Mem) (p v : Int32) (r : Int) (t x y : Nat) : Prop := sgP (nrB M r) (bxW p v t).toInt (bxE p v t).toInt (bxS p v t).toInt (bxN p v t).toInt x y
noncomputable def seeG (ag sg : Nat → Nat → Nat → Prop) (dy : Nat → Prop) (x y : Nat) : Nat → Nat → Nat
  | 0, _ => 0
  | k + 1, t => if bB (ag t x y) then 0 else if bB (sg t x y ∧ dy t) then t else seeG ag sg dy x y k (t + 1)
noncomputable def lft (ag sg : Nat → Nat → Nat → Prop) (dy : Nat → Prop) : Nat → Nat → (Nat → Nat → Bool) → Nat
  | 0, _, _ => 0
  | k + 1, t, A => if bB (∃ x y, y < 20 ∧ A x y = true ∧ ag t x y) then 0 else if bB (dy t) then (if bB (¬ NE (fun x y => A x y && !bB (sg t x y))) then t else lft ag sg dy k (t + 1) (fun x y => A x y && !bB (sg t x y))) else lft ag sg dy k (t + 1) A
theorem ifB_t {P : Prop} {α : Type} {a b : α} (h : P) : (if bB P then a else b) = a := by rw [bB_t h]; rfl
theorem ifB_f {P : Prop} {α : Type} {a b : α} (h : ¬ P) : (if bB P then a else b) = b := by rw [bB_f h]; rfl
section PURE
variable {ag sg : Nat → Nat → Nat → Prop} {dy : Nat → Prop}
theorem seeG_0 {x y k t : Nat} (h : ag t x y) : seeG ag sg dy x y (k + 1) t = 0 := by simp only [seeG]; rw [ifB_t h]
theorem seeG_t {x y k t : Nat} (h : ¬ ag t x y) (h2 : sg t x y ∧ dy t) : seeG ag sg dy x y (k + 1) t = t := by simp only [seeG]; rw [ifB_f h, ifB_t h2]
theorem seeG_n {x y k t : Nat} (h : ¬ ag t x y) (h2 : ¬ (sg t x y ∧ dy t)) : seeG ag sg dy x y (k + 1) t = seeG ag sg dy x y k (t + 1) := by simp only [seeG]; rw [ifB_f h, ifB_f h2]
theorem seeG_ge {x y : Nat} : ∀ k t, seeG ag sg dy x y k t = 0 ∨ (t ≤ seeG ag sg dy x y k t ∧ seeG ag sg dy x y k t < t + k) := by
  intro k
  induction k with
  | zero => intro t; exact Or.inl rfl
  | succ k ih =>
    intro t
    by_cases h : ag t x y
    · exact Or.inl (seeG_0 h)
    · by_cases h2 : sg t x y ∧ dy t
      · rw [seeG_t h h2]; right; omega
      · rw [seeG_n h h2]
        have := ih (t + 1)
        omega
theorem lft_ge : ∀ k t A, lft ag sg dy k t A = 0 ∨ (t ≤ lft ag sg dy k t A ∧ lft ag sg dy k t A < t + k) := by
  intro k
  induction k with
  | zero => intro t A; exact Or.inl rfl
  | succ k ih =>
    intro t A
    simp only [lft]
    by_cases h : ∃ x y, y < 20 ∧ A x y = true ∧ ag t x y
    · rw [ifB_t h]; exact Or.inl rfl
    · rw [ifB_f h]
      by_cases h2 : dy t
      · rw [ifB_t h2]
        by_cases h3 : ¬ NE (fun x y => A x y && !bB (sg t x y))
        · rw [ifB_t h3]; right; omega
        · rw [ifB_f h3]; have := ih (t + 1) (fun x y => A x y && !bB (sg t x y)); omega
      · rw [ifB_f h2]; have := ih (t + 1) A; omega
theorem lft_0 {k t : Nat} {A : Nat → Nat → Bool} (h : ∃ x y, y < 20 ∧ A x y = true ∧ ag t x y) : lft ag sg dy (k + 1) t A = 0 := by simp only [lft]; rw [ifB_t h]
theorem lft_t {k t : Nat} {A : Nat → Nat → Bool} (h : ¬ ∃ x y, y < 20 ∧ A x y = true ∧ ag t x y) (h2 : dy t) (h3 : ¬ NE (fun x y => A x y && !bB (sg t x y))) : lft ag sg dy (k + 1) t A = t := by simp only [lft]; rw [ifB_f h, ifB_t h2, ifB_t h3]
theorem lft_n {k t : Nat} {A : Nat → Nat → Bool} (h : ¬ ∃ x y, y < 20 ∧ A x y = true ∧ ag t x y) (h2 : dy t) (h3 : ¬ ¬ NE (fun x y => A x y && !bB (sg t x y))) : lft ag sg dy (k + 1) t A = lft ag sg dy k (t + 1) (fun x y => A x y && !bB (sg t x y)) := by simp only [lft]; rw [ifB_f h, ifB_t h2, ifB_f h3]
theorem lft_x {k t : Nat} {A : Nat → Nat → Bool} (h : ¬ ∃ x y, y < 20 ∧ A x y = true ∧ ag t x y) (h2 : ¬ dy t) : lft ag sg dy (k + 1) t A = lft ag sg dy k (t + 1) A := by simp only [lft]; rw [ifB_f h, ifB_f h2]
/-- with less time -/
theorem lft_less : ∀ k K t A, k ≤ K → lft ag sg dy k t A = if lft ag sg dy K t A < t + k then lft ag sg dy K t A else 0 := by
  intro k
  induction k with
  | zero =>
    intro K t A _
    have := lft_ge (ag := ag) (sg := sg) (dy := dy) K t A
    show 0 = _
    split <;> omega
  | succ k ih =>
    intro K t A hK
    obtain ⟨K', rfl⟩ : ∃ K', K = K' + 1 := ⟨K - 1, by omega⟩
    by_cases h : ∃ x y, y < 20 ∧ A x y = true ∧ ag t x y
    · rw [lft_0 h, lft_0 h]; split <;> rfl
    · by_cases h2 : dy t
      · by_cases h3 : ¬ NE (fun x y => A x y && !bB (sg t x y))
        · rw [lft_t h h2 h3, lft_t h h2 h3, if_pos (by omega)]
        · rw [lft_n h h2 h3, lft_n h h2 h3, ih K' (t + 1) _ (by omega), show t + 1 + k = t + (k + 1) by omega]
      · rw [lft_x h h2, lft_x h h2, ih K' (t + 1) _ (by omega), show t + 1 + k = t + (k + 1) by omega]
/-- all cells of a set: the last one, none if one never is -/
theorem lft_see : ∀ k t A, 1 ≤ t → NE A → ((∃ x y, y < 20 ∧ A x y = true ∧ seeG ag sg dy x y k t = 0) → lft ag sg dy k t A = 0) ∧ ((∀ x y, y < 20 → A x y = true → ¬ seeG ag sg dy x y k t = 0) → (∀ x y, y < 20 → A x y = true → seeG ag sg dy x y k t ≤ lft ag sg dy k t A) ∧ ∃ x y, y < 20 ∧ A x y = true ∧ seeG ag sg dy x y k t = lft ag sg dy k t A) := by
  intro k
  induction k with
  | zero =>
    intro t A _ hA
    refine ⟨fun _ => rfl, fun q => ?_⟩
    obtain ⟨x, y, h1, h2⟩ := hA
    exact absurd rfl (q x y h1 h2)
  | succ k ih =>
    intro t A ht hA
    simp only [lft]
    by_cases h : ∃ x y, y < 20 ∧ A x y = true ∧ ag t x y
    · rw [ifB_t h]
      refine ⟨fun _ => rfl, fun q => ?_⟩
      obtain ⟨x, y, h1, h2, h3⟩ := h
      exact absurd (seeG_0 h3) (q x y h1 h2)
    · rw [ifB_f h]
      have na : ∀ x y, y < 20 → A x y = true → ¬ ag t x y := fun x y h1 h2 h3 => h ⟨x, y, h1, h2, h3⟩
      by_cases h2 : dy t
      · rw [ifB_t h2]
        by_cases h3 : ¬ NE (fun x y => A x y && !bB (sg t x y))
        · rw [ifB_t h3]
          have all : ∀ x y, y < 20 → A x y = true → seeG ag sg dy x y (k + 1) t = t := fun x y q1 q2 => by
            refine seeG_t (na x y q1 q2) ⟨Classical.byContradiction fun q3 => h3 ⟨x, y, q1, ?_⟩, h2⟩
            show (A x y && !bB (sg t x y)) = true
            rw [q2, bB_f q3]; rfl
          refine ⟨fun ⟨x, y, q1, q2, q3⟩ => ?_, fun _ => ⟨fun x y q1 q2 => by rw [all x y q1 q2]; exact Nat.le_refl _, ?_⟩⟩
          · rw [all x y q1 q2] at q3; omega
          · obtain ⟨x, y, q1, q2⟩ := hA
            exact ⟨x, y, q1, q2, all x y q1 q2⟩
        · rw [ifB_f h3]
          have h3 := Classical.not_not.mp h3
          obtain ⟨i1, i2⟩ := ih (t + 1) (fun x y => A x y && !bB (sg t x y)) (by omega) h3
          have old : ∀ x y, A x y = true → sg t x y → ¬ ag t x y → seeG ag sg dy x y (k + 1) t = t := fun x y q1 q2 q3 => seeG_t q3 ⟨q2, h2⟩
          have new : ∀ x y, ¬ sg t x y → ¬ ag t x y → seeG ag sg dy x y (k + 1) t = seeG ag sg dy x y k (t + 1) := fun x y q1 q2 => seeG_n q2 (fun z => q1 z.1)
          have mem : ∀ x y, A x y = true → ¬ sg t x y → (A x y && !bB (sg t x y)) = true := fun x y q1 q2 => by rw [q1, bB_f q2]; rfl
          have mem' : ∀ x y, (A x y && !bB (sg t x y)) = true → A x y = true ∧ ¬ sg t x y := fun x y q => by
            rw [Bool.and_eq_true, Bool.not_eq_true'] at q
            exact ⟨q.1, fun z => by rw [bB_t z] at q; cases q.2⟩
          refine ⟨fun ⟨x, y, q1, q2, q3⟩ => ?_, fun q => ?_⟩
          · by_cases e : sg t x y
            · rw [old x y q2 e (na x y q1 q2)] at q3; omega
            · exact i1 ⟨x, y, q1, mem x y q2 e, by rw [← new x y e (na x y q1 q2)]; exact q3⟩
          · obtain ⟨j1, x0, y0, j2, j3, j4⟩ := i2 (fun x y q1 q2 => by
              have := mem' x y q2
              rw [← new x y this.2 (na x y q1 this.1)]; exact q x y q1 this.1)
            have m0 := mem' x0 y0 j3
            refine ⟨fun x y q1 q2 => ?_, x0, y0, j2, m0.1, by rw [new x0 y0 m0.2 (na x0 y0 j2 m0.1)]; exact j4⟩
            by_cases e : sg t x y
            · rw [old x y q2 e (na x y q1 q2)]
              have g := seeG_ge (ag := ag) (sg := sg) (dy := dy) (x := x0) (y := y0) k (t + 1)
              have g0 := q x0 y0 j2 m0.1
              rw [new x0 y0 m0.2 (na x0 y0 j2 m0.1)] at g0
              omega
            · rw [new x y e (na x y q1 q2)]; exact j1 x y q1 (mem x y q2 e)
      · rw [ifB_f h2]
        obtain ⟨i1, i2⟩ := ih (t + 1) A (by omega) hA
        have new : ∀ x y, y < 20 → A x y = true → seeG ag sg dy x y (k + 1) t = seeG ag sg dy x y k (t + 1) := fun x y q1 q2 => seeG_n (na x y q1 q2) (fun z => h2 z.2)
        refine ⟨fun ⟨x, y, q1, q2, q3⟩ => i1 ⟨x, y, q1, q2, by rw [← new x y q1 q2]; exact q3⟩, fun q => ?_⟩
        obtain ⟨j1, x0, y0, j2, j3, j4⟩ := i2 (fun x y q1 q2 => by rw [← new x y q1 q2]; exact q x y q1 q2)
        exact ⟨fun x y q1 q2 => by rw [new x y q1 q2]; exact j1 x y q1 q2, x0, y0, j2, j3, by rw [new x0 y0 j2 j3]; exact j4⟩
theorem lft_one {x0 y0 : Nat} (hy : y0 < 20) (k t : Nat) (ht : 1 ≤ t) {A : Nat → Nat → Bool} (hA : ∀ x y, y < 20 → (A x y = true ↔ x = x0 ∧ y = y0)) : lft ag sg dy k t A = seeG ag sg dy x0 y0 k t := by
  have h0 : A x0 y0 = true := (hA x0 y0 hy).mpr ⟨rfl, rfl⟩
  obtain ⟨i1, i2⟩ := lft_see (ag := ag) (sg := sg) (dy := dy) k t A ht ⟨x0, y0, hy, h0⟩
  by_cases e : seeG ag sg dy x0 y0 k t = 0
  · rw [e]; exact i1 ⟨x0, y0, hy, h0, e⟩
  · obtain ⟨-, x, y, j2, j3, j4⟩ := i2 (fun x y q1 q2 => by
      obtain ⟨rfl, rfl⟩ := (hA x y q1).mp q2
      exact e)
    obtain ⟨rfl, rfl⟩ := (hA x y j2).mp j3
    exact j4.symm
end PURE

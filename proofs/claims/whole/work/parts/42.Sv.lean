/-! forth and back -/
def sub (A B : Nat → Nat → Bool) : Prop := ∀ x y, y < 20 → A x y = true → B x y = true
def meets (A B : Nat → Nat → Bool) : Prop := ∃ x y, y < 20 ∧ A x y = true ∧ B x y = true
theorem meet_step {V : Vw} (hV : okV V) {t : Nat} {A B : Nat → Nat → Bool} (hA : inC V.w V.h A) (hAo : sub A V.op) (hB : inC V.w V.h B) (hBo : sub B V.op) : meets (stV V t (V.cn t) A) B ↔ meets A (bkV V t B) := by
  obtain ⟨v1, v2, v3, v4, v5, v6, v7, v8⟩ := hV
  by_cases hw : V.isW t
  · constructor
    · rintro ⟨x, y, q1, q2, q3⟩
      rw [stV_W hw, Bool.and_eq_true_iff] at q2
      obtain ⟨a1, a2, x', y', a3, a4, a5, a6, a7, a8⟩ := bB_iff.mp q2.1
      have hc := hA x' y' (by omega) a4
      refine ⟨x', y', by omega, a4, ?_⟩
      rw [bkV_W hw, Bool.and_eq_true_iff]
      exact ⟨bB_t ⟨hc.1, hc.2, x, y, a2, q3, by omega, by omega, by omega, by omega⟩, hAo x' y' (by omega) a4⟩
    · rintro ⟨x', y', q1, q2, q3⟩
      rw [bkV_W hw, Bool.and_eq_true_iff] at q3
      obtain ⟨a1, a2, x, y, a3, a4, a5, a6, a7, a8⟩ := bB_iff.mp q3.1
      have hc := hB x y (by omega) a4
      refine ⟨x, y, by omega, ?_, a4⟩
      rw [stV_W hw, Bool.and_eq_true_iff]
      exact ⟨bB_t ⟨hc.1, hc.2, x', y', a2, q2, by omega, by omega, by omega, by omega⟩, hBo x y (by omega) a4⟩
  · constructor
    · rintro ⟨x, y, q1, q2, q3⟩
      rw [stV_S hw, Bool.and_eq_true_iff] at q2
      refine ⟨x, y, q1, q2.1, ?_⟩
      rw [bkV_S hw, Bool.and_eq_true_iff]
      exact ⟨q3, q2.2⟩
    · rintro ⟨x, y, q1, q2, q3⟩
      rw [bkV_S hw, Bool.and_eq_true_iff] at q3
      refine ⟨x, y, q1, ?_, q3.1⟩
      rw [stV_S hw, Bool.and_eq_true_iff]
      exact ⟨q2, q3.2⟩
theorem stV_op {V : Vw} {t : Nat} {c : Bool} {A : Nat → Nat → Bool} (h : sub A V.op) : sub (stV V t c A) V.op := by
  intro x y hy q
  by_cases hw : V.isW t
  · rw [stV_W hw, Bool.and_eq_true_iff] at q; exact q.2
  · rw [stV_S hw, Bool.and_eq_true_iff] at q; exact h x y hy q.1
theorem bkV_op {V : Vw} {t : Nat} {A : Nat → Nat → Bool} (h : sub A V.op) : sub (bkV V t A) V.op := by
  intro x y hy q
  by_cases hw : V.isW t
  · rw [bkV_W hw, Bool.and_eq_true_iff] at q; exact q.2
  · rw [bkV_S hw, Bool.and_eq_true_iff] at q; exact h x y hy q.1
theorem BK'_op {V : Vw} (r : Nat) : sub (BK' V r) V.op := by
  induction r with
  | zero => exact fun x y _ q => q
  | succ r ih => exact bkV_op ih
theorem AH_op {V : Vw} (hs : sub V.st V.op) (t : Nat) : sub (AH V t) V.op := by
  induction t with
  | zero => exact hs
  | succ t ih => exact stV_op ih
/-- rows t, t + 1 .. taken on -/
noncomputable def tkV (V : Vw) (t : Nat) : Nat → (Nat → Nat → Bool) → Nat → Nat → Bool
  | 0, A => A
  | k + 1, A => tkV V (t + 1) k (stV V t (V.cn t) A)
theorem tk_meets {V : Vw} (hV : okV V) : ∀ k t, t + k = V.n → ∀ A, inC V.w V.h A → sub A V.op → ((∃ x y, y < 20 ∧ tkV V t k A x y = true) ↔ meets A (BK V t)) := by
  intro k
  induction k with
  | zero =>
    intro t ht A hA hAo
    have : t = V.n := by omega
    subst this
    rw [BK_n]
    exact ⟨fun ⟨x, y, q1, q2⟩ => ⟨x, y, q1, q2, hAo x y q1 q2⟩, fun ⟨x, y, q1, q2, _⟩ => ⟨x, y, q1, q2⟩⟩
  | succ k ih =>
    intro t ht A hA hAo
    rw [BK_s (show t < V.n by omega), ← meet_step (B := BK V (t + 1)) hV hA hAo (BK'_in hV _) (BK'_op _)]
    exact ih (t + 1) (by omega) _ (stV_in hA) (stV_op hAo)
/-- here: forth and back at once -/
theorem here_step {V : Vw} (hV : okV V) {t : Nat} {B : Nat → Nat → Bool} (hs : sub V.st V.op) (hB : inC V.w V.h B) (hBo : sub B V.op) (x y : Nat) (hy : y < 20) :
    (AH V t x y && bkV V t B x y) = (AH V t x y && (@ite _ (V.isW t) (Classical.propDecidable _) (rchA V.w V.h (fun x y => AH V (t + 1) x y && B x y) (-(V.R t (V.cn t) 1)) (-(V.R t (V.cn t) 0)) (-(V.R t (V.cn t) 3)) (-(V.R t (V.cn t) 2)) x y && V.op x y) (AH V (t + 1) x y && B x y))) := by
  obtain ⟨v1, v2, v3, v4, v5, v6, v7, v8⟩ := hV
  cases e : AH V t x y with
  | false => rfl
  | true =>
    rw [Bool.true_and, Bool.true_and]
    by_cases hw : V.isW t
    · rw [bkV_W hw, if_pos hw]
      congr 1
      refine bB_congr ?_
      constructor
      · rintro ⟨a1, a2, x', y', a3, a4, a5, a6, a7, a8⟩
        have hc := hB x' y' (by omega) a4
        refine ⟨a1, a2, x', y', a3, ?_, a5, a6, a7, a8⟩
        show (AH V (t + 1) x' y' && B x' y') = true
        rw [a4, Bool.and_true]
        show stV V t (V.cn t) (AH V t) x' y' = true
        rw [stV_W hw, Bool.and_eq_true_iff]
        exact ⟨bB_t ⟨hc.1, hc.2, x, y, a2, e, by omega, by omega, by omega, by omega⟩, hBo x' y' (by omega) a4⟩
      · rintro ⟨a1, a2, x', y', a3, a4, a5⟩
        have a4 : (AH V (t + 1) x' y' && B x' y') = true := a4
        rw [Bool.and_eq_true_iff] at a4
        exact ⟨a1, a2, x', y', a3, a4.2, a5⟩
    · rw [bkV_S hw, if_neg hw]
      show _ = (stV V t (V.cn t) (AH V t) x y && B x y)
      rw [stV_S hw, e, Bool.true_and, Bool.and_comm]

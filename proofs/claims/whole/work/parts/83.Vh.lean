/-! what the constructors leave: class and reference agree -/
theorem sumF_z {f : Nat → Int32} : ∀ n, (∀ k, k < n → f k = 0) → sumF f n = 0 := by
  intro n
  induction n with
  | zero => intro _; rfl
  | succ n ih =>
    intro h
    simp only [sumF]
    rw [ih (fun k hk => h k (by omega)), h n (by omega)]
    rfl
theorem MB_pg {v k : Nat} (hv : v < 24) (hk : k < 8) : MB (6 + 5 * v + 1) k = -1 := by
  unfold MB
  rw [up_ne _ _ (by omega)]
  exact if_pos (by omega)
theorem MB_0 {b k : Nat} (h2 : ¬ (b % 5 = 2 ∧ 6 ≤ b)) (h3 : ¬ (b = 4 ∧ k = 2)) : MB b k = 0 := by
  unfold MB
  rw [up_ne _ _ h3]
  exact if_neg (by omega)
theorem Rel_born {M1 N : Mem} (hf : ChF MB M1) (h1 : ∀ b k, b ≠ 523 → b ≠ 524 → ¬ (b = 516 ∧ 17 ≤ k ∧ k ≤ 19) → N b k = MM (rgM M1 40) b k) (dN : ∀ k, k < 400 → N 523 k = 50 ∧ N 524 k = 0) (m17 : N 516 17 = 0) (m18 : N 516 18 = 0) (m19 : N 516 19 = 0) : Rel N := by
  have fLo : ∀ b k, b < 516 → N b k = rgM M1 40 b k := fun b k hb => by
    rw [h1 b k (by omega) (by omega) (by omega)]
    unfold MM
    rw [up_ne _ _ (by omega), up_ne _ _ (by omega), up_ne _ _ (by omega), rowN_o _ _ _ (by omega), rowN_o _ _ _ (by omega)]
  have f136 : ∀ b k, b < 136 → N b k = M1 b k := fun b k hb => (fLo b k (by omega)).trans (rgM_o (by omega) k)
  have f126 : ∀ b k, b < 126 → N b k = MB b k := fun b k hb => (f136 b k (by omega)).trans (hf.1 b k (by omega) (by omega) (by omega) (by omega) (by omega))
  have z : ∀ b, 516 ≤ b → ∀ k, rgM M1 40 b k = 0 := fun b hb k => (rgM_o (by omega) k).trans (ChF_z hf (by omega) k)
  have f516 : ∀ k, k ≠ 8 → k ≠ 9 → k ≠ 10 → ¬ (17 ≤ k ∧ k ≤ 19) → N 516 k = 0 := fun k q1 q2 q3 q4 => by
    rw [h1 516 k (by decide) (by decide) (by omega)]
    unfold MM
    rw [up_ne _ _ (by omega), up_ne _ _ (by omega), up_ne _ _ (by omega), rowN_o _ _ _ (by decide), rowN_o _ _ _ (by decide)]
    exact z 516 (by decide) k
  have e8 : N 516 8 = 2000 := by
    rw [h1 _ _ (by decide) (by decide) (by omega)]
    unfold MM
    rw [up_ne _ _ (by omega), up_ne _ _ (by omega)]
    exact up_same _ _ _ _
  have e9 : N 516 9 = nI 8 := by
    rw [h1 _ _ (by decide) (by decide) (by omega)]
    unfold MM
    rw [up_ne _ _ (by omega)]
    exact up_same _ _ _ _
  have e10 : N 516 10 = nI 8 := by
    rw [h1 _ _ (by decide) (by decide) (by omega)]
    unfold MM
    exact up_same _ _ _ _
  have fHi : ∀ b k, 519 ≤ b → b ≠ 523 → b ≠ 524 → N b k = 0 := fun b k q1 q2 q3 => by
    rw [h1 b k q2 q3 (by omega)]
    unfold MM
    rw [up_ne _ _ (by omega), up_ne _ _ (by omega), up_ne _ _ (by omega), rowN_o _ _ _ (by omega), rowN_o _ _ _ (by omega)]
    exact z b (by omega) k
  have nw0 : nw N = 0 := by unfold nw; rw [f516 4 (by decide) (by decide) (by decide) (by decide)]; rfl
  have nd0 : nwd N = 0 := by unfold nwd; rw [f516 2 (by decide) (by decide) (by decide) (by decide)]; rfl
  have ew : mw N = 8 := by unfold mw; rw [e9, nI_cl (by omega)]
  have eh : mh N = 8 := by unfold mh; rw [e10, nI_cl (by omega)]
  have en : mn N = 0 := by unfold mn; rw [f516 20 (by decide) (by decide) (by decide) (by decide)]; rfl
  have wz : ∀ v, v < 24 → ∀ j k, j < 5 → j ≠ 1 → N (6 + 5 * v + j) k = 0 := fun v hv j k hj h => (f126 _ k (by omega)).trans (MB_0 (by omega) (by omega))
  have wz0 : ∀ v, v < 24 → ∀ k, N (6 + 5 * v) k = 0 := fun v hv k => wz v hv 0 k (by decide) (by decide)
  have wp : ∀ v, v < 24 → ∀ k, k < 8 → N (6 + 5 * v + 1) k = -1 := fun v hv k hk => (f126 _ k (by omega)).trans (MB_pg hv hk)
  have z134 : ∀ k, N 134 k = 0 := fun k => (f136 134 k (by decide)).trans (ChF_z hf (by decide) k)
  have gN : ∀ p, p + 1 < 136 → ∀ x y, gp N p x y = gp M1 p x y := fun p hp x y => by unfold gp; rw [f136 _ _ hp]
  obtain ⟨c1, k4, k5, kd, kg⟩ := hf
  refine ⟨⟨?_, ?_, ?_, ?_, fun v hv => ⟨fun j hj => ⟨?_, ?_⟩, ?_, ?_⟩, fun v hv => ?_, fun v _ hv => ⟨fun k hk => wp v hv k hk, fun k _ => wz v hv 2 k (by decide) (by decide), fun k _ => wz0 v hv _⟩⟩, ⟨?_, ?_, ?_, ?_, fun j hj => ?_, fun x y hx hy => ?_, fun y hy x => ?_, fun y hy x => ?_, fun y hy x => ?_⟩, ⟨⟨?_, ?_⟩, ⟨?_, ?_⟩, ⟨?_, ?_⟩, ⟨?_, ?_⟩, ?_, ?_, ?_, ?_, fun t ht => by omega⟩, ⟨?_, ?_, ?_, fun i hi => ?_⟩, ⟨fun j hj => ⟨?_, ?_⟩, fun k hk => ?_, fun k hk => ?_⟩⟩
  · rw [f126 4 1 (by decide), MB_0 (by decide) (by decide), f516 4 (by decide) (by decide) (by decide) (by decide)]
  · rw [nw0, f516 4 (by decide) (by decide) (by decide) (by decide)]; rfl
  · rw [nw0]; decide
  · rw [f126 4 2 (by decide), e8]; exact up_same _ _ _ _
  · rw [wz v hv 3 j (by decide) (by decide)]
    unfold eS
    exact (sumF_z 8 (fun k hk => by unfold eT; rw [wz v hv 2 _ (by decide) (by decide), Int32.zero_mul]; split <;> rfl)).symm
  · rw [wz v hv 4 j (by decide) (by decide)]
    unfold nS
    exact (sumF_z 8 (fun k hk => by unfold nT; rw [wz v hv 2 _ (by decide) (by decide), Int32.zero_mul]; split <;> rfl)).symm
  · rw [wz0 v hv]
    unfold lS
    rw [sumF_z 8 (fun k hk => by unfold lT; rw [wz v hv 2 _ (by decide) (by decide)]; split <;> rfl)]; rfl
  · rw [wz0 v hv]
    unfold aS
    rw [sumF_z 8 (fun k hk => by unfold aT; exact wz v hv 2 _ (by decide) (by decide))]; rfl
  · rw [nw0] at hv; omega
  · rw [ew, e9]; exact ⟨rfl, by decide, by decide⟩
  · rw [eh, e10]; exact ⟨rfl, by decide, by decide⟩
  · rw [e9, f136 _ _ (by decide)]; exact k4
  · rw [e10, f136 _ _ (by decide)]; exact k5
  · rw [f136 _ _ (by decide), c1 126 (6 + j) (by omega) (by decide) (by decide) (by decide) (by decide), MB_z (by decide), f516 (13 + j) (by omega) (by omega) (by omega) (by omega)]
  · rw [f136 _ _ (by decide), kd _ (by omega), (dN _ (by omega)).1, (dN _ (by omega)).2]
    exact ⟨rfl, by decide, Or.inl rfl⟩
  · rw [gN 128 (by decide)]
    unfold mOp
    rw [ew, eh]
    by_cases hx : x < 32
    · apply bool_iff
      rw [(kg x y hx hy).2.2, bB_iff]
      exact ⟨fun q => ⟨q.1, q.2, by rw [(dN _ (by omega)).1]; decide⟩, fun q => ⟨q.1, q.2.1⟩⟩
    · rw [gp_big _ _ _ (by omega), bB_f (fun z => by omega)]
  · rw [gN 130 (by decide)]
    unfold mLd
    rw [ew, eh]
    by_cases hx : x < 32
    · rw [(kg x y hx hy).2.1]
      exact (bB_f (fun z => by have := z.2.2; rw [(dN _ (by omega)).1] at this; exact absurd this (by decide))).symm
    · rw [gp_big _ _ _ (by omega), bB_f (fun z => by omega)]
  · rw [gN 132 (by decide)]
    unfold mWd
    rw [ew, eh]
    by_cases hx : x < 32
    · rw [(kg x y hx hy).1]
      exact (bB_f (fun z => z.2.2 (dN _ (by omega)).2)).symm
    · rw [gp_big _ _ _ (by omega), bB_f (fun z => by omega)]
  · rw [en, f516 20 (by decide) (by decide) (by decide) (by decide)]; rfl
  · rw [en]; decide
  · unfold msx; rw [m17]; rfl
  · unfold msx; rw [m17]; decide
  · unfold msy; rw [m18]; rfl
  · unfold msy; rw [m18]; decide
  · unfold msr; rw [m19]; rfl
  · unfold msr; rw [m19]; decide
  · rw [z134, f516 20 (by decide) (by decide) (by decide) (by decide)]
  · rw [z134, m17]
  · rw [z134, m18]
  · rw [z134, m19]
  · rw [f126 1 2 (by decide), MB_0 (by decide) (by decide), f516 2 (by decide) (by decide) (by decide) (by decide)]
  · rw [nd0, f516 2 (by decide) (by decide) (by decide) (by decide)]; rfl
  · rw [nd0]; decide
  · rw [f126 2 i (by decide), MB_0 (by decide) (by omega), fHi 519 i (by decide) (by decide) (by decide)]
  · rw [f126 0 _ (by decide), MB_0 (by decide) (by omega), f516 (22 + j) (by omega) (by omega) (by omega) (by omega)]
  · rw [f516 (22 + j) (by omega) (by omega) (by omega) (by omega)]; decide
  · rw [h1 518 k (by decide) (by decide) (by omega)]
    unfold MM
    rw [up_ne _ _ (by omega), up_ne _ _ (by omega), up_ne _ _ (by omega), rowN_lt _ _ _ hk]; rfl
  · rw [h1 517 k (by decide) (by decide) (by omega)]
    unfold MM
    rw [up_ne _ _ (by omega), up_ne _ _ (by omega), up_ne _ _ (by omega), rowN_o _ _ _ (by decide), rowN_lt _ _ _ hk]; rfl

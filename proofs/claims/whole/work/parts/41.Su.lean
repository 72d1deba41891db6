/-! the reference cuts, keeps and lays -/
theorem sgR_fr {M M' : Mem} (f : ∀ b k, b = 523 ∨ b = 524 → M' b k = M b k) (w h : Nat) (s a b : Int32) (x y : Nat) : sgR M' w h s a b x y = sgR M w h s a b x y := by
  unfold sgR
  rw [mLI_fr (M := M) (fun k => f _ k (Or.inl rfl)), f 523 _ (Or.inl rfl), f 524 _ (Or.inr rfl)]
theorem Msd_fr {M M' : Mem} {w h : Nat} (hM : Msd M w h) (f : ∀ b k, b = 523 ∨ b = 530 → M' b k = M b k) : Msd M' w h := fun x y hx hy => by
  rw [mLI_fr (M := M) (fun k => f _ k (Or.inl rfl)), f 530 _ (Or.inr rfl)]; exact hM x y hx hy
def rowS (M : Mem) (a o n : Nat) (f : Nat → Int32) : Mem := fun b k => if b = a ∧ o ≤ k ∧ k < o + n then f (k - o) else M b k
theorem rowS_0 (M : Mem) (a o : Nat) (f : Nat → Int32) : rowS M a o 0 f = M := by
  funext b k
  unfold rowS
  exact if_neg (by omega)
theorem rowS_up (M : Mem) (a o n : Nat) (f : Nat → Int32) {v : Int32} (h : v = f n) : up (rowS M a o n f) a (o + n) v = rowS M a o (n + 1) f := by
  funext b k
  by_cases c : b = a ∧ k = o + n
  · obtain ⟨rfl, rfl⟩ := c
    rw [up_same, h]
    unfold rowS
    rw [if_pos ⟨rfl, by omega, by omega⟩, show o + n - o = n by omega]
  · rw [up_ne _ _ c]
    unfold rowS
    by_cases c2 : b = a ∧ o ≤ k ∧ k < o + n
    · rw [if_pos c2, if_pos ⟨c2.1, by omega, by omega⟩]
    · rw [if_neg c2, if_neg (fun q => c2 ⟨q.1, q.2.1, by have : ¬ k = o + n := fun e => c ⟨q.1, e⟩; omega⟩)]
theorem rowS_o (M : Mem) {a b : Nat} (o n : Nat) (f : Nat → Int32) (h : b ≠ a) (k : Nat) : rowS M a o n f b k = M b k := if_neg (fun q => h q.1)
section SU
variable {xs : List Int32} {M : Mem} {L : Int64} {Q : Option Value → Mem → Int64 → Prop}
theorem m_cutBy {w h t : Nat} (hC : MCH M w h) (hM : Msd M w h) (ht : t < 40) {A : Nat → Nat → Bool} (hA : shA M 527 w h A) (hwd : ∀ x y, x < w → y < h → M 524 (20 * y + x) = 0 ∨ M 524 (20 * y + x) = 1) (ha : ¬ M 525 (5 * t + 1) = 0 → ¬ M 525 (5 * t + 1) = 1 → ¬ M 525 (5 * t + 1) = 3 → ¬ M 525 (5 * t + 1) = 4 → 0 ≤ (M 525 (5 * t + 2)).toInt ∧ (M 525 (5 * t + 2)).toInt ≤ 8)
    (hQ : Q none (setR M 527 (regC w h) (fun x y => b01 (A x y && sgR M w h (M 525 (5 * t + 1)) (M 525 (5 * t + 2)) (M 525 (5 * t + 3)) x y))) L) : RX xs shL md_Mod_cutBy 0 [.ref 516, .int (nI t)] [] M L Q := by
  have hC' := hC
  obtain ⟨c1, c2, w4, w20, h4, h20⟩ := hC
  refine L_Mod_cutBy_0 ?_
  refine grid (σ := Mem) (w := w) (h := h)
    (fun y s => RX xs shL md_Mod_cutBy 2 [.ref 516, .int (nI t), .int (nI y), .null] [] s L Q)
    (fun x y s => RX xs shL md_Mod_cutBy 12 [.ref 516, .int (nI t), .int (nI y), .int (nI x)] [] s L Q)
    (fun x y s => s = setR M 527 (reg w x y) (fun x y => b01 (A x y && sgR M w h (M 525 (5 * t + 1)) (M 525 (5 * t + 2)) (M 525 (5 * t + 3)) x y))) ?_ ?_ ?_ ?_ ?_ M ?_
  · intro s hs
    refine L_Mod_cutBy_2 ⟨fun _ => ?_, fun c => absurd ?_ c⟩
    · rw [hs, setR_congr M 527 (fun x y _ => reg_end x y) (fun _ _ _ _ => rfl)]; exact hQ
    · rw [hs, setR_o _ _ _ (by decide), c2]; exact Int32.le_refl _
  · intro y s hy hs hi
    refine L_Mod_cutBy_2 ⟨fun c => ?_, fun _ => hi⟩
    rw [hs, setR_o _ _ _ (by decide), c2, nI_leI (by omega) (by omega)] at c; omega
  · intro y s hy hs ho
    refine L_Mod_cutBy_12 ⟨fun _ => by rw [nI_1]; exact ho, fun c => absurd ?_ c⟩
    rw [hs, setR_o _ _ _ (by decide), c1]; exact Int32.le_refl _
  · intro x y s hx hy hs hn
    have fr : ∀ b k, b ≠ 527 → s b k = M b k := fun b k hb => by rw [hs, setR_o _ _ _ hb]
    have hCs : MCH s w h := by unfold MCH; rw [fr _ _ (by decide), fr _ _ (by decide)]; exact hC'
    have hcell : s 527 (20 * y + x) = b01 (A x y) := by rw [hs, setR_f M 527 _ (by omega) (by unfold reg; omega)]; exact hA x y hx hy
    have put : ∀ v : Int32, v = b01 (A x y && sgR M w h (M 525 (5 * t + 1)) (M 525 (5 * t + 2)) (M 525 (5 * t + 3)) x y) → RX xs shL md_Mod_cutBy 12 [.ref 516, .int (nI t), .int (nI y), .int (nI x + 1)] [] (up s 527 (20 * y + x) v) L Q := by
      intro v hv
      rw [nI_1 x]
      refine hn _ ?_
      rw [hs]
      exact setR_up M 527 _ (by omega) hv (fun x' y' _ => reg_up hx x' y')
    refine L_Mod_cutBy_12 ?_
    rw [hCs.1, nI_at, nI_cl (n := 20 * y + x) (by omega), hcell]
    refine ⟨fun c => absurd ((nI_leI (a := w) (b := x) (by omega) (by omega)).mp c) (by omega), fun _ => ⟨vp_nI (by omega) (by omega), fun c => put 0 ?_, fun c => ?_⟩⟩
    · rw [b01_0.mp c]; rfl
    · have hAt : A x y = true := by
        cases e : A x y with
        | true => rfl
        | false => rw [e] at c; exact absurd rfl c
      refine s_Mod_isSign hCs (Msd_fr hM (fun b k hb => fr b k (by omega))) ht hx hy (by rw [fr _ _ (by decide)]; exact hwd x y hx hy) (by rw [fr _ _ (by decide), fr _ _ (by decide)]; exact ha) ⟨_, rfl, ?_⟩
      rw [sgR_fr (M := M) (fun b k hb => fr b k (by omega)), fr 525 _ (by decide), fr 525 _ (by decide), fr 525 _ (by decide)]
      refine ⟨fun c2 => put 0 ?_, fun c2 => put 1 ?_⟩
      · rw [b01_0.mp c2, Bool.and_false]; rfl
      · rw [hAt, Bool.true_and]
        cases e : sgR M w h (M 525 (5 * t + 1)) (M 525 (5 * t + 2)) (M 525 (5 * t + 3)) x y with
        | true => rfl
        | false => rw [e] at c2; exact absurd rfl c2
  · intro y s hy hs
    exact hs.trans (setR_congr M 527 (fun x y _ => reg_row x y) (fun _ _ _ _ => rfl))
  · exact (setR_0 M 527 _ (fun x y _ => reg_00 x y)).symm
theorem m_keep {t : Nat} (ht : t ≤ 40) (hQ : Q none (rowS M 529 (400 * t) 400 (fun k => M 527 k &&& 1)) L) : RX xs shL md_Mod_keep 0 [.ref 516, .int (nI t)] [] M L Q := by
  refine L_Mod_keep_0 ?_
  have key : ∀ r j, j + r = 400 → RX xs shL md_Mod_keep 2 [.ref 516, .int (nI t), .int (nI j)] [] (rowS M 529 (400 * t) j (fun k => M 527 k &&& 1)) L Q := by
    intro r
    induction r with
    | zero =>
      intro j hj
      have : j = 400 := by omega
      subst this
      exact L_Mod_keep_2 ⟨fun _ => hQ, fun c => absurd (by decide) c⟩
    | succ r ih =>
      intro j hj
      have e : 400 * nI t + nI j = nI (400 * t + j) := nI_lin 400 t j
      refine L_Mod_keep_2 ⟨fun c => absurd ((nI_leI (a := 400) (b := j) (by omega) (by omega)).mp c) (by omega), fun _ => ?_⟩
      rw [e, nI_cl (by omega), nI_cl (by omega), nI_1, rowS_o _ _ _ _ (by decide), rowS_up _ _ _ _ _ rfl]
      exact ⟨vp_nI (by omega) (by omega), vp_nI (by omega) (by omega), ih (j + 1) (by omega)⟩
  have := key 400 0 (by omega)
  rw [rowS_0] at this
  exact this
theorem m_lay {t : Nat} (ht : t ≤ 40) (hQ : Q none (rowN M 527 400 (fun k => M 529 (400 * t + k) &&& 1)) L) : RX xs shL md_Mod_lay 0 [.ref 516, .int (nI t)] [] M L Q := by
  refine L_Mod_lay_0 ?_
  have key : ∀ r j, j + r = 400 → RX xs shL md_Mod_lay 2 [.ref 516, .int (nI t), .int (nI j)] [] (rowN M 527 j (fun k => M 529 (400 * t + k) &&& 1)) L Q := by
    intro r
    induction r with
    | zero =>
      intro j hj
      have : j = 400 := by omega
      subst this
      exact L_Mod_lay_2 ⟨fun _ => hQ, fun c => absurd (by decide) c⟩
    | succ r ih =>
      intro j hj
      have e : 400 * nI t + nI j = nI (400 * t + j) := nI_lin 400 t j
      refine L_Mod_lay_2 ⟨fun c => absurd ((nI_leI (a := 400) (b := j) (by omega) (by omega)).mp c) (by omega), fun _ => ?_⟩
      rw [e, nI_cl (by omega), nI_cl (by omega), nI_1, rowN_o _ _ _ (by decide), rowN_up _ _ _ _ rfl]
      exact ⟨vp_nI (by omega) (by omega), vp_nI (by omega) (by omega), ih (j + 1) (by omega)⟩
  have := key 400 0 (by omega)
  rw [rowN_0] at this
  exact this
end SU

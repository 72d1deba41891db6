/-! calls that change the state: watches, the stream, the log -/
theorem half_n : ∀ k, k < 8 → nI k / 2 = nI (k / 2) := by
  have h : (List.range 8).all (fun k => decide (nI k / 2 = nI (k / 2))) = true := by decide +kernel
  intro k hk
  simpa using List.all_eq_true.mp h k (List.mem_range.mpr hk)
section TX
variable {xs : List Int32} {M : Mem} {L : Int64}
theorem m_watch {n : Nat} (hn : M 516 4 = nI n) (h24 : n < 24) {Q : Option Value → Mem → Int64 → Prop}
    (hQ : ∀ M', (∀ b k, b ≠ 520 → b ≠ 521 → b ≠ 522 → ¬ (b = 516 ∧ k = 4) → M' b k = M b k) → M' 516 4 = nI (n + 1) → (∀ k, k < 8 → M' 520 (8 * n + k) = -1) → (∀ k, k < 4 → M' 521 (4 * n + k) = 0) → (∀ k, k < 3 → M' 522 (3 * n + k) = 0) → (∀ i, i < 8 * n → M' 520 i = M 520 i) → (∀ i, i < 4 * n → M' 521 i = M 521 i) → (∀ i, i < 3 * n → M' 522 i = M 522 i) → Q (some (.int (nI n))) M' L) : RX xs shL md_Mod_watch 0 [.ref 516] [] M L Q := by
  refine L_Mod_watch_0 ⟨fun e => ?_, fun _ => ?_⟩
  · rw [hn] at e
    have := congrArg Int32.toInt e
    rw [i_nI (by omega)] at this
    have : (n : Int) = 24 := this
    omega
  have two : ∀ r j, j + r = 3 → ∀ M', (∀ b k, b ≠ 520 → b ≠ 521 → b ≠ 522 → M' b k = M b k) → (∀ k, k < 8 → M' 520 (8 * n + k) = -1) → (∀ k, k < 4 → M' 521 (4 * n + k) = 0) → (∀ k, k < j → M' 522 (3 * n + k) = 0) → (∀ i, i < 8 * n → M' 520 i = M 520 i) → (∀ i, i < 4 * n → M' 521 i = M 521 i) → (∀ i, i < 3 * n → M' 522 i = M 522 i) → RX xs shL md_Mod_watch 59 [.ref 516, .int (nI j)] [] M' L Q := by
    intro r
    induction r with
    | zero =>
      intro j hj M' fr h0 h1 h2 g0 g1 g2
      have : j = 3 := by omega
      subst this
      have e4 : M' 516 4 = nI n := (fr _ _ (by decide) (by decide) (by decide)).trans hn
      refine L_Mod_watch_59 ⟨fun _ => ?_, fun c => absurd (by decide) c⟩
      rw [e4, nI_1, show nI (n + 1) - 1 = nI n from nI_subN (b := 1) (by omega)]
      exact hQ _ (fun b k q1 q2 q3 q4 => by rw [up_ne _ _ q4]; exact fr b k q1 q2 q3) (up_same _ _ _ _) (fun k hk => by rw [up_ne _ _ (by omega)]; exact h0 k hk) (fun k hk => by rw [up_ne _ _ (by omega)]; exact h1 k hk) (fun k hk => by rw [up_ne _ _ (by omega)]; exact h2 k hk) (fun i hi => by rw [up_ne _ _ (by omega)]; exact g0 i hi) (fun i hi => by rw [up_ne _ _ (by omega)]; exact g1 i hi) (fun i hi => by rw [up_ne _ _ (by omega)]; exact g2 i hi)
    | succ r ih =>
      intro j hj M' fr h0 h1 h2 g0 g1 g2
      have e4 : M' 516 4 = nI n := (fr _ _ (by decide) (by decide) (by decide)).trans hn
      refine L_Mod_watch_59 ⟨fun c => absurd ((nI_leI (a := 3) (b := j) (by omega) (by omega)).mp c) (by omega), fun _ => ?_⟩
      rw [e4, show (3 : Int32) * nI n + nI j = nI (3 * n + j) from nI_lin 3 n j, nI_cl (by omega), nI_1]
      refine ⟨vp_nI (by omega) (by omega), ih (j + 1) (by omega) _ (fun b k q1 q2 q3 => by rw [up_ne _ _ (fun z => q3 z.1)]; exact fr b k q1 q2 q3) (fun k hk => by rw [up_ne _ _ (by omega)]; exact h0 k hk) (fun k hk => by rw [up_ne _ _ (by omega)]; exact h1 k hk) (fun k hk => ?_) (fun i hi => by rw [up_ne _ _ (by omega)]; exact g0 i hi) (fun i hi => by rw [up_ne _ _ (by omega)]; exact g1 i hi) (fun i hi => by rw [up_ne _ _ (by omega)]; exact g2 i hi)⟩
      by_cases e : k = j
      · rw [e, up_same]
      · rw [up_ne _ _ (by omega)]; exact h2 k (by omega)
  have one : ∀ r j, j + r = 8 → ∀ M', (∀ b k, b ≠ 520 → b ≠ 521 → b ≠ 522 → M' b k = M b k) → (∀ k, k < j → M' 520 (8 * n + k) = -1) → (∀ k, 2 * k < j → M' 521 (4 * n + k) = 0) → (∀ i, i < 8 * n → M' 520 i = M 520 i) → (∀ i, i < 4 * n → M' 521 i = M 521 i) → (∀ i, M' 522 i = M 522 i) → RX xs shL md_Mod_watch 14 [.ref 516, .int (nI j)] [] M' L Q := by
    intro r
    induction r with
    | zero =>
      intro j hj M' fr h0 h1 g0 g1 g2
      have : j = 8 := by omega
      subst this
      exact L_Mod_watch_14 ⟨fun _ => two 3 0 (by omega) M' fr h0 (fun k hk => h1 k (by omega)) (fun k hk => by omega) g0 g1 (fun i _ => g2 i), fun c => absurd (by decide) c⟩
    | succ r ih =>
      intro j hj M' fr h0 h1 g0 g1 g2
      have e4 : M' 516 4 = nI n := (fr _ _ (by decide) (by decide) (by decide)).trans hn
      refine L_Mod_watch_14 ⟨fun c => absurd ((nI_leI (a := 8) (b := j) (by omega) (by omega)).mp c) (by omega), fun _ => ?_⟩
      rw [e4, show (8 : Int32) * nI n + nI j = nI (8 * n + j) from nI_lin 8 n j, half_n j (by omega), show (4 : Int32) * nI n + nI (j / 2) = nI (4 * n + j / 2) from nI_lin 4 n _, nI_cl (by omega), nI_cl (by omega), nI_1]
      refine ⟨vp_nI (by omega) (by omega), vp_nI (by omega) (by omega), ih (j + 1) (by omega) _ (fun b k q1 q2 q3 => by rw [up_ne _ _ (fun z => q2 z.1), up_ne _ _ (fun z => q1 z.1)]; exact fr b k q1 q2 q3) (fun k hk => ?_) (fun k hk => ?_) (fun i hi => by rw [up_ne _ _ (by omega), up_ne _ _ (by omega)]; exact g0 i hi) (fun i hi => by rw [up_ne _ _ (by omega), up_ne _ _ (by omega)]; exact g1 i hi) (fun i => by rw [up_ne _ _ (by omega), up_ne _ _ (by omega)]; exact g2 i)⟩
      · rw [up_ne _ _ (by omega)]
        by_cases e : k = j
        · rw [e, up_same]
        · rw [up_ne _ _ (by omega)]; exact h0 k (by omega)
      · by_cases e : k = j / 2
        · rw [e, up_same]
        · rw [up_ne _ _ (by omega), up_ne _ _ (by omega)]; exact h1 k (by omega)
  exact one 8 0 (by omega) M (fun _ _ _ _ _ => rfl) (fun k hk => by omega) (fun k hk => by omega) (fun _ _ => rfl) (fun _ _ => rfl) (fun _ => rfl)
theorem y_watch (hR : Rel M) : Tw xs md_Peg_watch md_Mod_watch [.ref 0] [.ref 516] M L := by
  obtain ⟨b1, b2, b3, b4, b5, b6, b7⟩ := hR.1
  refine L_Peg_watch_0 ⟨fun c => ?_, fun c => ?_⟩
  · rw [b1, b2] at c ⊢
    have c := (nI_ltI (a := nw M) (b := 24) (by omega) (by omega)).mp c
    rw [nI_1, show nI (nw M + 1) - 1 = nI (nw M) from nI_subN (b := 1) (by omega)]
    refine ⟨_, rfl, m_watch (n := nw M) (by rw [up_ne _ _ (by omega)]; exact b2) c (fun M2 fr e4 h0 h1 h2 g0 g1 g2 => ⟨rfl, ?_⟩)⟩
    have f : ∀ b k, b ≠ 520 → b ≠ 521 → b ≠ 522 → ¬ (b = 516 ∧ k = 4) → ¬ (b = 4 ∧ k = 1) → M2 b k = M b k := fun b k q1 q2 q3 q4 q5 => by rw [fr b k q1 q2 q3 q4, up_ne _ _ q5]
    have u0 : ∀ i, i < 8 * nw M → M2 520 i = M 520 i := fun i hi => (g0 i hi).trans (up_ne _ _ (by omega))
    have u1 : ∀ i, i < 4 * nw M → M2 521 i = M 521 i := fun i hi => (g1 i hi).trans (up_ne _ _ (by omega))
    have u2 : ∀ i, i < 3 * nw M → M2 522 i = M 522 i := fun i hi => (g2 i hi).trans (up_ne _ _ (by omega))
    have nn : nw M2 = nw M + 1 := by unfold nw; rw [e4, nI_cl (by omega)]; rfl
    refine Rel_bd hR ⟨?_, ?_, ?_, ?_, fun v hv => WC_fr (b5 v hv) (fun b k q1 q2 => f b k (by omega) (by omega) (by omega) (by omega) (by omega)), fun v hv => ?_, fun v hv hv2 => WF_fr (b7 v (by omega) hv2) (fun b k q1 q2 => f b k (by omega) (by omega) (by omega) (by omega) (by omega))⟩ (by omega) (fun b k q => f b k (by unfold bdC at q; omega) (by unfold bdC at q; omega) (by unfold bdC at q; omega) (by unfold bdC at q; omega) (by unfold bdC at q; omega))
    · rw [e4, fr _ _ (by decide) (by decide) (by decide) (by omega)]; exact up_same _ _ _ _
    · rw [e4, nn]
    · omega
    · rw [f 4 2 (by decide) (by decide) (by decide) (by omega) (by omega), f 516 8 (by decide) (by decide) (by decide) (by omega) (by omega)]; exact b4
    · by_cases e : v = nw M
      · subst e
        obtain ⟨w1, w2, w3⟩ := b7 (nw M) (Nat.le_refl _) c
        refine ⟨fun k hk => ?_, fun k hk => ?_, fun k hk => ?_, ?_, ?_⟩
        · rw [h0 k hk, f _ _ (by omega) (by omega) (by omega) (by omega) (by omega), w1 k hk]; exact ⟨rfl, by decide, by decide⟩
        · rw [h1 k hk, f _ _ (by omega) (by omega) (by omega) (by omega) (by omega), w2 k hk]
        · rw [h2 k hk, f _ _ (by omega) (by omega) (by omega) (by omega) (by omega), w3 k hk]
        · rw [h2 1 (by decide)]; decide
        · rw [h2 2 (by decide)]; decide
      · exact WE_fr (b6 v (by omega)) (fun b k q1 q2 => f b k (by omega) (by omega) (by omega) (by omega) (by omega)) (fun k hk => u0 _ (by omega)) (fun k hk => u1 _ (by omega)) (fun k hk => u2 _ (by omega))
  · rw [b1, b2] at c
    have c24 : nw M = 24 := by
      have : ¬ nw M < 24 := fun q => c ((nI_ltI (a := nw M) (b := 24) (by omega) (by omega)).mpr q)
      omega
    exact ⟨_, rfl, L_Mod_watch_0 ⟨fun _ => ⟨rfl, hR⟩, fun q => absurd (by rw [b2, c24]; rfl) q⟩⟩
theorem y_stream (hR : Rel M) (a b c d : Int32) : Tw xs md_Peg_stream md_Mod_stream [.ref 0, .int a, .int b, .int c, .int d] [.ref 516, .int a, .int b, .int c, .int d] M L := by
  have st : ∀ {u v : Int32}, (-20000 ≤ u ∧ v ≤ 20000 ∧ u ≤ v) ↔ ((-20000 ≤ u ∧ u ≤ v) ∧ (u ≤ v ∧ v ≤ 20000)) := ⟨fun q => ⟨⟨q.1, q.2.2⟩, q.2.2, q.2.1⟩, fun q => ⟨q.1.1, q.2.2, q.1.2⟩⟩
  have no : ∀ M1 : Mem, M1 = M → ¬ ((-20000 ≤ a ∧ b ≤ 20000 ∧ a ≤ b) ∧ (-20000 ≤ c ∧ d ≤ 20000 ∧ c ≤ d)) → ∃ v' : Int32, some (Value.int (-102)) = some (Value.int v') ∧ RX xs shL md_Mod_stream 0 [.ref 516, .int a, .int b, .int c, .int d] [] M L (fun r2 M2 _ => r2 = some (.int v') ∧ Rel M2) := fun M1 _ q => ⟨_, rfl, L_Mod_stream_0 ⟨fun q1 => ⟨fun q2 => ⟨fun q3 => ⟨fun q4 => absurd ⟨st.mpr ⟨q1, q2⟩, st.mpr ⟨q3, q4⟩⟩ q, fun _ => ⟨rfl, hR⟩⟩, fun _ => ⟨rfl, hR⟩⟩, fun _ => ⟨rfl, hR⟩⟩, fun _ => ⟨rfl, hR⟩⟩⟩
  refine L_Peg_stream_0 ⟨fun h => ⟨fun h2 => ?_, fun h2 => no M rfl (fun q => h2 q.2)⟩, fun h => no M rfl (fun q => h q.1)⟩
  obtain ⟨s1, s2⟩ := st.mp h
  obtain ⟨s3, s4⟩ := st.mp h2
  refine ⟨_, rfl, L_Mod_stream_0 ⟨fun _ => ⟨fun _ => ⟨fun _ => ⟨fun _ => ⟨rfl, ?_⟩, fun q => absurd s4 q⟩, fun q => absurd s3 q⟩, fun q => absurd s2 q⟩, fun q => absurd s1 q⟩⟩
  have hC := hR.2.1
  obtain ⟨c1, c2, c3, c4, c5, c6, c7, c8, c9⟩ := hC
  have fr : ∀ b' k, ¬ (b' = 126 ∧ 6 ≤ k ∧ k ≤ 9) → ¬ (b' = 516 ∧ 13 ≤ k ∧ k ≤ 16) → up (up (up (up (up (up (up (up M 126 6 a) 126 7 b) 126 8 c) 126 9 d) 516 13 a) 516 14 b) 516 15 c) 516 16 d b' k = M b' k := fun b' k q1 q2 => by
    rw [up_ne _ _ (by omega), up_ne _ _ (by omega), up_ne _ _ (by omega), up_ne _ _ (by omega), up_ne _ _ (by omega), up_ne _ _ (by omega), up_ne _ _ (by omega), up_ne _ _ (by omega)]
  have v6 : up (up (up (up (up (up (up (up M 126 6 a) 126 7 b) 126 8 c) 126 9 d) 516 13 a) 516 14 b) 516 15 c) 516 16 d 126 6 = a := by rw [up_ne _ _ (by omega), up_ne _ _ (by omega), up_ne _ _ (by omega), up_ne _ _ (by omega), up_ne _ _ (by omega), up_ne _ _ (by omega), up_ne _ _ (by omega)]; exact up_same _ _ _ _
  have v7 : up (up (up (up (up (up (up (up M 126 6 a) 126 7 b) 126 8 c) 126 9 d) 516 13 a) 516 14 b) 516 15 c) 516 16 d 126 7 = b := by rw [up_ne _ _ (by omega), up_ne _ _ (by omega), up_ne _ _ (by omega), up_ne _ _ (by omega), up_ne _ _ (by omega), up_ne _ _ (by omega)]; exact up_same _ _ _ _
  have v8 : up (up (up (up (up (up (up (up M 126 6 a) 126 7 b) 126 8 c) 126 9 d) 516 13 a) 516 14 b) 516 15 c) 516 16 d 126 8 = c := by rw [up_ne _ _ (by omega), up_ne _ _ (by omega), up_ne _ _ (by omega), up_ne _ _ (by omega), up_ne _ _ (by omega)]; exact up_same _ _ _ _
  have v9 : up (up (up (up (up (up (up (up M 126 6 a) 126 7 b) 126 8 c) 126 9 d) 516 13 a) 516 14 b) 516 15 c) 516 16 d 126 9 = d := by rw [up_ne _ _ (by omega), up_ne _ _ (by omega), up_ne _ _ (by omega), up_ne _ _ (by omega)]; exact up_same _ _ _ _
  have x3 : up (up (up (up (up (up (up (up M 126 6 a) 126 7 b) 126 8 c) 126 9 d) 516 13 a) 516 14 b) 516 15 c) 516 16 d 516 13 = a := by rw [up_ne _ _ (by omega), up_ne _ _ (by omega), up_ne _ _ (by omega)]; exact up_same _ _ _ _
  have x4 : up (up (up (up (up (up (up (up M 126 6 a) 126 7 b) 126 8 c) 126 9 d) 516 13 a) 516 14 b) 516 15 c) 516 16 d 516 14 = b := by rw [up_ne _ _ (by omega), up_ne _ _ (by omega)]; exact up_same _ _ _ _
  have x5 : up (up (up (up (up (up (up (up M 126 6 a) 126 7 b) 126 8 c) 126 9 d) 516 13 a) 516 14 b) 516 15 c) 516 16 d 516 15 = c := by rw [up_ne _ _ (by omega)]; exact up_same _ _ _ _
  have x6 : up (up (up (up (up (up (up (up M 126 6 a) 126 7 b) 126 8 c) 126 9 d) 516 13 a) 516 14 b) 516 15 c) 516 16 d 516 16 = d := up_same _ _ _ _
  generalize up (up (up (up (up (up (up (up M 126 6 a) 126 7 b) 126 8 c) 126 9 d) 516 13 a) 516 14 b) 516 15 c) 516 16 d = N at *
  have e9 : N 516 9 = M 516 9 := fr _ _ (by omega) (by omega)
  have e10 : N 516 10 = M 516 10 := fr _ _ (by omega) (by omega)
  have ew : mw N = mw M := by unfold mw; rw [e9]
  have eh : mh N = mh M := by unfold mh; rw [e10]
  have ef := mOp_fr e9 e10 (fun k => fr 523 k (by omega) (by omega))
  refine Rel_ch hR ⟨?_, ?_, ?_, ?_, fun j hj => ?_, fun x y hx hy => ?_, ?_, ?_, ?_⟩ (fun b' k q => fr b' k (fun z => q (by unfold chC; omega)) (fun z => q (by unfold chC; omega)))
  · rw [e9, ew]; exact c1
  · rw [e10, eh]; exact c2
  · rw [e9, fr _ _ (by omega) (by omega)]; exact c3
  · rw [e10, fr _ _ (by omega) (by omega)]; exact c4
  · match j, hj with
    | 0, _ => exact v6.trans x3.symm
    | 1, _ => exact v7.trans x4.symm
    | 2, _ => exact v8.trans x5.symm
    | 3, _ => exact v9.trans x6.symm
  · rw [fr 127 _ (by omega) (by omega), fr 523 _ (by omega) (by omega), fr 524 _ (by omega) (by omega)]; exact c6 x y hx hy
  · rw [ef.1]; exact shw_fr c7 (fun k => fr _ k (by omega) (by omega))
  · rw [ef.2]; exact shw_fr c8 (fun k => fr _ k (by omega) (by omega))
  · rw [mWd_fr e9 e10 (fun k => fr 524 k (by omega) (by omega))]; exact shw_fr c9 (fun k => fr _ k (by omega) (by omega))
theorem y_count (hR : Rel M) (a : Int32) {b : Int32} (hb : b = 0 ∨ b = 1) : Tw xs md_Peg_count md_Mod_count [.ref 0, .int a, .int b] [.ref 516, .int a, .int b] M L := by
  have ri := row_iff hR (M' := M) rfl (w := a)
  refine L_Peg_count_0 ⟨fun h => ?_, fun h => ⟨_, rfl, L_Mod_count_0 ⟨fun q => absurd (ri.mp q) h, fun _ => ⟨rfl, hR⟩⟩⟩⟩
  obtain ⟨t, t1, t2, t3⟩ := row_nI2 hR h
  have hL := hR.2.2.1
  obtain ⟨l1, l2, l3, l4, l5, l6, l7, l8, l9⟩ := hL
  obtain ⟨r1, r2, r3⟩ := l9 t t1
  have cl : a.toNatClampNeg = t := by rw [t3, nI_cl (by omega)]
  rw [cl]
  have e7 : M (136 + 5 * t) 7 = M 525 (5 * t + 4) := r1 4 (by decide)
  have ans : bI (¬ M (136 + 5 * t) 7 = 0) = M 525 (5 * t + 4) := by
    rw [e7]
    rcases r2 with r2 | r2
    · rw [r2]; exact bI_f (fun q => q rfl)
    · rw [r2]; exact bI_t (by decide)
  refine ⟨by rw [t3]; exact vp_nI (by omega) (by omega), hb, _, rfl, ?_⟩
  have ri2 : (0 ≤ a ∧ a ≤ up M (136 + 5 * t) 7 b 516 20 - 1) := by rw [up_ne _ _ (by omega)]; exact ri.mpr h
  have e0 : (5 : Int32) * a + 4 = nI (5 * t + 4) := by rw [t3]; exact nI_lin 5 t 4
  have fin : ∀ w : Int32, w = b → some (Value.int (up M (136 + 5 * t) 7 b 525 (5 * t + 4))) = some (Value.int (bI (¬ M (136 + 5 * t) 7 = 0))) ∧ Rel (up (up M (136 + 5 * t) 7 b) 525 (5 * t + 4) w) := by
    intro w hw
    subst hw
    rw [ans, up_ne _ _ (by omega)]
    refine ⟨rfl, ?_⟩
    have fr : ∀ b' k, ¬ (b' = 136 + 5 * t ∧ k = 7) → ¬ (b' = 525 ∧ k = 5 * t + 4) → up (up M (136 + 5 * t) 7 w) 525 (5 * t + 4) w b' k = M b' k := fun b' k q1 q2 => by rw [up_ne _ _ q2, up_ne _ _ q1]
    have v1 : up (up M (136 + 5 * t) 7 w) 525 (5 * t + 4) w 525 (5 * t + 4) = w := up_same _ _ _ _
    have v2 : up (up M (136 + 5 * t) 7 w) 525 (5 * t + 4) w (136 + 5 * t) 7 = w := by rw [up_ne _ _ (by omega)]; exact up_same _ _ _ _
    generalize up (up M (136 + 5 * t) 7 w) 525 (5 * t + 4) w = N at *
    have en : mn N = mn M := by unfold mn; rw [fr _ _ (by omega) (by omega)]
    have ex : msx N = msx M := by unfold msx; rw [fr _ _ (by omega) (by omega)]
    have ey : msy N = msy M := by unfold msy; rw [fr _ _ (by omega) (by omega)]
    have er : msr N = msr M := by unfold msr; rw [fr _ _ (by omega) (by omega)]
    have ew : nw N = nw M := by unfold nw; rw [fr _ _ (by omega) (by omega)]
    refine Rel_lg hR ⟨?_, ?_, ?_, ?_, ?_, ?_, ?_, ?_, fun s hs => ?_⟩ (fun b' k q => fr b' k (fun z => q (by unfold lgC; omega)) (fun z => q (by unfold lgC; omega)))
    · rw [en, fr _ _ (by omega) (by omega)]; exact l1
    · rw [ex, fr _ _ (by omega) (by omega)]; exact l2
    · rw [ey, fr _ _ (by omega) (by omega)]; exact l3
    · rw [er, fr _ _ (by omega) (by omega)]; exact l4
    · rw [fr _ _ (by omega) (by omega), fr _ _ (by omega) (by omega)]; exact l5
    · rw [fr _ _ (by omega) (by omega), fr _ _ (by omega) (by omega)]; exact l6
    · rw [fr _ _ (by omega) (by omega), fr _ _ (by omega) (by omega)]; exact l7
    · rw [fr _ _ (by omega) (by omega), fr _ _ (by omega) (by omega)]; exact l8
    · rw [en] at hs
      by_cases e : s = t
      · subst e
        have g0 : N 525 (5 * s) = M 525 (5 * s) := fr _ _ (by omega) (by omega)
        refine ⟨fun j hj => ?_, by rw [v1]; exact hb, ?_⟩
        · by_cases ej : j = 4
          · subst ej; exact v2.trans v1.symm
          · rw [fr _ _ (by omega) (by omega), fr _ _ (by omega) (by omega)]; exact r1 j hj
        · rw [g0, fr _ _ (by omega) (by omega), fr _ _ (by omega) (by omega), ew]; exact r3
      · exact RwE_fr (by omega) (l9 s hs) (fun k => fr _ _ (by omega) (by omega)) (fun j hj => fr _ _ (by omega) (by omega)) (by omega)
  refine L_Mod_count_0 ⟨fun _ => ?_, fun q => absurd ri2 q⟩
  rw [e0, nI_cl (by omega)]
  refine ⟨vp_nI (by omega) (by omega), fun z => fin 0 z.symm, fun z => fin 1 ?_⟩
  rcases hb with hb | hb
  · exact absurd hb z
  · exact hb.symm
theorem y_strike (hR : Rel M) : Tw xs md_Peg_strike md_Mod_strike [.ref 0] [.ref 516] M L := by
  have hL := hR.2.2.1
  obtain ⟨⟨l1, l1'⟩, l2, l3, l4, l5, l6, l7, l8, l9⟩ := hL
  refine L_Peg_strike_0 ⟨fun c => ⟨_, rfl, L_Mod_strike_0 ⟨fun _ => ⟨rfl, hR⟩, fun q => absurd (l5.symm.trans c) q⟩⟩, fun c => ⟨_, rfl, L_Mod_strike_0 ?_⟩⟩
  have e20 : up M 134 1 (M 134 1 - 1) 516 20 = M 516 20 := up_ne _ _ (by omega)
  rw [e20, l5]
  have n1 : 1 ≤ mn M := by
    have : mn M ≠ 0 := fun e => c (by rw [l5, l1, e]; rfl)
    omega
  refine ⟨fun q => absurd (l5.trans q) c, fun _ => ⟨rfl, ?_⟩⟩
  rw [l1, nI_s1 n1]
  have fr : ∀ b k, ¬ (b = 134 ∧ k = 1) → ¬ (b = 516 ∧ k = 20) → up (up M 134 1 (nI (mn M - 1))) 516 20 (nI (mn M - 1)) b k = M b k := fun b k q1 q2 => by rw [up_ne _ _ q2, up_ne _ _ q1]
  have v1 : up (up M 134 1 (nI (mn M - 1))) 516 20 (nI (mn M - 1)) 516 20 = nI (mn M - 1) := up_same _ _ _ _
  have v2 : up (up M 134 1 (nI (mn M - 1))) 516 20 (nI (mn M - 1)) 134 1 = nI (mn M - 1) := by rw [up_ne _ _ (by omega)]; exact up_same _ _ _ _
  generalize up (up M 134 1 (nI (mn M - 1))) 516 20 (nI (mn M - 1)) = N at *
  have en : mn N = mn M - 1 := by unfold mn; rw [v1, nI_cl (by omega)]; rfl
  have ex : msx N = msx M := by unfold msx; rw [fr _ _ (by omega) (by omega)]
  have ey : msy N = msy M := by unfold msy; rw [fr _ _ (by omega) (by omega)]
  have er : msr N = msr M := by unfold msr; rw [fr _ _ (by omega) (by omega)]
  have ew : nw N = nw M := by unfold nw; rw [fr _ _ (by omega) (by omega)]
  refine Rel_lg hR ⟨⟨?_, ?_⟩, ?_, ?_, ?_, ?_, ?_, ?_, ?_, fun s hs => ?_⟩ (fun b k q => fr b k (fun z => q (by unfold lgC; omega)) (fun z => q (by unfold lgC; omega)))
  · rw [en, v1]
  · omega
  · rw [ex, fr _ _ (by omega) (by omega)]; exact l2
  · rw [ey, fr _ _ (by omega) (by omega)]; exact l3
  · rw [er, fr _ _ (by omega) (by omega)]; exact l4
  · exact v2.trans v1.symm
  · rw [fr _ _ (by omega) (by omega), fr _ _ (by omega) (by omega)]; exact l6
  · rw [fr _ _ (by omega) (by omega), fr _ _ (by omega) (by omega)]; exact l7
  · rw [fr _ _ (by omega) (by omega), fr _ _ (by omega) (by omega)]; exact l8
  · exact RwE_fr (by omega) (l9 s (by omega)) (fun k => fr _ _ (by omega) (by omega)) (fun j hj => fr _ _ (by omega) (by omega)) (by omega)
end TX

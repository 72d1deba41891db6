/-! the look ahead -/
def PV (M : Mem) (V : Vw) : Prop := (∃ sx sy sr : Nat, M 134 2 = nI sx ∧ M 134 3 = nI sy ∧ M 134 4 = nI sr ∧ sx < 1000 ∧ sy < 1000 ∧ sr < 1000 ∧ V.st = fun x y => V.op x y && bB ((sx : Int) - sr ≤ x ∧ (x : Int) ≤ sx + sr ∧ (sy : Int) - sr ≤ y ∧ (y : Int) ≤ sy + sr)) ∧ inC V.w V.h (gp M 130) ∧
  ∀ t, t < V.n → (V.isW t → ∃ w, w < 24 ∧ M (136 + 5 * t) 3 = nI w ∧ ∀ k, k < 4 → (cRv M w 0 2 k).toInt = V.R t true k ∧ (uRv M w k).toInt = V.R t false k) ∧
    (¬ V.isW t → (∀ y, y < 20 → ∀ x, x < 32 → sgM M V.w V.h (M (136 + 5 * t) 4) (M (136 + 5 * t) 5) (M (136 + 5 * t) 6) x y = V.sg t x y) ∧ 0 ≤ (M (136 + 5 * t) 5).toInt ∧ (M (136 + 5 * t) 5).toInt ≤ 1000)
theorem rs_row (t : Nat) : ¬ rs (136 + 5 * t) := by unfold rs; omega
theorem rs_lo {b : Nat} (h : b < 136) : ¬ rs b := by unfold rs; omega
theorem cRv_fr {M M' : Mem} (f : ∀ b j, b < 136 → M' b j = M b j) {w : Nat} (hw : w < 24) (g : Int32) (j : Nat) : cRv M' w g j = cRv M w g j := by
  funext k
  unfold cRv rchv
  rw [f _ _ (by omega), f _ _ (by omega), f _ _ (by omega), f _ _ (by omega), f _ _ (by omega), f _ _ (by omega), f _ _ (by omega), f _ _ (by omega)]
theorem uRv_fr {M M' : Mem} (f : ∀ b j, b < 136 → M' b j = M b j) {w : Nat} (hw : w < 24) : uRv M' w = uRv M w := by
  funext k
  unfold uRv rchv
  rw [f _ _ (by omega), f _ _ (by omega), f _ _ (by omega), f _ _ (by omega), f _ _ (by omega), f _ _ (by omega)]
theorem gp_fr {M M' : Mem} {p : Nat} (f : ∀ j, M' (p + 1) j = M (p + 1) j) : gp M' p = gp M p := by
  funext x y
  unfold gp
  rw [f]
theorem sgM_fr {M M' : Mem} (f : ∀ b j, b < 136 → M' b j = M b j) (w h : Nat) (s a b : Int32) : sgM M' w h s a b = sgM M w h s a b := by
  funext x y
  unfold sgM dpS
  rw [gp_fr (p := 130) (fun j => f _ j (by omega)), gp_fr (p := 132) (fun j => f _ j (by omega)), gp_fr (p := 128) (fun j => f _ j (by omega)), f 127 _ (by omega)]
theorem Rd_fr2 {M M' : Mem} {V : Vw} {t : Nat} (h : Rd M V t) (f : ∀ b j, b = 136 + 5 * t + 1 ∨ b = 136 + 5 * t + 2 ∨ b = 136 + 5 * t + 3 + 1 → M' b j = M b j) : Rd M' V t := by
  refine ⟨fun hw k hk => ?_, fun hw y hy x hx => ?_⟩
  · rw [f _ _ (by omega), f _ _ (by omega)]; exact h.1 hw k hk
  · unfold gp
    rw [f _ _ (by omega)]; exact h.2 hw y hy x hx
theorem Sh_fr2 {M M' : Mem} {V : Vw} (h : Sh M V) (f : ∀ b j, ¬ rs b → b < 337 → M' b j = M b j) (hn : V.n ≤ 40) : Sh M' V := by
  obtain ⟨h1, h2, h3, h4⟩ := h
  refine ⟨?_, ?_, ?_, ?_⟩
  · unfold CH at h1 ⊢
    rw [f _ _ (rs_lo (by omega)) (by omega), f _ _ (rs_lo (by omega)) (by omega)]; exact h1
  · rw [f _ _ (rs_lo (by omega)) (by omega)]; exact h2
  · intro y hy x
    unfold gp
    rw [f _ _ (rs_lo (by omega)) (by omega)]; exact h3 y hy x
  · intro t ht
    rw [f _ _ (rs_row t) (by omega), f _ _ (rs_row t) (by omega)]; exact h4 t ht
section SO
variable {xs : List Int32} {M : Mem} {L : Int64} {Q : Option Value → Mem → Int64 → Prop}
theorem v_lookAhead {V : Vw} (hV : okV V) (hS : Sh M V) (hP : PV M V)
    (hQ : ∀ M', (∀ b j, ¬ rs b → (∀ t, t ≤ 40 → b ≠ 340 + 4 * t) → M' b j = M b j) → Sh M' V → (∀ t, t < V.n → Rd M' V t) → (∀ t, t ≤ V.n → shw M' (339 + 4 * t) (AH V t)) → Q (some (.ref (339 + 4 * V.n))) M' L) : RX xs shL md_Reckoning_lookAhead 0 [.ref 336] [] M L Q := by
  have hV' := hV
  obtain ⟨v1, v2, v3, v4, v5, v6, v7, v8⟩ := hV
  obtain ⟨⟨sx, sy, sr, p1, p2, p3, p4, p5, p6, p7⟩, pl, pr⟩ := hP
  refine L_Reckoning_lookAhead_0 (t_findStart p1 p2 p3 p4 p5 p6 v2 hS.2.2.1 v6 ⟨rfl, ?_⟩)
  rw [← p7]
  have key : ∀ r j, j + r = V.n → ∀ M', (∀ b i, ¬ rs b → b ≠ 340 → M' b i = M b i) → (∀ t, t < j → Rd M' V t) → shw M' 339 V.st → RX xs shL md_Reckoning_lookAhead 6 [.ref 336, .int (nI j)] [] M' L Q := by
    intro r
    induction r with
    | zero =>
      intro j hj M' hf hR hs
      have hj : j = V.n := by omega
      subst hj
      have hS' : Sh M' V := Sh_fr2 hS (fun b i h1 h2 => hf b i h1 (by omega)) v5
      refine L_Reckoning_lookAhead_6 ⟨fun _ => ?_, fun c => absurd ?_ c⟩
      · refine v_takeOnFrom (a := 0) hV' hS' hR (by omega) (fun t ht => ?_) (fun M2 f2 s2 => ?_)
        · have : t = 0 := by omega
          subst this
          exact hs
        · have hS2 := Sh_fr hV' hS' (fun b i hb => f2 b i (by omega))
          refine ⟨rfl, ?_⟩
          rw [hS2.2.1, nI_cl (by omega)]
          refine ⟨vp_nI (by omega) (by omega), hQ M2 (fun b i h1 h2 => ?_) hS2 (fun t ht => Rd_fr (by omega) (hR t ht) (fun b i hb => f2 b i (by omega))) s2⟩
          rw [f2 b i h2, hf b i h1 (h2 0 (by omega))]
      · rw [hS'.2.1]; exact Int32.le_refl _
    | succ r ih =>
      intro j hj M' hf hR hs
      have hS' : Sh M' V := Sh_fr2 hS (fun b i h1 h2 => hf b i h1 (by omega)) v5
      have f136 : ∀ b i, b < 136 → M' b i = M b i := fun b i hb => hf b i (rs_lo hb) (by omega)
      have frow : ∀ i, M' (136 + 5 * j) i = M (136 + 5 * j) i := fun i => hf _ i (rs_row j) (by omega)
      obtain ⟨pw, ps⟩ := pr j (by omega)
      refine L_Reckoning_lookAhead_6 ⟨fun c => ?_, fun _ => ?_⟩
      · rw [hS'.2.1, nI_leI (by omega) (by omega)] at c; omega
      rw [nI_1, nI_cl (by omega)]
      refine ⟨vp_nI (by omega) (by omega), ?_⟩
      by_cases hw : V.isW j
      · obtain ⟨w, w1, w2, w3⟩ := pw hw
        refine t_makeReadyW (by omega) w1 (by rw [frow]; exact w2) ⟨rfl, ?_⟩
        rw [cRv_fr f136 w1, uRv_fr f136 w1]
        refine ih (j + 1) (by omega) _ (fun b i h1 h2 => ?_) (fun t ht => ?_) (fun y hy x => ?_)
        · rw [rowN_o _ _ _ (fun e => h1 (by unfold rs; omega)), rowN_o _ _ _ (fun e => h1 (by unfold rs; omega))]
          exact hf b i h1 h2
        · by_cases e : t = j
          · subst e
            refine ⟨fun _ k hk => ?_, fun q => absurd hw q⟩
            rw [rowN_lt _ _ _ hk, rowN_o _ _ _ (by omega), rowN_lt _ _ _ hk]
            exact w3 k hk
          · refine Rd_fr2 (hR t (by omega)) (fun b i hb => ?_)
            rw [rowN_o _ _ _ (by omega), rowN_o _ _ _ (by omega)]
        · unfold gp
          rw [rowN_o _ _ _ (by omega), rowN_o _ _ _ (by omega)]
          exact hs y hy x
      · obtain ⟨s1, s2, s3⟩ := ps hw
        have pl' : inC V.w V.h (gp M' 130) := by rw [gp_fr (M := M) (fun i => f136 _ i (by omega))]; exact pl
        refine t_makeReadyS (by omega) (((hS'.2.2.2 j (by omega)).1).mpr hw) hS'.1 pl' (by rw [frow]; exact s2) (by rw [frow]; exact s3) ⟨rfl, ?_⟩
        rw [sgM_fr f136, frow, frow, frow]
        refine ih (j + 1) (by omega) _ (fun b i h1 h2 => ?_) (fun t ht => ?_) (fun y hy x => ?_)
        · rw [setP_o _ _ (fun e => h1 (by unfold rs; omega))]
          exact hf b i h1 h2
        · by_cases e : t = j
          · subst e
            refine ⟨fun q => absurd q hw, fun _ y hy x hx => ?_⟩
            rw [gp_set _ _ _ hx hy]
            exact s1 y hy x hx
          · refine Rd_fr2 (hR t (by omega)) (fun b i hb => ?_)
            rw [setP_o _ _ (by omega)]
        · rw [gp_setO _ _ (by omega)]
          exact hs y hy x
  refine key V.n 0 (by omega) _ (fun b i h1 h2 => setP_o M _ (by omega) i) (fun t ht => absurd ht (by omega)) (shw_set v2 v7)
end SO

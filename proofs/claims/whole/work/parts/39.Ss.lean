/-! the reference measures and begins -/
theorem mLI_fr {M M' : Mem} (f : ∀ k, M' 523 k = M 523 k) (w h : Nat) : mLI M' w h = mLI M w h := by
  funext a b
  unfold mLI
  rw [f]
section SS
variable {xs : List Int32} {M : Mem} {L : Int64} {Q : Option Value → Mem → Int64 → Prop}
theorem m_measure {w h : Nat} (hC : MCH M w h) (hQ : Q none (setR M 530 (regC w h) (fun x y => nvF (mLI M w h) x y)) L) : RX xs shL md_Mod_measure 0 [.ref 516] [] M L Q := by
  have hC' := hC
  obtain ⟨c1, c2, w4, w20, h4, h20⟩ := hC
  refine L_Mod_measure_0 ?_
  refine grid (σ := Mem) (w := w) (h := h)
    (fun y s => RX xs shL md_Mod_measure 2 [.ref 516, .int (nI y), .null] [] s L Q)
    (fun x y s => RX xs shL md_Mod_measure 12 [.ref 516, .int (nI y), .int (nI x)] [] s L Q)
    (fun x y s => s = setR M 530 (reg w x y) (fun x y => nvF (mLI M w h) x y)) ?_ ?_ ?_ ?_ ?_ M ?_
  · intro s hs
    refine L_Mod_measure_2 ⟨fun _ => ?_, fun c => absurd ?_ c⟩
    · rw [hs, setR_congr M 530 (fun x y _ => reg_end x y) (fun _ _ _ _ => rfl)]; exact hQ
    · rw [hs, setR_o _ _ _ (by decide), c2]; exact Int32.le_refl _
  · intro y s hy hs hi
    refine L_Mod_measure_2 ⟨fun c => ?_, fun _ => hi⟩
    rw [hs, setR_o _ _ _ (by decide), c2, nI_leI (by omega) (by omega)] at c; omega
  · intro y s hy hs ho
    refine L_Mod_measure_12 ⟨fun _ => by rw [nI_1]; exact ho, fun c => absurd ?_ c⟩
    rw [hs, setR_o _ _ _ (by decide), c1]; exact Int32.le_refl _
  · intro x y s hx hy hs hn
    have fr : ∀ b k, b ≠ 530 → s b k = M b k := fun b k hb => by rw [hs, setR_o _ _ _ hb]
    have hCs : MCH s w h := by unfold MCH; rw [fr _ _ (by decide), fr _ _ (by decide)]; exact hC'
    refine L_Mod_measure_12 ⟨fun c => ?_, fun _ => s_Mod_nearest (by omega) (by omega) hCs ⟨_, rfl, ?_⟩⟩
    · rw [hCs.1, nI_leI (by omega) (by omega)] at c; omega
    · rw [nI_at, nI_cl (by omega), nI_1, mLI_fr (M := M) (fun k => fr _ k (by decide))]
      refine ⟨vp_nI (by omega) (by omega), hn _ ?_⟩
      rw [hs]
      exact setR_up M 530 _ (by omega) rfl (fun x' y' _ => reg_up hx x' y')
  · intro y s hy hs
    exact hs.trans (setR_congr M 530 (fun x y _ => reg_row x y) (fun _ _ _ _ => rfl))
  · exact (setR_0 M 530 _ (fun x y _ => reg_00 x y)).symm
noncomputable def bgS (M : Mem) (w h sx sy sr x y : Nat) : Bool := bB (¬ mLI M w h x y) && bB ((sx : Int) - sr ≤ x ∧ (x : Int) ≤ sx + sr ∧ (sy : Int) - sr ≤ y ∧ (y : Int) ≤ sy + sr)
theorem m_begin {w h sx sy sr : Nat} (hC : MCH M w h) (h17 : M 516 17 = nI sx) (h18 : M 516 18 = nI sy) (h19 : M 516 19 = nI sr) (bx : sx < 1000) (by' : sy < 1000) (br : sr < 1000) (hQ : Q none (setR M 527 (regC w h) (fun x y => b01 (bgS M w h sx sy sr x y))) L) : RX xs shL md_Mod_begin 0 [.ref 516] [] M L Q := by
  have hC' := hC
  obtain ⟨c1, c2, w4, w20, h4, h20⟩ := hC
  refine L_Mod_begin_0 ?_
  refine grid (σ := Mem) (w := w) (h := h)
    (fun y s => RX xs shL md_Mod_begin 2 [.ref 516, .int (nI y), .null, .null] [] s L Q)
    (fun x y s => RX xs shL md_Mod_begin 12 [.ref 516, .int (nI y), .int (nI x), .null] [] s L Q)
    (fun x y s => s = setR M 527 (reg w x y) (fun x y => b01 (bgS M w h sx sy sr x y))) ?_ ?_ ?_ ?_ ?_ M ?_
  · intro s hs
    refine L_Mod_begin_2 ⟨fun _ => ?_, fun c => absurd ?_ c⟩
    · rw [hs, setR_congr M 527 (fun x y _ => reg_end x y) (fun _ _ _ _ => rfl)]; exact hQ
    · rw [hs, setR_o _ _ _ (by decide), c2]; exact Int32.le_refl _
  · intro y s hy hs hi
    refine L_Mod_begin_2 ⟨fun c => ?_, fun _ => hi⟩
    rw [hs, setR_o _ _ _ (by decide), c2, nI_leI (by omega) (by omega)] at c; omega
  · intro y s hy hs ho
    refine L_Mod_begin_12 ⟨fun _ => by rw [nI_1]; exact ho, fun c => absurd ?_ c⟩
    rw [hs, setR_o _ _ _ (by decide), c1]; exact Int32.le_refl _
  · intro x y s hx hy hs hn
    have fr : ∀ b k, b ≠ 527 → s b k = M b k := fun b k hb => by rw [hs, setR_o _ _ _ hb]
    have hCs : MCH s w h := by unfold MCH; rw [fr _ _ (by decide), fr _ _ (by decide)]; exact hC'
    have hxI : (nI x).toInt = x := i_nI (by omega)
    have hyI : (nI y).toInt = y := i_nI (by omega)
    have hsx : (nI sx).toInt = sx := i_nI (by omega)
    have hsy : (nI sy).toInt = sy := i_nI (by omega)
    have hsr : (nI sr).toInt = sr := i_nI (by omega)
    have d1 : (nI x - nI sx).toInt = (x : Int) - sx := by rw [i_sub (by omega) (by omega), hxI, hsx]
    have d2 : (nI y - nI sy).toInt = (y : Int) - sy := by rw [i_sub (by omega) (by omega), hyI, hsy]
    have d3 : (-nI sr).toInt = -(sr : Int) := by rw [i_neg (by omega), hsr]
    have put : ∀ v : Int32, v = b01 (bgS M w h sx sy sr x y) → RX xs shL md_Mod_begin 12 [.ref 516, .int (nI y), .int (nI x + 1), .null] [] (up s 527 (20 * y + x) v) L Q := by
      intro v hv
      rw [nI_1 x]
      refine hn _ ?_
      rw [hs]
      exact setR_up M 527 _ (by omega) hv (fun x' y' _ => reg_up hx x' y')
    have no : ∀ c : ¬ ((sx : Int) - sr ≤ x ∧ (x : Int) ≤ sx + sr ∧ (sy : Int) - sr ≤ y ∧ (y : Int) ≤ sy + sr), (0 : Int32) = b01 (bgS M w h sx sy sr x y) := fun c => by unfold bgS; rw [bB_f c, Bool.and_false]; rfl
    refine L_Mod_begin_12 ?_
    rw [hCs.1, fr 516 19 (by decide), fr 516 17 (by decide), fr 516 18 (by decide), h17, h18, h19, nI_at, nI_cl (n := 20 * y + x) (by omega)]
    have vp := vp_nI (k := 20 * y + x) (n := 400) (by omega) (by omega)
    refine ⟨fun c => absurd ((nI_leI (a := w) (b := x) (by omega) (by omega)).mp c) (by omega), fun _ => ⟨fun q1 => ⟨fun q2 => ⟨fun e => absurd e (by decide), fun _ => ?_⟩, fun q2 => ⟨fun _ => ⟨vp, put 0 (no ?_)⟩, fun e => absurd rfl e⟩⟩, fun q1 => ⟨fun _ => ⟨vp, put 0 (no ?_)⟩, fun e => absurd rfl e⟩⟩⟩
    · rw [i_le, i_le, d1, d3, hsr] at q1
      rw [i_le, i_le, d2, d3, hsr] at q2
      have ins : (sx : Int) - sr ≤ x ∧ (x : Int) ≤ sx + sr ∧ (sy : Int) - sr ≤ y ∧ (y : Int) ≤ sy + sr := by omega
      refine s_Mod_isLand hCs ⟨_, rfl, ?_⟩
      rw [mLI_fr (M := M) (fun k => fr _ k (by decide)), hxI, hyI]
      refine ⟨fun c => ⟨vp, put 1 ?_⟩, fun c => ⟨vp, put 0 ?_⟩⟩
      · unfold bgS; rw [bB_t ins, bB_t (bI_p0 c)]; rfl
      · unfold bgS; rw [bB_f (fun q => q (bI_p1 c))]; rfl
    · rw [i_le, i_le, d2, d3, hsr] at q2; omega
    · rw [i_le, i_le, d1, d3, hsr] at q1; omega
  · intro y s hy hs
    exact hs.trans (setR_congr M 527 (fun x y _ => reg_row x y) (fun _ _ _ _ => rfl))
  · exact (setR_0 M 527 _ (fun x y _ => reg_00 x y)).symm
end SS

/-! the log as a view, and the patch along it -/
def Vw : Type := Nat × Nat × Nat × (Nat → Nat → Bool) × (Nat → Nat → Bool) × (Nat → Prop) × (Nat → Bool) × (Nat → Nat → Nat → Bool) × (Nat → Bool → Nat → Int)
def Vw.w (V : Vw) : Nat := V.1
def Vw.h (V : Vw) : Nat := V.2.1
def Vw.n (V : Vw) : Nat := V.2.2.1
def Vw.op (V : Vw) : Nat → Nat → Bool := V.2.2.2.1
def Vw.st (V : Vw) : Nat → Nat → Bool := V.2.2.2.2.1
def Vw.isW (V : Vw) : Nat → Prop := V.2.2.2.2.2.1
def Vw.cn (V : Vw) : Nat → Bool := V.2.2.2.2.2.2.1
def Vw.sg (V : Vw) : Nat → Nat → Nat → Bool := V.2.2.2.2.2.2.2.1
def Vw.R (V : Vw) : Nat → Bool → Nat → Int := V.2.2.2.2.2.2.2.2
noncomputable def stV (V : Vw) (t : Nat) (c : Bool) (A : Nat → Nat → Bool) (x y : Nat) : Bool := @ite _ (V.isW t) (Classical.propDecidable _) (rchA V.w V.h A (V.R t c 0) (V.R t c 1) (V.R t c 2) (V.R t c 3) x y && V.op x y) (A x y && (!c || V.sg t x y))
noncomputable def bkV (V : Vw) (t : Nat) (A : Nat → Nat → Bool) (x y : Nat) : Bool := @ite _ (V.isW t) (Classical.propDecidable _) (rchA V.w V.h A (-(V.R t (V.cn t) 1)) (-(V.R t (V.cn t) 0)) (-(V.R t (V.cn t) 3)) (-(V.R t (V.cn t) 2)) x y && V.op x y) (A x y && (!V.cn t || V.sg t x y))
noncomputable def AH (V : Vw) : Nat → Nat → Nat → Bool
  | 0 => V.st
  | t + 1 => stV V t (V.cn t) (AH V t)
/-- from how many rows before the end -/
noncomputable def BK' (V : Vw) : Nat → Nat → Nat → Bool
  | 0 => V.op
  | r + 1 => bkV V (V.n - (r + 1)) (BK' V r)
noncomputable def BK (V : Vw) (t : Nat) : Nat → Nat → Bool := BK' V (V.n - t)
def okV (V : Vw) : Prop := 4 ≤ V.w ∧ V.w ≤ 20 ∧ 4 ≤ V.h ∧ V.h ≤ 20 ∧ V.n ≤ 40 ∧ inC V.w V.h V.op ∧ inC V.w V.h V.st ∧ ∀ t c k, t < V.n → V.isW t → k < 4 → -1000000 ≤ V.R t c k ∧ V.R t c k ≤ 1000000
theorem rchA_congr {w h : Nat} {A B : Nat → Nat → Bool} (h20 : h ≤ 20) (hAB : ∀ y, y < 20 → ∀ x, A x y = B x y) (W E So No : Int) (x y : Nat) : rchA w h A W E So No x y = rchA w h B W E So No x y := by
  refine bB_congr ?_
  constructor
  · rintro ⟨a1, a2, x', y', a3, a4, a5⟩
    exact ⟨a1, a2, x', y', a3, by rw [← hAB y' (by omega) x']; exact a4, a5⟩
  · rintro ⟨a1, a2, x', y', a3, a4, a5⟩
    exact ⟨a1, a2, x', y', a3, by rw [hAB y' (by omega) x']; exact a4, a5⟩
theorem stV_W {V : Vw} {t : Nat} (hw : V.isW t) (c : Bool) (A : Nat → Nat → Bool) (x y : Nat) : stV V t c A x y = (rchA V.w V.h A (V.R t c 0) (V.R t c 1) (V.R t c 2) (V.R t c 3) x y && V.op x y) := if_pos hw
theorem stV_S {V : Vw} {t : Nat} (hw : ¬ V.isW t) (c : Bool) (A : Nat → Nat → Bool) (x y : Nat) : stV V t c A x y = (A x y && (!c || V.sg t x y)) := if_neg hw
theorem bkV_W {V : Vw} {t : Nat} (hw : V.isW t) (A : Nat → Nat → Bool) (x y : Nat) : bkV V t A x y = (rchA V.w V.h A (-(V.R t (V.cn t) 1)) (-(V.R t (V.cn t) 0)) (-(V.R t (V.cn t) 3)) (-(V.R t (V.cn t) 2)) x y && V.op x y) := if_pos hw
theorem bkV_S {V : Vw} {t : Nat} (hw : ¬ V.isW t) (A : Nat → Nat → Bool) (x y : Nat) : bkV V t A x y = (A x y && (!V.cn t || V.sg t x y)) := if_neg hw
theorem stV_in {V : Vw} {t : Nat} {c : Bool} {A : Nat → Nat → Bool} (h : inC V.w V.h A) : inC V.w V.h (stV V t c A) := by
  intro x y hy q
  by_cases hw : V.isW t
  · rw [stV_W hw, Bool.and_eq_true_iff] at q
    exact rchA_in q.1
  · rw [stV_S hw, Bool.and_eq_true_iff] at q
    exact h x y hy q.1
theorem bkV_in {V : Vw} {t : Nat} {A : Nat → Nat → Bool} (h : inC V.w V.h A) : inC V.w V.h (bkV V t A) := by
  intro x y hy q
  by_cases hw : V.isW t
  · rw [bkV_W hw, Bool.and_eq_true_iff] at q
    exact rchA_in q.1
  · rw [bkV_S hw, Bool.and_eq_true_iff] at q
    exact h x y hy q.1
theorem AH_in {V : Vw} (hV : okV V) (t : Nat) : inC V.w V.h (AH V t) := by
  induction t with
  | zero => exact hV.2.2.2.2.2.2.1
  | succ t ih => exact stV_in ih
theorem BK'_in {V : Vw} (hV : okV V) (r : Nat) : inC V.w V.h (BK' V r) := by
  induction r with
  | zero => exact hV.2.2.2.2.2.1
  | succ t ih => exact bkV_in ih
theorem BK_n (V : Vw) : BK V V.n = V.op := by unfold BK; rw [Nat.sub_self]; rfl
theorem BK_s {V : Vw} {t : Nat} (h : t < V.n) : BK V t = bkV V t (BK V (t + 1)) := by
  unfold BK
  have e : V.n - t = (V.n - (t + 1)) + 1 := by omega
  rw [e]
  show bkV V (V.n - (V.n - (t + 1) + 1)) _ = _
  rw [show V.n - (V.n - (t + 1) + 1) = t by omega]
/-- patch p shows a set -/
def shw (M : Mem) (p : Nat) (A : Nat → Nat → Bool) : Prop := ∀ y, y < 20 → ∀ x, gp M p x y = A x y
theorem shw_set {M : Mem} {p w h : Nat} {A : Nat → Nat → Bool} (hw : w ≤ 20) (hA : inC w h A) : shw (setP M p A) p A := by
  intro y hy x
  by_cases hx : x < 32
  · exact gp_set M p A hx hy
  · rw [gp_big _ _ _ (by omega)]
    cases e : A x y with
    | false => rfl
    | true => have := hA x y hy e; omega
theorem shw_in {M : Mem} {p w h : Nat} {A : Nat → Nat → Bool} (hs : shw M p A) (hA : inC w h A) : inC w h (gp M p) := fun x y hy q => hA x y hy (by rw [← hs y hy x]; exact q)
/-- memory shows a view; a row is ready -/
def Sh (M : Mem) (V : Vw) : Prop := CH M V.w V.h ∧ M 134 1 = nI V.n ∧ shw M 128 V.op ∧ ∀ t, t < V.n → (M (136 + 5 * t) 3 = -1 ↔ ¬ V.isW t) ∧ (V.cn t = bB (¬ M (136 + 5 * t) 7 = 0))
def Rd (M : Mem) (V : Vw) (t : Nat) : Prop := (V.isW t → ∀ k, k < 4 → (M (136 + 5 * t + 1) k).toInt = V.R t true k ∧ (M (136 + 5 * t + 2) k).toInt = V.R t false k) ∧ (¬ V.isW t → ∀ y, y < 20 → ∀ x, x < 32 → gp M (136 + 5 * t + 3) x y = V.sg t x y)
theorem Sh_fr {M M' : Mem} {V : Vw} (hV : okV V) (h : Sh M V) (f : ∀ b j, b < 337 → M' b j = M b j) : Sh M' V := by
  obtain ⟨h1, h2, h3, h4⟩ := h
  obtain ⟨v1, v2, v3, v4, v5, _⟩ := hV
  refine ⟨?_, ?_, ?_, ?_⟩
  · unfold CH at h1 ⊢
    rw [f _ _ (by omega), f _ _ (by omega)]; exact h1
  · rw [f _ _ (by omega)]; exact h2
  · intro y hy x
    unfold gp
    rw [f _ _ (by omega)]; exact h3 y hy x
  · intro t ht
    rw [f _ _ (by omega), f _ _ (by omega)]; exact h4 t ht
theorem Rd_fr {M M' : Mem} {V : Vw} {t : Nat} (ht : t < 40) (h : Rd M V t) (f : ∀ b j, b < 337 → M' b j = M b j) : Rd M' V t := by
  refine ⟨fun hw k hk => ?_, fun hw y hy x hx => ?_⟩
  · rw [f _ _ (by omega), f _ _ (by omega)]; exact h.1 hw k hk
  · unfold gp
    rw [f _ _ (by omega)]; exact h.2 hw y hy x hx
section SM
variable {xs : List Int32} {M : Mem} {L : Int64} {Q : Option Value → Mem → Int64 → Prop}
theorem v_takeOn {V : Vw} (hV : okV V) (hS : Sh M V) {t : Nat} (ht : t < V.n) (hR : Rd M V t) {p q : Nat} (hp : isP shL p) (hq : isP shL q) (npq : p ≠ q) (n128 : 128 ≠ q) (nst : 136 + 5 * t + 3 ≠ q) {c : Int32} {A : Nat → Nat → Bool} (hA : shw M p A) (hin : inC V.w V.h A)
    (hQ : Q none (setP M q (stV V t (bB (¬ c = 0)) A)) L) : RX xs shL md_Row_takeOn 0 [.ref (136 + 5 * t), .int c, .ref p, .ref q, .ref 126] [] M L Q := by
  obtain ⟨v1, v2, v3, v4, v5, v6, v7, v8⟩ := hV
  obtain ⟨h1, h2, h3, h4⟩ := hS
  by_cases hw : V.isW t
  · have hc : ∀ k, k < 4 → (M (136 + 5 * t + if c = 0 then 2 else 1) k).toInt = V.R t (bB (¬ c = 0)) k := by
      intro k hk
      by_cases c0 : c = 0
      · rw [if_pos c0, bB_f (fun q => q c0)]; exact (hR.1 hw k hk).2
      · rw [if_neg c0, bB_t c0]; exact (hR.1 hw k hk).1
    refine t_takeOnW (by omega) hp hq npq n128 h1 (shw_in hA hin) (fun e => ((h4 t ht).1.mp e) hw) (hc 0 (by omega)) (hc 1 (by omega)) (hc 2 (by omega)) (hc 3 (by omega)) (v8 t _ 2 ht hw (by omega)).1 (v8 t _ 2 ht hw (by omega)).2 (v8 t _ 3 ht hw (by omega)).1 (v8 t _ 3 ht hw (by omega)).2 ?_
    rw [setP_congr M q (g := stV V t (bB (¬ c = 0)) A) (fun y hy x hx => by rw [stV_W hw, rchA_congr v4 hA, h3 y hy x])]
    exact hQ
  · refine t_takeOnS (by omega) hp hq nst ((h4 t ht).1.mpr hw) ?_
    rw [setP_congr M q (g := stV V t (bB (¬ c = 0)) A) (fun y hy x hx => by
      rw [stV_S hw, hA y hy x, hR.2 hw y hy x hx]
      by_cases c0 : c = 0
      · rw [bB_t c0, bB_f (fun q => q c0)]; rfl
      · rw [bB_f c0, bB_t c0]; rfl)]
    exact hQ
theorem v_takeBack {V : Vw} (hV : okV V) (hS : Sh M V) {t : Nat} (ht : t < V.n) (hR : Rd M V t) {p q : Nat} (hp : isP shL p) (hq : isP shL q) (npq : p ≠ q) (n128 : 128 ≠ q) (nst : 136 + 5 * t + 3 ≠ q) {A : Nat → Nat → Bool} (hA : shw M p A) (hin : inC V.w V.h A)
    (hQ : Q none (setP M q (bkV V t A)) L) : RX xs shL md_Row_takeBack 0 [.ref (136 + 5 * t), .ref p, .ref q, .ref 126] [] M L Q := by
  obtain ⟨v1, v2, v3, v4, v5, v6, v7, v8⟩ := hV
  obtain ⟨h1, h2, h3, h4⟩ := hS
  by_cases hw : V.isW t
  · have hc : ∀ k, k < 4 → (M (136 + 5 * t + if M (136 + 5 * t) 7 = 0 then 2 else 1) k).toInt = V.R t (V.cn t) k := by
      intro k hk
      rw [(h4 t ht).2]
      by_cases c0 : M (136 + 5 * t) 7 = 0
      · rw [if_pos c0, bB_f (fun q => q c0)]; exact (hR.1 hw k hk).2
      · rw [if_neg c0, bB_t c0]; exact (hR.1 hw k hk).1
    have b := fun k hk => v8 t (V.cn t) k ht hw hk
    refine t_takeBackW (by omega) hp hq npq n128 h1 (shw_in hA hin) (fun e => ((h4 t ht).1.mp e) hw) (hc 0 (by omega)) (hc 1 (by omega)) (hc 2 (by omega)) (hc 3 (by omega)) (b 2 (by omega)).1 (b 2 (by omega)).2 (b 3 (by omega)).1 (b 3 (by omega)).2 (b 0 (by omega)).1 (b 0 (by omega)).2 (b 1 (by omega)).1 (b 1 (by omega)).2 ?_
    rw [setP_congr M q (g := bkV V t A) (fun y hy x hx => by rw [bkV_W hw, rchA_congr v4 hA, h3 y hy x])]
    exact hQ
  · refine t_takeBackS (by omega) hp hq nst ((h4 t ht).1.mpr hw) ?_
    rw [setP_congr M q (g := bkV V t A) (fun y hy x hx => by
      rw [bkV_S hw, hA y hy x, hR.2 hw y hy x hx, (h4 t ht).2]
      by_cases c0 : M (136 + 5 * t) 7 = 0
      · rw [bB_t c0, bB_f (fun q => q c0)]; rfl
      · rw [bB_f c0, bB_t c0]; rfl)]
    exact hQ
/-- the patches ahead, from a row on -/
theorem v_takeOnFrom {V : Vw} (hV : okV V) (hS : Sh M V) (hR : ∀ t, t < V.n → Rd M V t) {a : Nat} (ha : a ≤ V.n) (h0 : ∀ t, t ≤ a → shw M (339 + 4 * t) (AH V t))
    (hQ : ∀ M', (∀ b j, (∀ t, t ≤ 40 → b ≠ 340 + 4 * t) → M' b j = M b j) → (∀ t, t ≤ V.n → shw M' (339 + 4 * t) (AH V t)) → Q none M' L) : RX xs shL md_Reckoning_takeOnFrom 0 [.ref 336, .int (nI a)] [] M L Q := by
  have hV' := hV
  obtain ⟨v1, v2, v3, v4, v5, v6, v7, v8⟩ := hV
  refine L_Reckoning_takeOnFrom_0 ?_
  have key : ∀ r j, j + r = V.n → ∀ M', (∀ b i, (∀ t, t ≤ 40 → b ≠ 340 + 4 * t) → M' b i = M b i) → (∀ t, t ≤ j → shw M' (339 + 4 * t) (AH V t)) → RX xs shL md_Reckoning_takeOnFrom 2 [.ref 336, .null, .int (nI j)] [] M' L Q := by
    intro r
    induction r with
    | zero =>
      intro j hj M' hf hs
      have hj : j = V.n := by omega
      subst hj
      refine L_Reckoning_takeOnFrom_2 ⟨fun _ => hQ M' hf hs, fun c => absurd ?_ c⟩
      rw [hf 134 1 (by omega), hS.2.1]; exact Int32.le_refl _
    | succ r ih =>
      intro j hj M' hf hs
      have f337 : ∀ b i, b < 337 → M' b i = M b i := fun b i hb => hf b i (by omega)
      have hS' := Sh_fr hV' hS f337
      have hR' := Rd_fr (by omega) (hR j (by omega)) f337
      refine L_Reckoning_takeOnFrom_2 ⟨fun c => ?_, fun _ => ?_⟩
      · rw [hS'.2.1, nI_leI (by omega) (by omega)] at c; omega
      rw [nI_1, nI_cl (by omega), nI_cl (by omega)]
      refine ⟨vp_nI (by omega) (by omega), vp_nI (by omega) (by omega), vp_nI (by omega) (by omega), v_takeOn hV' hS' (by omega) hR' (isP_ahead (by omega)) (isP_ahead (by omega)) (by omega) (by omega) (by omega) (hs j (by omega)) (AH_in hV' j) ⟨rfl, ?_⟩⟩
      rw [← (hS'.2.2.2 j (by omega)).2]
      refine ih (j + 1) (by omega) _ (fun b i hb => ?_) (fun t htj => ?_)
      · rw [setP_o _ _ (fun e => hb (j + 1) (by omega) (by omega))]; exact hf b i hb
      · by_cases e : t = j + 1
        · subst e
          exact shw_set v2 (AH_in hV' (j + 1))
        · intro y hy x
          rw [gp_setO _ _ (by omega)]
          exact hs t (by omega) y hy x
  exact key (V.n - a) a (by omega) M (fun _ _ _ => rfl) h0
/-- the patches back -/
theorem v_lookBack {V : Vw} (hV : okV V) (hS : Sh M V) (hR : ∀ t, t < V.n → Rd M V t)
    (hQ : ∀ M', (∀ b j, (∀ t, t ≤ 40 → b ≠ 342 + 4 * t) → M' b j = M b j) → (∀ t, t ≤ V.n → shw M' (341 + 4 * t) (BK V t)) → Q none M' L) : RX xs shL md_Reckoning_lookBack 0 [.ref 336] [] M L Q := by
  have hV' := hV
  obtain ⟨v1, v2, v3, v4, v5, v6, v7, v8⟩ := hV
  refine L_Reckoning_lookBack_0 ?_
  rw [hS.2.1, nI_cl (by omega), setP_o M _ (by omega), hS.2.1]
  refine ⟨vp_nI (by omega) (by omega), ?_⟩
  have key : ∀ j, j ≤ V.n → ∀ M', (∀ b i, (∀ t, t ≤ 40 → b ≠ 342 + 4 * t) → M' b i = M b i) → (∀ t, j ≤ t → t ≤ V.n → shw M' (341 + 4 * t) (BK V t)) → RX xs shL md_Reckoning_lookBack 32 [.ref 336, .int (nI j - 1)] [] M' L Q := by
    intro j
    induction j with
    | zero =>
      intro hj M' hf hs
      exact L_Reckoning_lookBack_32 ⟨fun _ => hQ M' hf (fun t ht => hs t (by omega) ht), fun c => absurd (by decide) c⟩
    | succ j ih =>
      intro hj M' hf hs
      have f337 : ∀ b i, b < 337 → M' b i = M b i := fun b i hb => hf b i (by omega)
      have hS' := Sh_fr hV' hS f337
      have hR' := Rd_fr (by omega) (hR j (by omega)) f337
      rw [nI_pred]
      refine L_Reckoning_lookBack_32 ⟨fun c => absurd c (nI_pos (by omega)), fun _ => ?_⟩
      rw [nI_1, nI_cl (by omega), nI_cl (by omega)]
      refine ⟨vp_nI (by omega) (by omega), vp_nI (by omega) (by omega), vp_nI (by omega) (by omega), v_takeBack hV' hS' (by omega) hR' (isP_back (by omega)) (isP_back (by omega)) (by omega) (by omega) (by omega) (hs (j + 1) (by omega) (by omega)) (BK'_in hV' _) ⟨rfl, ?_⟩⟩
      rw [← BK_s (show j < V.n by omega), ← Int32.sub_eq_add_neg]
      refine ih (by omega) _ (fun b i hb => ?_) (fun t htj htn => ?_)
      · rw [setP_o _ _ (fun e => hb j (by omega) (by omega))]; exact hf b i hb
      · by_cases e : t = j
        · subst e
          exact shw_set v2 (BK'_in hV' _)
        · intro y hy x
          rw [gp_setO _ _ (by omega)]
          exact hs t (by omega) htn y hy x
  refine key V.n (Nat.le_refl _) _ (fun b i hb => setP_o M _ (fun e => hb V.n (by omega) (by omega)) i) (fun t h1 h2 => ?_)
  have : t = V.n := by omega
  subst this
  rw [BK_n]
  intro y hy x
  by_cases hx : x < 32
  · rw [gp_set _ _ _ hx hy]; exact hS.2.2.1 y hy x
  · rw [gp_big _ _ _ (by omega), ← hS.2.2.1 y hy x, gp_big _ _ _ (by omega)]
end SM

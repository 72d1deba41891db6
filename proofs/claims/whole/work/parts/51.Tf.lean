/-! what is found, as a list; the reference seeks -/
def pick (l : List Int32) (i : Int32) : Int32 := if 0 ≤ i then l.getD i.toNatClampNeg (-1) else -1
theorem pick_nil (i : Int32) : pick [] i = -1 := by unfold pick; split <;> simp
theorem pick_push {l : List Int32} {i v : Int32} (hl : l.length < 100000) : (if nI l.length = i then v else pick l i) = pick (l ++ [v]) i := by
  unfold pick
  by_cases h0 : 0 ≤ i
  · have hi : 0 ≤ i.toInt := i_le.mp h0
    have ek : (i.toNatClampNeg : Int) = i.toInt := clampI hi
    rw [if_pos h0, if_pos h0]
    by_cases e : nI l.length = i
    · rw [if_pos e]
      have : i.toNatClampNeg = l.length := by rw [← e, nI_cl (by omega)]
      rw [this]; simp
    · rw [if_neg e]
      have ne : i.toNatClampNeg ≠ l.length := fun q => e (i_eq (by rw [i_nI (by omega)]; omega))
      simp only [List.getD_eq_getElem?_getD]
      by_cases lt : i.toNatClampNeg < l.length
      · rw [List.getElem?_append_left lt]
      · rw [List.getElem?_eq_none (by omega), List.getElem?_eq_none (by simp; omega)]
  · rw [if_neg h0, if_neg h0, if_neg]
    intro e
    apply h0
    rw [← e, i_le, i_nI (by omega)]
    show (0 : Int) ≤ _
    omega
def lsF (f : Nat → List Int32) : Nat → List Int32
  | 0 => []
  | n + 1 => lsF f n ++ f n
theorem lsF_le {f : Nat → List Int32} {c : Nat} : ∀ n, (∀ t, t < n → (f t).length ≤ c) → (lsF f n).length ≤ c * n := by
  intro n
  induction n with
  | zero => intro _; exact Nat.zero_le _
  | succ n ih =>
    intro h
    have := ih (fun t ht => h t (by omega))
    have := h n (by omega)
    simp only [lsF, List.length_append, Nat.mul_succ]
    omega
theorem lsF_nil {f : Nat → List Int32} {n : Nat} (h : f n = []) : lsF f (n + 1) = lsF f n := by simp only [lsF]; rw [h, List.append_nil]
theorem lsF_one {f : Nat → List Int32} {n : Nat} {v : Int32} (h : f n = [v]) : lsF f (n + 1) = lsF f n ++ [v] := by simp only [lsF]; rw [h]
theorem lsF_congr {f g : Nat → List Int32} : ∀ n, (∀ t, t < n → f t = g t) → lsF f n = lsF g n := by
  intro n
  induction n with
  | zero => intro _; rfl
  | succ n ih => intro h; simp only [lsF]; rw [ih (fun t ht => h t (by omega)), h n (by omega)]
noncomputable def bf1 (V : Vw) (t : Nat) : List Int32 := if bB (V.cn t = true ∧ hlp V t t) then [nI t] else []
noncomputable def bf2 (V : Vw) (a b : Nat) : List Int32 := if bB (V.cn a = true ∧ V.cn b = true ∧ hlp V a b) then [nI (100 * (a + 1) + b)] else []
noncomputable def bl1 (V : Vw) : List Int32 := lsF (bf1 V) V.n
noncomputable def bg2 (V : Vw) (a : Nat) : List Int32 := lsF (fun j => bf2 V a (a + 1 + j)) (V.n - (a + 1))
noncomputable def bl2 (V : Vw) : List Int32 := lsF (bg2 V) V.n
noncomputable def blm (V : Vw) : List Int32 := if bl1 V = [] then bl2 V else bl1 V
theorem bf1_le (V : Vw) (t : Nat) : (bf1 V t).length ≤ 1 := by unfold bf1; split <;> simp
theorem bf2_le (V : Vw) (a b : Nat) : (bf2 V a b).length ≤ 1 := by unfold bf2; split <;> simp
theorem bf1_t {V : Vw} {t : Nat} (h : V.cn t = true ∧ hlp V t t) : bf1 V t = [nI t] := by unfold bf1; rw [bB_t h]; rfl
theorem bf1_f {V : Vw} {t : Nat} (h : ¬ (V.cn t = true ∧ hlp V t t)) : bf1 V t = [] := by unfold bf1; rw [bB_f h]; rfl
theorem bf2_t {V : Vw} {a b : Nat} (h : V.cn a = true ∧ V.cn b = true ∧ hlp V a b) : bf2 V a b = [nI (100 * (a + 1) + b)] := by unfold bf2; rw [bB_t h]; rfl
theorem bf2_f {V : Vw} {a b : Nat} (h : ¬ (V.cn a = true ∧ V.cn b = true ∧ hlp V a b)) : bf2 V a b = [] := by unfold bf2; rw [bB_f h]; rfl
theorem Eq0_33 {M0 M : Mem} (h : Eq0 M0 M) (v : Int32) : Eq0 M0 (up M 516 33 v) := fun b k q => by
  rw [up_ne _ _ (fun e => q (by rw [e.1, e.2]; unfold Scr; omega))]; exact h b k q
theorem Ms0_33 {M0 M : Mem} (h : Ms0 M0 M) (v : Int32) : Ms0 M0 (up M 516 33 v) := fun x y hx hy => by
  rw [up_ne _ _ (by omega)]; exact h x y hx hy
section TF
variable {xs : List Int32} {M M0 : Mem} {L : Int64} {Q : Option Value → Mem → Int64 → Prop}
theorem m_seekPairs (hG : GM M0) (hE : Eq0 M0 M) (hN : Ms0 M0 M) {i : Int32} (h33 : M 516 33 = -1) (hQ : ∀ M', Eq0 M0 M' → M' 516 33 = pick (bl2 (VM M0 0 0 0)) i → Q (some (.int (nI (bl2 (VM M0 0 0 0)).length))) M' L) : RX xs shL md_Mod_seekPairs 0 [.ref 516, .int i] [] M L Q := by
  have hn : mn M0 ≤ 40 := hG.2.1.2
  have en : (VM M0 0 0 0).n = mn M0 := rfl
  have ginn : ∀ a j, j ≤ 40 → (lsF (fun j => bf2 (VM M0 0 0 0) a (a + 1 + j)) j).length ≤ 40 := fun a j hj => Nat.le_trans (lsF_le (c := 1) j (fun t _ => bf2_le _ _ _)) (by omega)
  have gout : ∀ a, a ≤ 40 → (lsF (bg2 (VM M0 0 0 0)) a).length ≤ 1600 := fun a ha => Nat.le_trans (lsF_le (c := 40) a (fun t _ => ginn t _ (by omega))) (by omega)
  have outer : ∀ r a, a + r = mn M0 → ∀ M', Eq0 M0 M' → Ms0 M0 M' → M' 516 33 = pick (lsF (bg2 (VM M0 0 0 0)) a) i → RX xs shL md_Mod_seekPairs 4 [.ref 516, .int i, .int (nI (lsF (bg2 (VM M0 0 0 0)) a).length), .int (nI a), .null] [] M' L Q := by
    intro r
    induction r with
    | zero =>
      intro a ha M' hE' hN' h'
      have : a = mn M0 := by omega
      subst this
      refine L_Mod_seekPairs_4 ⟨fun _ => hQ M' hE' h', fun c => absurd ?_ c⟩
      rw [hE' _ _ (ns_516 (by decide)), hG.2.1.1]; exact Int32.le_refl _
    | succ r ih =>
      intro a ha M' hE' hN' h'
      have inner : ∀ q j, a + 1 + j + q = mn M0 → ∀ M', Eq0 M0 M' → Ms0 M0 M' → M' 516 33 = pick (lsF (bg2 (VM M0 0 0 0)) a ++ lsF (fun j => bf2 (VM M0 0 0 0) a (a + 1 + j)) j) i → RX xs shL md_Mod_seekPairs 17 [.ref 516, .int i, .int (nI (lsF (bg2 (VM M0 0 0 0)) a ++ lsF (fun j => bf2 (VM M0 0 0 0) a (a + 1 + j)) j).length), .int (nI a), .int (nI (a + 1 + j))] [] M' L Q := by
        intro q
        induction q with
        | zero =>
          intro j hj M' hE' hN' h'
          refine L_Mod_seekPairs_17 ⟨fun _ => ?_, fun c => absurd ?_ c⟩
          · rw [nI_1]
            have e : lsF (bg2 (VM M0 0 0 0)) (a + 1) = lsF (bg2 (VM M0 0 0 0)) a ++ lsF (fun j => bf2 (VM M0 0 0 0) a (a + 1 + j)) j := by
              show _ ++ lsF _ ((VM M0 0 0 0).n - (a + 1)) = _
              rw [en, show mn M0 - (a + 1) = j by omega]
            rw [← e] at h' ⊢
            exact ih (a + 1) (by omega) M' hE' hN' h'
          · rw [hE' _ _ (ns_516 (by decide)), hG.2.1.1, nI_leI (by omega) (by omega)]; omega
        | succ q ihq =>
          intro j hj M' hE' hN' h'
          have na : (5 : Int32) * nI a + 4 = nI (5 * a + 4) := nI_lin 5 a 4
          have nb : (5 : Int32) * nI (a + 1 + j) + 4 = nI (5 * (a + 1 + j) + 4) := nI_lin 5 _ 4
          have e525 : ∀ k, M' 525 k = M0 525 k := fun k => hE' _ k (ns_5 (by decide) (by decide))
          have hl : (lsF (bg2 (VM M0 0 0 0)) a ++ lsF (fun j => bf2 (VM M0 0 0 0) a (a + 1 + j)) j).length < 100000 := by
            have := gout a (by omega)
            have := ginn a j (by omega)
            rw [List.length_append]; omega
          have no : bf2 (VM M0 0 0 0) a (a + 1 + j) = [] → ∀ M', Eq0 M0 M' → Ms0 M0 M' → M' 516 33 = pick (lsF (bg2 (VM M0 0 0 0)) a ++ lsF (fun j => bf2 (VM M0 0 0 0) a (a + 1 + j)) j) i → RX xs shL md_Mod_seekPairs 17 [.ref 516, .int i, .int (nI (lsF (bg2 (VM M0 0 0 0)) a ++ lsF (fun j => bf2 (VM M0 0 0 0) a (a + 1 + j)) j).length), .int (nI a), .int (nI (a + 1 + (j + 1)))] [] M' L Q := by
            intro z M' hE' hN' h'
            have := ihq (j + 1) (by omega) M' hE' hN'
            rw [lsF_nil (f := fun j => bf2 (VM M0 0 0 0) a (a + 1 + j)) z] at this
            exact this h'
          refine L_Mod_seekPairs_17 ⟨fun c => ?_, fun _ => ?_⟩
          · rw [hE' _ _ (ns_516 (by decide)), hG.2.1.1, nI_leI (by omega) (by omega)] at c; omega
          rw [na, nb, nI_cl (by omega), nI_cl (by omega), e525, e525, nI_1 (a + 1 + j)]
          refine ⟨vp_nI (by omega) (by omega), fun ca => ⟨vp_nI (by omega) (by omega), fun cb => ?_, fun cb => ?_⟩, fun ca => ?_⟩
          · refine m_helps hG hE' hN' (by omega) (by omega) (fun M2 E2 f2 => ⟨_, rfl, fun z => ?_, fun z => ?_⟩)
            · refine no (bf2_f fun w => bI_p0 z w.2.2) M2 E2 (fun x y hx hy => by rw [f2 _ _ (by omega)]; exact hN' x y hx hy) (by rw [f2 _ _ (by omega)]; exact h')
            · have yes : bf2 (VM M0 0 0 0) a (a + 1 + j) = [nI (100 * (a + 1) + (a + 1 + j))] := bf2_t ⟨bB_t ca, bB_t cb, bI_p1 z⟩
              have go := ihq (j + 1) (by omega)
              rw [lsF_one (f := fun j => bf2 (VM M0 0 0 0) a (a + 1 + j)) yes, ← List.append_assoc, List.length_append (bs := [_]), List.length_singleton, ← nI_1, ← pick_push hl] at go
              have ev : (100 : Int32) * (nI a + 1) + nI (a + 1 + j) = nI (100 * (a + 1) + (a + 1 + j)) := by rw [nI_1]; exact nI_lin 100 _ _
              have N2 : Ms0 M0 M2 := fun x y hx hy => by rw [f2 _ _ (by omega)]; exact hN' x y hx hy
              rw [ev]
              refine ⟨fun e => go _ (Eq0_33 E2 _) (Ms0_33 N2 _) ?_, fun e => go _ (Eq0_33 E2 _) (Ms0_33 N2 _) ?_⟩
              · rw [up_same, if_pos e]
              · rw [up_same, if_neg e, f2 _ _ (by omega)]; exact h'
          · exact no (bf2_f fun w => cb (bB_iff.mp w.2.1)) M' hE' hN' h'
          · exact no (bf2_f fun w => ca (bB_iff.mp w.1)) M' hE' hN' h'
      refine L_Mod_seekPairs_4 ⟨fun c => ?_, fun _ => ?_⟩
      · rw [hE' _ _ (ns_516 (by decide)), hG.2.1.1, nI_leI (by omega) (by omega)] at c; omega
      · have := inner (mn M0 - (a + 1)) 0 (by omega) M' hE' hN' (by rw [show lsF (fun j => bf2 (VM M0 0 0 0) a (a + 1 + j)) 0 = [] from rfl, List.append_nil]; exact h')
        rw [show lsF (fun j => bf2 (VM M0 0 0 0) a (a + 1 + j)) 0 = [] from rfl, List.append_nil, Nat.add_zero] at this
        rw [nI_1]
        exact this
  refine L_Mod_seekPairs_0 (outer (mn M0) 0 (by omega) M hE hN ?_)
  rw [h33]; exact (pick_nil i).symm
theorem m_seek (hG : GM M0) (hE : Eq0 M0 M) (hN : Ms0 M0 M) {i : Int32} (hQ : ∀ M', Eq0 M0 M' → M' 516 33 = pick (blm (VM M0 0 0 0)) i → Q (some (.int (nI (blm (VM M0 0 0 0)).length))) M' L) : RX xs shL md_Mod_seek 0 [.ref 516, .int i] [] M L Q := by
  have hn : mn M0 ≤ 40 := hG.2.1.2
  have gl : ∀ a, a ≤ 40 → (lsF (bf1 (VM M0 0 0 0)) a).length ≤ 40 := fun a ha => Nat.le_trans (lsF_le (c := 1) a (fun t _ => bf1_le _ _)) (by omega)
  have key : ∀ r j, j + r = mn M0 → ∀ M', Eq0 M0 M' → Ms0 M0 M' → M' 516 33 = pick (lsF (bf1 (VM M0 0 0 0)) j) i → RX xs shL md_Mod_seek 9 [.ref 516, .int i, .int (nI (lsF (bf1 (VM M0 0 0 0)) j).length), .int (nI j)] [] M' L Q := by
    intro r
    induction r with
    | zero =>
      intro j hj M' hE' hN' h'
      have : j = mn M0 := by omega
      subst this
      have hl := gl (mn M0) hn
      have eb : bl1 (VM M0 0 0 0) = lsF (bf1 (VM M0 0 0 0)) (mn M0) := rfl
      refine L_Mod_seek_9 ⟨fun _ => ⟨fun z => ?_, fun z => ?_⟩, fun c => absurd ?_ c⟩
      · rw [i_le, i_nI (by omega)] at z
        have z : ((lsF (bf1 (VM M0 0 0 0)) (mn M0)).length : Int) ≤ 0 := z
        have z0 : lsF (bf1 (VM M0 0 0 0)) (mn M0) = [] := List.eq_nil_of_length_eq_zero (by omega)
        rw [z0, pick_nil] at h'
        have em : blm (VM M0 0 0 0) = bl2 (VM M0 0 0 0) := by unfold blm; rw [if_pos (eb.trans z0)]
        rw [em] at hQ
        exact m_seekPairs hG hE' hN' h' (fun M2 E2 q2 => ⟨_, rfl, hQ M2 E2 q2⟩)
      · have z0 : ¬ bl1 (VM M0 0 0 0) = [] := fun q => z (by rw [← eb, q]; decide)
        have em : blm (VM M0 0 0 0) = bl1 (VM M0 0 0 0) := by unfold blm; rw [if_neg z0]
        rw [em] at hQ
        exact hQ M' hE' h'
      · rw [hE' _ _ (ns_516 (by decide)), hG.2.1.1]; exact Int32.le_refl _
    | succ r ih =>
      intro j hj M' hE' hN' h'
      have nj : (5 : Int32) * nI j + 4 = nI (5 * j + 4) := nI_lin 5 j 4
      have e525 : ∀ k, M' 525 k = M0 525 k := fun k => hE' _ k (ns_5 (by decide) (by decide))
      have hl : (lsF (bf1 (VM M0 0 0 0)) j).length < 100000 := by have := gl j (by omega); omega
      have no : bf1 (VM M0 0 0 0) j = [] → ∀ M', Eq0 M0 M' → Ms0 M0 M' → M' 516 33 = pick (lsF (bf1 (VM M0 0 0 0)) j) i → RX xs shL md_Mod_seek 9 [.ref 516, .int i, .int (nI (lsF (bf1 (VM M0 0 0 0)) j).length), .int (nI (j + 1))] [] M' L Q := by
        intro z M' hE' hN' h'
        have := ih (j + 1) (by omega) M' hE' hN'
        rw [lsF_nil z] at this
        exact this h'
      refine L_Mod_seek_9 ⟨fun c => ?_, fun _ => ?_⟩
      · rw [hE' _ _ (ns_516 (by decide)), hG.2.1.1, nI_leI (by omega) (by omega)] at c; omega
      rw [nj, nI_cl (by omega), e525, nI_1 j]
      refine ⟨vp_nI (by omega) (by omega), fun ca => ?_, fun ca => ?_⟩
      · refine m_helps hG hE' hN' (by omega) (by omega) (fun M2 E2 f2 => ⟨_, rfl, fun z => ?_, fun z => ?_⟩)
        · refine no (bf1_f fun w => bI_p0 z w.2) M2 E2 (fun x y hx hy => by rw [f2 _ _ (by omega)]; exact hN' x y hx hy) (by rw [f2 _ _ (by omega)]; exact h')
        · have yes : bf1 (VM M0 0 0 0) j = [nI j] := bf1_t ⟨bB_t ca, bI_p1 z⟩
          have go := ih (j + 1) (by omega)
          rw [lsF_one yes, List.length_append, List.length_singleton, ← nI_1, ← pick_push hl] at go
          have N2 : Ms0 M0 M2 := fun x y hx hy => by rw [f2 _ _ (by omega)]; exact hN' x y hx hy
          refine ⟨fun e => go _ (Eq0_33 E2 _) (Ms0_33 N2 _) ?_, fun e => go _ (Eq0_33 E2 _) (Ms0_33 N2 _) ?_⟩
          · rw [up_same, if_pos e]
          · rw [up_same, if_neg e, f2 _ _ (by omega)]; exact h'
      · exact no (bf1_f fun w => ca (bB_iff.mp w.1)) M' hE' hN' h'
  refine L_Mod_seek_0 (key (mn M0) 0 (by omega) _ (Eq0_33 hE _) (Ms0_33 hN _) ?_)
  rw [up_same]; exact (pick_nil i).symm
theorem m_isBlaming (hG : GM M0) (hE : Eq0 M0 M) (hQ : ∀ M', Eq0 M0 M' → Ms0 M0 M' → Q (some (.int (bI (¬ NE (AH (VM M0 0 0 0) (mn M0)) ∧ ¬ 20 ≤ M0 516 24)))) M' L) : RX xs shL md_Mod_isBlaming 0 [.ref 516] [] M L Q := by
  refine L_Mod_isBlaming_0 (m_measure0 hG hE (fun M1 E1 N1 => ⟨rfl, m_isEmptyNow hG E1 N1 (fun M2 E2 f2 => ⟨_, rfl, ?_⟩)⟩))
  have g := hQ M2 E2 (fun x y hx hy => by rw [f2 _ _ (by omega)]; exact N1 x y hx hy)
  rw [E2 516 24 (ns_516 (by decide))]
  refine ⟨fun z => ?_, fun z => ⟨fun c => ?_, fun c => ?_⟩⟩
  · rw [bI_f (fun q => bI_p0 z q.1)] at g; exact g
  · rw [bI_f (fun q => q.2 c)] at g; exact g
  · rw [bI_t ⟨bI_p1 z, c⟩] at g; exact g
end TF

/-! the class finds what is blamed -/
def Fnd (M : Mem) (l : List Int32) : Prop := M 336 9 = nI l.length ∧ ∀ k, k < l.length → M 509 k = l.getD k (-1)
theorem hlp1 {V : Vw} (hV : okV V) (hs : sub V.st V.op) {t : Nat} (ht : t < V.n) : hlp V t t ↔ meets (stV V t false (AH V t)) (BK V (t + 1)) := by
  unfold hlp
  rw [nonE hV hs (V.n - (t + 1)) (t + 1) (by omega) (fun s h1 _ => by unfold ovc; rw [if_neg (by omega)])]
  show meets (stV V t (ovc V t t t) (AHc V (ovc V t t) t)) _ ↔ _
  rw [show ovc V t t t = false by unfold ovc; rw [if_pos (Or.inl rfl)], AHc_congr V (d := V.cn) t (fun s h => by unfold ovc; rw [if_neg (by omega)]), AHc_cn]
theorem hlp2 {V : Vw} (hV : okV V) (hs : sub V.st V.op) {a t : Nat} (ha : a < t) (ht : t < V.n) : hlp V a t ↔ meets (stV V t false (AHc V (ovc V a a) t)) (BK V (t + 1)) := by
  unfold hlp
  rw [nonE hV hs (V.n - (t + 1)) (t + 1) (by omega) (fun s h1 _ => by unfold ovc; rw [if_neg (by omega)])]
  show meets (stV V t (ovc V a t t) (AHc V (ovc V a t) t)) _ ↔ _
  rw [show ovc V a t t = false by unfold ovc; rw [if_pos (Or.inr rfl)], AHc_congr V (d := ovc V a a) t (fun s h => ?_)]
  unfold ovc
  by_cases e : s = a
  · rw [if_pos (Or.inl e), if_pos (Or.inl e)]
  · rw [if_neg (by omega), if_neg (by omega)]
def St (M : Mem) (V : Vw) : Prop := Sh M V ∧ (∀ t, t < V.n → Rd M V t) ∧ (∀ t, t ≤ V.n → shw M (339 + 4 * t) (AH V t)) ∧ ∀ t, t ≤ V.n → shw M (341 + 4 * t) (BK V t)
theorem Sh_fr3 {M M' : Mem} {V : Vw} (hn : V.n ≤ 40) (h : Sh M V) (f : ∀ b j, ¬ rs b → b < 336 → M' b j = M b j) : Sh M' V := by
  obtain ⟨⟨h1, h2, h3⟩, h4, h5, h6⟩ := h
  have n1 : ∀ b, b < 136 → ¬ rs b := fun b hb => rs_lo hb
  refine ⟨⟨?_, ?_, h3⟩, ?_, fun y hy x => ?_, fun t ht => ?_⟩
  · rw [f _ _ (n1 _ (by decide)) (by decide)]; exact h1
  · rw [f _ _ (n1 _ (by decide)) (by decide)]; exact h2
  · rw [f _ _ (n1 _ (by decide)) (by decide)]; exact h4
  · rw [← h5 y hy x]; unfold gp; rw [f _ _ (n1 _ (by decide)) (by decide)]
  · rw [f _ _ (rs_row t) (by omega), f _ _ (rs_row t) (by omega)]; exact h6 t ht
theorem shw_fr {M M' : Mem} {p : Nat} {A : Nat → Nat → Bool} (h : shw M p A) (f : ∀ j, M' (p + 1) j = M (p + 1) j) : shw M' p A := fun y hy x => by
  rw [← h y hy x]; unfold gp; rw [f]
def F1 (M M' : Mem) : Prop := ∀ b k, b ≠ 506 → b ≠ 508 → b ≠ 509 → ¬ (b = 336 ∧ k = 9) → M' b k = M b k
theorem F1_refl (M : Mem) : F1 M M := fun _ _ _ _ _ _ => rfl
theorem F1_trans {M M' M'' : Mem} (h : F1 M M') (g : F1 M' M'') : F1 M M'' := fun b k q1 q2 q3 q4 => (g b k q1 q2 q3 q4).trans (h b k q1 q2 q3 q4)
theorem F1_505 (M : Mem) (f : Nat → Nat → Bool) : F1 M (setP M 505 f) := fun b k q1 _ _ _ => setP_o _ _ q1 k
theorem F1_507 (M : Mem) (f : Nat → Nat → Bool) : F1 M (setP M 507 f) := fun b k _ q1 _ _ => setP_o _ _ q1 k
theorem St_fr {M M' : Mem} {V : Vw} (hn : V.n ≤ 40) (h : St M V) (f : F1 M M') : St M' V := by
  obtain ⟨h1, h2, h3, h4⟩ := h
  refine ⟨Sh_fr3 hn h1 (fun b j _ hb => f b j (by omega) (by omega) (by omega) (by omega)), fun t ht => Rd_fr2 (h2 t ht) (fun b j hb => f b j (by omega) (by omega) (by omega) (by omega)), fun t ht => shw_fr (h3 t ht) (fun j => f _ j (by omega) (by omega) (by omega) (by omega)), fun t ht => shw_fr (h4 t ht) (fun j => f _ j (by omega) (by omega) (by omega) (by omega))⟩
theorem Fnd_fr {M M' : Mem} {l : List Int32} (h : Fnd M l) (f1 : M' 336 9 = M 336 9) (f2 : ∀ k, M' 509 k = M 509 k) : Fnd M' l := ⟨by rw [f1]; exact h.1, fun k hk => by rw [f2]; exact h.2 k hk⟩
def tr : Nat → Nat
  | 0 => 0
  | a + 1 => tr a + (39 - a)
theorem tr_le : ∀ a, a ≤ 40 → tr a ≤ 780 := by
  intro a ha
  have h : (List.range 41).all (fun a => decide (tr a ≤ 780)) = true := by decide +kernel
  simpa using List.all_eq_true.mp h a (List.mem_range.mpr (by omega))
theorem bg2_le {V : Vw} (a : Nat) : (bg2 V a).length ≤ V.n - (a + 1) := by
  have := lsF_le (f := fun j => bf2 V a (a + 1 + j)) (c := 1) (V.n - (a + 1)) (fun t _ => bf2_le _ _ _)
  unfold bg2; omega
theorem bl2_le {V : Vw} (hn : V.n ≤ 40) : ∀ a, (lsF (bg2 V) a).length ≤ tr a := by
  intro a
  induction a with
  | zero => exact Nat.le_refl _
  | succ a ih =>
    have := bg2_le (V := V) a
    simp only [lsF, tr, List.length_append]; omega
section TG
variable {xs : List Int32} {M M0 : Mem} {L : Int64} {Q : Option Value → Mem → Int64 → Prop}
theorem c_add {l : List Int32} {v : Int32} (hF : Fnd M l) (hl : l.length < 780) (hQ : ∀ M', Fnd M' (l ++ [v]) → (∀ b k, b ≠ 509 → ¬ (b = 336 ∧ k = 9) → M' b k = M b k) → Q none M' L) : RX xs shL md_Reckoning_add 0 [.ref 336, .int v] [] M L Q := by
  refine L_Reckoning_add_0 ?_
  rw [hF.1]
  refine ⟨fun c => absurd ((nI_leI (a := 780) (b := l.length) (by omega) (by omega)).mp c) (by omega), fun _ => ⟨vp_nI (by omega) (by omega), ?_⟩⟩
  rw [nI_cl (by omega), nI_1]
  refine hQ _ ⟨?_, fun k hk => ?_⟩ (fun b k h1 h2 => ?_)
  · rw [up_same, List.length_append, List.length_singleton]
  · rw [up_ne _ _ (by omega)]
    rw [List.length_append, List.length_singleton] at hk
    simp only [List.getD_eq_getElem?_getD]
    by_cases e : k = l.length
    · subst e; rw [up_same]; simp
    · rw [up_ne _ _ (by omega), List.getElem?_append_left (by omega), hF.2 k (by omega), List.getD_eq_getElem?_getD]
  · rw [up_ne _ _ h2, up_ne _ _ (fun e => h1 e.1)]
theorem c_foundAt {l : List Int32} {i : Int32} (hF : Fnd M l) (hl : l.length ≤ 780) (hQ : Q (some (.int (pick l i))) M L) : RX xs shL md_Reckoning_foundAt 0 [.ref 336, .int i] [] M L Q := by
  refine L_Reckoning_foundAt_0 ?_
  rw [hF.1]
  unfold pick at hQ
  refine ⟨fun c => ?_, fun c => ?_⟩
  · rw [if_neg (by rw [i_le]; rw [i_lt] at c; omega)] at hQ; exact hQ
  · have c0 : 0 ≤ i := by rw [i_le]; rw [i_lt] at c; omega
    rw [if_pos c0] at hQ
    have ck : (i.toNatClampNeg : Int) = i.toInt := clampI (i_le.mp c0)
    refine ⟨fun d => ?_, fun d => ?_⟩
    · rw [i_le, i_nI (by omega)] at d
      rw [List.getD_eq_getElem?_getD, List.getElem?_eq_none (by omega)] at hQ; exact hQ
    · rw [i_le, i_nI (by omega)] at d
      refine ⟨vp_inI (i_le.mp c0) (by omega), ?_⟩
      rw [hF.2 _ (by omega)]; exact hQ
theorem c_findPairsOf {V : Vw} (hV : okV V) (hs : sub V.st V.op) (hT : St M V) {a : Nat} (ha : a < V.n) (hca : V.cn a = true) (hF : Fnd M (lsF (bg2 V) a)) (hQ : ∀ M', F1 M M' → Fnd M' (lsF (bg2 V) (a + 1)) → Q none M' L) : RX xs shL md_Reckoning_findPairsOf 0 [.ref 336, .int (nI a)] [] M L Q := by
  have hn : V.n ≤ 40 := hV.2.2.2.2.1
  have w20 : V.w ≤ 20 := hV.2.1
  refine L_Reckoning_findPairsOf_0 ?_
  rw [nI_cl (by omega), nI_1]
  refine ⟨vp_nI (by omega) (by omega), vp_nI (by omega) (by omega), v_takeOn hV hT.1 ha (hT.2.1 a ha) (isP_ahead (by omega)) isP_505 (by omega) (by omega) (by omega) (hT.2.2.1 a (by omega)) (AH_in hV a) ⟨rfl, ?_⟩⟩
  rw [show bB (¬ (0 : Int32) = 0) = false from bB_f (fun q => q rfl)]
  have e1 : AHc V (ovc V a a) (a + 1) = stV V a false (AH V a) := by
    show stV V a (ovc V a a a) (AHc V (ovc V a a) a) = _
    rw [show ovc V a a a = false by unfold ovc; rw [if_pos (Or.inl rfl)], AHc_congr V (d := V.cn) a (fun s h => by unfold ovc; rw [if_neg (by omega)]), AHc_cn]
  have key : ∀ r j, a + 1 + j + r = V.n → ∀ M', F1 M M' → shw M' 505 (AHc V (ovc V a a) (a + 1 + j)) → Fnd M' (lsF (bg2 V) a ++ lsF (fun j => bf2 V a (a + 1 + j)) j) → RX xs shL md_Reckoning_findPairsOf 31 [.ref 336, .int (nI a), .int (nI (a + 1 + j)), .null] [] M' L Q := by
    intro r
    induction r with
    | zero =>
      intro j hj M' hf hw hF'
      have hT' := St_fr hn hT hf
      refine L_Reckoning_findPairsOf_31 ⟨fun _ => hQ M' hf ?_, fun c => absurd ?_ c⟩
      · show Fnd M' (lsF (bg2 V) a ++ lsF _ (V.n - (a + 1)))
        rw [show V.n - (a + 1) = j by omega]; exact hF'
      · rw [hT'.1.2.1, nI_leI (by omega) (by omega)]; omega
    | succ r ih =>
      intro j hj M' hf hw hF'
      have hT' := St_fr hn hT hf
      have hlt : a + 1 + j < V.n := by omega
      have hlen : (lsF (bg2 V) a ++ lsF (fun j => bf2 V a (a + 1 + j)) j).length < 780 := by
        have q1 := bl2_le (V := V) hn a
        have q2 := lsF_le (f := fun j => bf2 V a (a + 1 + j)) (c := 1) j (fun t _ => bf2_le _ _ _)
        have q3 := tr_le (a + 1) (by omega)
        rw [List.length_append]
        simp only [tr] at q3
        omega
      -- the row is taken on, whatever was found
      have on : ∀ M2, F1 M M2 → shw M2 505 (AHc V (ovc V a a) (a + 1 + j)) → Fnd M2 (lsF (bg2 V) a ++ lsF (fun j => bf2 V a (a + 1 + j)) (j + 1)) → RX xs shL md_Row_takeOn 0 [.ref (136 + 5 * (a + 1 + j)), .int (M2 (136 + 5 * (a + 1 + j)) 7), .ref 505, .ref 507, .ref 126] [] M2 L (fun r M_8 L_9 => r = none ∧ RX xs shL md_Reckoning_findPairsOf 31 [.ref 336, .int (nI a), .int (nI (a + 1 + (j + 1))), .null] [] (setP M_8 505 (gp M_8 507)) L_9 Q) := by
        intro M2 f2 w2 F2
        have hT2 := St_fr hn hT f2
        refine v_takeOn hV hT2.1 hlt (hT2.2.1 _ hlt) isP_505 isP_507 (by decide) (by decide) (by omega) w2 (AHc_in hV _ _) ⟨rfl, ?_⟩
        rw [← (hT2.1.2.2.2 _ hlt).2]
        have e2 : stV V (a + 1 + j) (V.cn (a + 1 + j)) (AHc V (ovc V a a) (a + 1 + j)) = AHc V (ovc V a a) (a + 1 + (j + 1)) := by
          show _ = stV V (a + 1 + j) (ovc V a a (a + 1 + j)) _
          rw [show ovc V a a (a + 1 + j) = V.cn (a + 1 + j) by unfold ovc; rw [if_neg (by omega)]]
          rfl
        rw [e2]
        refine ih (j + 1) (by omega) _ (F1_trans f2 (F1_trans (F1_507 _ _) (F1_505 _ _))) (fun y hy x => ?_) (Fnd_fr F2 (by rw [setP_o _ _ (by decide), setP_o _ _ (by decide)]) (fun k => by rw [setP_o _ _ (by decide), setP_o _ _ (by decide)]))
        have s7 := shw_set (M := M2) (p := 507) w20 (AHc_in hV (ovc V a a) (a + 1 + (j + 1))) y hy x
        by_cases hx : x < 32
        · rw [gp_set _ _ _ hx hy]; exact s7
        · rw [gp_big _ _ _ (by omega), ← s7, gp_big _ _ _ (by omega)]
      refine L_Reckoning_findPairsOf_31 ⟨fun c => ?_, fun _ => ?_⟩
      · rw [hT'.1.2.1, nI_leI (by omega) (by omega)] at c; omega
      rw [nI_cl (by omega), nI_1 (a + 1 + j)]
      have hcn := (hT'.1.2.2.2 _ hlt).2
      refine ⟨vp_nI (by omega) (by omega), fun c => ?_, fun c => ?_⟩
      · refine on M' hf hw ?_
        rw [lsF_nil (f := fun j => bf2 V a (a + 1 + j)) (bf2_f (fun q => by rw [hcn, bB_iff] at q; exact q.2.1 c))]
        exact hF'
      · refine v_leadsOn hV hT'.1 hlt (hT'.2.1 _ hlt) isP_505 isP_507 (by decide) (by decide) (by omega) (by omega) hw (AHc_in hV _ _) (hT'.2.2.2 _ (by omega)) ⟨_, rfl, fun z => ?_, fun z => ?_⟩
        · refine on _ (F1_trans hf (F1_507 _ _)) (shw_fr hw (fun k => setP_o _ _ (by decide) k)) ?_
          rw [lsF_nil (f := fun j => bf2 V a (a + 1 + j)) (bf2_f (fun q => bI_p0 z ((hlp2 hV hs (by omega) hlt).mp q.2.2)))]
          exact Fnd_fr hF' (by rw [setP_o _ _ (by decide)]) (fun k => by rw [setP_o _ _ (by decide)])
        · have yes : bf2 V a (a + 1 + j) = [nI (100 * (a + 1) + (a + 1 + j))] := bf2_t ⟨hca, by rw [hcn]; exact bB_t c, (hlp2 hV hs (by omega) hlt).mpr (bI_p1 z)⟩
          have ev : (100 : Int32) * (nI a + 1) + nI (a + 1 + j) = nI (100 * (a + 1) + (a + 1 + j)) := by rw [nI_1]; exact nI_lin 100 _ _
          rw [ev]
          refine c_add (Fnd_fr hF' (by rw [setP_o _ _ (by decide)]) (fun k => by rw [setP_o _ _ (by decide)])) hlen (fun M3 F3 f3 => ⟨rfl, on M3 (F1_trans hf (F1_trans (F1_507 _ _) (fun b k q1 q2 q3 q4 => f3 b k q3 q4))) (shw_fr hw (fun k => ?_)) ?_⟩)
          · rw [f3 _ _ (by decide) (by omega), setP_o _ _ (by decide)]
          · rw [lsF_one (f := fun j => bf2 V a (a + 1 + j)) yes, ← List.append_assoc]; exact F3
  have := key (V.n - (a + 1)) 0 (by omega) _ (F1_505 M (stV V a false (AH V a))) (by rw [Nat.add_zero, e1]; exact shw_set w20 (stV_in (AH_in hV a))) (by rw [show lsF (fun j => bf2 V a (a + 1 + j)) 0 = [] from rfl, List.append_nil]; exact Fnd_fr hF (by rw [setP_o _ _ (by decide)]) (fun k => by rw [setP_o _ _ (by decide)]))
  exact this
theorem c_findBlamed {V : Vw} (hV : okV V) (hs : sub V.st V.op) (hSh : Sh M V) (hRd : ∀ t, t < V.n → Rd M V t) (hAh : ∀ t, t ≤ V.n → shw M (339 + 4 * t) (AH V t)) (hQ : ∀ M', (∀ b k, b < 336 ∨ (b = 336 ∧ k ≠ 9) → M' b k = M b k) → (∀ b k, 516 ≤ b → M' b k = M b k) → Fnd M' (blm V) → Q none M' L) : RX xs shL md_Reckoning_findBlamed 0 [.ref 336] [] M L Q := by
  have hn : V.n ≤ 40 := hV.2.2.2.2.1
  have w20 : V.w ≤ 20 := hV.2.1
  refine L_Reckoning_findBlamed_0 (v_lookBack hV hSh hRd (fun M1 f1 s1 => ⟨rfl, ?_⟩))
  have fl : ∀ b k, b ≤ 336 → M1 b k = M b k := fun b k hb => f1 b k (by omega)
  have hT1 : St M1 V := ⟨Sh_fr3 hn hSh (fun b j _ hb => fl b j (by omega)), fun t ht => Rd_fr2 (hRd t ht) (fun b j hb => fl b j (by omega)), fun t ht => shw_fr (hAh t ht) (fun j => f1 _ j (by omega)), s1⟩
  have out : ∀ M', F1 M1 M' → Fnd M' (blm V) → Q none M' L := fun M' hf hF => hQ M' (fun b k hb => (hf b k (by omega) (by omega) (by omega) (by omega)).trans (fl b k (by omega))) (fun b k hb => (hf b k (by omega) (by omega) (by omega) (by omega)).trans (f1 b k (by omega))) hF
  have pairs : ∀ r a, a + r = V.n → bl1 V = [] → ∀ M', F1 M1 M' → Fnd M' (lsF (bg2 V) a) → RX xs shL md_Reckoning_findBlamed 81 [.ref 336, .int 1, .int (nI a)] [] M' L Q := by
    intro r
    induction r with
    | zero =>
      intro a ha hb M' hf hF
      have hT' := St_fr hn hT1 hf
      have : a = V.n := by omega
      subst this
      refine L_Reckoning_findBlamed_81 ⟨fun c => absurd c (by decide), fun _ => ⟨fun _ => out M' hf (by unfold blm; rw [if_pos hb]; exact hF), fun c => absurd ?_ c⟩⟩
      rw [hT'.1.2.1]; exact Int32.le_refl _
    | succ r ih =>
      intro a ha hb M' hf hF
      have hT' := St_fr hn hT1 hf
      have hcn := (hT'.1.2.2.2 a (by omega)).2
      refine L_Reckoning_findBlamed_81 ⟨fun c => absurd c (by decide), fun _ => ⟨fun c => ?_, fun _ => ?_⟩⟩
      · rw [hT'.1.2.1, nI_leI (by omega) (by omega)] at c; omega
      rw [nI_cl (by omega), nI_1]
      refine ⟨vp_nI (by omega) (by omega), fun c => ih (a + 1) (by omega) hb M' hf ?_, fun c => ?_⟩
      · have : bg2 V a = [] := by
          unfold bg2
          have : ∀ m, lsF (fun j => bf2 V a (a + 1 + j)) m = [] := by
            intro m
            induction m with
            | zero => rfl
            | succ m im => rw [lsF_nil (f := fun j => bf2 V a (a + 1 + j)) (bf2_f (fun q => by rw [hcn, bB_iff] at q; exact q.1 c))]; exact im
          exact this _
        rw [lsF_nil this]; exact hF
      · exact c_findPairsOf hV hs hT' (by omega) (by rw [hcn]; exact bB_t c) hF (fun M2 f2 F2 => ⟨rfl, ih (a + 1) (by omega) hb M2 (F1_trans hf f2) F2⟩)
  have key : ∀ r j, j + r = V.n → ∀ M', F1 M1 M' → Fnd M' (lsF (bf1 V) j) → RX xs shL md_Reckoning_findBlamed 11 [.ref 336, .int (nI j), .null] [] M' L Q := by
    intro r
    induction r with
    | zero =>
      intro j hj M' hf hF
      have hT' := St_fr hn hT1 hf
      have : j = V.n := by omega
      subst this
      have hF' : Fnd M' (bl1 V) := hF
      have hl : (bl1 V).length ≤ 40 := by
        have := lsF_le (f := bf1 V) (c := 1) V.n (fun t _ => bf1_le _ _)
        unfold bl1; omega
      refine L_Reckoning_findBlamed_11 ⟨fun _ => ?_, fun c => absurd ?_ c⟩
      · rw [hF'.1]
        refine ⟨fun z => ?_, fun z => ?_⟩
        · have z0 : bl1 V = [] := by
            have e : (nI (bl1 V).length).toInt = 0 := by rw [z]; rfl
            rw [i_nI (by omega)] at e
            exact List.eq_nil_of_length_eq_zero (by omega)
          rw [z0] at hF'
          exact pairs V.n 0 (by omega) z0 M' hf hF'
        · refine L_Reckoning_findBlamed_81 ⟨fun _ => out M' hf ?_, fun c => absurd rfl c⟩
          unfold blm
          rw [if_neg (fun q => z (by rw [q]; rfl))]
          exact hF'
      · rw [hT'.1.2.1]; exact Int32.le_refl _
    | succ r ih =>
      intro j hj M' hf hF
      have hT' := St_fr hn hT1 hf
      have hlt : j < V.n := by omega
      have hcn := (hT'.1.2.2.2 j hlt).2
      have hlen : (lsF (bf1 V) j).length < 780 := by
        have := lsF_le (f := bf1 V) (c := 1) j (fun t _ => bf1_le _ _)
        omega
      refine L_Reckoning_findBlamed_11 ⟨fun c => ?_, fun _ => ?_⟩
      · rw [hT'.1.2.1, nI_leI (by omega) (by omega)] at c; omega
      rw [nI_cl (by omega), nI_1]
      refine ⟨vp_nI (by omega) (by omega), fun c => ih (j + 1) (by omega) M' hf ?_, fun c => ⟨vp_nI (by omega) (by omega), ?_⟩⟩
      · rw [lsF_nil (bf1_f (fun q => by rw [hcn, bB_iff] at q; exact q.1 c))]; exact hF
      · refine v_leadsOn hV hT'.1 hlt (hT'.2.1 _ hlt) (isP_ahead (by omega)) isP_505 (by omega) (by decide) (by omega) (by omega) (hT'.2.2.1 _ (by omega)) (AH_in hV _) (hT'.2.2.2 _ (by omega)) ⟨_, rfl, fun z => ?_, fun z => ?_⟩
        · refine ih (j + 1) (by omega) _ (F1_trans hf (F1_505 _ _)) ?_
          rw [lsF_nil (bf1_f (fun q => bI_p0 z ((hlp1 hV hs hlt).mp q.2)))]
          exact Fnd_fr hF (by rw [setP_o _ _ (by decide)]) (fun k => by rw [setP_o _ _ (by decide)])
        · have yes : bf1 V j = [nI j] := bf1_t ⟨by rw [hcn]; exact bB_t c, (hlp1 hV hs hlt).mpr (bI_p1 z)⟩
          refine c_add (Fnd_fr hF (by rw [setP_o _ _ (by decide)]) (fun k => by rw [setP_o _ _ (by decide)])) hlen (fun M3 F3 f3 => ⟨rfl, ih (j + 1) (by omega) M3 (F1_trans hf (F1_trans (F1_505 _ _) (fun b k q1 q2 q3 q4 => f3 b k q3 q4))) ?_⟩)
          rw [lsF_one yes]; exact F3
  refine key V.n 0 (by omega) _ (fun b k _ _ _ q => up_ne _ _ q) ⟨?_, fun k hk => absurd hk (by simp [lsF])⟩
  rw [up_same]; rfl
theorem blm_le {V : Vw} (hn : V.n ≤ 40) : (blm V).length ≤ 780 := by
  unfold blm
  split
  · have := bl2_le (V := V) hn V.n
    have := tr_le V.n hn
    unfold bl2; omega
  · have := lsF_le (f := bf1 V) (c := 1) V.n (fun t _ => bf1_le _ _)
    unfold bl1; omega
end TG

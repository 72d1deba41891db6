/-! what the words tell, in the reference -/
theorem half_eq {a c : Int32} (ha : ptW a) (hc : ptW c) : (a + (((c - a) + 32) - ((c - a) + 32) / 32 * 32) / 2) - (a + (((c - a) + 32) - ((c - a) + 32) / 32 * 32) / 2) / 32 * 32 = (a + (((c - a) &&& 31) / 2)) &&& 31 := by
  rw [ptI] at ha hc
  have e1 : (c - a).toInt = c.toInt - a.toInt := i_sub (by omega) (by omega)
  rw [m32 (v := c - a) (by omega) (by omega)]
  have b := and31 (c - a)
  rw [i_le, i_le] at b
  have b : (0 : Int) ≤ ((c - a) &&& 31).toInt ∧ ((c - a) &&& 31).toInt ≤ (31 : Int) := b
  have e2 : (((c - a) &&& 31) / 2).toInt = ((c - a) &&& 31).toInt.tdiv 2 := i_div (fun q => by have := q.2; exact absurd this (by decide))
  have e3 : 0 ≤ (((c - a) &&& 31) / 2).toInt ∧ (((c - a) &&& 31) / 2).toInt ≤ 31 := by
    rw [e2]
    have := Int.tdiv_eq_ediv_of_nonneg b.1 (b := 2)
    rw [this]; omega
  exact rem32 (by rw [i_add (by omega) (by omega)]; omega)
theorem turn_eq {x b : Int32} (hx : ptW x) (h1 : -16 ≤ b.toInt) (h2 : b.toInt ≤ 16) : ((x + b) + 32) - ((x + b) + 32) / 32 * 32 = (x + b) &&& 31 := by
  rw [ptI] at hx
  have : (x + b).toInt = x.toInt + b.toInt := i_add (by omega) (by omega)
  exact m32 (by omega) (by omega)
section TP
variable {xs : List Int32} {M M0 : Mem} {L : Int64} {Q : Option Value → Mem → Int64 → Prop}
theorem m_toldLoop {n : Nat} (hn : n ≤ 24) (hok : okW (M 519) n) (hQ : ∀ M', (∀ b k, b ≠ 526 → M' b k = M b k) → Q (some (.int (tlS (M 519) n n 0))) M' L) : RX xs shL md_Mod_told 20 [.ref 516, .int 0, .int (nI n - 1), .null, .null, .null] [] M L Q := by
  have key : ∀ j k, j + k = n → ∀ v : Int32, v.toInt = (j : Int) - 1 → ∀ M', (∀ b k, b ≠ 526 → M' b k = M b k) → (∀ i, i < dueF (M 519) j → M' 526 i = tlS (M 519) n k i) → RX xs shL md_Mod_told 20 [.ref 516, .int (nI (dueF (M 519) j)), .int v, .null, .null, .null] [] M' L Q := by
    intro j
    induction j with
    | zero =>
      intro k hk v hv M' fr hs
      have : k = n := by omega
      subst this
      refine L_Mod_told_20 ⟨fun _ => ?_, fun c => absurd ?_ c⟩
      · rw [hs 0 (by show 0 < 1; decide)]; exact hQ M' fr
      · rw [i_lt, hv]; show (_ : Int) < 0; omega
    | succ j ih =>
      intro k hk v hv M' fr hs
      have e : v = nI j := nI_of_toInt (by omega)
      subst e
      have ej : n - (k + 1) = j := by omega
      have ej1 : n - k = j + 1 := by omega
      have nx : (nI j + (-1)).toInt = (j : Int) - 1 := by
        rw [i_add (by rw [i_nI (by omega)]; show _ ≤ _ + (-1 : Int); omega) (by rw [i_nI (by omega)]; show _ + (-1 : Int) < _; omega), i_nI (by omega)]; rfl
      obtain ⟨d1, w⟩ := hok.1 j (by omega)
      have dl := due_up hok.2 (n - (j + 1)) (j + 1) (by omega)
      have f2 : M' 519 j = M 519 j := fr _ _ (by decide)
      have tp := tlS_pt hok k (by omega)
      rw [ej1] at tp
      refine L_Mod_told_20 ⟨fun c => ?_, fun _ => ?_⟩
      · rw [i_lt, i_nI (by omega)] at c
        have c : (j : Int) < 0 := c
        omega
      rw [nI_cl (n := j) (by omega), f2]
      refine ⟨vp_nI (by omega) (by omega), fun p => ?_, fun p => ⟨fun q => ?_, fun q => ?_⟩⟩
      · have e := due_p (f := M 519) (i := j) p
        rw [nI_cl (by omega), nI_1, show dueF (M 519) (j + 1) + 1 = dueF (M 519) j by omega]
        refine ⟨vp_nI (by omega) (by omega), ih (k + 1) (by omega) _ nx _ (fun b k hb => by rw [up_ne _ _ (fun z => hb z.1)]; exact fr b k hb) (fun i hi => ?_)⟩
        simp only [tlS]
        rw [ej, ej1, ifB_t (show ptW (M 519 j) from p)]
        unfold upS up
        by_cases ei : i = dueF (M 519) (j + 1)
        · rw [if_pos ⟨rfl, ei⟩, if_pos ei]
        · rw [if_neg (fun z => ei z.2), if_neg ei]; exact hs i (by omega)
      · have e := due_h (f := M 519) (i := j) p q
        rw [nI_dec (by omega), nI_s1 (s := dueF (M 519) (j + 1) - 1) (by omega), nI_s1 (s := dueF (M 519) (j + 1)) (by omega), nI_s2 (by omega), nI_cl (n := dueF (M 519) (j + 1) - 1 - 1) (by omega), nI_cl (n := dueF (M 519) (j + 1) - 1) (by omega), nI_cl (n := dueF (M 519) (j + 1) - 2) (by omega), show dueF (M 519) (j + 1) - 1 - 1 = dueF (M 519) (j + 1) - 2 by omega]
        refine ⟨vp_nI (by omega) (by omega), vp_nI (by omega) (by omega), vp_nI (by omega) (by omega), ?_⟩
        rw [hs _ (by omega), hs _ (by omega), half_eq (tp _ (by omega)) (tp _ (by omega)), show nI (dueF (M 519) (j + 1) - 1) = nI (dueF (M 519) j) by rw [show dueF (M 519) (j + 1) - 1 = dueF (M 519) j by omega]]
        refine ih (k + 1) (by omega) _ nx _ (fun b k hb => by rw [up_ne _ _ (fun z => hb z.1)]; exact fr b k hb) (fun i hi => ?_)
        simp only [tlS]
        rw [ej, ej1, ifB_f (show ¬ ptW (M 519 j) from p), ifB_t q]
        unfold upS up
        by_cases ei : i = dueF (M 519) (j + 1) - 2
        · rw [if_pos ⟨rfl, ei⟩, if_pos ei]
        · rw [if_neg (fun z => ei z.2), if_neg ei]; exact hs i (by omega)
      · have e := due_t (f := M 519) (i := j) p q
        have vp := vp_nI (k := dueF (M 519) (j + 1) - 1) (n := 24) (by omega) (by omega)
        have go : ∀ b : Int32, b = trn (M 519 j) → -16 ≤ b.toInt → b.toInt ≤ 16 → RX xs shL md_Mod_told 20 [.ref 516, .int (nI (dueF (M 519) (j + 1))), .int (nI j + (-1)), .null, .null, .null] [] (up M' 526 (dueF (M 519) (j + 1) - 1) (((M' 526 (dueF (M 519) (j + 1) - 1) + b) + 32) - ((M' 526 (dueF (M 519) (j + 1) - 1) + b) + 32) / 32 * 32)) L Q := by
          intro b hb b1 b2
          rw [hs _ (by omega), turn_eq (tp _ (by omega)) b1 b2, hb, show nI (dueF (M 519) (j + 1)) = nI (dueF (M 519) j) by rw [e]]
          refine ih (k + 1) (by omega) _ nx _ (fun b k hb => by rw [up_ne _ _ (fun z => hb z.1)]; exact fr b k hb) (fun i hi => ?_)
          simp only [tlS]
          rw [ej, ej1, ifB_f (show ¬ ptW (M 519 j) from p), ifB_f q]
          unfold upS up
          by_cases ei : i = dueF (M 519) (j + 1) - 1
          · rw [if_pos ⟨rfl, ei⟩, if_pos ei]
          · rw [if_neg (fun z => ei z.2), if_neg ei]; exact hs i (by omega)
        rw [nI_s1 (by omega), nI_cl (by omega)]
        rcases trn_pt w p q with ⟨t1, t2⟩ | ⟨t1, t2, t3⟩ | ⟨t1, t2, t3⟩
        · have c3 : M 519 j = 300 := i_eq t1
          refine ⟨fun _ => ⟨vp, go 16 t2.symm (by decide) (by decide)⟩, fun z => absurd c3 z⟩
        · refine ⟨fun z => by rw [z] at t2; exact absurd t2 (by decide), fun _ => ⟨fun _ => ⟨vp, go _ t3.symm ?_ ?_⟩, fun z => absurd (by rw [i_le]; show _ ≤ (200 : Int); omega) z⟩⟩
          · rw [i_sub (by show _ ≤ _ - (100 : Int); omega) (by show _ - (100 : Int) < _; omega)]; show _ ≤ _ - (100 : Int); omega
          · rw [i_sub (by show _ ≤ _ - (100 : Int); omega) (by show _ - (100 : Int) < _; omega)]; show _ - (100 : Int) ≤ _; omega
        · refine ⟨fun z => by rw [z] at t2; exact absurd t2 (by decide), fun _ => ⟨fun z => ?_, fun _ => ⟨vp, go _ t3.symm ?_ ?_⟩⟩⟩
          · rw [i_le] at z
            have z : (M 519 j).toInt ≤ 200 := z
            omega
          · rw [i_sub (by show _ ≤ (200 : Int) - _; omega) (by show (200 : Int) - _ < _; omega)]; show _ ≤ (200 : Int) - _; omega
          · rw [i_sub (by show _ ≤ (200 : Int) - _; omega) (by show (200 : Int) - _ < _; omega)]; show (200 : Int) - _ ≤ _; omega
  have := key n 0 (by omega) (nI n - 1) (by rw [i_sub (by rw [i_nI (by omega)]; show _ ≤ _ - (1 : Int); omega) (by rw [i_nI (by omega)]; show _ - (1 : Int) < _; omega), i_nI (by omega)]; rfl) M (fun _ _ _ => rfl) (fun i hi => by rw [hok.2] at hi; omega)
  rw [hok.2] at this
  exact this
end TP

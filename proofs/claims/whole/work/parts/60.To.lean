/-! pilots' words, in both -/
def ptW (v : Int32) : Prop := 0 ≤ v ∧ v ≤ 31
def isWd (v : Int32) : Prop := ptW v ∨ v = 301 ∨ ¬ trn v = 0
noncomputable def fauG (f : Nat → Int32) : Nat → Nat → Nat → Int32
  | 0, i, d => if d = 0 then -1 else nI i
  | k + 1, i, d => if d = 0 then nI i else if bB (isWd (f i)) then (if bB (ptW (f i)) then fauG f k (i + 1) (d - 1) else if bB (f i = 301) then fauG f k (i + 1) (d + 1) else fauG f k (i + 1) d) else nI i
noncomputable def dueF (f : Nat → Int32) : Nat → Nat
  | 0 => 1
  | i + 1 => if bB (ptW (f i)) then dueF f i - 1 else if bB (f i = 301) then dueF f i + 1 else dueF f i
theorem dueF_le (f : Nat → Int32) (i : Nat) : dueF f i ≤ i + 1 := by
  induction i with
  | zero => exact Nat.le_refl _
  | succ i ih => simp only [dueF]; split; omega; split <;> omega
noncomputable def fauF (f : Nat → Int32) (n : Nat) : Int32 := fauG f n 0 1
theorem fauG_e {f : Nat → Int32} {i : Nat} : fauG f 0 i 0 = -1 := rfl
theorem fau_holds {f : Nat → Int32} {n : Nat} (hn : n ≤ 24) : ∀ k i, i + k = n → fauG f k i (dueF f i) = -1 → (∀ j, i ≤ j → j < n → 1 ≤ dueF f j ∧ isWd (f j)) ∧ dueF f n = 0 := by
  intro k
  induction k with
  | zero =>
    intro i hi h
    have : i = n := by omega
    subst this
    refine ⟨fun j h1 h2 => by omega, ?_⟩
    simp only [fauG] at h
    by_cases e : dueF f i = 0
    · exact e
    · rw [if_neg e] at h; exact absurd h (nI_m1 (by omega))
  | succ k ih =>
    intro i hi h
    simp only [fauG] at h
    by_cases e : dueF f i = 0
    · rw [if_pos e] at h; exact absurd h (nI_m1 (by omega))
    rw [if_neg e] at h
    by_cases w : isWd (f i)
    · rw [ifB_t w] at h
      have nx : fauG f k (i + 1) (dueF f (i + 1)) = -1 := by
        simp only [dueF]
        by_cases p : ptW (f i)
        · rw [ifB_t p] at h ⊢; exact h
        · rw [ifB_f p] at h ⊢
          by_cases q : f i = 301
          · rw [ifB_t q] at h ⊢; exact h
          · rw [ifB_f q] at h ⊢; exact h
      obtain ⟨a, b⟩ := ih (i + 1) (by omega) nx
      refine ⟨fun j h1 h2 => ?_, b⟩
      by_cases ej : j = i
      · subst ej; exact ⟨by omega, w⟩
      · exact a j (by omega) h2
    · rw [ifB_f w] at h; exact absurd h (nI_m1 (by omega))
def upS (st : Nat → Int32) (k : Nat) (v : Int32) : Nat → Int32 := fun j => if j = k then v else st j
noncomputable def tlS (f : Nat → Int32) (n : Nat) : Nat → Nat → Int32
  | 0 => fun _ => 0
  | k + 1 => if bB (ptW (f (n - (k + 1)))) then upS (tlS f n k) (dueF f (n - k)) (f (n - (k + 1)))
    else if bB (f (n - (k + 1)) = 301) then upS (tlS f n k) (dueF f (n - k) - 2) ((tlS f n k (dueF f (n - k) - 1) + (((tlS f n k (dueF f (n - k) - 2) - tlS f n k (dueF f (n - k) - 1)) &&& 31) / 2)) &&& 31)
    else upS (tlS f n k) (dueF f (n - k) - 1) ((tlS f n k (dueF f (n - k) - 1) + trn (f (n - (k + 1)))) &&& 31)
def okW (f : Nat → Int32) (n : Nat) : Prop := (∀ j, j < n → 1 ≤ dueF f j ∧ isWd (f j)) ∧ dueF f n = 0
theorem ptI {v : Int32} : ptW v ↔ 0 ≤ v.toInt ∧ v.toInt ≤ 31 := by unfold ptW; rw [i_le, i_le]; rfl
theorem trn_pt {v : Int32} (h : isWd v) (hp : ¬ ptW v) (h1 : ¬ v = 301) : (v.toInt = 300 ∧ trn v = 16) ∨ (101 ≤ v.toInt ∧ v.toInt ≤ 116 ∧ trn v = v - 100) ∨ (201 ≤ v.toInt ∧ v.toInt ≤ 216 ∧ trn v = 200 - v) := by
  have h2 : ¬ trn v = 0 := by rcases h with h | h | h; exact absurd h hp; exact absurd h h1; exact h
  unfold trn at h2 ⊢
  by_cases a : 101 ≤ v ∧ v ≤ 116
  · right; left
    rw [if_pos a]
    rw [i_le, i_le] at a
    exact ⟨a.1, a.2, rfl⟩
  · rw [if_neg a] at h2 ⊢
    by_cases b : 201 ≤ v ∧ v ≤ 216
    · right; right
      rw [if_pos b]
      rw [i_le, i_le] at b
      exact ⟨b.1, b.2, rfl⟩
    · rw [if_neg b] at h2 ⊢
      by_cases c : v = 300
      · left; rw [if_pos c, c]; exact ⟨rfl, rfl⟩
      · rw [if_neg c] at h2; exact absurd rfl h2
theorem due_p {f : Nat → Int32} {i : Nat} (h : ptW (f i)) : dueF f (i + 1) = dueF f i - 1 := by simp only [dueF]; rw [ifB_t h]
theorem due_h {f : Nat → Int32} {i : Nat} (h : ¬ ptW (f i)) (h2 : f i = 301) : dueF f (i + 1) = dueF f i + 1 := by simp only [dueF]; rw [ifB_f h, ifB_t h2]
theorem due_t {f : Nat → Int32} {i : Nat} (h : ¬ ptW (f i)) (h2 : ¬ f i = 301) : dueF f (i + 1) = dueF f i := by simp only [dueF]; rw [ifB_f h, ifB_f h2]
theorem nI_dec {s : Nat} (h : 1 ≤ s) : nI s + (-1) = nI (s - 1) := by
  rw [show nI s + (-1) = nI s - 1 by rw [Int32.sub_eq_add_neg]]
  exact nI_subN (b := 1) h
theorem nI_s1 {s : Nat} (h : 1 ≤ s) : nI s - 1 = nI (s - 1) := nI_subN (b := 1) h
theorem nI_s2 {s : Nat} (h : 2 ≤ s) : nI s - 2 = nI (s - 2) := nI_subN (b := 2) h
theorem due_up {f : Nat → Int32} {n : Nat} (h : dueF f n = 0) : ∀ k i, i + k = n → dueF f i ≤ k := by
  intro k
  induction k with
  | zero => intro i hi; have : i = n := by omega
            subst this; omega
  | succ k ih =>
    intro i hi
    have h1 := ih (i + 1) (by omega)
    simp only [dueF] at h1
    split at h1
    · omega
    · split at h1 <;> omega
/-- the numbers kept are points -/
theorem tlS_pt {f : Nat → Int32} {n : Nat} (h : okW f n) : ∀ k, k ≤ n → ∀ j, j < dueF f (n - k) → ptW (tlS f n k j) := by
  intro k
  induction k with
  | zero =>
    intro _ j hj
    rw [Nat.sub_zero, h.2] at hj; omega
  | succ k ih =>
    intro hk j hj
    have ih := ih (by omega)
    have es : n - k = n - (k + 1) + 1 := by omega
    obtain ⟨d1, w⟩ := h.1 (n - (k + 1)) (by omega)
    simp only [tlS]
    by_cases p : ptW (f (n - (k + 1)))
    · rw [ifB_t p]
      have e := due_p p
      rw [← es] at e
      unfold upS
      split
      · exact p
      · exact ih j (by omega)
    · rw [ifB_f p]
      by_cases q : f (n - (k + 1)) = 301
      · rw [ifB_t q]
        have e := due_h p q
        rw [← es] at e
        unfold upS
        split
        · exact and31 _
        · exact ih j (by omega)
      · rw [ifB_f q]
        have e := due_t p q
        rw [← es] at e
        unfold upS
        split
        · exact and31 _
        · exact ih j (by omega)
section TO
variable {xs : List Int32} {M M0 : Mem} {L : Int64} {Q : Option Value → Mem → Int64 → Prop}
theorem c_firstFault {n : Nat} (h1 : M 1 2 = nI n) (hn : n ≤ 24) (hQ : Q (some (.int (fauF (M 2) n))) M L) : RX xs shL md_Words_firstFault 0 [.ref 1] [] M L Q := by
  have key : ∀ k i d, i + k = n → d ≤ i + 1 → Q (some (.int (fauG (M 2) k i d))) M L → RX xs shL md_Words_firstFault 4 [.ref 1, .int (nI d), .int (nI i), .null] [] M L Q := by
    intro k
    induction k with
    | zero =>
      intro i d hi hd hq
      have : i = n := by omega
      subst this
      have ed : nI d = 0 ↔ d = 0 := ⟨fun q => by have := congrArg Int32.toInt q; rw [i_nI (by omega)] at this; have : (d : Int) = 0 := this; omega, fun q => by rw [q]; rfl⟩
      simp only [fauG] at hq
      refine L_Words_firstFault_4 ⟨fun _ => ⟨fun z => ?_, fun z => ?_⟩, fun c => absurd (by rw [h1]; exact Int32.le_refl _) c⟩
      · rw [if_pos (ed.mp z)] at hq; exact hq
      · rw [if_neg (fun q => z (ed.mpr q))] at hq; rw [h1]; exact hq
    | succ k ih =>
      intro i d hi hd hq
      have ed : nI d = 0 ↔ d = 0 := ⟨fun q => by have := congrArg Int32.toInt q; rw [i_nI (by omega)] at this; have : (d : Int) = 0 := this; omega, fun q => by rw [q]; rfl⟩
      simp only [fauG] at hq
      refine L_Words_firstFault_4 ⟨fun c => ?_, fun _ => ?_⟩
      · rw [h1, nI_leI (by omega) (by omega)] at c; omega
      rw [nI_cl (by omega), nI_1 i, nI_1 d]
      refine ⟨vp_nI (by omega) (by omega), fun z => ?_, fun z => ?_⟩
      · rw [if_pos (ed.mp z)] at hq; exact hq
      · have z0 : ¬ d = 0 := fun q => z (ed.mpr q)
        rw [if_neg z0] at hq
        have yes : isWd (M 2 i) → (((0 ≤ M 2 i ∧ M 2 i ≤ 31) → RX xs shL md_Words_firstFault 4 [.ref 1, .int (nI d + (-1)), .int (nI (i + 1)), .null] [] M L Q) ∧ (¬ (0 ≤ M 2 i ∧ M 2 i ≤ 31) → ((M 2 i = 301 → RX xs shL md_Words_firstFault 4 [.ref 1, .int (nI (d + 1)), .int (nI (i + 1)), .null] [] M L Q) ∧ (¬ (M 2 i = 301) → RX xs shL md_Words_firstFault 4 [.ref 1, .int (nI d), .int (nI (i + 1)), .null] [] M L Q)))) := by
          intro w
          rw [ifB_t w] at hq
          refine ⟨fun p => ?_, fun p => ⟨fun q => ?_, fun q => ?_⟩⟩
          · rw [ifB_t (show ptW (M 2 i) from p)] at hq
            rw [nI_dec (by omega)]
            exact ih (i + 1) (d - 1) (by omega) (by omega) hq
          · rw [ifB_f (show ¬ ptW (M 2 i) from p), ifB_t q] at hq
            exact ih (i + 1) (d + 1) (by omega) (by omega) hq
          · rw [ifB_f (show ¬ ptW (M 2 i) from p), ifB_f q] at hq
            exact ih (i + 1) d (by omega) (by omega) hq
        refine L_Words_isWord_0 ⟨fun p => ⟨_, rfl, fun e => absurd e (by decide), fun _ => yes (Or.inl p)⟩, fun p => ⟨fun q => ⟨_, rfl, fun e => absurd e (by decide), fun _ => yes (Or.inr (Or.inl q))⟩, fun q => ⟨fun t => ⟨_, rfl, fun _ => ?_, fun e => absurd rfl e⟩, fun t => ⟨_, rfl, fun e => absurd e (by decide), fun _ => yes (Or.inr (Or.inr t))⟩⟩⟩⟩
        rw [ifB_f (by rintro (w | w | w); exact p w; exact q w; exact w t)] at hq
        exact hq
  exact L_Words_firstFault_0 (key n 0 1 (by omega) (by omega) hQ)
theorem c_meaning {n : Nat} (h1 : M 1 2 = nI n) (hn : n ≤ 24) (hok : okW (M 2) n) (hQ : ∀ M', (∀ b k, b ≠ 3 → M' b k = M b k) → Q (some (.int (tlS (M 2) n n 0))) M' L) : RX xs shL md_Words_meaning 0 [.ref 1] [] M L Q := by
  have key : ∀ j k, j + k = n → ∀ v : Int32, v.toInt = (j : Int) - 1 → ∀ M', (∀ b k, b ≠ 3 → M' b k = M b k) → (∀ i, i < dueF (M 2) j → M' 3 i = tlS (M 2) n k i) → RX xs shL md_Words_meaning 9 [.ref 1, .int (nI (dueF (M 2) j)), .int v, .null] [] M' L Q := by
    intro j
    induction j with
    | zero =>
      intro k hk v hv M' fr hs
      have : k = n := by omega
      subst this
      refine L_Words_meaning_9 ⟨fun _ => ?_, fun c => absurd ?_ c⟩
      · rw [hs 0 (by show 0 < 1; decide)]; exact hQ M' fr
      · rw [i_lt, hv]; show (_ : Int) < 0; omega
    | succ j ih =>
      intro k hk v hv M' fr hs
      have e : v = nI j := nI_of_toInt (by omega)
      subst e
      have ej : n - (k + 1) = j := by omega
      have ej1 : n - k = j + 1 := by omega
      have nx : (nI j + (-1)).toInt = (j : Int) - 1 := by
        rw [i_add (by rw [i_nI (by omega)]; show _ ≤ _ + (-1 : Int); omega) (by rw [i_nI (by omega)]; show _ + (-1 : Int) < _; omega), i_nI (by omega)]; rfl
      obtain ⟨d1, w⟩ := hok.1 j (by omega)
      have dl := due_up hok.2 (n - (j + 1)) (j + 1) (by omega)
      have f2 : M' 2 j = M 2 j := fr _ _ (by decide)
      refine L_Words_meaning_9 ⟨fun c => ?_, fun _ => ?_⟩
      · rw [i_lt, i_nI (by omega)] at c
        have c : (j : Int) < 0 := c
        omega
      rw [nI_cl (by omega), f2]
      refine ⟨vp_nI (by omega) (by omega), fun p => ?_, fun p => ⟨fun q => ?_, fun q => ?_⟩⟩
      · have e := due_p (f := M 2) (i := j) p
        rw [nI_cl (by omega), nI_1, show dueF (M 2) (j + 1) + 1 = dueF (M 2) j by omega]
        refine ⟨vp_nI (by omega) (by omega), ih (k + 1) (by omega) _ nx _ (fun b k hb => by rw [up_ne _ _ (fun z => hb z.1)]; exact fr b k hb) (fun i hi => ?_)⟩
        simp only [tlS]
        rw [ej, ej1, ifB_t (show ptW (M 2 j) from p)]
        unfold upS up
        by_cases ei : i = dueF (M 2) (j + 1)
        · rw [if_pos ⟨rfl, ei⟩, if_pos ei]
        · rw [if_neg (fun z => ei z.2), if_neg ei]; exact hs i (by omega)
      · have e := due_h (f := M 2) (i := j) p q
        have l2 : ¬ nI (dueF (M 2) (j + 1)) < 2 := fun z => by
          have := (nI_ltI (a := dueF (M 2) (j + 1)) (b := 2) (by omega) (by omega)).mp z
          omega
        refine ⟨fun z => absurd z l2, fun _ => ?_⟩
        rw [nI_dec (by omega), nI_s1 (s := dueF (M 2) (j + 1) - 1) (by omega), nI_cl (by omega), nI_cl (by omega), show dueF (M 2) (j + 1) - 1 - 1 = dueF (M 2) (j + 1) - 2 by omega]
        refine ⟨vp_nI (by omega) (by omega), vp_nI (by omega) (by omega), ?_⟩
        rw [hs _ (by omega), hs _ (by omega), show nI (dueF (M 2) (j + 1) - 1) = nI (dueF (M 2) j) by rw [show dueF (M 2) (j + 1) - 1 = dueF (M 2) j by omega]]
        refine ih (k + 1) (by omega) _ nx _ (fun b k hb => by rw [up_ne _ _ (fun z => hb z.1)]; exact fr b k hb) (fun i hi => ?_)
        simp only [tlS]
        rw [ej, ej1, ifB_f (show ¬ ptW (M 2 j) from p), ifB_t q]
        unfold upS up
        by_cases ei : i = dueF (M 2) (j + 1) - 2
        · rw [if_pos ⟨rfl, ei⟩, if_pos ei]
        · rw [if_neg (fun z => ei z.2), if_neg ei]; exact hs i (by omega)
      · have e := due_t (f := M 2) (i := j) p q
        have l1 : ¬ nI (dueF (M 2) (j + 1)) < 1 := fun z => by
          have := (nI_ltI (a := dueF (M 2) (j + 1)) (b := 1) (by omega) (by omega)).mp z
          omega
        refine ⟨fun z => absurd z l1, fun _ => ?_⟩
        rw [nI_s1 (by omega), nI_cl (by omega), hs _ (by omega)]
        refine ⟨vp_nI (by omega) (by omega), ?_⟩
        rw [show nI (dueF (M 2) (j + 1)) = nI (dueF (M 2) j) by rw [e]]
        refine ih (k + 1) (by omega) _ nx _ (fun b k hb => by rw [up_ne _ _ (fun z => hb z.1)]; exact fr b k hb) (fun i hi => ?_)
        simp only [tlS]
        rw [ej, ej1, ifB_f (show ¬ ptW (M 2 j) from p), ifB_f q]
        unfold upS up
        by_cases ei : i = dueF (M 2) (j + 1) - 1
        · rw [if_pos ⟨rfl, ei⟩, if_pos ei]
        · rw [if_neg (fun z => ei z.2), if_neg ei]; exact hs i (by omega)
  refine L_Words_meaning_0 ?_
  have := key n 0 (by omega) (nI n - 1) (by rw [i_sub (by rw [i_nI (by omega)]; show _ ≤ _ - (1 : Int); omega) (by rw [i_nI (by omega)]; show _ - (1 : Int) < _; omega), i_nI (by omega)]; rfl) M (fun _ _ _ => rfl) (fun i hi => by rw [hok.2] at hi; omega)
  rw [hok.2] at this
  rw [h1]
  exact this
theorem m_faultOf {n : Nat} (h1 : M 516 2 = nI n) (hn : n ≤ 24) (hQ : Q (some (.int (fauF (M 519) n))) M L) : RX xs shL md_Mod_faultOf 0 [.ref 516] [] M L Q := by
  have key : ∀ k i d, i + k = n → d ≤ i + 1 → Q (some (.int (fauG (M 519) k i d))) M L → RX xs shL md_Mod_faultOf 4 [.ref 516, .int (nI d), .int (nI i), .null, .null] [] M L Q := by
    intro k
    induction k with
    | zero =>
      intro i d hi hd hq
      have : i = n := by omega
      subst this
      simp only [fauG] at hq
      refine L_Mod_faultOf_4 ⟨fun _ => ⟨fun z => ?_, fun z => ?_⟩, fun c => absurd (by rw [h1]; exact Int32.le_refl _) c⟩
      · rw [nI_le0 (by omega)] at z
        rw [if_pos z] at hq; exact hq
      · rw [nI_le0 (by omega)] at z
        rw [if_neg z] at hq; rw [h1]; exact hq
    | succ k ih =>
      intro i d hi hd hq
      have ed : nI d = 0 ↔ d = 0 := ⟨fun q => by have := congrArg Int32.toInt q; rw [i_nI (by omega)] at this; have : (d : Int) = 0 := this; omega, fun q => by rw [q]; rfl⟩
      simp only [fauG] at hq
      refine L_Mod_faultOf_4 ⟨fun c => ?_, fun _ => ?_⟩
      · rw [h1, nI_leI (by omega) (by omega)] at c; omega
      rw [nI_cl (by omega), nI_1 i, nI_1 d]
      refine ⟨vp_nI (by omega) (by omega), ?_⟩
      have hz : nI d = 0 → Q (some (.int (nI i))) M L := fun z => by rw [if_pos (ed.mp z)] at hq; exact hq
      have h10 : ¬ (1 : Int32) = 0 := by decide
      have nol : ¬ isWd (M 519 i) → ¬ nI d = 0 → Q (some (.int (nI i))) M L := fun w z => by
        rw [if_neg (fun q => z (ed.mpr q)), ifB_f w] at hq; exact hq
      have nolP : ¬ ptW (M 519 i) → ¬ M 519 i = 301 → trn (M 519 i) = 0 → ¬ nI d = 0 → Q (some (.int (nI i))) M L := fun p q t z => nol (by rintro (w | w | w); exact p w; exact q w; exact w t) z
      have yp : ptW (M 519 i) → ¬ nI d = 0 → RX xs shL md_Mod_faultOf 4 [.ref 516, .int (nI d + (-1)), .int (nI (i + 1)), .null, .null] [] M L Q := fun p z => by
        have z0 : ¬ d = 0 := fun q => z (ed.mpr q)
        rw [if_neg z0, ifB_t (show isWd (M 519 i) from Or.inl p), ifB_t p] at hq
        rw [nI_dec (by omega)]
        exact ih (i + 1) (d - 1) (by omega) (by omega) hq
      have yh : ¬ ptW (M 519 i) → M 519 i = 301 → ¬ nI d = 0 → RX xs shL md_Mod_faultOf 4 [.ref 516, .int (nI (d + 1)), .int (nI (i + 1)), .null, .null] [] M L Q := fun p q z => by
        have z0 : ¬ d = 0 := fun q => z (ed.mpr q)
        rw [if_neg z0, ifB_t (show isWd (M 519 i) from Or.inr (Or.inl q)), ifB_f p, ifB_t q] at hq
        exact ih (i + 1) (d + 1) (by omega) (by omega) hq
      have yt : ¬ ptW (M 519 i) → ¬ M 519 i = 301 → ¬ trn (M 519 i) = 0 → ¬ nI d = 0 → RX xs shL md_Mod_faultOf 4 [.ref 516, .int (nI d + 0), .int (nI (i + 1)), .null, .null] [] M L Q := fun p q t z => by
        have z0 : ¬ d = 0 := fun q => z (ed.mpr q)
        rw [if_neg z0, ifB_t (show isWd (M 519 i) from Or.inr (Or.inr t)), ifB_f p, ifB_f q] at hq
        rw [Int32.add_zero]
        exact ih (i + 1) d (by omega) (by omega) hq
      -- a word of turning is neither a point nor halfway
      have tA : (101 ≤ M 519 i ∧ M 519 i ≤ 116) → ¬ ptW (M 519 i) ∧ ¬ M 519 i = 301 ∧ ¬ trn (M 519 i) = 0 := fun a => by
        have a' := a
        rw [i_le, i_le] at a
        have a : (101 : Int) ≤ (M 519 i).toInt ∧ (M 519 i).toInt ≤ (116 : Int) := a
        refine ⟨fun p => by rw [ptI] at p; omega, fun e => by rw [e] at a; exact absurd a.2 (by decide), fun e => ?_⟩
        unfold trn at e
        rw [if_pos a'] at e
        have e := congrArg Int32.toInt e
        rw [i_sub (by show _ ≤ _ - (100 : Int); omega) (by show _ - (100 : Int) < _; omega)] at e
        have e : (M 519 i).toInt - 100 = 0 := e
        omega
      have tB : ¬ (101 ≤ M 519 i ∧ M 519 i ≤ 116) → (201 ≤ M 519 i ∧ M 519 i ≤ 216) → ¬ ptW (M 519 i) ∧ ¬ M 519 i = 301 ∧ ¬ trn (M 519 i) = 0 := fun na a => by
        have a' := a
        rw [i_le, i_le] at a
        have a : (201 : Int) ≤ (M 519 i).toInt ∧ (M 519 i).toInt ≤ (216 : Int) := a
        refine ⟨fun p => by rw [ptI] at p; omega, fun e => by rw [e] at a; exact absurd a.2 (by decide), fun e => ?_⟩
        unfold trn at e
        rw [if_neg na, if_pos a'] at e
        have e := congrArg Int32.toInt e
        rw [i_sub (by show _ ≤ (200 : Int) - _; omega) (by show (200 : Int) - _ < _; omega)] at e
        have e : 200 - (M 519 i).toInt = 0 := e
        omega
      have tC : M 519 i = 300 → ¬ ptW (M 519 i) ∧ ¬ M 519 i = 301 ∧ ¬ trn (M 519 i) = 0 := fun e => by
        rw [e]; exact ⟨fun p => by unfold ptW at p; exact absurd p.2 (by decide), by decide, by decide⟩
      have tN : ¬ (101 ≤ M 519 i ∧ M 519 i ≤ 116) → ¬ (201 ≤ M 519 i ∧ M 519 i ≤ 216) → ¬ M 519 i = 300 → trn (M 519 i) = 0 := fun a b c => by
        unfold trn; rw [if_neg a, if_neg b, if_neg c]
      have p301 : M 519 i = 301 → ¬ ptW (M 519 i) := fun e => by rw [e]; exact fun p => by unfold ptW at p; exact absurd p.2 (by decide)
      have P : (0 ≤ M 519 i ∧ M 519 i ≤ 31) ↔ ptW (M 519 i) := Iff.rfl
      rw [P]
      generalize ptW (M 519 i) = pt at *
      by_cases a : 101 ≤ M 519 i ∧ M 519 i ≤ 116
      · obtain ⟨t1, t2, t3⟩ := tA a
        by_cases z : nI d = 0
        · simp only [a, t1, t2, z, h10, true_and, and_true, and_self, forall_const, not_true_eq_false, not_false_eq_true, false_implies, true_implies, implies_true]
          exact hz z
        · have g := yt t1 t2 t3 z
          simp only [a, t1, t2, z, h10, true_and, and_true, and_self, forall_const, not_true_eq_false, not_false_eq_true, false_implies, true_implies, implies_true]
          exact g
      · by_cases b : 201 ≤ M 519 i ∧ M 519 i ≤ 216
        · obtain ⟨t1, t2, t3⟩ := tB a b
          by_cases z : nI d = 0
          · simp only [b, a, t1, t2, z, h10, true_and, and_true, and_self, forall_const, not_true_eq_false, not_false_eq_true, false_implies, true_implies, implies_true]
            exact hz z
          · have g := yt t1 t2 t3 z
            simp only [b, a, t1, t2, z, h10, true_and, and_true, and_self, forall_const, not_true_eq_false, not_false_eq_true, false_implies, true_implies, implies_true]
            exact g
        · by_cases c : M 519 i = 300
          · obtain ⟨t1, t2, t3⟩ := tC c
            by_cases z : nI d = 0
            · simp only [b, c, a, t1, t2, z, h10, true_and, and_true, and_self, forall_const, not_true_eq_false, not_false_eq_true, false_implies, true_implies, implies_true]
              exact ⟨fun _ => hz z, fun _ => ⟨fun _ => hz z, fun _ => hz z⟩⟩
            · have g := yt t1 t2 t3 z
              rw [c] at t2
              simp only [b, c, a, t1, t2, z, h10, true_and, and_true, and_self, forall_const, not_true_eq_false, not_false_eq_true, false_implies, true_implies, implies_true]
              exact ⟨fun _ => g, fun _ => ⟨fun _ => g, fun _ => g⟩⟩
          · have t3 := tN a b c
            by_cases t2 : M 519 i = 301
            · have t1 := p301 t2
              by_cases z : nI d = 0
              · simp only [b, c, a, t1, t2, z, h10, true_and, and_true, and_self, forall_const, not_true_eq_false, not_false_eq_true, false_implies, true_implies, implies_true]
                exact ⟨fun _ => hz z, fun _ => ⟨fun _ => hz z, fun _ => ⟨fun _ => hz z, fun _ => hz z⟩⟩⟩
              · have g := yh t1 t2 z
                simp only [b, c, a, t1, t2, z, h10, true_and, and_true, and_self, forall_const, not_true_eq_false, not_false_eq_true, false_implies, true_implies, implies_true]
                exact ⟨fun _ => g, fun _ => ⟨fun _ => g, fun _ => ⟨fun _ => g, fun _ => g⟩⟩⟩
            · by_cases t1 : pt
              · by_cases z : nI d = 0
                · simp only [b, c, a, t1, t2, z, h10, true_and, and_true, and_self, forall_const, not_true_eq_false, not_false_eq_true, false_implies, true_implies, implies_true]
                  exact hz z
                · have g := yp t1 z
                  simp only [b, c, a, t1, t2, z, h10, true_and, and_true, and_self, forall_const, not_true_eq_false, not_false_eq_true, false_implies, true_implies, implies_true]
                  exact g
              · by_cases z : nI d = 0
                · simp only [b, c, a, t1, t2, z, h10, true_and, and_true, and_self, forall_const, not_true_eq_false, not_false_eq_true, false_implies, true_implies, implies_true]
                  exact hz z
                · have g := nolP t1 t2 t3 z
                  simp only [b, c, a, t1, t2, z, h10, true_and, and_true, and_self, forall_const, not_true_eq_false, not_false_eq_true, false_implies, true_implies, implies_true]
                  exact g
  exact L_Mod_faultOf_0 (key n 0 1 (by omega) (by omega) hQ)
end TO

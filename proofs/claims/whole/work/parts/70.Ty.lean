/-! calls that change the state: rows of the log -/
section TY
variable {xs : List Int32} {M : Mem} {L : Int64} {Q : Option Value → Mem → Int64 → Prop}
theorem Rel_app {N : Mem} (hR : Rel M) (hn : mn M < 40) {w s a b : Int32} (hv : (w = -1 ∧ SgOk s a) ∨ ∃ v, v < nw M ∧ w = nI v)
    (fr : ∀ c k, ¬ c = 136 + 5 * mn M → ¬ (c = 134 ∧ k = 1) → ¬ (c = 516 ∧ k = 20) → ¬ (c = 525 ∧ 5 * mn M ≤ k ∧ k < 5 * mn M + 5) → N c k = M c k)
    (v1 : N 134 1 = nI (mn M + 1)) (v2 : N 516 20 = nI (mn M + 1))
    (c0 : N (136 + 5 * mn M) 3 = w) (c1 : N (136 + 5 * mn M) 4 = s) (c2 : N (136 + 5 * mn M) 5 = a) (c3 : N (136 + 5 * mn M) 6 = b) (c4 : N (136 + 5 * mn M) 7 = 1)
    (d0 : N 525 (5 * mn M) = w) (d1 : N 525 (5 * mn M + 1) = s) (d2 : N 525 (5 * mn M + 2) = a) (d3 : N 525 (5 * mn M + 3) = b) (d4 : N 525 (5 * mn M + 4) = 1) : Rel N := by
  have hL := hR.2.2.1
  obtain ⟨⟨l1, l1'⟩, l2, l3, l4, l5, l6, l7, l8, l9⟩ := hL
  have en : mn N = mn M + 1 := by
    show (N 516 20).toNatClampNeg = _
    rw [v2, nI_cl (by omega)]
  have ex : msx N = msx M := by unfold msx; rw [fr _ _ (by omega) (by omega) (by omega) (by omega)]
  have ey : msy N = msy M := by unfold msy; rw [fr _ _ (by omega) (by omega) (by omega) (by omega)]
  have er : msr N = msr M := by unfold msr; rw [fr _ _ (by omega) (by omega) (by omega) (by omega)]
  have ew : nw N = nw M := by unfold nw; rw [fr _ _ (by omega) (by omega) (by omega) (by omega)]
  refine Rel_lg hR ⟨⟨?_, ?_⟩, ?_, ?_, ?_, ?_, ?_, ?_, ?_, fun t ht => ?_⟩ (fun c k q => fr c k (fun z => q (by unfold lgC; omega)) (fun z => q (by unfold lgC; omega)) (fun z => q (by unfold lgC; omega)) (fun z => q (by unfold lgC; omega)))
  · rw [en, v2]
  · omega
  · rw [ex, fr _ _ (by omega) (by omega) (by omega) (by omega)]; exact l2
  · rw [ey, fr _ _ (by omega) (by omega) (by omega) (by omega)]; exact l3
  · rw [er, fr _ _ (by omega) (by omega) (by omega) (by omega)]; exact l4
  · exact v1.trans v2.symm
  · rw [fr 134 2 (by omega) (by omega) (by omega) (by omega), fr 516 17 (by omega) (by omega) (by omega) (by omega)]; exact l6
  · rw [fr 134 3 (by omega) (by omega) (by omega) (by omega), fr 516 18 (by omega) (by omega) (by omega) (by omega)]; exact l7
  · rw [fr 134 4 (by omega) (by omega) (by omega) (by omega), fr 516 19 (by omega) (by omega) (by omega) (by omega)]; exact l8
  · by_cases e : t = mn M
    · subst e
      refine ⟨fun j hj => ?_, by rw [d4]; exact Or.inr rfl, ?_⟩
      · match j, hj with
        | 0, _ => exact c0.trans d0.symm
        | 1, _ => exact c1.trans d1.symm
        | 2, _ => exact c2.trans d2.symm
        | 3, _ => exact c3.trans d3.symm
        | 4, _ => exact c4.trans d4.symm
      · rw [d0, d1, d2, ew]; exact hv
    · exact RwE_fr (by omega) (l9 t (by omega)) (fun k => fr _ _ (by omega) (by omega) (by omega) (by omega)) (fun j hj => fr _ _ (by omega) (by omega) (by omega) (by omega)) (by omega)
/-- a row comes into the class's log, then into the reference's -/
def apM (M : Mem) (n : Nat) (w s a b : Int32) : Mem := up (up (up (up (up (up M (136 + 5 * n) 3 w) (136 + 5 * n) 4 s) (136 + 5 * n) 5 a) (136 + 5 * n) 6 b) (136 + 5 * n) 7 1) 134 1 (nI (n + 1))
theorem c_append (hR : Rel M) {w s a b : Int32} (hf : ¬ mn M < 40 → Q (some (.int 0)) M L) (hok : mn M < 40 → Q (some (.int 1)) (apM M (mn M) w s a b) L) : RX xs shL md_Log_append 0 [.ref 134, .int w, .int s, .int a, .int b] [] M L Q := by
  have l1 : M 134 1 = nI (mn M) := hR.2.2.1.2.2.2.2.1.trans hR.2.2.1.1.1
  have l2 : mn M ≤ 40 := hR.2.2.1.1.2
  refine L_Log_append_0 ⟨fun c => ?_, fun c => ?_⟩
  · rw [l1] at c ⊢
    have c := (nI_ltI (a := mn M) (b := 40) (by omega) (by omega)).mp c
    rw [nI_cl (by omega)]
    refine ⟨vp_nI (by omega) (by omega), L_Row_become_0 c rfl ⟨rfl, ?_⟩⟩
    rw [up_ne _ _ (by omega), up_ne _ _ (by omega), up_ne _ _ (by omega), up_ne _ _ (by omega), up_ne _ _ (by omega), l1, nI_1]
    exact hok c
  · rw [l1] at c
    exact hf (fun q => c ((nI_ltI (a := mn M) (b := 40) (by omega) (by omega)).mpr q))
theorem m_addFull (hR : Rel M) (h : ¬ mn M < 40) {w s a b : Int32} (hQ : Q (some (.int (-104))) M L) : RX xs shL md_Mod_add 0 [.ref 516, .int w, .int s, .int a, .int b] [] M L Q := by
  have l1 := hR.2.2.1.1.1
  have l2 : mn M ≤ 40 := hR.2.2.1.1.2
  exact L_Mod_add_0 ⟨fun _ => hQ, fun q => absurd (by rw [l1, show mn M = 40 by omega]; rfl) q⟩
theorem m_add (hR : Rel M) (hn : mn M < 40) {w s a b : Int32} (hv : (w = -1 ∧ SgOk s a) ∨ ∃ v, v < nw M ∧ w = nI v) (hQ : ∀ N, Rel N → Q (some (.int (nI (mn M + 1)))) N L) : RX xs shL md_Mod_add 0 [.ref 516, .int w, .int s, .int a, .int b] [] (apM M (mn M) w s a b) L Q := by
  have l1 := hR.2.2.1.1.1
  have e20 : apM M (mn M) w s a b 516 20 = nI (mn M) := by
    unfold apM
    rw [up_ne _ _ (by omega), up_ne _ _ (by omega), up_ne _ _ (by omega), up_ne _ _ (by omega), up_ne _ _ (by omega), up_ne _ _ (by omega)]; exact l1
  refine L_Mod_add_0 ?_
  rw [e20, show (5 : Int32) * nI (mn M) = nI (5 * mn M) from nI_mul 5 _, show nI (5 * mn M) + 1 = nI (5 * mn M + 1) from nI_add _ 1, show nI (5 * mn M) + 2 = nI (5 * mn M + 2) from nI_add _ 2, show nI (5 * mn M) + 3 = nI (5 * mn M + 3) from nI_add _ 3, show nI (5 * mn M) + 4 = nI (5 * mn M + 4) from nI_add _ 4, nI_cl (by omega), nI_cl (by omega), nI_cl (by omega), nI_cl (by omega), nI_cl (by omega), nI_1]
  refine ⟨fun e => ?_, fun _ => ⟨vp_nI (by omega) (by omega), vp_nI (by omega) (by omega), vp_nI (by omega) (by omega), vp_nI (by omega) (by omega), vp_nI (by omega) (by omega), hQ _ ?_⟩⟩
  · have := congrArg Int32.toInt e
    rw [i_nI (by omega)] at this
    have : (mn M : Int) = 40 := this
    omega
  · unfold apM
    refine Rel_app (b := b) hR hn hv (fun c k q1 q2 q3 q4 => ?_) ?_ (up_same _ _ _ _) ?_ ?_ ?_ ?_ ?_ ?_ ?_ ?_ ?_ ?_
    · rw [up_ne _ _ (by omega), up_ne _ _ (by omega), up_ne _ _ (by omega), up_ne _ _ (by omega), up_ne _ _ (by omega), up_ne _ _ (by omega), up_ne _ _ (by omega), up_ne _ _ (by omega), up_ne _ _ (by omega), up_ne _ _ (by omega), up_ne _ _ (by omega), up_ne _ _ (by omega)]
    · rw [up_ne _ _ (by omega), up_ne _ _ (by omega), up_ne _ _ (by omega), up_ne _ _ (by omega), up_ne _ _ (by omega), up_ne _ _ (by omega)]; exact up_same _ _ _ _
    · rw [up_ne _ _ (by omega), up_ne _ _ (by omega), up_ne _ _ (by omega), up_ne _ _ (by omega), up_ne _ _ (by omega), up_ne _ _ (by omega), up_ne _ _ (by omega), up_ne _ _ (by omega), up_ne _ _ (by omega), up_ne _ _ (by omega), up_ne _ _ (by omega)]; exact up_same _ _ _ _
    · rw [up_ne _ _ (by omega), up_ne _ _ (by omega), up_ne _ _ (by omega), up_ne _ _ (by omega), up_ne _ _ (by omega), up_ne _ _ (by omega), up_ne _ _ (by omega), up_ne _ _ (by omega), up_ne _ _ (by omega), up_ne _ _ (by omega)]; exact up_same _ _ _ _
    · rw [up_ne _ _ (by omega), up_ne _ _ (by omega), up_ne _ _ (by omega), up_ne _ _ (by omega), up_ne _ _ (by omega), up_ne _ _ (by omega), up_ne _ _ (by omega), up_ne _ _ (by omega), up_ne _ _ (by omega)]; exact up_same _ _ _ _
    · rw [up_ne _ _ (by omega), up_ne _ _ (by omega), up_ne _ _ (by omega), up_ne _ _ (by omega), up_ne _ _ (by omega), up_ne _ _ (by omega), up_ne _ _ (by omega), up_ne _ _ (by omega)]; exact up_same _ _ _ _
    · rw [up_ne _ _ (by omega), up_ne _ _ (by omega), up_ne _ _ (by omega), up_ne _ _ (by omega), up_ne _ _ (by omega), up_ne _ _ (by omega), up_ne _ _ (by omega)]; exact up_same _ _ _ _
    · rw [up_ne _ _ (by omega), up_ne _ _ (by omega), up_ne _ _ (by omega), up_ne _ _ (by omega), up_ne _ _ (by omega)]; exact up_same _ _ _ _
    · rw [up_ne _ _ (by omega), up_ne _ _ (by omega), up_ne _ _ (by omega), up_ne _ _ (by omega)]; exact up_same _ _ _ _
    · rw [up_ne _ _ (by omega), up_ne _ _ (by omega), up_ne _ _ (by omega)]; exact up_same _ _ _ _
    · rw [up_ne _ _ (by omega), up_ne _ _ (by omega)]; exact up_same _ _ _ _
    · rw [up_ne _ _ (by omega)]; exact up_same _ _ _ _
theorem apM_134 (M : Mem) (n : Nat) (w s a b : Int32) : apM M n w s a b 134 1 = nI (n + 1) := up_same _ _ _ _
theorem apM_o (M : Mem) {n c k : Nat} (w s a b : Int32) (h : c ≠ 136 + 5 * n) (h2 : ¬ (c = 134 ∧ k = 1)) : apM M n w s a b c k = M c k := by
  unfold apM
  rw [up_ne _ _ h2, up_ne _ _ (fun e => h e.1), up_ne _ _ (fun e => h e.1), up_ne _ _ (fun e => h e.1), up_ne _ _ (fun e => h e.1), up_ne _ _ (fun e => h e.1)]
theorem y_run (hR : Rel M) (a : Int32) : Tw xs md_Peg_run md_Mod_run [.ref 0, .int a] [.ref 516, .int a] M L := by
  have wi := watch_iff hR (M' := M) rfl (w := a)
  have l1 : M 134 1 = nI (mn M) := hR.2.2.1.2.2.2.2.1.trans hR.2.2.1.1.1
  have l2 : mn M ≤ 40 := hR.2.2.1.1.2
  have l9 := hR.2.2.1.2.2.2.2.2.2.2.2
  refine L_Peg_run_0 ⟨fun h => ?_, fun h => ⟨_, rfl, L_Mod_run_0 ⟨fun q => absurd (wi.mp q) h, fun _ => ⟨rfl, hR⟩⟩⟩⟩
  obtain ⟨v, v1, v2, v3⟩ := watch_nI hR h
  have r0 : ∀ t, t < mn M → M (136 + 5 * t) 3 = M 525 (5 * t) := fun t ht => (l9 t ht).1 0 (by decide)
  -- the reference looks through its rows
  have scan : ∀ (M1 : Mem) (P : Option Value → Mem → Int64 → Prop), (∀ t, t < mn M → M1 525 (5 * t) = M 525 (5 * t)) → M1 516 20 = nI (mn M) → ((∃ t, t < mn M ∧ M 525 (5 * t) = a) → P (some (.int (-103))) M1 L) → ((¬ ∃ t, t < mn M ∧ M 525 (5 * t) = a) → RX xs shL md_Mod_add 0 [.ref 516, .int a, .int (-1), .int 0, .int 0] [] M1 L (fun r M_3 L_4 => ∃ v_5 : Int32, r = some (.int v_5) ∧ P (some (.int v_5)) M_3 L_4)) → RX xs shL md_Mod_run 13 [.ref 516, .int a, .int 0] [] M1 L P := by
    intro M1 P f1 e20 hy hno
    have key : ∀ r j, j + r = mn M → (∀ t, t < j → ¬ M 525 (5 * t) = a) → RX xs shL md_Mod_run 13 [.ref 516, .int a, .int (nI j)] [] M1 L P := by
      intro r
      induction r with
      | zero =>
        intro j hj nf
        have : j = mn M := by omega
        subst this
        refine L_Mod_run_13 ⟨fun _ => hno (fun ⟨t, q1, q2⟩ => nf t q1 q2), fun c => absurd ?_ c⟩
        rw [e20]; exact Int32.le_refl _
      | succ r ih =>
        intro j hj nf
        refine L_Mod_run_13 ⟨fun c => ?_, fun _ => ?_⟩
        · rw [e20, nI_leI (by omega) (by omega)] at c; omega
        rw [show (5 : Int32) * nI j = nI (5 * j) from nI_mul 5 _, nI_cl (by omega), f1 j (by omega), nI_1]
        refine ⟨vp_nI (by omega) (by omega), fun z => hy ⟨j, by omega, z⟩, fun z => ih (j + 1) (by omega) (fun t ht => ?_)⟩
        by_cases e : t = j
        · subst e; exact z
        · exact nf t (by omega)
    exact key (mn M) 0 (by omega) (fun t ht => by omega)
  refine s_Log_holdsWatch l1 l2 ⟨_, rfl, fun z => ?_, fun z => ?_⟩
  · have nf : ¬ ∃ t, t < mn M ∧ M 525 (5 * t) = a := fun ⟨t, q1, q2⟩ => bI_p0 z ⟨t, q1, (r0 t q1).trans q2⟩
    refine c_append hR (fun hf => ⟨_, rfl, fun _ => ⟨_, rfl, L_Mod_run_0 ⟨fun _ => scan M _ (fun _ _ => rfl) hR.2.2.1.1.1 (fun q => absurd q nf) (fun _ => m_addFull hR hf ⟨_, rfl, rfl, hR⟩), fun q => absurd (wi.mpr h) q⟩⟩, fun e => absurd rfl e⟩) (fun hok => ⟨_, rfl, fun e => absurd e (by decide), fun _ => ⟨_, rfl, ?_⟩⟩)
    rw [apM_134]
    have e4 : apM M (mn M) a (-1) 0 0 516 4 = M 516 4 := apM_o _ _ _ _ _ (by omega) (by omega)
    refine L_Mod_run_0 ⟨fun _ => scan _ _ (fun t ht => apM_o _ _ _ _ _ (by omega) (by omega)) ((apM_o _ _ _ _ _ (by omega) (by omega)).trans hR.2.2.1.1.1) (fun q => absurd q nf) (fun _ => m_add hR hok (Or.inr ⟨v, v1, v3⟩) (fun N RN => ⟨_, rfl, rfl, RN⟩)), fun q => absurd (by rw [e4]; exact wi.mpr h) q⟩
  · obtain ⟨t, q1, q2⟩ := bI_p1 z
    exact ⟨_, rfl, L_Mod_run_0 ⟨fun _ => scan M _ (fun _ _ => rfl) hR.2.2.1.1.1 (fun _ => ⟨rfl, hR⟩) (fun q => absurd ⟨t, q1, (r0 t q1).symm.trans q2⟩ q), fun q => absurd (wi.mpr h) q⟩⟩
def sgOK (s a b m : Int32) : Prop := (¬ s = 3 → 0 ≤ a ∧ a ≤ m) ∧ ((s = 0 ∨ s = 4) → a ≤ b ∧ b ≤ m)
def mostS (s : Int32) : Int32 := if s = 2 then 8 else if s = 5 then 8 else 99
theorem c_isSign {S : List Shp} {s a b : Int32} (h1 : (0 ≤ s ∧ s ≤ 5) ∧ sgOK s a b (mostS s) → Q (some (.int 1)) M L) (h0 : ¬ ((0 ≤ s ∧ s ≤ 5) ∧ sgOK s a b (mostS s)) → Q (some (.int 0)) M L) : RX xs S md_Row_isSign 0 [.int s, .int a, .int b] [] M L Q := by
  have X : ∀ m, (sgOK s a b m → Q (some (.int 1)) M L) → (¬ sgOK s a b m → Q (some (.int 0)) M L) → (((¬ s = 3) → ((((0) ≤ a ∧ a ≤ m) → (((s = 0 ∨ s = 4) → (((a ≤ b ∧ b ≤ m) → Q (some (.int 1)) M L) ∧ (¬ (a ≤ b ∧ b ≤ m) → Q (some (.int 0)) M L))) ∧ (¬ (s = 0 ∨ s = 4) → Q (some (.int 1)) M L))) ∧ (¬ ((0) ≤ a ∧ a ≤ m) → Q (some (.int 0)) M L))) ∧ (¬ (¬ s = 3) → (((s = 0 ∨ s = 4) → (((a ≤ b ∧ b ≤ m) → Q (some (.int 1)) M L) ∧ (¬ (a ≤ b ∧ b ≤ m) → Q (some (.int 0)) M L))) ∧ (¬ (s = 0 ∨ s = 4) → Q (some (.int 1)) M L)))) := by
    intro m y n
    refine ⟨fun q3 => ⟨fun qa => ⟨fun q2 => ⟨fun qb => y ⟨fun _ => qa, fun _ => qb⟩, fun qb => n (fun z => qb (z.2 q2))⟩, fun q2 => y ⟨fun _ => qa, fun z => absurd z q2⟩⟩, fun qa => n (fun z => qa (z.1 q3))⟩, fun q3 => ⟨fun q2 => ⟨fun qb => y ⟨fun z => absurd z q3, fun _ => qb⟩, fun qb => n (fun z => qb (z.2 q2))⟩, fun q2 => y ⟨fun z => absurd z q3, fun z => absurd z q2⟩⟩⟩
  refine L_Row_isSign_0 ⟨fun h => ⟨fun e2 => X 8 (fun z => h1 ⟨h, ?_⟩) (fun z => h0 (fun q => z ?_)), fun e2 => ⟨fun e5 => X 8 (fun z => h1 ⟨h, ?_⟩) (fun z => h0 (fun q => z ?_)), fun e5 => X 99 (fun z => h1 ⟨h, ?_⟩) (fun z => h0 (fun q => z ?_))⟩⟩, fun h => h0 (fun q => h q.1)⟩
  · rw [show mostS s = 8 by unfold mostS; rw [if_pos e2]]; exact z
  · have := q.2; rw [show mostS s = 8 by unfold mostS; rw [if_pos e2]] at this; exact this
  · rw [show mostS s = 8 by unfold mostS; rw [if_neg e2, if_pos e5]]; exact z
  · have := q.2; rw [show mostS s = 8 by unfold mostS; rw [if_neg e2, if_pos e5]] at this; exact this
  · rw [show mostS s = 99 by unfold mostS; rw [if_neg e2, if_neg e5]]; exact z
  · have := q.2; rw [show mostS s = 99 by unfold mostS; rw [if_neg e2, if_neg e5]] at this; exact this
theorem most_two {s : Int32} (h : s = 0 ∨ s = 4) : mostS s = 99 := by rcases h with h | h <;> rw [h] <;> rfl
theorem m_sign {s a b : Int32} (h1 : (0 ≤ s ∧ s ≤ 5) ∧ sgOK s a b (mostS s) → RX xs shL md_Mod_add 0 [.ref 516, .int (-1), .int s, .int (if s = 3 then 0 else a), .int (if s = 0 ∨ s = 4 then b else 0)] [] M L (fun r M_3 L_4 => ∃ v_5 : Int32, r = some (.int v_5) ∧ Q (some (.int v_5)) M_3 L_4)) (h0 : ¬ ((0 ≤ s ∧ s ≤ 5) ∧ sgOK s a b (mostS s)) → Q (some (.int (-102))) M L) : RX xs shL md_Mod_sign 0 [.ref 516, .int s, .int a, .int b] [] M L Q := by
  have s92 : (0 ≤ s ∧ s ≤ 5) → sgOK s a b (mostS s) → ∀ tw on : Int32, (tw = 0 ↔ ¬ (s = 0 ∨ s = 4)) → (on = 0 ↔ s = 3) → RX xs shL md_Mod_sign 92 [.ref 516, .int s, .int a, .int b, .int tw, .int on, .null] [] M L Q := by
    intro h ok tw on ht ho
    have g := h1 ⟨h, ok⟩
    refine L_Mod_sign_92 ⟨fun z => ⟨fun y => ?_, fun y => ?_⟩, fun z => ⟨fun y => ?_, fun y => ?_⟩⟩
    · rw [if_pos (ho.mp z), if_neg (ht.mp y)] at g; exact g
    · rw [if_pos (ho.mp z), if_pos (Classical.not_not.mp (fun q => y (ht.mpr q)))] at g; exact g
    · rw [if_neg (fun q => z (ho.mpr q)), if_neg (ht.mp y)] at g; exact g
    · rw [if_neg (fun q => z (ho.mpr q)), if_pos (Classical.not_not.mp (fun q => y (ht.mpr q)))] at g; exact g
  have s59 : (0 ≤ s ∧ s ≤ 5) → ∀ tw on : Int32, (tw = 0 ↔ ¬ (s = 0 ∨ s = 4)) → (on = 0 ↔ s = 3) → RX xs shL md_Mod_sign 59 [.ref 516, .int s, .int a, .int b, .int tw, .int on, .int (mostS s)] [] M L Q := by
    intro h tw on ht ho
    have two : ¬ tw = 0 → s = 0 ∨ s = 4 := fun y => Classical.not_not.mp (fun q => y (ht.mpr q))
    have m99 : ¬ tw = 0 → mostS s = 99 := fun y => most_two (two y)
    refine L_Mod_sign_59 ⟨fun z => ⟨fun y => s92 h ⟨fun q => absurd (ho.mp z) q, fun q => absurd q (ht.mp y)⟩ tw on ht ho, fun y => ⟨fun qb => s92 h ⟨fun q => absurd (ho.mp z) q, fun q => by rw [m99 y]; exact qb⟩ tw on ht ho, fun qb => h0 (fun q => qb (by rw [← m99 y]; exact q.2.2 (two y)))⟩⟩, fun z => ⟨fun qa => ⟨fun y => s92 h ⟨fun _ => qa, fun q => absurd q (ht.mp y)⟩ tw on ht ho, fun y => ⟨fun qb => s92 h ⟨fun _ => qa, fun q => by rw [m99 y]; exact qb⟩ tw on ht ho, fun qb => h0 (fun q => qb (by rw [← m99 y]; exact q.2.2 (two y)))⟩⟩, fun qa => h0 (fun q => qa (q.2.1 (fun e => z (ho.mpr e))))⟩⟩
  have s40 : (0 ≤ s ∧ s ≤ 5) → ∀ tw on : Int32, (tw = 0 ↔ ¬ (s = 0 ∨ s = 4)) → (on = 0 ↔ s = 3) → RX xs shL md_Mod_sign 40 [.ref 516, .int s, .int a, .int b, .int tw, .int on, .null] [] M L Q := by
    intro h tw on ht ho
    have g := s59 h tw on ht ho
    refine L_Mod_sign_40 ⟨fun e2 => ?_, fun e2 => ⟨fun e5 => ?_, fun e5 => ?_⟩⟩
    · rw [show mostS s = 8 by unfold mostS; rw [if_pos e2]] at g; exact g
    · rw [show mostS s = 8 by unfold mostS; rw [if_neg e2, if_pos e5]] at g; exact g
    · rw [show mostS s = 99 by unfold mostS; rw [if_neg e2, if_neg e5]] at g; exact g
  have s28 : (0 ≤ s ∧ s ≤ 5) → ∀ tw : Int32, (tw = 0 ↔ ¬ (s = 0 ∨ s = 4)) → RX xs shL md_Mod_sign 28 [.ref 516, .int s, .int a, .int b, .int tw, .null, .null] [] M L Q := by
    intro h tw ht
    exact L_Mod_sign_28 ⟨fun e => s40 h tw 0 ht ⟨fun _ => e, fun _ => rfl⟩, fun e => s40 h tw 1 ht ⟨fun q => absurd q (by decide), fun q => absurd q e⟩⟩
  refine L_Mod_sign_0 ⟨fun h => ⟨fun e => s28 h 1 ⟨fun q => absurd q (by decide), fun q => absurd (Or.inl e) q⟩, fun e => ⟨fun e4 => s28 h 1 ⟨fun q => absurd q (by decide), fun q => absurd (Or.inr e4) q⟩, fun e4 => s28 h 0 ⟨fun _ q => q.elim e e4, fun _ => rfl⟩⟩⟩, fun h => h0 (fun q => h q.1)⟩
theorem y_sign (hR : Rel M) (s a b : Int32) : Tw xs md_Peg_sign md_Mod_sign [.ref 0, .int s, .int a, .int b] [.ref 516, .int s, .int a, .int b] M L := by
  refine L_Peg_sign_0 (c_isSign (fun ok => ⟨_, rfl, fun e => absurd e (by decide), fun _ => ?_⟩) (fun no => ⟨_, rfl, fun _ => ⟨_, rfl, m_sign (fun q => absurd q no) (fun _ => ⟨rfl, hR⟩)⟩, fun e => absurd rfl e⟩))
  have hv : ((-1 : Int32) = -1 ∧ SgOk s (if s = 3 then 0 else a)) ∨ ∃ v, v < nw M ∧ (-1 : Int32) = nI v := by
    refine Or.inl ⟨rfl, ?_⟩
    by_cases e : s = 3
    · rw [if_pos e]; exact ⟨by decide, by decide, fun _ _ q _ => absurd e q⟩
    · rw [if_neg e]
      have q := ok.2.1 e
      rw [i_le, i_le] at q
      have ms : (mostS s).toInt ≤ 99 := by unfold mostS; split; decide; split <;> decide
      have q1 : (0 : Int) ≤ a.toInt := q.1
      refine ⟨q1, by omega, fun n0 n1 n3 n4 => ?_⟩
      have : mostS s = 8 := by
        unfold mostS
        by_cases e2 : s = 2
        · rw [if_pos e2]
        · rw [if_neg e2]
          obtain ⟨k, k1, k2⟩ := le_nI (n := 5) (by decide) ok.1
          have e5 : s = 5 := by
            match k, k1 with
            | 0, _ => exact absurd k2 n0
            | 1, _ => exact absurd k2 n1
            | 2, _ => exact absurd k2 e2
            | 3, _ => exact absurd k2 n3
            | 4, _ => exact absurd k2 n4
            | 5, _ => exact k2
          rw [if_pos e5]
      rw [this] at q
      exact q.2
  have go : ∀ a' b' : Int32, a' = (if s = 3 then 0 else a) → b' = (if s = 0 ∨ s = 4 then b else 0) → RX xs shL md_Log_append 0 [.ref 134, .int (-1), .int s, .int a', .int b'] [] M L (fun r M_20 L_21 => ∃ v_22 : Int32, r = some (.int v_22) ∧ ((v_22 = 0 → ∃ v' : Int32, some (Value.int (-104)) = some (Value.int v') ∧ RX xs shL md_Mod_sign 0 [.ref 516, .int s, .int a, .int b] [] M_20 L_21 (fun r2 M2 _ => r2 = some (.int v') ∧ Rel M2)) ∧ (¬ (v_22 = 0) → ∃ v' : Int32, some (Value.int (M_20 134 1)) = some (Value.int v') ∧ RX xs shL md_Mod_sign 0 [.ref 516, .int s, .int a, .int b] [] M_20 L_21 (fun r2 M2 _ => r2 = some (.int v') ∧ Rel M2)))) := by
    intro a' b' ha hb
    refine c_append hR (fun hf => ⟨_, rfl, fun _ => ⟨_, rfl, m_sign (fun _ => m_addFull hR hf ⟨_, rfl, rfl, hR⟩) (fun q => absurd ok q)⟩, fun e => absurd rfl e⟩) (fun hok => ⟨_, rfl, fun e => absurd e (by decide), fun _ => ⟨_, rfl, m_sign (fun _ => ?_) (fun q => absurd ok q)⟩⟩)
    rw [← ha, ← hb, apM_134]
    rw [← ha] at hv
    exact m_add hR hok hv (fun N RN => ⟨_, rfl, rfl, RN⟩)
  refine ⟨fun q3 => ⟨fun q2 => go a b (by rw [if_neg q3]) (by rw [if_pos q2]), fun q2 => go a 0 (by rw [if_neg q3]) (by rw [if_neg q2])⟩, fun q3 => ⟨fun q2 => go 0 b (by rw [if_pos (Classical.not_not.mp q3)]) (by rw [if_pos q2]), fun q2 => go 0 0 (by rw [if_pos (Classical.not_not.mp q3)]) (by rw [if_neg q2])⟩⟩
end TY

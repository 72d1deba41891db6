/-! the digest, in both -/
def itF (g : Nat → Int64 → Int64) : Nat → Int64 → Int64
  | 0, h => h
  | n + 1, h => g n (itF g n h)
theorem itF_congr {g g' : Nat → Int64 → Int64} {n : Nat} (h : ∀ i, i < n → g i = g' i) (l : Int64) : itF g n l = itF g' n l := by
  induction n with
  | zero => rfl
  | succ n ih => simp only [itF]; rw [ih (fun i hi => h i (by omega)), h n (by omega)]
def seqF (f : Nat → Int32) (n : Nat) (l : Int64) : Int64 := itF (fun i h => fld h (f i)) n l
theorem seqF_0 (f : Nat → Int32) (l : Int64) : seqF f 0 l = l := rfl
theorem seqF_s (f : Nat → Int32) (n : Nat) (l : Int64) : seqF f (n + 1) l = fld (seqF f n l) (f n) := rfl
theorem seqF_congr {f g : Nat → Int32} {n : Nat} (h : ∀ i, i < n → f i = g i) (l : Int64) : seqF f n l = seqF g n l := itF_congr (fun i hi => by funext z; rw [h i hi]) l
def wtF (pg kn tr : Nat → Int32) (l : Int64) : Int64 := seqF tr 3 (seqF kn 4 (seqF pg 8 l))
noncomputable def clF (M : Mem) (x y : Nat) (l : Int64) : Int64 := fld (fld l (M 523 (20 * y + x))) (if M 524 (20 * y + x) = 0 then 0 else 1)
noncomputable def chF (M : Mem) (l : Int64) : Int64 := itF (fun y h => itF (fun x z => clF M x y z) (mw M) h) (mh M) l
def rwF (M : Mem) (t : Nat) (l : Int64) : Int64 := seqF (fun j => M 525 (5 * t + j)) 5 l
section UB
variable {xs : List Int32} {M : Mem} {L : Int64} {Q : Option Value → Mem → Int64 → Prop}
theorem c_foldWords {n : Nat} (h1 : M 1 2 = nI n) (hn : n ≤ 24) {l : Int64} (hQ : Q (some (.long (seqF (M 2) n l))) M L) : RX xs shL md_Words_foldInto 0 [.ref 1, .long l, .null] [] M L Q := by
  have key : ∀ r j, j + r = n → RX xs shL md_Words_foldInto 5 [.ref 1, .null, .null, .long (seqF (M 2) j l), .null, .int (nI j)] [] M L Q := by
    intro r
    induction r with
    | zero =>
      intro j hj
      have : j = n := by omega
      subst this
      exact L_Words_foldInto_5 ⟨fun _ => hQ, fun c => absurd (by rw [h1]; exact Int32.le_refl _) c⟩
    | succ r ih =>
      intro j hj
      refine L_Words_foldInto_5 ⟨fun c => ?_, fun _ => ?_⟩
      · rw [h1, nI_leI (by omega) (by omega)] at c; omega
      rw [nI_cl (by omega), nI_1]
      exact ⟨vp_nI (by omega) (by omega), ih (j + 1) (by omega)⟩
  exact L_Words_foldInto_0 (key n 0 (by omega))
theorem c_foldWatch {v : Nat} (hv : v < 24) {l : Int64} (hQ : Q (some (.long (wtF (M (6 + 5 * v + 1)) (M (6 + 5 * v + 2)) (fun k => M (6 + 5 * v) (6 + k)) l))) M L) : RX xs shL md_Watch_foldInto 0 [.ref (6 + 5 * v), .long l, .null] [] M L Q := by
  have k2 : ∀ r j, j + r = 4 → RX xs shL md_Watch_foldInto 33 [.ref (6 + 5 * v), .null, .null, .long (seqF (M (6 + 5 * v + 2)) j (seqF (M (6 + 5 * v + 1)) 8 l)), .null, .int (nI j)] [] M L Q := by
    intro r
    induction r with
    | zero =>
      intro j hj
      have : j = 4 := by omega
      subst this
      exact L_Watch_foldInto_33 hv ⟨fun _ => hQ, fun c => absurd (by decide) c⟩
    | succ r ih =>
      intro j hj
      refine L_Watch_foldInto_33 hv ⟨fun c => absurd ((nI_leI (a := 4) (b := j) (by omega) (by omega)).mp c) (by omega), fun _ => ?_⟩
      rw [nI_cl (by omega), nI_1]
      exact ⟨vp_nI (by omega) (by omega), ih (j + 1) (by omega)⟩
  have k1 : ∀ r j, j + r = 8 → RX xs shL md_Watch_foldInto 5 [.ref (6 + 5 * v), .null, .null, .long (seqF (M (6 + 5 * v + 1)) j l), .null, .int (nI j)] [] M L Q := by
    intro r
    induction r with
    | zero =>
      intro j hj
      have : j = 8 := by omega
      subst this
      exact L_Watch_foldInto_5 hv ⟨fun _ => k2 4 0 (by omega), fun c => absurd (by decide) c⟩
    | succ r ih =>
      intro j hj
      refine L_Watch_foldInto_5 hv ⟨fun c => absurd ((nI_leI (a := 8) (b := j) (by omega) (by omega)).mp c) (by omega), fun _ => ?_⟩
      rw [nI_cl (by omega), nI_1]
      exact ⟨vp_nI (by omega) (by omega), ih (j + 1) (by omega)⟩
  exact L_Watch_foldInto_0 hv (k1 8 0 (by omega))
noncomputable def bdF (M : Mem) (n : Nat) (l : Int64) : Int64 := itF (fun v h => wtF (fun k => M 520 (8 * v + k)) (fun k => M 521 (4 * v + k)) (fun k => M 522 (3 * v + k)) h) n l
theorem c_foldBoard (hR : Rel M) {l : Int64} (hQ : Q (some (.long (bdF M (nw M) l))) M L) : RX xs shL md_Board_foldWatchesInto 0 [.ref 4, .long l, .null] [] M L Q := by
  obtain ⟨b1, b2, b3, b4, b5, b6, b7⟩ := hR.1
  have key : ∀ r j, j + r = nw M → RX xs shL md_Board_foldWatchesInto 5 [.ref 4, .null, .null, .long (bdF M j l), .null, .int (nI j)] [] M L Q := by
    intro r
    induction r with
    | zero =>
      intro j hj
      have : j = nw M := by omega
      subst this
      exact L_Board_foldWatchesInto_5 ⟨fun _ => hQ, fun c => absurd (by rw [b1, b2]; exact Int32.le_refl _) c⟩
    | succ r ih =>
      intro j hj
      obtain ⟨w1, w2, w3, -, -⟩ := b6 j (by omega)
      refine L_Board_foldWatchesInto_5 ⟨fun c => ?_, fun _ => ?_⟩
      · rw [b1, b2, nI_leI (by omega) (by omega)] at c; omega
      rw [nI_cl (by omega), nI_1]
      refine ⟨vp_nI (by omega) (by omega), c_foldWatch (by omega) ⟨_, rfl, ?_⟩⟩
      have e : wtF (M (6 + 5 * j + 1)) (M (6 + 5 * j + 2)) (fun k => M (6 + 5 * j) (6 + k)) (bdF M j l) = bdF M (j + 1) l := by
        show _ = wtF (fun k => M 520 (8 * j + k)) (fun k => M 521 (4 * j + k)) (fun k => M 522 (3 * j + k)) (bdF M j l)
        unfold wtF
        rw [seqF_congr (fun i hi => (w1 i hi).1), seqF_congr (fun i hi => w2 i hi), seqF_congr (fun i hi => w3 i hi)]
      rw [e]
      exact ih (j + 1) (by omega)
  exact L_Board_foldWatchesInto_0 (key (nw M) 0 (by omega))
theorem c_foldChart (hR : Rel M) {l : Int64} (hQ : Q (some (.long (fld (fld (fld (fld (chF M (fld (fld l (M 126 4)) (M 126 5))) (M 126 6)) (M 126 7)) (M 126 8)) (M 126 9)))) M L) : RX xs shL md_Chart_foldInto 0 [.ref 126, .long l, .null] [] M L Q := by
  obtain ⟨⟨c1, w4, w20⟩, ⟨c2, h4, h20⟩, d1, d2, -, c6, -, -, c9⟩ := hR.2.1
  have e1 : M 126 4 = nI (mw M) := d1.trans c1
  have e2 : M 126 5 = nI (mh M) := d2.trans c2
  refine L_Chart_foldInto_0 ?_
  refine grid (σ := Int64) (w := mw M) (h := mh M)
    (fun y s => RX xs shL md_Chart_foldInto 19 [.ref 126, .null, .null, .long s, .null, .int (nI y), .null] [] M L Q)
    (fun x y s => RX xs shL md_Chart_foldInto 31 [.ref 126, .null, .null, .long s, .null, .int (nI y), .int (nI x)] [] M L Q)
    (fun x y s => s = itF (fun x z => clF M x y z) x (itF (fun y h => itF (fun x z => clF M x y z) (mw M) h) y (fld (fld l (M 126 4)) (M 126 5)))) ?_ ?_ ?_ ?_ ?_ _ rfl
  · intro s hs
    refine L_Chart_foldInto_19 ⟨fun _ => ?_, fun c => absurd (by rw [e2]; exact Int32.le_refl _) c⟩
    rw [hs]; exact hQ
  · intro y s hy hs hi
    refine L_Chart_foldInto_19 ⟨fun c => ?_, fun _ => hi⟩
    rw [e2, nI_leI (by omega) (by omega)] at c; omega
  · intro y s hy hs ho
    refine L_Chart_foldInto_31 ⟨fun _ => by rw [nI_1]; exact ho, fun c => absurd (by rw [e1]; exact Int32.le_refl _) c⟩
  · intro x y s hx hy hs hn
    refine L_Chart_foldInto_31 ⟨fun c => ?_, fun _ => ?_⟩
    · rw [e1, nI_leI (by omega) (by omega)] at c; omega
    rw [nI_yx, nI_cl (n := 20 * y + x) (by omega), nI_1, nI_cl (n := x) (by omega), nI_cl (n := y) (by omega), (c6 x y (by omega) (by omega)).1]
    have ans : bI ((0 ≤ nI x ∧ nI x ≤ 19) ∧ (0 ≤ nI y ∧ nI y ≤ 19) ∧ gp M 132 x y = true) = if M 524 (20 * y + x) = 0 then 0 else 1 := by
      rw [c9 y (by omega) x]
      have r : (0 ≤ nI x ∧ nI x ≤ 19) ∧ (0 ≤ nI y ∧ nI y ≤ 19) := ⟨⟨by rw [i_le, i_nI (by omega)]; show (0 : Int) ≤ _; omega, by rw [i_le, i_nI (by omega)]; show _ ≤ (19 : Int); omega⟩, ⟨by rw [i_le, i_nI (by omega)]; show (0 : Int) ≤ _; omega, by rw [i_le, i_nI (by omega)]; show _ ≤ (19 : Int); omega⟩⟩
      by_cases e : M 524 (20 * y + x) = 0
      · rw [if_pos e]; exact bI_f (fun q => (bB_iff.mp q.2.2).2.2 e)
      · rw [if_neg e]; exact bI_t ⟨r.1, r.2, bB_t ⟨hx, hy, e⟩⟩
    rw [ans]
    refine ⟨vp_nI (by omega) (by omega), hn _ ?_⟩
    rw [hs]; rfl
  · intro y s hy hs
    exact hs
theorem c_foldLog (hR : Rel M) {l : Int64} (hQ : Q (some (.long (itF (rwF M) (mn M) (fld (fld (fld l (M 134 2)) (M 134 3)) (M 134 4))))) M L) : RX xs shL md_Log_foldInto 0 [.ref 134, .long l, .null] [] M L Q := by
  have l1 : M 134 1 = nI (mn M) := hR.2.2.1.2.2.2.2.1.trans hR.2.2.1.1.1
  have l2 : mn M ≤ 40 := hR.2.2.1.1.2
  have l9 := hR.2.2.1.2.2.2.2.2.2.2.2
  have outer : ∀ r t, t + r = mn M → RX xs shL md_Log_foldInto 26 [.ref 134, .null, .null, .long (itF (rwF M) t (fld (fld (fld l (M 134 2)) (M 134 3)) (M 134 4))), .null, .int (nI t), .null] [] M L Q := by
    intro r
    induction r with
    | zero =>
      intro t ht
      have : t = mn M := by omega
      subst this
      exact L_Log_foldInto_26 ⟨fun _ => hQ, fun c => absurd (by rw [l1]; exact Int32.le_refl _) c⟩
    | succ r ih =>
      intro t ht
      obtain ⟨r1, r2, -⟩ := l9 t (by omega)
      have inner : ∀ q j, j + q = 5 → RX xs shL md_Log_foldInto 38 [.ref 134, .null, .null, .long (seqF (fun j => M 525 (5 * t + j)) j (itF (rwF M) t (fld (fld (fld l (M 134 2)) (M 134 3)) (M 134 4)))), .null, .int (nI t), .int (nI j)] [] M L Q := by
        intro q
        induction q with
        | zero =>
          intro j hj
          have : j = 5 := by omega
          subst this
          refine L_Log_foldInto_38 ⟨fun _ => ?_, fun c => absurd (by decide) c⟩
          rw [nI_1]
          exact ih (t + 1) (by omega)
        | succ q ihq =>
          intro j hj
          refine L_Log_foldInto_38 ⟨fun c => absurd ((nI_leI (a := 5) (b := j) (by omega) (by omega)).mp c) (by omega), fun _ => ?_⟩
          rw [nI_cl (by omega), nI_1]
          have nx := ihq (j + 1) (by omega)
          have fin : ∀ v : Int32, v = M 525 (5 * t + j) → ∃ v_6 : Int32, some (Value.int v) = some (.int v_6) ∧ RX xs shL md_Log_foldInto 38 [.ref 134, .null, .null, .long (fld (seqF (fun j => M 525 (5 * t + j)) j (itF (rwF M) t (fld (fld (fld l (M 134 2)) (M 134 3)) (M 134 4)))) v_6), .null, .int (nI t), .int (nI (j + 1))] [] M L Q := fun v hv => ⟨_, rfl, by rw [hv]; exact nx⟩
          refine ⟨vp_nI (by omega) (by omega), L_Row_fact_0 (by omega) ?_⟩
          have hj5 : j < 5 := by omega
          match j, hj5 with
          | 0, _ => exact Or.inl ⟨rfl, fin _ (r1 0 (by decide))⟩
          | 1, _ => exact Or.inr (Or.inl ⟨rfl, fin _ (r1 1 (by decide))⟩)
          | 2, _ => exact Or.inr (Or.inr (Or.inl ⟨rfl, fin _ (r1 2 (by decide))⟩))
          | 3, _ => exact Or.inr (Or.inr (Or.inr (Or.inl ⟨rfl, fin _ (r1 3 (by decide))⟩)))
          | 4, _ =>
            refine Or.inr (Or.inr (Or.inr (Or.inr ⟨Or.inr (by decide), fin _ ?_⟩)))
            have e4 : M (136 + 5 * t) 7 = M 525 (5 * t + 4) := r1 4 (by decide)
            rw [e4]
            rcases r2 with r2 | r2
            · rw [r2]; exact bI_f (fun q => q rfl)
            · rw [r2]; exact bI_t (by decide)
      refine L_Log_foldInto_26 ⟨fun c => ?_, fun _ => inner 5 0 (by omega)⟩
      rw [l1, nI_leI (by omega) (by omega)] at c; omega
  exact L_Log_foldInto_0 (outer (mn M) 0 (by omega))
/-- the reference -/
theorem m_patch {M0 : Mem} (hG : GM M0) (hE : Eq0 M0 M) {t : Nat} (ht : t ≤ mn M0) (hQ : ∀ M', Eq0 M0 M' → Q (some (.int (nI (cnt (mw M0) (mh M0) (AH (VM M0 0 0 0) t))))) M' L) : RX xs shL md_Mod_patch 0 [.ref 516, .int (nI t)] [] M L Q := by
  have hV := GM_ok hG 0 0 0
  have hn : mn M0 ≤ 40 := hG.2.1.2
  refine L_Mod_patch_0 ⟨fun _ => ?_, fun q => absurd ?_ q⟩
  · refine m_goPlain hG hE (fun M2 E2 N2 _ h2 => ⟨rfl, m_lay (by omega) ⟨rfl, m_cells (w := mw M0) (h := mh M0) (MCH_fr hG (Eq0_rowN E2 (by decide) _ _)) (A := AH (VM M0 0 0 0) t) (fun x y hx hy => ?_) ⟨_, rfl, hQ _ (Eq0_rowN E2 (by decide) _ _)⟩⟩⟩)
    have w20 := hV.2.1
    have h20 := hV.2.2.2.1
    have hx' : x < (VM M0 0 0 0).w := hx
    have hy' : y < (VM M0 0 0 0).h := hy
    rw [rowN_lt _ _ _ (by omega), h2 t ht x y hx hy, b01_and]
  · rw [hE _ _ (ns_516 (by decide)), hG.2.1.1]
    exact ⟨by rw [i_le, i_nI (by omega)]; show (0 : Int) ≤ _; omega, (nI_leI (by omega) (by omega)).mpr ht⟩
theorem m_mixWatch {v : Nat} (hv : v < 24) (hQ : Q none M (wtF (fun k => M 520 (8 * v + k)) (fun k => M 521 (4 * v + k)) (fun k => M 522 (3 * v + k)) L)) : RX xs shL md_Mod_mixWatch 0 [.ref 516, .int (nI v)] [] M L Q := by
  have k3 : ∀ r j, j + r = 3 → RX xs shL md_Mod_mixWatch 60 [.ref 516, .int (nI v), .int (nI j)] [] M (seqF (fun k => M 522 (3 * v + k)) j (seqF (fun k => M 521 (4 * v + k)) 4 (seqF (fun k => M 520 (8 * v + k)) 8 L))) Q := by
    intro r
    induction r with
    | zero =>
      intro j hj
      have : j = 3 := by omega
      subst this
      exact L_Mod_mixWatch_60 ⟨fun _ => hQ, fun c => absurd (by decide) c⟩
    | succ r ih =>
      intro j hj
      refine L_Mod_mixWatch_60 ⟨fun c => absurd ((nI_leI (a := 3) (b := j) (by omega) (by omega)).mp c) (by omega), fun _ => ?_⟩
      rw [show (3 : Int32) * nI v + nI j = nI (3 * v + j) from nI_lin 3 v j, nI_cl (by omega), nI_1]
      have nx := ih (j + 1) (by omega)
      rw [seqF_s] at nx
      exact ⟨vp_nI (by omega) (by omega), nx⟩
  have k2 : ∀ r j, j + r = 4 → RX xs shL md_Mod_mixWatch 32 [.ref 516, .int (nI v), .int (nI j)] [] M (seqF (fun k => M 521 (4 * v + k)) j (seqF (fun k => M 520 (8 * v + k)) 8 L)) Q := by
    intro r
    induction r with
    | zero =>
      intro j hj
      have : j = 4 := by omega
      subst this
      have nx := k3 3 0 (by omega)
      rw [seqF_0] at nx
      exact L_Mod_mixWatch_32 ⟨fun _ => nx, fun c => absurd (by decide) c⟩
    | succ r ih =>
      intro j hj
      refine L_Mod_mixWatch_32 ⟨fun c => absurd ((nI_leI (a := 4) (b := j) (by omega) (by omega)).mp c) (by omega), fun _ => ?_⟩
      rw [show (4 : Int32) * nI v + nI j = nI (4 * v + j) from nI_lin 4 v j, nI_cl (by omega), nI_1]
      have nx := ih (j + 1) (by omega)
      rw [seqF_s] at nx
      exact ⟨vp_nI (by omega) (by omega), nx⟩
  have k1 : ∀ r j, j + r = 8 → RX xs shL md_Mod_mixWatch 2 [.ref 516, .int (nI v), .int (nI j)] [] M (seqF (fun k => M 520 (8 * v + k)) j L) Q := by
    intro r
    induction r with
    | zero =>
      intro j hj
      have : j = 8 := by omega
      subst this
      have nx := k2 4 0 (by omega)
      rw [seqF_0] at nx
      exact L_Mod_mixWatch_2 ⟨fun _ => nx, fun c => absurd (by decide) c⟩
    | succ r ih =>
      intro j hj
      refine L_Mod_mixWatch_2 ⟨fun c => absurd ((nI_leI (a := 8) (b := j) (by omega) (by omega)).mp c) (by omega), fun _ => ?_⟩
      rw [show (8 : Int32) * nI v + nI j = nI (8 * v + j) from nI_lin 8 v j, nI_cl (by omega), nI_1]
      have nx := ih (j + 1) (by omega)
      rw [seqF_s] at nx
      exact ⟨vp_nI (by omega) (by omega), nx⟩
  have nx := k1 8 0 (by omega)
  rw [seqF_0] at nx
  exact L_Mod_mixWatch_0 nx
theorem m_mixChart (hC : MCH M (mw M) (mh M)) (hQ : Q none M (fld (fld (fld (fld (fld (fld (fld (fld (chF M (fld (fld L (M 516 9)) (M 516 10))) (M 516 13)) (M 516 14)) (M 516 15)) (M 516 16)) (M 516 8)) (M 516 17)) (M 516 18)) (M 516 19))) : RX xs shL md_Mod_mixChart 0 [.ref 516] [] M L Q := by
  obtain ⟨e1, e2, w4, w20, h4, h20⟩ := hC
  refine L_Mod_mixChart_0 ?_
  refine grid (σ := Int64) (w := mw M) (h := mh M)
    (fun y s => RX xs shL md_Mod_mixChart 20 [.ref 516, .int (nI y), .null] [] M s Q)
    (fun x y s => RX xs shL md_Mod_mixChart 30 [.ref 516, .int (nI y), .int (nI x)] [] M s Q)
    (fun x y s => s = itF (fun x z => clF M x y z) x (itF (fun y h => itF (fun x z => clF M x y z) (mw M) h) y (fld (fld L (M 516 9)) (M 516 10)))) ?_ ?_ ?_ ?_ ?_ _ rfl
  · intro s hs
    refine L_Mod_mixChart_20 ⟨fun _ => ?_, fun c => absurd (by rw [e2]; exact Int32.le_refl _) c⟩
    rw [hs]; exact hQ
  · intro y s hy hs hi
    refine L_Mod_mixChart_20 ⟨fun c => ?_, fun _ => hi⟩
    rw [e2, nI_leI (by omega) (by omega)] at c; omega
  · intro y s hy hs ho
    refine L_Mod_mixChart_30 ⟨fun _ => by rw [nI_1]; exact ho, fun c => absurd (by rw [e1]; exact Int32.le_refl _) c⟩
  · intro x y s hx hy hs hn
    refine L_Mod_mixChart_30 ⟨fun c => ?_, fun _ => ?_⟩
    · rw [e1, nI_leI (by omega) (by omega)] at c; omega
    rw [nI_at, nI_cl (by omega), nI_1]
    refine ⟨vp_nI (by omega) (by omega), fun z => hn _ ?_, fun z => hn _ ?_⟩
    · rw [hs]
      show _ = clF M x y _
      unfold clF
      rw [if_pos z]; rfl
    · rw [hs]
      show _ = clF M x y _
      unfold clF
      rw [if_neg z]; rfl
  · intro y s hy hs
    exact hs
def Tw2 (xs : List Int32) (mc mm : Md) (ac am : List Value) (M : Mem) (L : Int64) : Prop := RX xs shL mc 0 ac [] M L (fun r M1 L1 => ∃ v : Int64, r = some (.long v) ∧ RX xs shL mm 0 am [] M1 L1 (fun r2 M2 _ => r2 = some (.long v) ∧ Rel M2))
theorem y_digest (hR : Rel M) : Tw2 xs md_Peg_digest md_Mod_digest [.ref 0] [.ref 516] M L := by
  have hG := Rel_GM hR
  have hV := GM_ok hG 0 0 0
  have hn : mn M ≤ 40 := hG.2.1.2
  obtain ⟨w1, w2, w3, w4⟩ := hR.2.2.2.1
  obtain ⟨b1, b2, b3, b4, -⟩ := hR.1
  obtain ⟨-, -, d1, d2, d5, -⟩ := hR.2.1
  obtain ⟨⟨l1, -⟩, -, -, -, l5, l6, l7, l8, -⟩ := hR.2.2.1
  have n1 := hR.2.2.2.2.1
  refine L_Peg_digest_0 (c_foldWords (w1.trans w2) w3 ⟨_, rfl, c_foldBoard hR ⟨_, rfl, c_foldChart hR ⟨_, rfl, c_foldLog hR ⟨_, rfl, c_look hR (fun M1 E1 g1 g2 s1 r1 a1 => ⟨_, rfl, isP_ahead (by omega), t_size (isP_ahead (by omega)) (a1 (mn M) (Nat.le_refl _)) (AH_in hV (mn M)) hV.2.1 hV.2.2.2.1 ⟨_, rfl, _, rfl, ?_⟩⟩)⟩⟩⟩⟩)
  have e : ∀ b k, b < 136 → M1 b k = M b k := g2
  rw [e 0 6 (by decide), e 0 7 (by decide), e 0 8 (by decide)]
  -- the reference's digest, over M1
  have f5 : ∀ b k, 517 ≤ b → b < 526 → M1 b k = M b k := fun b k h1 h2 => E1 b k (ns_5 h1 h2)
  have f6 : ∀ k, k < 26 → M1 516 k = M 516 k := fun k hk => E1 _ _ (ns_516 hk)
  have G1 := GM_0 E1 hG
  have mw1 : mw M1 = mw M := by unfold mw; rw [f6 9 (by decide)]
  have mh1 : mh M1 = mh M := by unfold mh; rw [f6 10 (by decide)]
  have c1 : ∀ l, chF M1 l = chF M l := fun l => by
    unfold chF
    rw [mw1, mh1]
    refine itF_congr (fun y _ => ?_) l
    funext h
    refine itF_congr (fun x _ => ?_) h
    funext z
    unfold clF
    rw [f5 523 _ (by decide) (by decide), f5 524 _ (by decide) (by decide)]
  let X0 : Int64 := seqF (M 2) (nwd M) 199
  let X1 : Int64 := bdF M (nw M) X0
  let X2 : Int64 := fld (fld (fld (fld (fld (chF M (fld (fld X1 (M 126 4)) (M 126 5))) (M 126 6)) (M 126 7)) (M 126 8)) (M 126 9)) (M 4 2)
  let X3 : Int64 := fld (fld (fld X2 (M 134 2)) (M 134 3)) (M 134 4)
  let X4 : Int64 := itF (rwF M) (mn M) X3
  have k4 : ∀ r t, t + r = mn M → RX xs shL md_Mod_digest 61 [.ref 516, .int (nI t), .null] [] M1 (itF (rwF M) t X3) (fun r2 M2 _ => r2 = some (.long (fld (fld (fld (fld X4 (nI (cnt (mw M) (mh M) (AH (VM M 0 0 0) (mn M))))) (M 0 6)) (M 0 7)) (M 0 8))) ∧ Rel M2) := by
    intro r
    induction r with
    | zero =>
      intro t ht
      have : t = mn M := by omega
      subst this
      refine L_Mod_digest_61 ⟨fun _ => ?_, fun c => absurd (by rw [f6 20 (by decide), l1]; exact Int32.le_refl _) c⟩
      rw [f6 20 (by decide), l1]
      refine m_patch hG E1 (Nat.le_refl _) (fun M2 E2 => ⟨_, rfl, ?_, Rel_0 hR E2⟩)
      rw [E2 516 22 (ns_516 (by decide)), E2 516 23 (ns_516 (by decide)), E2 516 24 (ns_516 (by decide)), ← (n1 0 (by decide)).1, ← (n1 1 (by decide)).1, ← (n1 2 (by decide)).1]
      rfl
    | succ r ih =>
      intro t ht
      have inner : ∀ q j, j + q = 5 → RX xs shL md_Mod_digest 71 [.ref 516, .int (nI t), .int (nI j)] [] M1 (seqF (fun j => M 525 (5 * t + j)) j (itF (rwF M) t X3)) (fun r2 M2 _ => r2 = some (.long (fld (fld (fld (fld X4 (nI (cnt (mw M) (mh M) (AH (VM M 0 0 0) (mn M))))) (M 0 6)) (M 0 7)) (M 0 8))) ∧ Rel M2) := by
        intro q
        induction q with
        | zero =>
          intro j hj
          have : j = 5 := by omega
          subst this
          refine L_Mod_digest_71 ⟨fun _ => ?_, fun c => absurd (by decide) c⟩
          rw [nI_1]
          exact ih (t + 1) (by omega)
        | succ q ihq =>
          intro j hj
          refine L_Mod_digest_71 ⟨fun c => absurd ((nI_leI (a := 5) (b := j) (by omega) (by omega)).mp c) (by omega), fun _ => ?_⟩
          rw [show (5 : Int32) * nI t + nI j = nI (5 * t + j) from nI_lin 5 t j, nI_cl (by omega), nI_1, f5 525 _ (by decide) (by decide)]
          exact ⟨vp_nI (by omega) (by omega), ihq (j + 1) (by omega)⟩
      refine L_Mod_digest_61 ⟨fun c => ?_, fun _ => inner 5 0 (by omega)⟩
      rw [f6 20 (by decide), l1, nI_leI (by omega) (by omega)] at c; omega
  have k3 : ∀ r v, v + r = nw M → RX xs shL md_Mod_digest 36 [.ref 516, .int (nI v), .null] [] M1 (bdF M v X0) (fun r2 M2 _ => r2 = some (.long (fld (fld (fld (fld X4 (nI (cnt (mw M) (mh M) (AH (VM M 0 0 0) (mn M))))) (M 0 6)) (M 0 7)) (M 0 8))) ∧ Rel M2) := by
    intro r
    induction r with
    | zero =>
      intro v hv
      have : v = nw M := by omega
      subst this
      refine L_Mod_digest_36 ⟨fun _ => m_mixChart G1.1 ⟨rfl, ?_⟩, fun c => absurd (by rw [f6 4 (by decide), b2]; exact Int32.le_refl _) c⟩
      rw [c1, f6 9 (by decide), f6 10 (by decide), f6 13 (by decide), f6 14 (by decide), f6 15 (by decide), f6 16 (by decide), f6 8 (by decide), f6 17 (by decide), f6 18 (by decide), f6 19 (by decide), ← d1, ← d2, ← d5 0 (by decide), ← d5 1 (by decide), ← d5 2 (by decide), ← d5 3 (by decide), ← b4, ← l6, ← l7, ← l8]
      exact k4 (mn M) 0 (by omega)
    | succ r ih =>
      intro v hv
      refine L_Mod_digest_36 ⟨fun c => ?_, fun _ => ?_⟩
      · rw [f6 4 (by decide), b2, nI_leI (by omega) (by omega)] at c; omega
      rw [nI_1]
      refine m_mixWatch (by omega) ⟨rfl, ?_⟩
      have e2 : wtF (fun k => M1 520 (8 * v + k)) (fun k => M1 521 (4 * v + k)) (fun k => M1 522 (3 * v + k)) (bdF M v X0) = bdF M (v + 1) X0 := by
        show _ = wtF (fun k => M 520 (8 * v + k)) (fun k => M 521 (4 * v + k)) (fun k => M 522 (3 * v + k)) (bdF M v X0)
        unfold wtF
        rw [seqF_congr (f := fun k => M1 520 (8 * v + k)) (g := fun k => M 520 (8 * v + k)) (fun i _ => f5 520 _ (by decide) (by decide)), seqF_congr (f := fun k => M1 521 (4 * v + k)) (g := fun k => M 521 (4 * v + k)) (fun i _ => f5 521 _ (by decide) (by decide)), seqF_congr (f := fun k => M1 522 (3 * v + k)) (g := fun k => M 522 (3 * v + k)) (fun i _ => f5 522 _ (by decide) (by decide))]
      rw [e2]
      exact ih (v + 1) (by omega)
  have k2 : ∀ r i, i + r = nwd M → RX xs shL md_Mod_digest 9 [.ref 516, .int (nI i), .null] [] M1 (seqF (M 2) i 199) (fun r2 M2 _ => r2 = some (.long (fld (fld (fld (fld X4 (nI (cnt (mw M) (mh M) (AH (VM M 0 0 0) (mn M))))) (M 0 6)) (M 0 7)) (M 0 8))) ∧ Rel M2) := by
    intro r
    induction r with
    | zero =>
      intro i hi
      have : i = nwd M := by omega
      subst this
      exact L_Mod_digest_9 ⟨fun _ => k3 (nw M) 0 (by omega), fun c => absurd (by rw [f6 2 (by decide), w2]; exact Int32.le_refl _) c⟩
    | succ r ih =>
      intro i hi
      refine L_Mod_digest_9 ⟨fun c => ?_, fun _ => ?_⟩
      · rw [f6 2 (by decide), w2, nI_leI (by omega) (by omega)] at c; omega
      rw [nI_cl (by omega), nI_1, f5 519 _ (by decide) (by decide), ← w4 i (by omega)]
      exact ⟨vp_nI (by omega) (by omega), ih (i + 1) (by omega)⟩
  exact L_Mod_digest_0 (k2 (nwd M) 0 (by omega))
end UB

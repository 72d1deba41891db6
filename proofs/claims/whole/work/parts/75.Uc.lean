/-! the law: its cases, its loop -/
theorem tw_go {xs : List Int32} {mc mm : Md} {ac am : List Value} {M : Mem} {L : Int64} (h : Tw xs mc mm ac am M L) {P F : Mem → Int64 → Prop} (nxt : ∀ M' L', Rel M' → P M' L') : RX xs shL mc 0 ac [] M L (fun r M1 L1 => ∃ v : Int32, r = some (.int v) ∧ RX xs shL mm 0 am [] M1 L1 (fun r2 M2 L2 => ∃ w : Int32, r2 = some (.int w) ∧ ((v = w → P M2 L2) ∧ (¬ (v = w) → F M2 L2)))) :=
  x_mono h (fun r M1 L1 ⟨v, e, k⟩ => ⟨v, e, x_mono k (fun r2 M2 L2 ⟨e2, R2⟩ => ⟨v, e2, fun _ => nxt M2 L2 R2, fun q => absurd rfl q⟩)⟩)
section UC
variable {xs : List Int32} {M : Mem} {L : Int64} {Q : Option Value → Mem → Int64 → Prop} {i3 : Int32}
theorem w_name (hR : Rel M) (hb : ∀ j : Nat, 1 ≤ j → j ≤ 7 → vp_in (i3 + nI j) (roT xs 0).length) (nxt : ∀ M' L', Rel M' → RX xs shL md_Law_law 1598 [.retAddr 0, .ref 0, .ref 516, .int i3] [] M' L' Q) : RX xs shL md_Law_law 204 [.retAddr 0, .ref 0, .ref 516, .int i3] [] M L Q := by
  exact L_Law_law_204 ⟨hb 1 (by decide) (by decide), tw_go (y_name hR _) nxt⟩
theorem w_read (hR : Rel M) (hb : ∀ j : Nat, 1 ≤ j → j ≤ 7 → vp_in (i3 + nI j) (roT xs 0).length) (nxt : ∀ M' L', Rel M' → RX xs shL md_Law_law 1598 [.retAddr 0, .ref 0, .ref 516, .int i3] [] M' L' Q) : RX xs shL md_Law_law 227 [.retAddr 0, .ref 0, .ref 516, .int i3] [] M L Q := by
  exact L_Law_law_227 ⟨hb 1 (by decide) (by decide), tw_go (y_read hR _) nxt⟩
theorem w_turns (hR : Rel M) (hb : ∀ j : Nat, 1 ≤ j → j ≤ 7 → vp_in (i3 + nI j) (roT xs 0).length) (nxt : ∀ M' L', Rel M' → RX xs shL md_Law_law 1598 [.retAddr 0, .ref 0, .ref 516, .int i3] [] M' L' Q) : RX xs shL md_Law_law 250 [.retAddr 0, .ref 0, .ref 516, .int i3] [] M L Q := by
  exact L_Law_law_250 ⟨hb 1 (by decide) (by decide), hb 2 (by decide) (by decide), tw_go (y_turns hR _ _) nxt⟩
theorem w_go (hR : Rel M) (hb : ∀ j : Nat, 1 ≤ j → j ≤ 7 → vp_in (i3 + nI j) (roT xs 0).length) (nxt : ∀ M' L', Rel M' → RX xs shL md_Law_law 1598 [.retAddr 0, .ref 0, .ref 516, .int i3] [] M' L' Q) : RX xs shL md_Law_law 283 [.retAddr 0, .ref 0, .ref 516, .int i3] [] M L Q := by
  exact L_Law_law_283 ⟨hb 1 (by decide) (by decide), hb 2 (by decide) (by decide), tw_go (y_go hR _ _) nxt⟩
theorem w_word (hR : Rel M) (hb : ∀ j : Nat, 1 ≤ j → j ≤ 7 → vp_in (i3 + nI j) (roT xs 0).length) (nxt : ∀ M' L', Rel M' → RX xs shL md_Law_law 1598 [.retAddr 0, .ref 0, .ref 516, .int i3] [] M' L' Q) : RX xs shL md_Law_law 316 [.retAddr 0, .ref 0, .ref 516, .int i3] [] M L Q := by
  exact L_Law_law_316 ⟨hb 1 (by decide) (by decide), tw_go (y_word hR _) nxt⟩
theorem w_hush (hR : Rel M) (hb : ∀ j : Nat, 1 ≤ j → j ≤ 7 → vp_in (i3 + nI j) (roT xs 0).length) (nxt : ∀ M' L', Rel M' → RX xs shL md_Law_law 1598 [.retAddr 0, .ref 0, .ref 516, .int i3] [] M' L' Q) : RX xs shL md_Law_law 339 [.retAddr 0, .ref 0, .ref 516, .int i3] [] M L Q := by
  exact L_Law_law_339 (tw_go (y_hush hR) nxt)
theorem w_fault (hR : Rel M) (hb : ∀ j : Nat, 1 ≤ j → j ≤ 7 → vp_in (i3 + nI j) (roT xs 0).length) (nxt : ∀ M' L', Rel M' → RX xs shL md_Law_law 1598 [.retAddr 0, .ref 0, .ref 516, .int i3] [] M' L' Q) : RX xs shL md_Law_law 352 [.retAddr 0, .ref 0, .ref 516, .int i3] [] M L Q := by
  exact L_Law_law_352 (tw_go (y_fault hR) nxt)
theorem w_told (hR : Rel M) (hb : ∀ j : Nat, 1 ≤ j → j ≤ 7 → vp_in (i3 + nI j) (roT xs 0).length) (nxt : ∀ M' L', Rel M' → RX xs shL md_Law_law 1598 [.retAddr 0, .ref 0, .ref 516, .int i3] [] M' L' Q) : RX xs shL md_Law_law 365 [.retAddr 0, .ref 0, .ref 516, .int i3] [] M L Q := by
  exact L_Law_law_365 (tw_go (y_told hR) nxt)
theorem w_watch (hR : Rel M) (hb : ∀ j : Nat, 1 ≤ j → j ≤ 7 → vp_in (i3 + nI j) (roT xs 0).length) (nxt : ∀ M' L', Rel M' → RX xs shL md_Law_law 1598 [.retAddr 0, .ref 0, .ref 516, .int i3] [] M' L' Q) : RX xs shL md_Law_law 378 [.retAddr 0, .ref 0, .ref 516, .int i3] [] M L Q := by
  exact L_Law_law_378 (tw_go (y_watch hR) nxt)
theorem w_peg (hR : Rel M) (hb : ∀ j : Nat, 1 ≤ j → j ≤ 7 → vp_in (i3 + nI j) (roT xs 0).length) (nxt : ∀ M' L', Rel M' → RX xs shL md_Law_law 1598 [.retAddr 0, .ref 0, .ref 516, .int i3] [] M' L' Q) : RX xs shL md_Law_law 391 [.retAddr 0, .ref 0, .ref 516, .int i3] [] M L Q := by
  exact L_Law_law_391 ⟨hb 1 (by decide) (by decide), hb 2 (by decide) (by decide), hb 3 (by decide) (by decide), tw_go (y_peg hR _ _ _) nxt⟩
theorem w_knots (hR : Rel M) (hb : ∀ j : Nat, 1 ≤ j → j ≤ 7 → vp_in (i3 + nI j) (roT xs 0).length) (nxt : ∀ M' L', Rel M' → RX xs shL md_Law_law 1598 [.retAddr 0, .ref 0, .ref 516, .int i3] [] M' L' Q) : RX xs shL md_Law_law 434 [.retAddr 0, .ref 0, .ref 516, .int i3] [] M L Q := by
  exact L_Law_law_434 ⟨hb 1 (by decide) (by decide), hb 2 (by decide) (by decide), hb 3 (by decide) (by decide), tw_go (y_knots hR _ _ _) nxt⟩
theorem w_set (hR : Rel M) (hb : ∀ j : Nat, 1 ≤ j → j ≤ 7 → vp_in (i3 + nI j) (roT xs 0).length) (nxt : ∀ M' L', Rel M' → RX xs shL md_Law_law 1598 [.retAddr 0, .ref 0, .ref 516, .int i3] [] M' L' Q) : RX xs shL md_Law_law 477 [.retAddr 0, .ref 0, .ref 516, .int i3] [] M L Q := by
  exact L_Law_law_477 ⟨hb 1 (by decide) (by decide), hb 2 (by decide) (by decide), hb 3 (by decide) (by decide), tw_go (y_set hR _ _ _) nxt⟩
theorem w_leeway (hR : Rel M) (hb : ∀ j : Nat, 1 ≤ j → j ≤ 7 → vp_in (i3 + nI j) (roT xs 0).length) (nxt : ∀ M' L', Rel M' → RX xs shL md_Law_law 1598 [.retAddr 0, .ref 0, .ref 516, .int i3] [] M' L' Q) : RX xs shL md_Law_law 520 [.retAddr 0, .ref 0, .ref 516, .int i3] [] M L Q := by
  exact L_Law_law_520 ⟨hb 1 (by decide) (by decide), hb 2 (by decide) (by decide), hb 3 (by decide) (by decide), tw_go (y_leeway hR _ _ _) nxt⟩
theorem w_way (hR : Rel M) (hb : ∀ j : Nat, 1 ≤ j → j ≤ 7 → vp_in (i3 + nI j) (roT xs 0).length) (nxt : ∀ M' L', Rel M' → RX xs shL md_Law_law 1598 [.retAddr 0, .ref 0, .ref 516, .int i3] [] M' L' Q) : RX xs shL md_Law_law 563 [.retAddr 0, .ref 0, .ref 516, .int i3] [] M L Q := by
  exact L_Law_law_563 ⟨hb 1 (by decide) (by decide), hb 2 (by decide) (by decide), hb 3 (by decide) (by decide), hb 4 (by decide) (by decide), tw_go (y_way hR _ _ _ _) nxt⟩
theorem w_miss (hR : Rel M) (hb : ∀ j : Nat, 1 ≤ j → j ≤ 7 → vp_in (i3 + nI j) (roT xs 0).length) (nxt : ∀ M' L', Rel M' → RX xs shL md_Law_law 1598 [.retAddr 0, .ref 0, .ref 516, .int i3] [] M' L' Q) : RX xs shL md_Law_law 616 [.retAddr 0, .ref 0, .ref 516, .int i3] [] M L Q := by
  exact L_Law_law_616 ⟨hb 1 (by decide) (by decide), tw_go (y_miss hR _) nxt⟩
theorem w_chart (hR : Rel M) (hb : ∀ j : Nat, 1 ≤ j → j ≤ 7 → vp_in (i3 + nI j) (roT xs 0).length) (nxt : ∀ M' L', Rel M' → RX xs shL md_Law_law 1598 [.retAddr 0, .ref 0, .ref 516, .int i3] [] M' L' Q) : RX xs shL md_Law_law 639 [.retAddr 0, .ref 0, .ref 516, .int i3] [] M L Q := by
  exact L_Law_law_639 ⟨hb 1 (by decide) (by decide), hb 2 (by decide) (by decide), tw_go (y_chart hR _ _) nxt⟩
theorem w_sea (hR : Rel M) (hb : ∀ j : Nat, 1 ≤ j → j ≤ 7 → vp_in (i3 + nI j) (roT xs 0).length) (nxt : ∀ M' L', Rel M' → RX xs shL md_Law_law 1598 [.retAddr 0, .ref 0, .ref 516, .int i3] [] M' L' Q) : RX xs shL md_Law_law 672 [.retAddr 0, .ref 0, .ref 516, .int i3] [] M L Q := by
  exact L_Law_law_672 ⟨hb 1 (by decide) (by decide), hb 2 (by decide) (by decide), hb 3 (by decide) (by decide), hb 4 (by decide) (by decide), hb 5 (by decide) (by decide), tw_go (y_sea hR _ _ _ _ _) nxt⟩
theorem w_weed (hR : Rel M) (hb : ∀ j : Nat, 1 ≤ j → j ≤ 7 → vp_in (i3 + nI j) (roT xs 0).length) (nxt : ∀ M' L', Rel M' → RX xs shL md_Law_law 1598 [.retAddr 0, .ref 0, .ref 516, .int i3] [] M' L' Q) : RX xs shL md_Law_law 735 [.retAddr 0, .ref 0, .ref 516, .int i3] [] M L Q := by
  refine L_Law_law_735 ⟨hb 1 (by decide) (by decide), hb 2 (by decide) (by decide), hb 3 (by decide) (by decide), hb 4 (by decide) (by decide), hb 5 (by decide) (by decide), fun z => ?_, fun z => ?_⟩
  · refine x_mono (y_weed (xs := xs) (L := L) hR ((roT xs 0).getD (i3 + 1).toNatClampNeg 0) ((roT xs 0).getD (i3 + 2).toNatClampNeg 0) ((roT xs 0).getD (i3 + 3).toNatClampNeg 0) ((roT xs 0).getD (i3 + 4).toNatClampNeg 0) (Or.inl rfl)) (fun r M1 L1 ⟨v, e, k⟩ => ⟨v, e, fun _ => x_mono k (fun r2 M2 L2 ⟨e2, R2⟩ => ⟨v, e2, fun _ => nxt M2 L2 R2, fun q => absurd rfl q⟩), fun q => absurd z q⟩)
  · refine x_mono (y_weed (xs := xs) (L := L) hR ((roT xs 0).getD (i3 + 1).toNatClampNeg 0) ((roT xs 0).getD (i3 + 2).toNatClampNeg 0) ((roT xs 0).getD (i3 + 3).toNatClampNeg 0) ((roT xs 0).getD (i3 + 4).toNatClampNeg 0) (Or.inr rfl)) (fun r M1 L1 ⟨v, e, k⟩ => ⟨v, e, fun q => absurd q z, fun _ => x_mono k (fun r2 M2 L2 ⟨e2, R2⟩ => ⟨v, e2, fun _ => nxt M2 L2 R2, fun q => absurd rfl q⟩)⟩)
theorem w_about (hR : Rel M) (hb : ∀ j : Nat, 1 ≤ j → j ≤ 7 → vp_in (i3 + nI j) (roT xs 0).length) (nxt : ∀ M' L', Rel M' → RX xs shL md_Law_law 1598 [.retAddr 0, .ref 0, .ref 516, .int i3] [] M' L' Q) : RX xs shL md_Law_law 814 [.retAddr 0, .ref 0, .ref 516, .int i3] [] M L Q := by
  exact L_Law_law_814 ⟨hb 1 (by decide) (by decide), hb 2 (by decide) (by decide), hb 3 (by decide) (by decide), tw_go (y_about hR _ _ _) nxt⟩
theorem w_stream (hR : Rel M) (hb : ∀ j : Nat, 1 ≤ j → j ≤ 7 → vp_in (i3 + nI j) (roT xs 0).length) (nxt : ∀ M' L', Rel M' → RX xs shL md_Law_law 1598 [.retAddr 0, .ref 0, .ref 516, .int i3] [] M' L' Q) : RX xs shL md_Law_law 857 [.retAddr 0, .ref 0, .ref 516, .int i3] [] M L Q := by
  exact L_Law_law_857 ⟨hb 1 (by decide) (by decide), hb 2 (by decide) (by decide), hb 3 (by decide) (by decide), hb 4 (by decide) (by decide), tw_go (y_stream hR _ _ _ _) nxt⟩
theorem w_start (hR : Rel M) (hb : ∀ j : Nat, 1 ≤ j → j ≤ 7 → vp_in (i3 + nI j) (roT xs 0).length) (nxt : ∀ M' L', Rel M' → RX xs shL md_Law_law 1598 [.retAddr 0, .ref 0, .ref 516, .int i3] [] M' L' Q) : RX xs shL md_Law_law 910 [.retAddr 0, .ref 0, .ref 516, .int i3] [] M L Q := by
  exact L_Law_law_910 ⟨hb 1 (by decide) (by decide), hb 2 (by decide) (by decide), hb 3 (by decide) (by decide), tw_go (y_start hR _ _ _) nxt⟩
theorem w_run (hR : Rel M) (hb : ∀ j : Nat, 1 ≤ j → j ≤ 7 → vp_in (i3 + nI j) (roT xs 0).length) (nxt : ∀ M' L', Rel M' → RX xs shL md_Law_law 1598 [.retAddr 0, .ref 0, .ref 516, .int i3] [] M' L' Q) : RX xs shL md_Law_law 953 [.retAddr 0, .ref 0, .ref 516, .int i3] [] M L Q := by
  exact L_Law_law_953 ⟨hb 1 (by decide) (by decide), tw_go (y_run hR _) nxt⟩
theorem w_sign (hR : Rel M) (hb : ∀ j : Nat, 1 ≤ j → j ≤ 7 → vp_in (i3 + nI j) (roT xs 0).length) (nxt : ∀ M' L', Rel M' → RX xs shL md_Law_law 1598 [.retAddr 0, .ref 0, .ref 516, .int i3] [] M' L' Q) : RX xs shL md_Law_law 976 [.retAddr 0, .ref 0, .ref 516, .int i3] [] M L Q := by
  exact L_Law_law_976 ⟨hb 1 (by decide) (by decide), hb 2 (by decide) (by decide), hb 3 (by decide) (by decide), tw_go (y_sign hR _ _ _) nxt⟩
theorem w_count (hR : Rel M) (hb : ∀ j : Nat, 1 ≤ j → j ≤ 7 → vp_in (i3 + nI j) (roT xs 0).length) (nxt : ∀ M' L', Rel M' → RX xs shL md_Law_law 1598 [.retAddr 0, .ref 0, .ref 516, .int i3] [] M' L' Q) : RX xs shL md_Law_law 1019 [.retAddr 0, .ref 0, .ref 516, .int i3] [] M L Q := by
  refine L_Law_law_1019 ⟨hb 1 (by decide) (by decide), hb 2 (by decide) (by decide), fun z => ?_, fun z => ?_⟩
  · refine x_mono (y_count (xs := xs) (L := L) hR ((roT xs 0).getD (i3 + 1).toNatClampNeg 0) (Or.inl rfl)) (fun r M1 L1 ⟨v, e, k⟩ => ⟨v, e, fun _ => x_mono k (fun r2 M2 L2 ⟨e2, R2⟩ => ⟨v, e2, fun _ => nxt M2 L2 R2, fun q => absurd rfl q⟩), fun q => absurd z q⟩)
  · refine x_mono (y_count (xs := xs) (L := L) hR ((roT xs 0).getD (i3 + 1).toNatClampNeg 0) (Or.inr rfl)) (fun r M1 L1 ⟨v, e, k⟩ => ⟨v, e, fun q => absurd q z, fun _ => x_mono k (fun r2 M2 L2 ⟨e2, R2⟩ => ⟨v, e2, fun _ => nxt M2 L2 R2, fun q => absurd rfl q⟩)⟩)
theorem w_strike (hR : Rel M) (hb : ∀ j : Nat, 1 ≤ j → j ≤ 7 → vp_in (i3 + nI j) (roT xs 0).length) (nxt : ∀ M' L', Rel M' → RX xs shL md_Law_law 1598 [.retAddr 0, .ref 0, .ref 516, .int i3] [] M' L' Q) : RX xs shL md_Law_law 1068 [.retAddr 0, .ref 0, .ref 516, .int i3] [] M L Q := by
  exact L_Law_law_1068 (tw_go (y_strike hR) nxt)
theorem w_row (hR : Rel M) (hb : ∀ j : Nat, 1 ≤ j → j ≤ 7 → vp_in (i3 + nI j) (roT xs 0).length) (nxt : ∀ M' L', Rel M' → RX xs shL md_Law_law 1598 [.retAddr 0, .ref 0, .ref 516, .int i3] [] M' L' Q) : RX xs shL md_Law_law 1081 [.retAddr 0, .ref 0, .ref 516, .int i3] [] M L Q := by
  exact L_Law_law_1081 ⟨hb 1 (by decide) (by decide), hb 2 (by decide) (by decide), tw_go (y_row hR _ _) nxt⟩
theorem w_patch (hR : Rel M) (hb : ∀ j : Nat, 1 ≤ j → j ≤ 7 → vp_in (i3 + nI j) (roT xs 0).length) (nxt : ∀ M' L', Rel M' → RX xs shL md_Law_law 1598 [.retAddr 0, .ref 0, .ref 516, .int i3] [] M' L' Q) : RX xs shL md_Law_law 1114 [.retAddr 0, .ref 0, .ref 516, .int i3] [] M L Q := by
  exact L_Law_law_1114 ⟨hb 1 (by decide) (by decide), tw_go (y_patch hR _) nxt⟩
theorem w_has (hR : Rel M) (hb : ∀ j : Nat, 1 ≤ j → j ≤ 7 → vp_in (i3 + nI j) (roT xs 0).length) (nxt : ∀ M' L', Rel M' → RX xs shL md_Law_law 1598 [.retAddr 0, .ref 0, .ref 516, .int i3] [] M' L' Q) : RX xs shL md_Law_law 1137 [.retAddr 0, .ref 0, .ref 516, .int i3] [] M L Q := by
  exact L_Law_law_1137 ⟨hb 1 (by decide) (by decide), hb 2 (by decide) (by decide), hb 3 (by decide) (by decide), tw_go (y_has hR _ _ _) nxt⟩
theorem w_here (hR : Rel M) (hb : ∀ j : Nat, 1 ≤ j → j ≤ 7 → vp_in (i3 + nI j) (roT xs 0).length) (nxt : ∀ M' L', Rel M' → RX xs shL md_Law_law 1598 [.retAddr 0, .ref 0, .ref 516, .int i3] [] M' L' Q) : RX xs shL md_Law_law 1180 [.retAddr 0, .ref 0, .ref 516, .int i3] [] M L Q := by
  exact L_Law_law_1180 ⟨hb 1 (by decide) (by decide), tw_go (y_here hR _) nxt⟩
theorem w_was (hR : Rel M) (hb : ∀ j : Nat, 1 ≤ j → j ≤ 7 → vp_in (i3 + nI j) (roT xs 0).length) (nxt : ∀ M' L', Rel M' → RX xs shL md_Law_law 1598 [.retAddr 0, .ref 0, .ref 516, .int i3] [] M' L' Q) : RX xs shL md_Law_law 1203 [.retAddr 0, .ref 0, .ref 516, .int i3] [] M L Q := by
  exact L_Law_law_1203 ⟨hb 1 (by decide) (by decide), hb 2 (by decide) (by decide), hb 3 (by decide) (by decide), tw_go (y_was hR _ _ _) nxt⟩
theorem w_blamed (hR : Rel M) (hb : ∀ j : Nat, 1 ≤ j → j ≤ 7 → vp_in (i3 + nI j) (roT xs 0).length) (nxt : ∀ M' L', Rel M' → RX xs shL md_Law_law 1598 [.retAddr 0, .ref 0, .ref 516, .int i3] [] M' L' Q) : RX xs shL md_Law_law 1246 [.retAddr 0, .ref 0, .ref 516, .int i3] [] M L Q := by
  exact L_Law_law_1246 (tw_go (y_blamed hR) nxt)
theorem w_blame (hR : Rel M) (hb : ∀ j : Nat, 1 ≤ j → j ≤ 7 → vp_in (i3 + nI j) (roT xs 0).length) (nxt : ∀ M' L', Rel M' → RX xs shL md_Law_law 1598 [.retAddr 0, .ref 0, .ref 516, .int i3] [] M' L' Q) : RX xs shL md_Law_law 1259 [.retAddr 0, .ref 0, .ref 516, .int i3] [] M L Q := by
  exact L_Law_law_1259 ⟨hb 1 (by decide) (by decide), tw_go (y_blame hR _) nxt⟩
theorem w_fits (hR : Rel M) (hb : ∀ j : Nat, 1 ≤ j → j ≤ 7 → vp_in (i3 + nI j) (roT xs 0).length) (nxt : ∀ M' L', Rel M' → RX xs shL md_Law_law 1598 [.retAddr 0, .ref 0, .ref 516, .int i3] [] M' L' Q) : RX xs shL md_Law_law 1282 [.retAddr 0, .ref 0, .ref 516, .int i3] [] M L Q := by
  exact L_Law_law_1282 ⟨hb 1 (by decide) (by decide), hb 2 (by decide) (by decide), tw_go (y_fits hR _ _) nxt⟩
theorem w_fit (hR : Rel M) (hb : ∀ j : Nat, 1 ≤ j → j ≤ 7 → vp_in (i3 + nI j) (roT xs 0).length) (nxt : ∀ M' L', Rel M' → RX xs shL md_Law_law 1598 [.retAddr 0, .ref 0, .ref 516, .int i3] [] M' L' Q) : RX xs shL md_Law_law 1315 [.retAddr 0, .ref 0, .ref 516, .int i3] [] M L Q := by
  exact L_Law_law_1315 ⟨hb 1 (by decide) (by decide), hb 2 (by decide) (by decide), hb 3 (by decide) (by decide), tw_go (y_fit hR _ _ _) nxt⟩
theorem w_sights (hR : Rel M) (hb : ∀ j : Nat, 1 ≤ j → j ≤ 7 → vp_in (i3 + nI j) (roT xs 0).length) (nxt : ∀ M' L', Rel M' → RX xs shL md_Law_law 1598 [.retAddr 0, .ref 0, .ref 516, .int i3] [] M' L' Q) : RX xs shL md_Law_law 1358 [.retAddr 0, .ref 0, .ref 516, .int i3] [] M L Q := by
  exact L_Law_law_1358 ⟨hb 1 (by decide) (by decide), hb 2 (by decide) (by decide), hb 3 (by decide) (by decide), hb 4 (by decide) (by decide), hb 5 (by decide) (by decide), hb 6 (by decide) (by decide), hb 7 (by decide) (by decide), tw_go (y_sights hR _ _ _ _ _ _ _) nxt⟩
theorem w_sure (hR : Rel M) (hb : ∀ j : Nat, 1 ≤ j → j ≤ 7 → vp_in (i3 + nI j) (roT xs 0).length) (nxt : ∀ M' L', Rel M' → RX xs shL md_Law_law 1598 [.retAddr 0, .ref 0, .ref 516, .int i3] [] M' L' Q) : RX xs shL md_Law_law 1445 [.retAddr 0, .ref 0, .ref 516, .int i3] [] M L Q := by
  exact L_Law_law_1445 ⟨hb 1 (by decide) (by decide), hb 2 (by decide) (by decide), hb 3 (by decide) (by decide), hb 4 (by decide) (by decide), hb 5 (by decide) (by decide), tw_go (y_sure hR _ _ _ _ _) nxt⟩
theorem w_course (hR : Rel M) (hb : ∀ j : Nat, 1 ≤ j → j ≤ 7 → vp_in (i3 + nI j) (roT xs 0).length) (nxt : ∀ M' L', Rel M' → RX xs shL md_Law_law 1598 [.retAddr 0, .ref 0, .ref 516, .int i3] [] M' L' Q) : RX xs shL md_Law_law 1508 [.retAddr 0, .ref 0, .ref 516, .int i3] [] M L Q := by
  exact L_Law_law_1508 ⟨hb 1 (by decide) (by decide), hb 2 (by decide) (by decide), hb 3 (by decide) (by decide), hb 4 (by decide) (by decide), tw_go (y_course hR _ _ _ _) nxt⟩
theorem w_many (hR : Rel M) (hb : ∀ j : Nat, 1 ≤ j → j ≤ 7 → vp_in (i3 + nI j) (roT xs 0).length) (nxt : ∀ M' L', Rel M' → RX xs shL md_Law_law 1598 [.retAddr 0, .ref 0, .ref 516, .int i3] [] M' L' Q) : RX xs shL md_Law_law 1561 [.retAddr 0, .ref 0, .ref 516, .int i3] [] M L Q := by
  exact L_Law_law_1561 ⟨hb 1 (by decide) (by decide), tw_go (y_many hR _) nxt⟩
theorem w_digest (hR : Rel M) (hb : ∀ j : Nat, 1 ≤ j → j ≤ 7 → vp_in (i3 + nI j) (roT xs 0).length) (nxt : ∀ M' L', Rel M' → RX xs shL md_Law_law 1598 [.retAddr 0, .ref 0, .ref 516, .int i3] [] M' L' Q) : RX xs shL md_Law_law 1584 [.retAddr 0, .ref 0, .ref 516, .int i3] [] M L Q := by
  refine L_Law_law_1584 (x_mono (y_digest (xs := xs) (L := L) hR) (fun r M1 L1 ⟨v, e, k⟩ => ⟨v, e, x_mono k (fun r2 M2 L2 ⟨e2, R2⟩ => ⟨v, e2, fun _ => nxt M2 L2 R2, fun q => absurd ?_ q⟩)⟩))
  unfold lg_cmp
  simp
theorem and63 (v : Int32) : ∃ k, k < 64 ∧ v &&& 63 = nI k := by
  have e : v = nI v.toBitVec.toNat := by
    apply Int32.toBitVec_inj.1
    show v.toBitVec = BitVec.ofNat 32 v.toBitVec.toNat
    simp
  refine ⟨v.toBitVec.toNat % 64, Nat.mod_lt _ (by decide), ?_⟩
  conv => lhs; rw [e]
  show nI _ &&& nI 63 = _
  rw [nx_and, show (63 : Nat) = 2 ^ 6 - 1 from rfl, Nat.and_two_pow_sub_one_eq_mod]
theorem law_loop (hx : xs.length ≤ 4096) : ∀ n i, xs.length ≤ i + n → i ≤ 5000 → ∀ M L, Rel M → RX xs shL md_Law_law 18 [.retAddr 0, .ref 0, .ref 516, .int (nI i)] [] M L (fun r _ _ => r = some (.int 1)) := by
  intro n
  induction n with
  | zero =>
    intro i hi hi2 M L hR
    refine L_Law_law_18 ⟨fun _ => rfl, fun c => absurd ?_ c⟩
    show Int32.ofNat xs.length - 8 < nI i
    have e : (Int32.ofNat xs.length - 8).toInt = (xs.length : Int) - 8 := by
      have := i_nI (n := xs.length) (by omega)
      have this : (Int32.ofNat xs.length).toInt = (xs.length : Int) := this
      rw [i_sub (by show _ ≤ _ - (8 : Int); omega) (by show _ - (8 : Int) < _; omega), this]; rfl
    rw [i_lt, e, i_nI (by omega)]; omega
  | succ n ih =>
    intro i hi hi2 M L hR
    have e : (Int32.ofNat xs.length - 8).toInt = (xs.length : Int) - 8 := by
      have := i_nI (n := xs.length) (by omega)
      have this : (Int32.ofNat xs.length).toInt = (xs.length : Int) := this
      rw [i_sub (by show _ ≤ _ - (8 : Int); omega) (by show _ - (8 : Int) < _; omega), this]; rfl
    refine L_Law_law_18 ⟨fun _ => rfl, fun c => ?_⟩
    have c : ¬ Int32.ofNat xs.length - 8 < nI i := c
    rw [i_lt, e, i_nI (by omega)] at c
    have hlen : i + 8 ≤ xs.length := by omega
    have hb : ∀ j : Nat, 1 ≤ j → j ≤ 7 → vp_in (nI i + nI j) (roT xs 0).length := fun j h1 h2 => by
      rw [nI_add]
      exact vp_nI (by show _ < xs.length; omega) (by show xs.length < _; omega)
    have nxt : ∀ M' L', Rel M' → RX xs shL md_Law_law 1598 [.retAddr 0, .ref 0, .ref 516, .int (nI i)] [] M' L' (fun r _ _ => r = some (.int 1)) := fun M' L' hR' => by
      refine L_Law_law_1598 ?_
      rw [show nI i + 8 = nI (i + 8) from nI_add i 8]
      exact ih (i + 8) (by omega) (by omega) M' L' hR'
    refine ⟨vp_nI (by show _ < xs.length; omega) (by show xs.length < _; omega), ?_⟩
    obtain ⟨k, k1, k2⟩ := and63 ((roT xs 0).getD (nI i).toNatClampNeg 0)
    rw [k2]
    by_cases h0 : nI k = 0
    · exact Or.inl ⟨h0, w_name hR hb nxt⟩
    refine Or.inr ?_
    by_cases h1 : nI k = 1
    · exact Or.inl ⟨h1, w_read hR hb nxt⟩
    refine Or.inr ?_
    by_cases h2 : nI k = 2
    · exact Or.inl ⟨h2, w_turns hR hb nxt⟩
    refine Or.inr ?_
    by_cases h3 : nI k = 3
    · exact Or.inl ⟨h3, w_go hR hb nxt⟩
    refine Or.inr ?_
    by_cases h4 : nI k = 4
    · exact Or.inl ⟨h4, w_word hR hb nxt⟩
    refine Or.inr ?_
    by_cases h5 : nI k = 5
    · exact Or.inl ⟨h5, w_hush hR hb nxt⟩
    refine Or.inr ?_
    by_cases h6 : nI k = 6
    · exact Or.inl ⟨h6, w_fault hR hb nxt⟩
    refine Or.inr ?_
    by_cases h7 : nI k = 7
    · exact Or.inl ⟨h7, w_told hR hb nxt⟩
    refine Or.inr ?_
    by_cases h8 : nI k = 8
    · exact Or.inl ⟨h8, w_watch hR hb nxt⟩
    refine Or.inr ?_
    by_cases h9 : nI k = 9
    · exact Or.inl ⟨h9, w_peg hR hb nxt⟩
    refine Or.inr ?_
    by_cases h10 : nI k = 10
    · exact Or.inl ⟨h10, w_knots hR hb nxt⟩
    refine Or.inr ?_
    by_cases h11 : nI k = 11
    · exact Or.inl ⟨h11, w_set hR hb nxt⟩
    refine Or.inr ?_
    by_cases h12 : nI k = 12
    · exact Or.inl ⟨h12, w_leeway hR hb nxt⟩
    refine Or.inr ?_
    by_cases h13 : nI k = 13
    · exact Or.inl ⟨h13, w_way hR hb nxt⟩
    refine Or.inr ?_
    by_cases h14 : nI k = 14
    · exact Or.inl ⟨h14, w_miss hR hb nxt⟩
    refine Or.inr ?_
    by_cases h15 : nI k = 15
    · exact Or.inl ⟨h15, w_chart hR hb nxt⟩
    refine Or.inr ?_
    by_cases h16 : nI k = 16
    · exact Or.inl ⟨h16, w_sea hR hb nxt⟩
    refine Or.inr ?_
    by_cases h17 : nI k = 17
    · exact Or.inl ⟨h17, w_weed hR hb nxt⟩
    refine Or.inr ?_
    by_cases h18 : nI k = 18
    · exact Or.inl ⟨h18, w_about hR hb nxt⟩
    refine Or.inr ?_
    by_cases h19 : nI k = 19
    · exact Or.inl ⟨h19, w_stream hR hb nxt⟩
    refine Or.inr ?_
    by_cases h20 : nI k = 20
    · exact Or.inl ⟨h20, w_start hR hb nxt⟩
    refine Or.inr ?_
    by_cases h21 : nI k = 21
    · exact Or.inl ⟨h21, w_run hR hb nxt⟩
    refine Or.inr ?_
    by_cases h22 : nI k = 22
    · exact Or.inl ⟨h22, w_sign hR hb nxt⟩
    refine Or.inr ?_
    by_cases h23 : nI k = 23
    · exact Or.inl ⟨h23, w_count hR hb nxt⟩
    refine Or.inr ?_
    by_cases h24 : nI k = 24
    · exact Or.inl ⟨h24, w_strike hR hb nxt⟩
    refine Or.inr ?_
    by_cases h25 : nI k = 25
    · exact Or.inl ⟨h25, w_row hR hb nxt⟩
    refine Or.inr ?_
    by_cases h26 : nI k = 26
    · exact Or.inl ⟨h26, w_patch hR hb nxt⟩
    refine Or.inr ?_
    by_cases h27 : nI k = 27
    · exact Or.inl ⟨h27, w_has hR hb nxt⟩
    refine Or.inr ?_
    by_cases h28 : nI k = 28
    · exact Or.inl ⟨h28, w_here hR hb nxt⟩
    refine Or.inr ?_
    by_cases h29 : nI k = 29
    · exact Or.inl ⟨h29, w_was hR hb nxt⟩
    refine Or.inr ?_
    by_cases h30 : nI k = 30
    · exact Or.inl ⟨h30, w_blamed hR hb nxt⟩
    refine Or.inr ?_
    by_cases h31 : nI k = 31
    · exact Or.inl ⟨h31, w_blame hR hb nxt⟩
    refine Or.inr ?_
    by_cases h32 : nI k = 32
    · exact Or.inl ⟨h32, w_fits hR hb nxt⟩
    refine Or.inr ?_
    by_cases h33 : nI k = 33
    · exact Or.inl ⟨h33, w_fit hR hb nxt⟩
    refine Or.inr ?_
    by_cases h34 : nI k = 34
    · exact Or.inl ⟨h34, w_sights hR hb nxt⟩
    refine Or.inr ?_
    by_cases h35 : nI k = 35
    · exact Or.inl ⟨h35, w_sure hR hb nxt⟩
    refine Or.inr ?_
    by_cases h36 : nI k = 36
    · exact Or.inl ⟨h36, w_course hR hb nxt⟩
    refine Or.inr ?_
    by_cases h37 : nI k = 37
    · exact Or.inl ⟨h37, w_many hR hb nxt⟩
    refine Or.inr ?_
    by_cases h38 : nI k = 38
    · exact Or.inl ⟨h38, w_digest hR hb nxt⟩
    refine Or.inr ?_
    refine ⟨Or.inr ?_, nxt M L hR⟩
    have g0 : k ≠ 0 := fun z => h0 (by rw [z]; rfl)
    have g1 : k ≠ 1 := fun z => h1 (by rw [z]; rfl)
    have g2 : k ≠ 2 := fun z => h2 (by rw [z]; rfl)
    have g3 : k ≠ 3 := fun z => h3 (by rw [z]; rfl)
    have g4 : k ≠ 4 := fun z => h4 (by rw [z]; rfl)
    have g5 : k ≠ 5 := fun z => h5 (by rw [z]; rfl)
    have g6 : k ≠ 6 := fun z => h6 (by rw [z]; rfl)
    have g7 : k ≠ 7 := fun z => h7 (by rw [z]; rfl)
    have g8 : k ≠ 8 := fun z => h8 (by rw [z]; rfl)
    have g9 : k ≠ 9 := fun z => h9 (by rw [z]; rfl)
    have g10 : k ≠ 10 := fun z => h10 (by rw [z]; rfl)
    have g11 : k ≠ 11 := fun z => h11 (by rw [z]; rfl)
    have g12 : k ≠ 12 := fun z => h12 (by rw [z]; rfl)
    have g13 : k ≠ 13 := fun z => h13 (by rw [z]; rfl)
    have g14 : k ≠ 14 := fun z => h14 (by rw [z]; rfl)
    have g15 : k ≠ 15 := fun z => h15 (by rw [z]; rfl)
    have g16 : k ≠ 16 := fun z => h16 (by rw [z]; rfl)
    have g17 : k ≠ 17 := fun z => h17 (by rw [z]; rfl)
    have g18 : k ≠ 18 := fun z => h18 (by rw [z]; rfl)
    have g19 : k ≠ 19 := fun z => h19 (by rw [z]; rfl)
    have g20 : k ≠ 20 := fun z => h20 (by rw [z]; rfl)
    have g21 : k ≠ 21 := fun z => h21 (by rw [z]; rfl)
    have g22 : k ≠ 22 := fun z => h22 (by rw [z]; rfl)
    have g23 : k ≠ 23 := fun z => h23 (by rw [z]; rfl)
    have g24 : k ≠ 24 := fun z => h24 (by rw [z]; rfl)
    have g25 : k ≠ 25 := fun z => h25 (by rw [z]; rfl)
    have g26 : k ≠ 26 := fun z => h26 (by rw [z]; rfl)
    have g27 : k ≠ 27 := fun z => h27 (by rw [z]; rfl)
    have g28 : k ≠ 28 := fun z => h28 (by rw [z]; rfl)
    have g29 : k ≠ 29 := fun z => h29 (by rw [z]; rfl)
    have g30 : k ≠ 30 := fun z => h30 (by rw [z]; rfl)
    have g31 : k ≠ 31 := fun z => h31 (by rw [z]; rfl)
    have g32 : k ≠ 32 := fun z => h32 (by rw [z]; rfl)
    have g33 : k ≠ 33 := fun z => h33 (by rw [z]; rfl)
    have g34 : k ≠ 34 := fun z => h34 (by rw [z]; rfl)
    have g35 : k ≠ 35 := fun z => h35 (by rw [z]; rfl)
    have g36 : k ≠ 36 := fun z => h36 (by rw [z]; rfl)
    have g37 : k ≠ 37 := fun z => h37 (by rw [z]; rfl)
    have g38 : k ≠ 38 := fun z => h38 (by rw [z]; rfl)
    rw [i_lt, i_nI (by omega)]
    show (38 : Int) < _
    omega
end UC

set_option maxHeartbeats 4000000 in
theorem L_Law_law_18 {xs : List Int32} {i3 : Int32} {M : Mem} {L : Int64} {Q : Option Value → Mem → Int64 → Prop} 
    (h : ((((Int32.ofNat (roT xs 0).length) - 8) < i3 → Q (some (.int 1)) M L) ∧ (¬ (((Int32.ofNat (roT xs 0).length) - 8) < i3) → (vp_in i3 (roT xs 0).length ∧ (((((roT xs 0).getD i3.toNatClampNeg 0) &&& 63) = 0 ∧ RX xs shL md_Law_law 204 [.retAddr 0, .ref 0, .ref 516, .int i3] [] M L Q) ∨ ((((roT xs 0).getD i3.toNatClampNeg 0) &&& 63) = 1 ∧ RX xs shL md_Law_law 227 [.retAddr 0, .ref 0, .ref 516, .int i3] [] M L Q) ∨ ((((roT xs 0).getD i3.toNatClampNeg 0) &&& 63) = 2 ∧ RX xs shL md_Law_law 250 [.retAddr 0, .ref 0, .ref 516, .int i3] [] M L Q) ∨ ((((roT xs 0).getD i3.toNatClampNeg 0) &&& 63) = 3 ∧ RX xs shL md_Law_law 283 [.retAddr 0, .ref 0, .ref 516, .int i3] [] M L Q) ∨ ((((roT xs 0).getD i3.toNatClampNeg 0) &&& 63) = 4 ∧ RX xs shL md_Law_law 316 [.retAddr 0, .ref 0, .ref 516, .int i3] [] M L Q) ∨ ((((roT xs 0).getD i3.toNatClampNeg 0) &&& 63) = 5 ∧ RX xs shL md_Law_law 339 [.retAddr 0, .ref 0, .ref 516, .int i3] [] M L Q) ∨ ((((roT xs 0).getD i3.toNatClampNeg 0) &&& 63) = 6 ∧ RX xs shL md_Law_law 352 [.retAddr 0, .ref 0, .ref 516, .int i3] [] M L Q) ∨ ((((roT xs 0).getD i3.toNatClampNeg 0) &&& 63) = 7 ∧ RX xs shL md_Law_law 365 [.retAddr 0, .ref 0, .ref 516, .int i3] [] M L Q) ∨ ((((roT xs 0).getD i3.toNatClampNeg 0) &&& 63) = 8 ∧ RX xs shL md_Law_law 378 [.retAddr 0, .ref 0, .ref 516, .int i3] [] M L Q) ∨ ((((roT xs 0).getD i3.toNatClampNeg 0) &&& 63) = 9 ∧ RX xs shL md_Law_law 391 [.retAddr 0, .ref 0, .ref 516, .int i3] [] M L Q) ∨ ((((roT xs 0).getD i3.toNatClampNeg 0) &&& 63) = 10 ∧ RX xs shL md_Law_law 434 [.retAddr 0, .ref 0, .ref 516, .int i3] [] M L Q) ∨ ((((roT xs 0).getD i3.toNatClampNeg 0) &&& 63) = 11 ∧ RX xs shL md_Law_law 477 [.retAddr 0, .ref 0, .ref 516, .int i3] [] M L Q) ∨ ((((roT xs 0).getD i3.toNatClampNeg 0) &&& 63) = 12 ∧ RX xs shL md_Law_law 520 [.retAddr 0, .ref 0, .ref 516, .int i3] [] M L Q) ∨ ((((roT xs 0).getD i3.toNatClampNeg 0) &&& 63) = 13 ∧ RX xs shL md_Law_law 563 [.retAddr 0, .ref 0, .ref 516, .int i3] [] M L Q) ∨ ((((roT xs 0).getD i3.toNatClampNeg 0) &&& 63) = 14 ∧ RX xs shL md_Law_law 616 [.retAddr 0, .ref 0, .ref 516, .int i3] [] M L Q) ∨ ((((roT xs 0).getD i3.toNatClampNeg 0) &&& 63) = 15 ∧ RX xs shL md_Law_law 639 [.retAddr 0, .ref 0, .ref 516, .int i3] [] M L Q) ∨ ((((roT xs 0).getD i3.toNatClampNeg 0) &&& 63) = 16 ∧ RX xs shL md_Law_law 672 [.retAddr 0, .ref 0, .ref 516, .int i3] [] M L Q) ∨ ((((roT xs 0).getD i3.toNatClampNeg 0) &&& 63) = 17 ∧ RX xs shL md_Law_law 735 [.retAddr 0, .ref 0, .ref 516, .int i3] [] M L Q) ∨ ((((roT xs 0).getD i3.toNatClampNeg 0) &&& 63) = 18 ∧ RX xs shL md_Law_law 814 [.retAddr 0, .ref 0, .ref 516, .int i3] [] M L Q) ∨ ((((roT xs 0).getD i3.toNatClampNeg 0) &&& 63) = 19 ∧ RX xs shL md_Law_law 857 [.retAddr 0, .ref 0, .ref 516, .int i3] [] M L Q) ∨ ((((roT xs 0).getD i3.toNatClampNeg 0) &&& 63) = 20 ∧ RX xs shL md_Law_law 910 [.retAddr 0, .ref 0, .ref 516, .int i3] [] M L Q) ∨ ((((roT xs 0).getD i3.toNatClampNeg 0) &&& 63) = 21 ∧ RX xs shL md_Law_law 953 [.retAddr 0, .ref 0, .ref 516, .int i3] [] M L Q) ∨ ((((roT xs 0).getD i3.toNatClampNeg 0) &&& 63) = 22 ∧ RX xs shL md_Law_law 976 [.retAddr 0, .ref 0, .ref 516, .int i3] [] M L Q) ∨ ((((roT xs 0).getD i3.toNatClampNeg 0) &&& 63) = 23 ∧ RX xs shL md_Law_law 1019 [.retAddr 0, .ref 0, .ref 516, .int i3] [] M L Q) ∨ ((((roT xs 0).getD i3.toNatClampNeg 0) &&& 63) = 24 ∧ RX xs shL md_Law_law 1068 [.retAddr 0, .ref 0, .ref 516, .int i3] [] M L Q) ∨ ((((roT xs 0).getD i3.toNatClampNeg 0) &&& 63) = 25 ∧ RX xs shL md_Law_law 1081 [.retAddr 0, .ref 0, .ref 516, .int i3] [] M L Q) ∨ ((((roT xs 0).getD i3.toNatClampNeg 0) &&& 63) = 26 ∧ RX xs shL md_Law_law 1114 [.retAddr 0, .ref 0, .ref 516, .int i3] [] M L Q) ∨ ((((roT xs 0).getD i3.toNatClampNeg 0) &&& 63) = 27 ∧ RX xs shL md_Law_law 1137 [.retAddr 0, .ref 0, .ref 516, .int i3] [] M L Q) ∨ ((((roT xs 0).getD i3.toNatClampNeg 0) &&& 63) = 28 ∧ RX xs shL md_Law_law 1180 [.retAddr 0, .ref 0, .ref 516, .int i3] [] M L Q) ∨ ((((roT xs 0).getD i3.toNatClampNeg 0) &&& 63) = 29 ∧ RX xs shL md_Law_law 1203 [.retAddr 0, .ref 0, .ref 516, .int i3] [] M L Q) ∨ ((((roT xs 0).getD i3.toNatClampNeg 0) &&& 63) = 30 ∧ RX xs shL md_Law_law 1246 [.retAddr 0, .ref 0, .ref 516, .int i3] [] M L Q) ∨ ((((roT xs 0).getD i3.toNatClampNeg 0) &&& 63) = 31 ∧ RX xs shL md_Law_law 1259 [.retAddr 0, .ref 0, .ref 516, .int i3] [] M L Q) ∨ ((((roT xs 0).getD i3.toNatClampNeg 0) &&& 63) = 32 ∧ RX xs shL md_Law_law 1282 [.retAddr 0, .ref 0, .ref 516, .int i3] [] M L Q) ∨ ((((roT xs 0).getD i3.toNatClampNeg 0) &&& 63) = 33 ∧ RX xs shL md_Law_law 1315 [.retAddr 0, .ref 0, .ref 516, .int i3] [] M L Q) ∨ ((((roT xs 0).getD i3.toNatClampNeg 0) &&& 63) = 34 ∧ RX xs shL md_Law_law 1358 [.retAddr 0, .ref 0, .ref 516, .int i3] [] M L Q) ∨ ((((roT xs 0).getD i3.toNatClampNeg 0) &&& 63) = 35 ∧ RX xs shL md_Law_law 1445 [.retAddr 0, .ref 0, .ref 516, .int i3] [] M L Q) ∨ ((((roT xs 0).getD i3.toNatClampNeg 0) &&& 63) = 36 ∧ RX xs shL md_Law_law 1508 [.retAddr 0, .ref 0, .ref 516, .int i3] [] M L Q) ∨ ((((roT xs 0).getD i3.toNatClampNeg 0) &&& 63) = 37 ∧ RX xs shL md_Law_law 1561 [.retAddr 0, .ref 0, .ref 516, .int i3] [] M L Q) ∨ ((((roT xs 0).getD i3.toNatClampNeg 0) &&& 63) = 38 ∧ RX xs shL md_Law_law 1584 [.retAddr 0, .ref 0, .ref 516, .int i3] [] M L Q) ∨ (((((roT xs 0).getD i3.toNatClampNeg 0) &&& 63) < 0 ∨ 38 < (((roT xs 0).getD i3.toNatClampNeg 0) &&& 63)) ∧ RX xs shL md_Law_law 1598 [.retAddr 0, .ref 0, .ref 516, .int i3] [] M L Q)))))) : RX xs shL md_Law_law 18 [.retAddr 0, .ref 0, .ref 516, .int i3] [] M L Q := by
  refine r_iload_n d_Law_law_18 rfl ?_
  refine r_aload_nR d_Law_law_19 rfl ?_
  refine r_rlen (k := 0) d_Law_law_20 (by decide) ?_
  refine r_bipush (v := 8) d_Law_law_21 (by decide) ?_
  refine r_isub d_Law_law_23 ?_
  refine r_ic_gt d_Law_law_24 (fun c_1 => ?_) (fun c_1 => ?_)
  · have h9 := h.1 c_1
    refine r_iconst (v := 1) d_Law_law_1604 (by decide) ?_
    exact r_iret ⟨d_Law_law_1605, _, rfl, rfl⟩ ⟨_, _, rfl, h9⟩
  · have h9 := h.2 c_1
    refine r_aload_nR d_Law_law_27 rfl ?_
    refine r_iload_n d_Law_law_28 rfl ?_
    obtain ⟨o_2, h9⟩ := h9
    refine r_rald (k := 0) d_Law_law_29 (by decide) o_2 ?_
    refine r_bipush (v := 63) d_Law_law_30 (by decide) ?_
    refine r_iand d_Law_law_32 ?_
    rcases h9 with h9 | h9 | h9 | h9 | h9 | h9 | h9 | h9 | h9 | h9 | h9 | h9 | h9 | h9 | h9 | h9 | h9 | h9 | h9 | h9 | h9 | h9 | h9 | h9 | h9 | h9 | h9 | h9 | h9 | h9 | h9 | h9 | h9 | h9 | h9 | h9 | h9 | h9 | h9 | h9
    · obtain ⟨c9, h9⟩ := h9
      refine r_switch (tgt := 204) ⟨_, _, _, _, _, d_Law_law_33, Or.inr ⟨by rw [c9]; decide, by rw [c9]; decide, 171, by rw [c9]; rfl, by decide⟩⟩ ?_
      exact h9
    · obtain ⟨c9, h9⟩ := h9
      refine r_switch (tgt := 227) ⟨_, _, _, _, _, d_Law_law_33, Or.inr ⟨by rw [c9]; decide, by rw [c9]; decide, 194, by rw [c9]; rfl, by decide⟩⟩ ?_
      exact h9
    · obtain ⟨c9, h9⟩ := h9
      refine r_switch (tgt := 250) ⟨_, _, _, _, _, d_Law_law_33, Or.inr ⟨by rw [c9]; decide, by rw [c9]; decide, 217, by rw [c9]; rfl, by decide⟩⟩ ?_
      exact h9
    · obtain ⟨c9, h9⟩ := h9
      refine r_switch (tgt := 283) ⟨_, _, _, _, _, d_Law_law_33, Or.inr ⟨by rw [c9]; decide, by rw [c9]; decide, 250, by rw [c9]; rfl, by decide⟩⟩ ?_
      exact h9
    · obtain ⟨c9, h9⟩ := h9
      refine r_switch (tgt := 316) ⟨_, _, _, _, _, d_Law_law_33, Or.inr ⟨by rw [c9]; decide, by rw [c9]; decide, 283, by rw [c9]; rfl, by decide⟩⟩ ?_
      exact h9
    · obtain ⟨c9, h9⟩ := h9
      refine r_switch (tgt := 339) ⟨_, _, _, _, _, d_Law_law_33, Or.inr ⟨by rw [c9]; decide, by rw [c9]; decide, 306, by rw [c9]; rfl, by decide⟩⟩ ?_
      exact h9
    · obtain ⟨c9, h9⟩ := h9
      refine r_switch (tgt := 352) ⟨_, _, _, _, _, d_Law_law_33, Or.inr ⟨by rw [c9]; decide, by rw [c9]; decide, 319, by rw [c9]; rfl, by decide⟩⟩ ?_
      exact h9
    · obtain ⟨c9, h9⟩ := h9
      refine r_switch (tgt := 365) ⟨_, _, _, _, _, d_Law_law_33, Or.inr ⟨by rw [c9]; decide, by rw [c9]; decide, 332, by rw [c9]; rfl, by decide⟩⟩ ?_
      exact h9
    · obtain ⟨c9, h9⟩ := h9
      refine r_switch (tgt := 378) ⟨_, _, _, _, _, d_Law_law_33, Or.inr ⟨by rw [c9]; decide, by rw [c9]; decide, 345, by rw [c9]; rfl, by decide⟩⟩ ?_
      exact h9
    · obtain ⟨c9, h9⟩ := h9
      refine r_switch (tgt := 391) ⟨_, _, _, _, _, d_Law_law_33, Or.inr ⟨by rw [c9]; decide, by rw [c9]; decide, 358, by rw [c9]; rfl, by decide⟩⟩ ?_
      exact h9
    · obtain ⟨c9, h9⟩ := h9
      refine r_switch (tgt := 434) ⟨_, _, _, _, _, d_Law_law_33, Or.inr ⟨by rw [c9]; decide, by rw [c9]; decide, 401, by rw [c9]; rfl, by decide⟩⟩ ?_
      exact h9
    · obtain ⟨c9, h9⟩ := h9
      refine r_switch (tgt := 477) ⟨_, _, _, _, _, d_Law_law_33, Or.inr ⟨by rw [c9]; decide, by rw [c9]; decide, 444, by rw [c9]; rfl, by decide⟩⟩ ?_
      exact h9
    · obtain ⟨c9, h9⟩ := h9
      refine r_switch (tgt := 520) ⟨_, _, _, _, _, d_Law_law_33, Or.inr ⟨by rw [c9]; decide, by rw [c9]; decide, 487, by rw [c9]; rfl, by decide⟩⟩ ?_
      exact h9
    · obtain ⟨c9, h9⟩ := h9
      refine r_switch (tgt := 563) ⟨_, _, _, _, _, d_Law_law_33, Or.inr ⟨by rw [c9]; decide, by rw [c9]; decide, 530, by rw [c9]; rfl, by decide⟩⟩ ?_
      exact h9
    · obtain ⟨c9, h9⟩ := h9
      refine r_switch (tgt := 616) ⟨_, _, _, _, _, d_Law_law_33, Or.inr ⟨by rw [c9]; decide, by rw [c9]; decide, 583, by rw [c9]; rfl, by decide⟩⟩ ?_
      exact h9
    · obtain ⟨c9, h9⟩ := h9
      refine r_switch (tgt := 639) ⟨_, _, _, _, _, d_Law_law_33, Or.inr ⟨by rw [c9]; decide, by rw [c9]; decide, 606, by rw [c9]; rfl, by decide⟩⟩ ?_
      exact h9
    · obtain ⟨c9, h9⟩ := h9
      refine r_switch (tgt := 672) ⟨_, _, _, _, _, d_Law_law_33, Or.inr ⟨by rw [c9]; decide, by rw [c9]; decide, 639, by rw [c9]; rfl, by decide⟩⟩ ?_
      exact h9
    · obtain ⟨c9, h9⟩ := h9
      refine r_switch (tgt := 735) ⟨_, _, _, _, _, d_Law_law_33, Or.inr ⟨by rw [c9]; decide, by rw [c9]; decide, 702, by rw [c9]; rfl, by decide⟩⟩ ?_
      exact h9
    · obtain ⟨c9, h9⟩ := h9
      refine r_switch (tgt := 814) ⟨_, _, _, _, _, d_Law_law_33, Or.inr ⟨by rw [c9]; decide, by rw [c9]; decide, 781, by rw [c9]; rfl, by decide⟩⟩ ?_
      exact h9
    · obtain ⟨c9, h9⟩ := h9
      refine r_switch (tgt := 857) ⟨_, _, _, _, _, d_Law_law_33, Or.inr ⟨by rw [c9]; decide, by rw [c9]; decide, 824, by rw [c9]; rfl, by decide⟩⟩ ?_
      exact h9
    · obtain ⟨c9, h9⟩ := h9
      refine r_switch (tgt := 910) ⟨_, _, _, _, _, d_Law_law_33, Or.inr ⟨by rw [c9]; decide, by rw [c9]; decide, 877, by rw [c9]; rfl, by decide⟩⟩ ?_
      exact h9
    · obtain ⟨c9, h9⟩ := h9
      refine r_switch (tgt := 953) ⟨_, _, _, _, _, d_Law_law_33, Or.inr ⟨by rw [c9]; decide, by rw [c9]; decide, 920, by rw [c9]; rfl, by decide⟩⟩ ?_
      exact h9
    · obtain ⟨c9, h9⟩ := h9
      refine r_switch (tgt := 976) ⟨_, _, _, _, _, d_Law_law_33, Or.inr ⟨by rw [c9]; decide, by rw [c9]; decide, 943, by rw [c9]; rfl, by decide⟩⟩ ?_
      exact h9
    · obtain ⟨c9, h9⟩ := h9
      refine r_switch (tgt := 1019) ⟨_, _, _, _, _, d_Law_law_33, Or.inr ⟨by rw [c9]; decide, by rw [c9]; decide, 986, by rw [c9]; rfl, by decide⟩⟩ ?_
      exact h9
    · obtain ⟨c9, h9⟩ := h9
      refine r_switch (tgt := 1068) ⟨_, _, _, _, _, d_Law_law_33, Or.inr ⟨by rw [c9]; decide, by rw [c9]; decide, 1035, by rw [c9]; rfl, by decide⟩⟩ ?_
      exact h9
    · obtain ⟨c9, h9⟩ := h9
      refine r_switch (tgt := 1081) ⟨_, _, _, _, _, d_Law_law_33, Or.inr ⟨by rw [c9]; decide, by rw [c9]; decide, 1048, by rw [c9]; rfl, by decide⟩⟩ ?_
      exact h9
    · obtain ⟨c9, h9⟩ := h9
      refine r_switch (tgt := 1114) ⟨_, _, _, _, _, d_Law_law_33, Or.inr ⟨by rw [c9]; decide, by rw [c9]; decide, 1081, by rw [c9]; rfl, by decide⟩⟩ ?_
      exact h9
    · obtain ⟨c9, h9⟩ := h9
      refine r_switch (tgt := 1137) ⟨_, _, _, _, _, d_Law_law_33, Or.inr ⟨by rw [c9]; decide, by rw [c9]; decide, 1104, by rw [c9]; rfl, by decide⟩⟩ ?_
      exact h9
    · obtain ⟨c9, h9⟩ := h9
      refine r_switch (tgt := 1180) ⟨_, _, _, _, _, d_Law_law_33, Or.inr ⟨by rw [c9]; decide, by rw [c9]; decide, 1147, by rw [c9]; rfl, by decide⟩⟩ ?_
      exact h9
    · obtain ⟨c9, h9⟩ := h9
      refine r_switch (tgt := 1203) ⟨_, _, _, _, _, d_Law_law_33, Or.inr ⟨by rw [c9]; decide, by rw [c9]; decide, 1170, by rw [c9]; rfl, by decide⟩⟩ ?_
      exact h9
    · obtain ⟨c9, h9⟩ := h9
      refine r_switch (tgt := 1246) ⟨_, _, _, _, _, d_Law_law_33, Or.inr ⟨by rw [c9]; decide, by rw [c9]; decide, 1213, by rw [c9]; rfl, by decide⟩⟩ ?_
      exact h9
    · obtain ⟨c9, h9⟩ := h9
      refine r_switch (tgt := 1259) ⟨_, _, _, _, _, d_Law_law_33, Or.inr ⟨by rw [c9]; decide, by rw [c9]; decide, 1226, by rw [c9]; rfl, by decide⟩⟩ ?_
      exact h9
    · obtain ⟨c9, h9⟩ := h9
      refine r_switch (tgt := 1282) ⟨_, _, _, _, _, d_Law_law_33, Or.inr ⟨by rw [c9]; decide, by rw [c9]; decide, 1249, by rw [c9]; rfl, by decide⟩⟩ ?_
      exact h9
    · obtain ⟨c9, h9⟩ := h9
      refine r_switch (tgt := 1315) ⟨_, _, _, _, _, d_Law_law_33, Or.inr ⟨by rw [c9]; decide, by rw [c9]; decide, 1282, by rw [c9]; rfl, by decide⟩⟩ ?_
      exact h9
    · obtain ⟨c9, h9⟩ := h9
      refine r_switch (tgt := 1358) ⟨_, _, _, _, _, d_Law_law_33, Or.inr ⟨by rw [c9]; decide, by rw [c9]; decide, 1325, by rw [c9]; rfl, by decide⟩⟩ ?_
      exact h9
    · obtain ⟨c9, h9⟩ := h9
      refine r_switch (tgt := 1445) ⟨_, _, _, _, _, d_Law_law_33, Or.inr ⟨by rw [c9]; decide, by rw [c9]; decide, 1412, by rw [c9]; rfl, by decide⟩⟩ ?_
      exact h9
    · obtain ⟨c9, h9⟩ := h9
      refine r_switch (tgt := 1508) ⟨_, _, _, _, _, d_Law_law_33, Or.inr ⟨by rw [c9]; decide, by rw [c9]; decide, 1475, by rw [c9]; rfl, by decide⟩⟩ ?_
      exact h9
    · obtain ⟨c9, h9⟩ := h9
      refine r_switch (tgt := 1561) ⟨_, _, _, _, _, d_Law_law_33, Or.inr ⟨by rw [c9]; decide, by rw [c9]; decide, 1528, by rw [c9]; rfl, by decide⟩⟩ ?_
      exact h9
    · obtain ⟨c9, h9⟩ := h9
      refine r_switch (tgt := 1584) ⟨_, _, _, _, _, d_Law_law_33, Or.inr ⟨by rw [c9]; decide, by rw [c9]; decide, 1551, by rw [c9]; rfl, by decide⟩⟩ ?_
      exact h9
    · obtain ⟨c9, h9⟩ := h9
      refine r_switch (tgt := 1598) ⟨_, _, _, _, _, d_Law_law_33, Or.inl ⟨sw_out c9 (by decide) (by decide), by decide⟩⟩ ?_
      exact h9
theorem L_Law_law_204 {xs : List Int32} {i3 : Int32} {M : Mem} {L : Int64} {Q : Option Value → Mem → Int64 → Prop} 
    (h : (vp_in (i3 + 1) (roT xs 0).length ∧ RX xs shL md_Peg_name 0 [.ref 0, .int ((roT xs 0).getD (i3 + 1).toNatClampNeg 0)] [] M L (fun r M_4 L_5 => ∃ v_6 : Int32, r = some (.int v_6) ∧ RX xs shL md_Mod_name 0 [.ref 516, .int ((roT xs 0).getD (i3 + 1).toNatClampNeg 0)] [] M_4 L_5 (fun r M_7 L_8 => ∃ v_9 : Int32, r = some (.int v_9) ∧ ((v_6 = v_9 → RX xs shL md_Law_law 1598 [.retAddr 0, .ref 0, .ref 516, .int i3] [] M_7 L_8 Q) ∧ (¬ (v_6 = v_9) → Q (some (.int 0)) M_7 L_8)))))) : RX xs shL md_Law_law 204 [.retAddr 0, .ref 0, .ref 516, .int i3] [] M L Q := by
  refine r_aload_n d_Law_law_204 rfl ?_
  refine r_aload_nR d_Law_law_205 rfl ?_
  refine r_iload_n d_Law_law_206 rfl ?_
  refine r_iconst (v := 1) d_Law_law_207 (by decide) ?_
  refine r_iadd d_Law_law_208 ?_
  obtain ⟨o_3, h9⟩ := h
  refine r_rald (k := 0) d_Law_law_209 (by decide) o_3 ?_
  refine x_callV (as := [.int ((roT xs 0).getD (i3 + 1).toNatClampNeg 0)]) (st := []) d_Law_law_210 ml_Law_13 mc_Peg_name mv_Peg_name ⟨by decide, by decide⟩ gO_0 ⟨_, rfl, rfl⟩ rfl (Nat.le_of_ble_eq_true rfl) (Nat.le_of_ble_eq_true rfl) h9 ?_
  rintro _ M_4 L_5 ⟨v_6, rfl, h9⟩
  refine r_aload_n d_Law_law_213 rfl ?_
  refine r_aload_nR d_Law_law_214 rfl ?_
  refine r_iload_n d_Law_law_215 rfl ?_
  refine r_iconst (v := 1) d_Law_law_216 (by decide) ?_
  refine r_iadd d_Law_law_217 ?_
  refine r_rald (k := 0) d_Law_law_218 (by decide) o_3 ?_
  refine x_callV (as := [.int ((roT xs 0).getD (i3 + 1).toNatClampNeg 0)]) (st := [.int v_6]) d_Law_law_219 ml_Law_17 mc_Mod_name mv_Mod_name ⟨by decide, by decide⟩ gO_516 ⟨_, rfl, rfl⟩ rfl (Nat.le_of_ble_eq_true rfl) (Nat.le_of_ble_eq_true rfl) h9 ?_
  rintro _ M_7 L_8 ⟨v_9, rfl, h9⟩
  refine r_ic_eq d_Law_law_222 (fun c_10 => ?_) (fun c_10 => ?_)
  · have h9 := h9.1 c_10
    exact h9
  · have h9 := h9.2 c_10
    refine r_iconst (v := 0) d_Law_law_225 (by decide) ?_
    exact r_iret ⟨d_Law_law_226, _, rfl, rfl⟩ ⟨_, _, rfl, h9⟩
theorem L_Law_law_227 {xs : List Int32} {i3 : Int32} {M : Mem} {L : Int64} {Q : Option Value → Mem → Int64 → Prop} 
    (h : (vp_in (i3 + 1) (roT xs 0).length ∧ RX xs shL md_Peg_read 0 [.ref 0, .int ((roT xs 0).getD (i3 + 1).toNatClampNeg 0)] [] M L (fun r M_12 L_13 => ∃ v_14 : Int32, r = some (.int v_14) ∧ RX xs shL md_Mod_read 0 [.ref 516, .int ((roT xs 0).getD (i3 + 1).toNatClampNeg 0)] [] M_12 L_13 (fun r M_15 L_16 => ∃ v_17 : Int32, r = some (.int v_17) ∧ ((v_14 = v_17 → RX xs shL md_Law_law 1598 [.retAddr 0, .ref 0, .ref 516, .int i3] [] M_15 L_16 Q) ∧ (¬ (v_14 = v_17) → Q (some (.int 0)) M_15 L_16)))))) : RX xs shL md_Law_law 227 [.retAddr 0, .ref 0, .ref 516, .int i3] [] M L Q := by
  refine r_aload_n d_Law_law_227 rfl ?_
  refine r_aload_nR d_Law_law_228 rfl ?_
  refine r_iload_n d_Law_law_229 rfl ?_
  refine r_iconst (v := 1) d_Law_law_230 (by decide) ?_
  refine r_iadd d_Law_law_231 ?_
  obtain ⟨o_11, h9⟩ := h
  refine r_rald (k := 0) d_Law_law_232 (by decide) o_11 ?_
  refine x_callV (as := [.int ((roT xs 0).getD (i3 + 1).toNatClampNeg 0)]) (st := []) d_Law_law_233 ml_Law_18 mc_Peg_read mv_Peg_read ⟨by decide, by decide⟩ gO_0 ⟨_, rfl, rfl⟩ rfl (Nat.le_of_ble_eq_true rfl) (Nat.le_of_ble_eq_true rfl) h9 ?_
  rintro _ M_12 L_13 ⟨v_14, rfl, h9⟩
  refine r_aload_n d_Law_law_236 rfl ?_
  refine r_aload_nR d_Law_law_237 rfl ?_
  refine r_iload_n d_Law_law_238 rfl ?_
  refine r_iconst (v := 1) d_Law_law_239 (by decide) ?_
  refine r_iadd d_Law_law_240 ?_
  refine r_rald (k := 0) d_Law_law_241 (by decide) o_11 ?_
  refine x_callV (as := [.int ((roT xs 0).getD (i3 + 1).toNatClampNeg 0)]) (st := [.int v_14]) d_Law_law_242 ml_Law_21 mc_Mod_read mv_Mod_read ⟨by decide, by decide⟩ gO_516 ⟨_, rfl, rfl⟩ rfl (Nat.le_of_ble_eq_true rfl) (Nat.le_of_ble_eq_true rfl) h9 ?_
  rintro _ M_15 L_16 ⟨v_17, rfl, h9⟩
  refine r_ic_eq d_Law_law_245 (fun c_18 => ?_) (fun c_18 => ?_)
  · have h9 := h9.1 c_18
    exact h9
  · have h9 := h9.2 c_18
    refine r_iconst (v := 0) d_Law_law_248 (by decide) ?_
    exact r_iret ⟨d_Law_law_249, _, rfl, rfl⟩ ⟨_, _, rfl, h9⟩
theorem L_Law_law_250 {xs : List Int32} {i3 : Int32} {M : Mem} {L : Int64} {Q : Option Value → Mem → Int64 → Prop} 
    (h : (vp_in (i3 + 1) (roT xs 0).length ∧ (vp_in (i3 + 2) (roT xs 0).length ∧ RX xs shL md_Peg_turns 0 [.ref 0, .int ((roT xs 0).getD (i3 + 1).toNatClampNeg 0), .int ((roT xs 0).getD (i3 + 2).toNatClampNeg 0)] [] M L (fun r M_21 L_22 => ∃ v_23 : Int32, r = some (.int v_23) ∧ RX xs shL md_Mod_turns 0 [.ref 516, .int ((roT xs 0).getD (i3 + 1).toNatClampNeg 0), .int ((roT xs 0).getD (i3 + 2).toNatClampNeg 0)] [] M_21 L_22 (fun r M_24 L_25 => ∃ v_26 : Int32, r = some (.int v_26) ∧ ((v_23 = v_26 → RX xs shL md_Law_law 1598 [.retAddr 0, .ref 0, .ref 516, .int i3] [] M_24 L_25 Q) ∧ (¬ (v_23 = v_26) → Q (some (.int 0)) M_24 L_25))))))) : RX xs shL md_Law_law 250 [.retAddr 0, .ref 0, .ref 516, .int i3] [] M L Q := by
  refine r_aload_n d_Law_law_250 rfl ?_
  refine r_aload_nR d_Law_law_251 rfl ?_
  refine r_iload_n d_Law_law_252 rfl ?_
  refine r_iconst (v := 1) d_Law_law_253 (by decide) ?_
  refine r_iadd d_Law_law_254 ?_
  obtain ⟨o_19, h9⟩ := h
  refine r_rald (k := 0) d_Law_law_255 (by decide) o_19 ?_
  refine r_aload_nR d_Law_law_256 rfl ?_
  refine r_iload_n d_Law_law_257 rfl ?_
  refine r_iconst (v := 2) d_Law_law_258 (by decide) ?_
  refine r_iadd d_Law_law_259 ?_
  obtain ⟨o_20, h9⟩ := h9
  refine r_rald (k := 0) d_Law_law_260 (by decide) o_20 ?_
  refine x_callV (as := [.int ((roT xs 0).getD (i3 + 1).toNatClampNeg 0), .int ((roT xs 0).getD (i3 + 2).toNatClampNeg 0)]) (st := []) d_Law_law_261 ml_Law_22 mc_Peg_turns mv_Peg_turns ⟨by decide, by decide⟩ gO_0 ⟨_, rfl, rfl⟩ rfl (Nat.le_of_ble_eq_true rfl) (Nat.le_of_ble_eq_true rfl) h9 ?_
  rintro _ M_21 L_22 ⟨v_23, rfl, h9⟩
  refine r_aload_n d_Law_law_264 rfl ?_
  refine r_aload_nR d_Law_law_265 rfl ?_
  refine r_iload_n d_Law_law_266 rfl ?_
  refine r_iconst (v := 1) d_Law_law_267 (by decide) ?_
  refine r_iadd d_Law_law_268 ?_
  refine r_rald (k := 0) d_Law_law_269 (by decide) o_19 ?_
  refine r_aload_nR d_Law_law_270 rfl ?_
  refine r_iload_n d_Law_law_271 rfl ?_
  refine r_iconst (v := 2) d_Law_law_272 (by decide) ?_
  refine r_iadd d_Law_law_273 ?_
  refine r_rald (k := 0) d_Law_law_274 (by decide) o_20 ?_
  refine x_callV (as := [.int ((roT xs 0).getD (i3 + 1).toNatClampNeg 0), .int ((roT xs 0).getD (i3 + 2).toNatClampNeg 0)]) (st := [.int v_23]) d_Law_law_275 ml_Law_26 mc_Mod_turns mv_Mod_turns ⟨by decide, by decide⟩ gO_516 ⟨_, rfl, rfl⟩ rfl (Nat.le_of_ble_eq_true rfl) (Nat.le_of_ble_eq_true rfl) h9 ?_
  rintro _ M_24 L_25 ⟨v_26, rfl, h9⟩
  refine r_ic_eq d_Law_law_278 (fun c_27 => ?_) (fun c_27 => ?_)
  · have h9 := h9.1 c_27
    exact h9
  · have h9 := h9.2 c_27
    refine r_iconst (v := 0) d_Law_law_281 (by decide) ?_
    exact r_iret ⟨d_Law_law_282, _, rfl, rfl⟩ ⟨_, _, rfl, h9⟩
theorem L_Law_law_283 {xs : List Int32} {i3 : Int32} {M : Mem} {L : Int64} {Q : Option Value → Mem → Int64 → Prop} 
    (h : (vp_in (i3 + 1) (roT xs 0).length ∧ (vp_in (i3 + 2) (roT xs 0).length ∧ RX xs shL md_Peg_go 0 [.ref 0, .int ((roT xs 0).getD (i3 + 1).toNatClampNeg 0), .int ((roT xs 0).getD (i3 + 2).toNatClampNeg 0)] [] M L (fun r M_30 L_31 => ∃ v_32 : Int32, r = some (.int v_32) ∧ RX xs shL md_Mod_go 0 [.ref 516, .int ((roT xs 0).getD (i3 + 1).toNatClampNeg 0), .int ((roT xs 0).getD (i3 + 2).toNatClampNeg 0)] [] M_30 L_31 (fun r M_33 L_34 => ∃ v_35 : Int32, r = some (.int v_35) ∧ ((v_32 = v_35 → RX xs shL md_Law_law 1598 [.retAddr 0, .ref 0, .ref 516, .int i3] [] M_33 L_34 Q) ∧ (¬ (v_32 = v_35) → Q (some (.int 0)) M_33 L_34))))))) : RX xs shL md_Law_law 283 [.retAddr 0, .ref 0, .ref 516, .int i3] [] M L Q := by
  refine r_aload_n d_Law_law_283 rfl ?_
  refine r_aload_nR d_Law_law_284 rfl ?_
  refine r_iload_n d_Law_law_285 rfl ?_
  refine r_iconst (v := 1) d_Law_law_286 (by decide) ?_
  refine r_iadd d_Law_law_287 ?_
  obtain ⟨o_28, h9⟩ := h
  refine r_rald (k := 0) d_Law_law_288 (by decide) o_28 ?_
  refine r_aload_nR d_Law_law_289 rfl ?_
  refine r_iload_n d_Law_law_290 rfl ?_
  refine r_iconst (v := 2) d_Law_law_291 (by decide) ?_
  refine r_iadd d_Law_law_292 ?_
  obtain ⟨o_29, h9⟩ := h9
  refine r_rald (k := 0) d_Law_law_293 (by decide) o_29 ?_
  refine x_callV (as := [.int ((roT xs 0).getD (i3 + 1).toNatClampNeg 0), .int ((roT xs 0).getD (i3 + 2).toNatClampNeg 0)]) (st := []) d_Law_law_294 ml_Law_27 mc_Peg_go mv_Peg_go ⟨by decide, by decide⟩ gO_0 ⟨_, rfl, rfl⟩ rfl (Nat.le_of_ble_eq_true rfl) (Nat.le_of_ble_eq_true rfl) h9 ?_
  rintro _ M_30 L_31 ⟨v_32, rfl, h9⟩
  refine r_aload_n d_Law_law_297 rfl ?_
  refine r_aload_nR d_Law_law_298 rfl ?_
  refine r_iload_n d_Law_law_299 rfl ?_
  refine r_iconst (v := 1) d_Law_law_300 (by decide) ?_
  refine r_iadd d_Law_law_301 ?_
  refine r_rald (k := 0) d_Law_law_302 (by decide) o_28 ?_
  refine r_aload_nR d_Law_law_303 rfl ?_
  refine r_iload_n d_Law_law_304 rfl ?_
  refine r_iconst (v := 2) d_Law_law_305 (by decide) ?_
  refine r_iadd d_Law_law_306 ?_
  refine r_rald (k := 0) d_Law_law_307 (by decide) o_29 ?_
  refine x_callV (as := [.int ((roT xs 0).getD (i3 + 1).toNatClampNeg 0), .int ((roT xs 0).getD (i3 + 2).toNatClampNeg 0)]) (st := [.int v_32]) d_Law_law_308 ml_Law_30 mc_Mod_go mv_Mod_go ⟨by decide, by decide⟩ gO_516 ⟨_, rfl, rfl⟩ rfl (Nat.le_of_ble_eq_true rfl) (Nat.le_of_ble_eq_true rfl) h9 ?_
  rintro _ M_33 L_34 ⟨v_35, rfl, h9⟩
  refine r_ic_eq d_Law_law_311 (fun c_36 => ?_) (fun c_36 => ?_)
  · have h9 := h9.1 c_36
    exact h9
  · have h9 := h9.2 c_36
    refine r_iconst (v := 0) d_Law_law_314 (by decide) ?_
    exact r_iret ⟨d_Law_law_315, _, rfl, rfl⟩ ⟨_, _, rfl, h9⟩
theorem L_Law_law_316 {xs : List Int32} {i3 : Int32} {M : Mem} {L : Int64} {Q : Option Value → Mem → Int64 → Prop} 
    (h : (vp_in (i3 + 1) (roT xs 0).length ∧ RX xs shL md_Peg_word 0 [.ref 0, .int ((roT xs 0).getD (i3 + 1).toNatClampNeg 0)] [] M L (fun r M_38 L_39 => ∃ v_40 : Int32, r = some (.int v_40) ∧ RX xs shL md_Mod_word 0 [.ref 516, .int ((roT xs 0).getD (i3 + 1).toNatClampNeg 0)] [] M_38 L_39 (fun r M_41 L_42 => ∃ v_43 : Int32, r = some (.int v_43) ∧ ((v_40 = v_43 → RX xs shL md_Law_law 1598 [.retAddr 0, .ref 0, .ref 516, .int i3] [] M_41 L_42 Q) ∧ (¬ (v_40 = v_43) → Q (some (.int 0)) M_41 L_42)))))) : RX xs shL md_Law_law 316 [.retAddr 0, .ref 0, .ref 516, .int i3] [] M L Q := by
  refine r_aload_n d_Law_law_316 rfl ?_
  refine r_aload_nR d_Law_law_317 rfl ?_
  refine r_iload_n d_Law_law_318 rfl ?_
  refine r_iconst (v := 1) d_Law_law_319 (by decide) ?_
  refine r_iadd d_Law_law_320 ?_
  obtain ⟨o_37, h9⟩ := h
  refine r_rald (k := 0) d_Law_law_321 (by decide) o_37 ?_
  refine x_callV (as := [.int ((roT xs 0).getD (i3 + 1).toNatClampNeg 0)]) (st := []) d_Law_law_322 ml_Law_31 mc_Peg_word mv_Peg_word ⟨by decide, by decide⟩ gO_0 ⟨_, rfl, rfl⟩ rfl (Nat.le_of_ble_eq_true rfl) (Nat.le_of_ble_eq_true rfl) h9 ?_
  rintro _ M_38 L_39 ⟨v_40, rfl, h9⟩
  refine r_aload_n d_Law_law_325 rfl ?_
  refine r_aload_nR d_Law_law_326 rfl ?_
  refine r_iload_n d_Law_law_327 rfl ?_
  refine r_iconst (v := 1) d_Law_law_328 (by decide) ?_
  refine r_iadd d_Law_law_329 ?_
  refine r_rald (k := 0) d_Law_law_330 (by decide) o_37 ?_
  refine x_callV (as := [.int ((roT xs 0).getD (i3 + 1).toNatClampNeg 0)]) (st := [.int v_40]) d_Law_law_331 ml_Law_34 mc_Mod_word mv_Mod_word ⟨by decide, by decide⟩ gO_516 ⟨_, rfl, rfl⟩ rfl (Nat.le_of_ble_eq_true rfl) (Nat.le_of_ble_eq_true rfl) h9 ?_
  rintro _ M_41 L_42 ⟨v_43, rfl, h9⟩
  refine r_ic_eq d_Law_law_334 (fun c_44 => ?_) (fun c_44 => ?_)
  · have h9 := h9.1 c_44
    exact h9
  · have h9 := h9.2 c_44
    refine r_iconst (v := 0) d_Law_law_337 (by decide) ?_
    exact r_iret ⟨d_Law_law_338, _, rfl, rfl⟩ ⟨_, _, rfl, h9⟩
theorem L_Law_law_339 {xs : List Int32} {i3 : Int32} {M : Mem} {L : Int64} {Q : Option Value → Mem → Int64 → Prop} 
    (h : RX xs shL md_Peg_hush 0 [.ref 0] [] M L (fun r M_45 L_46 => ∃ v_47 : Int32, r = some (.int v_47) ∧ RX xs shL md_Mod_hush 0 [.ref 516] [] M_45 L_46 (fun r M_48 L_49 => ∃ v_50 : Int32, r = some (.int v_50) ∧ ((v_47 = v_50 → RX xs shL md_Law_law 1598 [.retAddr 0, .ref 0, .ref 516, .int i3] [] M_48 L_49 Q) ∧ (¬ (v_47 = v_50) → Q (some (.int 0)) M_48 L_49))))) : RX xs shL md_Law_law 339 [.retAddr 0, .ref 0, .ref 516, .int i3] [] M L Q := by
  refine r_aload_n d_Law_law_339 rfl ?_
  refine x_callV (as := []) (st := []) d_Law_law_340 ml_Law_35 mc_Peg_hush mv_Peg_hush ⟨by decide, by decide⟩ gO_0 ⟨_, rfl, rfl⟩ rfl (Nat.le_of_ble_eq_true rfl) (Nat.le_of_ble_eq_true rfl) h ?_
  rintro _ M_45 L_46 ⟨v_47, rfl, h9⟩
  refine r_aload_n d_Law_law_343 rfl ?_
  refine x_callV (as := []) (st := [.int v_47]) d_Law_law_344 ml_Law_39 mc_Mod_hush mv_Mod_hush ⟨by decide, by decide⟩ gO_516 ⟨_, rfl, rfl⟩ rfl (Nat.le_of_ble_eq_true rfl) (Nat.le_of_ble_eq_true rfl) h9 ?_
  rintro _ M_48 L_49 ⟨v_50, rfl, h9⟩
  refine r_ic_eq d_Law_law_347 (fun c_51 => ?_) (fun c_51 => ?_)
  · have h9 := h9.1 c_51
    exact h9
  · have h9 := h9.2 c_51
    refine r_iconst (v := 0) d_Law_law_350 (by decide) ?_
    exact r_iret ⟨d_Law_law_351, _, rfl, rfl⟩ ⟨_, _, rfl, h9⟩
theorem L_Law_law_352 {xs : List Int32} {i3 : Int32} {M : Mem} {L : Int64} {Q : Option Value → Mem → Int64 → Prop} 
    (h : RX xs shL md_Peg_fault 0 [.ref 0] [] M L (fun r M_52 L_53 => ∃ v_54 : Int32, r = some (.int v_54) ∧ RX xs shL md_Mod_fault 0 [.ref 516] [] M_52 L_53 (fun r M_55 L_56 => ∃ v_57 : Int32, r = some (.int v_57) ∧ ((v_54 = v_57 → RX xs shL md_Law_law 1598 [.retAddr 0, .ref 0, .ref 516, .int i3] [] M_55 L_56 Q) ∧ (¬ (v_54 = v_57) → Q (some (.int 0)) M_55 L_56))))) : RX xs shL md_Law_law 352 [.retAddr 0, .ref 0, .ref 516, .int i3] [] M L Q := by
  refine r_aload_n d_Law_law_352 rfl ?_
  refine x_callV (as := []) (st := []) d_Law_law_353 ml_Law_40 mc_Peg_fault mv_Peg_fault ⟨by decide, by decide⟩ gO_0 ⟨_, rfl, rfl⟩ rfl (Nat.le_of_ble_eq_true rfl) (Nat.le_of_ble_eq_true rfl) h ?_
  rintro _ M_52 L_53 ⟨v_54, rfl, h9⟩
  refine r_aload_n d_Law_law_356 rfl ?_
  refine x_callV (as := []) (st := [.int v_54]) d_Law_law_357 ml_Law_43 mc_Mod_fault mv_Mod_fault ⟨by decide, by decide⟩ gO_516 ⟨_, rfl, rfl⟩ rfl (Nat.le_of_ble_eq_true rfl) (Nat.le_of_ble_eq_true rfl) h9 ?_
  rintro _ M_55 L_56 ⟨v_57, rfl, h9⟩
  refine r_ic_eq d_Law_law_360 (fun c_58 => ?_) (fun c_58 => ?_)
  · have h9 := h9.1 c_58
    exact h9
  · have h9 := h9.2 c_58
    refine r_iconst (v := 0) d_Law_law_363 (by decide) ?_
    exact r_iret ⟨d_Law_law_364, _, rfl, rfl⟩ ⟨_, _, rfl, h9⟩
theorem L_Law_law_365 {xs : List Int32} {i3 : Int32} {M : Mem} {L : Int64} {Q : Option Value → Mem → Int64 → Prop} 
    (h : RX xs shL md_Peg_told 0 [.ref 0] [] M L (fun r M_59 L_60 => ∃ v_61 : Int32, r = some (.int v_61) ∧ RX xs shL md_Mod_told 0 [.ref 516] [] M_59 L_60 (fun r M_62 L_63 => ∃ v_64 : Int32, r = some (.int v_64) ∧ ((v_61 = v_64 → RX xs shL md_Law_law 1598 [.retAddr 0, .ref 0, .ref 516, .int i3] [] M_62 L_63 Q) ∧ (¬ (v_61 = v_64) → Q (some (.int 0)) M_62 L_63))))) : RX xs shL md_Law_law 365 [.retAddr 0, .ref 0, .ref 516, .int i3] [] M L Q := by
  refine r_aload_n d_Law_law_365 rfl ?_
  refine x_callV (as := []) (st := []) d_Law_law_366 ml_Law_44 mc_Peg_told mv_Peg_told ⟨by decide, by decide⟩ gO_0 ⟨_, rfl, rfl⟩ rfl (Nat.le_of_ble_eq_true rfl) (Nat.le_of_ble_eq_true rfl) h ?_
  rintro _ M_59 L_60 ⟨v_61, rfl, h9⟩
  refine r_aload_n d_Law_law_369 rfl ?_
  refine x_callV (as := []) (st := [.int v_61]) d_Law_law_370 ml_Law_47 mc_Mod_told mv_Mod_told ⟨by decide, by decide⟩ gO_516 ⟨_, rfl, rfl⟩ rfl (Nat.le_of_ble_eq_true rfl) (Nat.le_of_ble_eq_true rfl) h9 ?_
  rintro _ M_62 L_63 ⟨v_64, rfl, h9⟩
  refine r_ic_eq d_Law_law_373 (fun c_65 => ?_) (fun c_65 => ?_)
  · have h9 := h9.1 c_65
    exact h9
  · have h9 := h9.2 c_65
    refine r_iconst (v := 0) d_Law_law_376 (by decide) ?_
    exact r_iret ⟨d_Law_law_377, _, rfl, rfl⟩ ⟨_, _, rfl, h9⟩
theorem L_Law_law_378 {xs : List Int32} {i3 : Int32} {M : Mem} {L : Int64} {Q : Option Value → Mem → Int64 → Prop} 
    (h : RX xs shL md_Peg_watch 0 [.ref 0] [] M L (fun r M_66 L_67 => ∃ v_68 : Int32, r = some (.int v_68) ∧ RX xs shL md_Mod_watch 0 [.ref 516] [] M_66 L_67 (fun r M_69 L_70 => ∃ v_71 : Int32, r = some (.int v_71) ∧ ((v_68 = v_71 → RX xs shL md_Law_law 1598 [.retAddr 0, .ref 0, .ref 516, .int i3] [] M_69 L_70 Q) ∧ (¬ (v_68 = v_71) → Q (some (.int 0)) M_69 L_70))))) : RX xs shL md_Law_law 378 [.retAddr 0, .ref 0, .ref 516, .int i3] [] M L Q := by
  refine r_aload_n d_Law_law_378 rfl ?_
  refine x_callV (as := []) (st := []) d_Law_law_379 ml_Law_48 mc_Peg_watch mv_Peg_watch ⟨by decide, by decide⟩ gO_0 ⟨_, rfl, rfl⟩ rfl (Nat.le_of_ble_eq_true rfl) (Nat.le_of_ble_eq_true rfl) h ?_
  rintro _ M_66 L_67 ⟨v_68, rfl, h9⟩
  refine r_aload_n d_Law_law_382 rfl ?_
  refine x_callV (as := []) (st := [.int v_68]) d_Law_law_383 ml_Law_51 mc_Mod_watch mv_Mod_watch ⟨by decide, by decide⟩ gO_516 ⟨_, rfl, rfl⟩ rfl (Nat.le_of_ble_eq_true rfl) (Nat.le_of_ble_eq_true rfl) h9 ?_
  rintro _ M_69 L_70 ⟨v_71, rfl, h9⟩
  refine r_ic_eq d_Law_law_386 (fun c_72 => ?_) (fun c_72 => ?_)
  · have h9 := h9.1 c_72
    exact h9
  · have h9 := h9.2 c_72
    refine r_iconst (v := 0) d_Law_law_389 (by decide) ?_
    exact r_iret ⟨d_Law_law_390, _, rfl, rfl⟩ ⟨_, _, rfl, h9⟩
theorem L_Law_law_391 {xs : List Int32} {i3 : Int32} {M : Mem} {L : Int64} {Q : Option Value → Mem → Int64 → Prop} 
    (h : (vp_in (i3 + 1) (roT xs 0).length ∧ (vp_in (i3 + 2) (roT xs 0).length ∧ (vp_in (i3 + 3) (roT xs 0).length ∧ RX xs shL md_Peg_peg 0 [.ref 0, .int ((roT xs 0).getD (i3 + 1).toNatClampNeg 0), .int ((roT xs 0).getD (i3 + 2).toNatClampNeg 0), .int ((roT xs 0).getD (i3 + 3).toNatClampNeg 0)] [] M L (fun r M_76 L_77 => ∃ v_78 : Int32, r = some (.int v_78) ∧ RX xs shL md_Mod_peg 0 [.ref 516, .int ((roT xs 0).getD (i3 + 1).toNatClampNeg 0), .int ((roT xs 0).getD (i3 + 2).toNatClampNeg 0), .int ((roT xs 0).getD (i3 + 3).toNatClampNeg 0)] [] M_76 L_77 (fun r M_79 L_80 => ∃ v_81 : Int32, r = some (.int v_81) ∧ ((v_78 = v_81 → RX xs shL md_Law_law 1598 [.retAddr 0, .ref 0, .ref 516, .int i3] [] M_79 L_80 Q) ∧ (¬ (v_78 = v_81) → Q (some (.int 0)) M_79 L_80)))))))) : RX xs shL md_Law_law 391 [.retAddr 0, .ref 0, .ref 516, .int i3] [] M L Q := by
  refine r_aload_n d_Law_law_391 rfl ?_
  refine r_aload_nR d_Law_law_392 rfl ?_
  refine r_iload_n d_Law_law_393 rfl ?_
  refine r_iconst (v := 1) d_Law_law_394 (by decide) ?_
  refine r_iadd d_Law_law_395 ?_
  obtain ⟨o_73, h9⟩ := h
  refine r_rald (k := 0) d_Law_law_396 (by decide) o_73 ?_
  refine r_aload_nR d_Law_law_397 rfl ?_
  refine r_iload_n d_Law_law_398 rfl ?_
  refine r_iconst (v := 2) d_Law_law_399 (by decide) ?_
  refine r_iadd d_Law_law_400 ?_
  obtain ⟨o_74, h9⟩ := h9
  refine r_rald (k := 0) d_Law_law_401 (by decide) o_74 ?_
  refine r_aload_nR d_Law_law_402 rfl ?_
  refine r_iload_n d_Law_law_403 rfl ?_
  refine r_iconst (v := 3) d_Law_law_404 (by decide) ?_
  refine r_iadd d_Law_law_405 ?_
  obtain ⟨o_75, h9⟩ := h9
  refine r_rald (k := 0) d_Law_law_406 (by decide) o_75 ?_
  refine x_callV (as := [.int ((roT xs 0).getD (i3 + 1).toNatClampNeg 0), .int ((roT xs 0).getD (i3 + 2).toNatClampNeg 0), .int ((roT xs 0).getD (i3 + 3).toNatClampNeg 0)]) (st := []) d_Law_law_407 ml_Law_52 mc_Peg_peg mv_Peg_peg ⟨by decide, by decide⟩ gO_0 ⟨_, rfl, rfl⟩ rfl (Nat.le_of_ble_eq_true rfl) (Nat.le_of_ble_eq_true rfl) h9 ?_
  rintro _ M_76 L_77 ⟨v_78, rfl, h9⟩
  refine r_aload_n d_Law_law_410 rfl ?_
  refine r_aload_nR d_Law_law_411 rfl ?_
  refine r_iload_n d_Law_law_412 rfl ?_
  refine r_iconst (v := 1) d_Law_law_413 (by decide) ?_
  refine r_iadd d_Law_law_414 ?_
  refine r_rald (k := 0) d_Law_law_415 (by decide) o_73 ?_
  refine r_aload_nR d_Law_law_416 rfl ?_
  refine r_iload_n d_Law_law_417 rfl ?_
  refine r_iconst (v := 2) d_Law_law_418 (by decide) ?_
  refine r_iadd d_Law_law_419 ?_
  refine r_rald (k := 0) d_Law_law_420 (by decide) o_74 ?_
  refine r_aload_nR d_Law_law_421 rfl ?_
  refine r_iload_n d_Law_law_422 rfl ?_
  refine r_iconst (v := 3) d_Law_law_423 (by decide) ?_
  refine r_iadd d_Law_law_424 ?_
  refine r_rald (k := 0) d_Law_law_425 (by decide) o_75 ?_
  refine x_callV (as := [.int ((roT xs 0).getD (i3 + 1).toNatClampNeg 0), .int ((roT xs 0).getD (i3 + 2).toNatClampNeg 0), .int ((roT xs 0).getD (i3 + 3).toNatClampNeg 0)]) (st := [.int v_78]) d_Law_law_426 ml_Law_56 mc_Mod_peg mv_Mod_peg ⟨by decide, by decide⟩ gO_516 ⟨_, rfl, rfl⟩ rfl (Nat.le_of_ble_eq_true rfl) (Nat.le_of_ble_eq_true rfl) h9 ?_
  rintro _ M_79 L_80 ⟨v_81, rfl, h9⟩
  refine r_ic_eq d_Law_law_429 (fun c_82 => ?_) (fun c_82 => ?_)
  · have h9 := h9.1 c_82
    exact h9
  · have h9 := h9.2 c_82
    refine r_iconst (v := 0) d_Law_law_432 (by decide) ?_
    exact r_iret ⟨d_Law_law_433, _, rfl, rfl⟩ ⟨_, _, rfl, h9⟩
theorem L_Law_law_434 {xs : List Int32} {i3 : Int32} {M : Mem} {L : Int64} {Q : Option Value → Mem → Int64 → Prop} 
    (h : (vp_in (i3 + 1) (roT xs 0).length ∧ (vp_in (i3 + 2) (roT xs 0).length ∧ (vp_in (i3 + 3) (roT xs 0).length ∧ RX xs shL md_Peg_knots 0 [.ref 0, .int ((roT xs 0).getD (i3 + 1).toNatClampNeg 0), .int ((roT xs 0).getD (i3 + 2).toNatClampNeg 0), .int ((roT xs 0).getD (i3 + 3).toNatClampNeg 0)] [] M L (fun r M_86 L_87 => ∃ v_88 : Int32, r = some (.int v_88) ∧ RX xs shL md_Mod_knots 0 [.ref 516, .int ((roT xs 0).getD (i3 + 1).toNatClampNeg 0), .int ((roT xs 0).getD (i3 + 2).toNatClampNeg 0), .int ((roT xs 0).getD (i3 + 3).toNatClampNeg 0)] [] M_86 L_87 (fun r M_89 L_90 => ∃ v_91 : Int32, r = some (.int v_91) ∧ ((v_88 = v_91 → RX xs shL md_Law_law 1598 [.retAddr 0, .ref 0, .ref 516, .int i3] [] M_89 L_90 Q) ∧ (¬ (v_88 = v_91) → Q (some (.int 0)) M_89 L_90)))))))) : RX xs shL md_Law_law 434 [.retAddr 0, .ref 0, .ref 516, .int i3] [] M L Q := by
  refine r_aload_n d_Law_law_434 rfl ?_
  refine r_aload_nR d_Law_law_435 rfl ?_
  refine r_iload_n d_Law_law_436 rfl ?_
  refine r_iconst (v := 1) d_Law_law_437 (by decide) ?_
  refine r_iadd d_Law_law_438 ?_
  obtain ⟨o_83, h9⟩ := h
  refine r_rald (k := 0) d_Law_law_439 (by decide) o_83 ?_
  refine r_aload_nR d_Law_law_440 rfl ?_
  refine r_iload_n d_Law_law_441 rfl ?_
  refine r_iconst (v := 2) d_Law_law_442 (by decide) ?_
  refine r_iadd d_Law_law_443 ?_
  obtain ⟨o_84, h9⟩ := h9
  refine r_rald (k := 0) d_Law_law_444 (by decide) o_84 ?_
  refine r_aload_nR d_Law_law_445 rfl ?_
  refine r_iload_n d_Law_law_446 rfl ?_
  refine r_iconst (v := 3) d_Law_law_447 (by decide) ?_
  refine r_iadd d_Law_law_448 ?_
  obtain ⟨o_85, h9⟩ := h9
  refine r_rald (k := 0) d_Law_law_449 (by decide) o_85 ?_
  refine x_callV (as := [.int ((roT xs 0).getD (i3 + 1).toNatClampNeg 0), .int ((roT xs 0).getD (i3 + 2).toNatClampNeg 0), .int ((roT xs 0).getD (i3 + 3).toNatClampNeg 0)]) (st := []) d_Law_law_450 ml_Law_57 mc_Peg_knots mv_Peg_knots ⟨by decide, by decide⟩ gO_0 ⟨_, rfl, rfl⟩ rfl (Nat.le_of_ble_eq_true rfl) (Nat.le_of_ble_eq_true rfl) h9 ?_
  rintro _ M_86 L_87 ⟨v_88, rfl, h9⟩
  refine r_aload_n d_Law_law_453 rfl ?_
  refine r_aload_nR d_Law_law_454 rfl ?_
  refine r_iload_n d_Law_law_455 rfl ?_
  refine r_iconst (v := 1) d_Law_law_456 (by decide) ?_
  refine r_iadd d_Law_law_457 ?_
  refine r_rald (k := 0) d_Law_law_458 (by decide) o_83 ?_
  refine r_aload_nR d_Law_law_459 rfl ?_
  refine r_iload_n d_Law_law_460 rfl ?_
  refine r_iconst (v := 2) d_Law_law_461 (by decide) ?_
  refine r_iadd d_Law_law_462 ?_
  refine r_rald (k := 0) d_Law_law_463 (by decide) o_84 ?_
  refine r_aload_nR d_Law_law_464 rfl ?_
  refine r_iload_n d_Law_law_465 rfl ?_
  refine r_iconst (v := 3) d_Law_law_466 (by decide) ?_
  refine r_iadd d_Law_law_467 ?_
  refine r_rald (k := 0) d_Law_law_468 (by decide) o_85 ?_
  refine x_callV (as := [.int ((roT xs 0).getD (i3 + 1).toNatClampNeg 0), .int ((roT xs 0).getD (i3 + 2).toNatClampNeg 0), .int ((roT xs 0).getD (i3 + 3).toNatClampNeg 0)]) (st := [.int v_88]) d_Law_law_469 ml_Law_60 mc_Mod_knots mv_Mod_knots ⟨by decide, by decide⟩ gO_516 ⟨_, rfl, rfl⟩ rfl (Nat.le_of_ble_eq_true rfl) (Nat.le_of_ble_eq_true rfl) h9 ?_
  rintro _ M_89 L_90 ⟨v_91, rfl, h9⟩
  refine r_ic_eq d_Law_law_472 (fun c_92 => ?_) (fun c_92 => ?_)
  · have h9 := h9.1 c_92
    exact h9
  · have h9 := h9.2 c_92
    refine r_iconst (v := 0) d_Law_law_475 (by decide) ?_
    exact r_iret ⟨d_Law_law_476, _, rfl, rfl⟩ ⟨_, _, rfl, h9⟩
theorem L_Law_law_477 {xs : List Int32} {i3 : Int32} {M : Mem} {L : Int64} {Q : Option Value → Mem → Int64 → Prop} 
    (h : (vp_in (i3 + 1) (roT xs 0).length ∧ (vp_in (i3 + 2) (roT xs 0).length ∧ (vp_in (i3 + 3) (roT xs 0).length ∧ RX xs shL md_Peg_set 0 [.ref 0, .int ((roT xs 0).getD (i3 + 1).toNatClampNeg 0), .int ((roT xs 0).getD (i3 + 2).toNatClampNeg 0), .int ((roT xs 0).getD (i3 + 3).toNatClampNeg 0)] [] M L (fun r M_96 L_97 => ∃ v_98 : Int32, r = some (.int v_98) ∧ RX xs shL md_Mod_set 0 [.ref 516, .int ((roT xs 0).getD (i3 + 1).toNatClampNeg 0), .int ((roT xs 0).getD (i3 + 2).toNatClampNeg 0), .int ((roT xs 0).getD (i3 + 3).toNatClampNeg 0)] [] M_96 L_97 (fun r M_99 L_100 => ∃ v_101 : Int32, r = some (.int v_101) ∧ ((v_98 = v_101 → RX xs shL md_Law_law 1598 [.retAddr 0, .ref 0, .ref 516, .int i3] [] M_99 L_100 Q) ∧ (¬ (v_98 = v_101) → Q (some (.int 0)) M_99 L_100)))))))) : RX xs shL md_Law_law 477 [.retAddr 0, .ref 0, .ref 516, .int i3] [] M L Q := by
  refine r_aload_n d_Law_law_477 rfl ?_
  refine r_aload_nR d_Law_law_478 rfl ?_
  refine r_iload_n d_Law_law_479 rfl ?_
  refine r_iconst (v := 1) d_Law_law_480 (by decide) ?_
  refine r_iadd d_Law_law_481 ?_
  obtain ⟨o_93, h9⟩ := h
  refine r_rald (k := 0) d_Law_law_482 (by decide) o_93 ?_
  refine r_aload_nR d_Law_law_483 rfl ?_
  refine r_iload_n d_Law_law_484 rfl ?_
  refine r_iconst (v := 2) d_Law_law_485 (by decide) ?_
  refine r_iadd d_Law_law_486 ?_
  obtain ⟨o_94, h9⟩ := h9
  refine r_rald (k := 0) d_Law_law_487 (by decide) o_94 ?_
  refine r_aload_nR d_Law_law_488 rfl ?_
  refine r_iload_n d_Law_law_489 rfl ?_
  refine r_iconst (v := 3) d_Law_law_490 (by decide) ?_
  refine r_iadd d_Law_law_491 ?_
  obtain ⟨o_95, h9⟩ := h9
  refine r_rald (k := 0) d_Law_law_492 (by decide) o_95 ?_
  refine x_callV (as := [.int ((roT xs 0).getD (i3 + 1).toNatClampNeg 0), .int ((roT xs 0).getD (i3 + 2).toNatClampNeg 0), .int ((roT xs 0).getD (i3 + 3).toNatClampNeg 0)]) (st := []) d_Law_law_493 ml_Law_61 mc_Peg_set mv_Peg_set ⟨by decide, by decide⟩ gO_0 ⟨_, rfl, rfl⟩ rfl (Nat.le_of_ble_eq_true rfl) (Nat.le_of_ble_eq_true rfl) h9 ?_
  rintro _ M_96 L_97 ⟨v_98, rfl, h9⟩
  refine r_aload_n d_Law_law_496 rfl ?_
  refine r_aload_nR d_Law_law_497 rfl ?_
  refine r_iload_n d_Law_law_498 rfl ?_
  refine r_iconst (v := 1) d_Law_law_499 (by decide) ?_
  refine r_iadd d_Law_law_500 ?_
  refine r_rald (k := 0) d_Law_law_501 (by decide) o_93 ?_
  refine r_aload_nR d_Law_law_502 rfl ?_
  refine r_iload_n d_Law_law_503 rfl ?_
  refine r_iconst (v := 2) d_Law_law_504 (by decide) ?_
  refine r_iadd d_Law_law_505 ?_
  refine r_rald (k := 0) d_Law_law_506 (by decide) o_94 ?_
  refine r_aload_nR d_Law_law_507 rfl ?_
  refine r_iload_n d_Law_law_508 rfl ?_
  refine r_iconst (v := 3) d_Law_law_509 (by decide) ?_
  refine r_iadd d_Law_law_510 ?_
  refine r_rald (k := 0) d_Law_law_511 (by decide) o_95 ?_
  refine x_callV (as := [.int ((roT xs 0).getD (i3 + 1).toNatClampNeg 0), .int ((roT xs 0).getD (i3 + 2).toNatClampNeg 0), .int ((roT xs 0).getD (i3 + 3).toNatClampNeg 0)]) (st := [.int v_98]) d_Law_law_512 ml_Law_64 mc_Mod_set mv_Mod_set ⟨by decide, by decide⟩ gO_516 ⟨_, rfl, rfl⟩ rfl (Nat.le_of_ble_eq_true rfl) (Nat.le_of_ble_eq_true rfl) h9 ?_
  rintro _ M_99 L_100 ⟨v_101, rfl, h9⟩
  refine r_ic_eq d_Law_law_515 (fun c_102 => ?_) (fun c_102 => ?_)
  · have h9 := h9.1 c_102
    exact h9
  · have h9 := h9.2 c_102
    refine r_iconst (v := 0) d_Law_law_518 (by decide) ?_
    exact r_iret ⟨d_Law_law_519, _, rfl, rfl⟩ ⟨_, _, rfl, h9⟩
theorem L_Law_law_520 {xs : List Int32} {i3 : Int32} {M : Mem} {L : Int64} {Q : Option Value → Mem → Int64 → Prop} 
    (h : (vp_in (i3 + 1) (roT xs 0).length ∧ (vp_in (i3 + 2) (roT xs 0).length ∧ (vp_in (i3 + 3) (roT xs 0).length ∧ RX xs shL md_Peg_leeway 0 [.ref 0, .int ((roT xs 0).getD (i3 + 1).toNatClampNeg 0), .int ((roT xs 0).getD (i3 + 2).toNatClampNeg 0), .int ((roT xs 0).getD (i3 + 3).toNatClampNeg 0)] [] M L (fun r M_106 L_107 => ∃ v_108 : Int32, r = some (.int v_108) ∧ RX xs shL md_Mod_leeway 0 [.ref 516, .int ((roT xs 0).getD (i3 + 1).toNatClampNeg 0), .int ((roT xs 0).getD (i3 + 2).toNatClampNeg 0), .int ((roT xs 0).getD (i3 + 3).toNatClampNeg 0)] [] M_106 L_107 (fun r M_109 L_110 => ∃ v_111 : Int32, r = some (.int v_111) ∧ ((v_108 = v_111 → RX xs shL md_Law_law 1598 [.retAddr 0, .ref 0, .ref 516, .int i3] [] M_109 L_110 Q) ∧ (¬ (v_108 = v_111) → Q (some (.int 0)) M_109 L_110)))))))) : RX xs shL md_Law_law 520 [.retAddr 0, .ref 0, .ref 516, .int i3] [] M L Q := by
  refine r_aload_n d_Law_law_520 rfl ?_
  refine r_aload_nR d_Law_law_521 rfl ?_
  refine r_iload_n d_Law_law_522 rfl ?_
  refine r_iconst (v := 1) d_Law_law_523 (by decide) ?_
  refine r_iadd d_Law_law_524 ?_
  obtain ⟨o_103, h9⟩ := h
  refine r_rald (k := 0) d_Law_law_525 (by decide) o_103 ?_
  refine r_aload_nR d_Law_law_526 rfl ?_
  refine r_iload_n d_Law_law_527 rfl ?_
  refine r_iconst (v := 2) d_Law_law_528 (by decide) ?_
  refine r_iadd d_Law_law_529 ?_
  obtain ⟨o_104, h9⟩ := h9
  refine r_rald (k := 0) d_Law_law_530 (by decide) o_104 ?_
  refine r_aload_nR d_Law_law_531 rfl ?_
  refine r_iload_n d_Law_law_532 rfl ?_
  refine r_iconst (v := 3) d_Law_law_533 (by decide) ?_
  refine r_iadd d_Law_law_534 ?_
  obtain ⟨o_105, h9⟩ := h9
  refine r_rald (k := 0) d_Law_law_535 (by decide) o_105 ?_
  refine x_callV (as := [.int ((roT xs 0).getD (i3 + 1).toNatClampNeg 0), .int ((roT xs 0).getD (i3 + 2).toNatClampNeg 0), .int ((roT xs 0).getD (i3 + 3).toNatClampNeg 0)]) (st := []) d_Law_law_536 ml_Law_65 mc_Peg_leeway mv_Peg_leeway ⟨by decide, by decide⟩ gO_0 ⟨_, rfl, rfl⟩ rfl (Nat.le_of_ble_eq_true rfl) (Nat.le_of_ble_eq_true rfl) h9 ?_
  rintro _ M_106 L_107 ⟨v_108, rfl, h9⟩
  refine r_aload_n d_Law_law_539 rfl ?_
  refine r_aload_nR d_Law_law_540 rfl ?_
  refine r_iload_n d_Law_law_541 rfl ?_
  refine r_iconst (v := 1) d_Law_law_542 (by decide) ?_
  refine r_iadd d_Law_law_543 ?_
  refine r_rald (k := 0) d_Law_law_544 (by decide) o_103 ?_
  refine r_aload_nR d_Law_law_545 rfl ?_
  refine r_iload_n d_Law_law_546 rfl ?_
  refine r_iconst (v := 2) d_Law_law_547 (by decide) ?_
  refine r_iadd d_Law_law_548 ?_
  refine r_rald (k := 0) d_Law_law_549 (by decide) o_104 ?_
  refine r_aload_nR d_Law_law_550 rfl ?_
  refine r_iload_n d_Law_law_551 rfl ?_
  refine r_iconst (v := 3) d_Law_law_552 (by decide) ?_
  refine r_iadd d_Law_law_553 ?_
  refine r_rald (k := 0) d_Law_law_554 (by decide) o_105 ?_
  refine x_callV (as := [.int ((roT xs 0).getD (i3 + 1).toNatClampNeg 0), .int ((roT xs 0).getD (i3 + 2).toNatClampNeg 0), .int ((roT xs 0).getD (i3 + 3).toNatClampNeg 0)]) (st := [.int v_108]) d_Law_law_555 ml_Law_68 mc_Mod_leeway mv_Mod_leeway ⟨by decide, by decide⟩ gO_516 ⟨_, rfl, rfl⟩ rfl (Nat.le_of_ble_eq_true rfl) (Nat.le_of_ble_eq_true rfl) h9 ?_
  rintro _ M_109 L_110 ⟨v_111, rfl, h9⟩
  refine r_ic_eq d_Law_law_558 (fun c_112 => ?_) (fun c_112 => ?_)
  · have h9 := h9.1 c_112
    exact h9
  · have h9 := h9.2 c_112
    refine r_iconst (v := 0) d_Law_law_561 (by decide) ?_
    exact r_iret ⟨d_Law_law_562, _, rfl, rfl⟩ ⟨_, _, rfl, h9⟩
theorem L_Law_law_563 {xs : List Int32} {i3 : Int32} {M : Mem} {L : Int64} {Q : Option Value → Mem → Int64 → Prop} 
    (h : (vp_in (i3 + 1) (roT xs 0).length ∧ (vp_in (i3 + 2) (roT xs 0).length ∧ (vp_in (i3 + 3) (roT xs 0).length ∧ (vp_in (i3 + 4) (roT xs 0).length ∧ RX xs shL md_Peg_way 0 [.ref 0, .int ((roT xs 0).getD (i3 + 1).toNatClampNeg 0), .int ((roT xs 0).getD (i3 + 2).toNatClampNeg 0), .int ((roT xs 0).getD (i3 + 3).toNatClampNeg 0), .int ((roT xs 0).getD (i3 + 4).toNatClampNeg 0)] [] M L (fun r M_117 L_118 => ∃ v_119 : Int32, r = some (.int v_119) ∧ RX xs shL md_Mod_way 0 [.ref 516, .int ((roT xs 0).getD (i3 + 1).toNatClampNeg 0), .int ((roT xs 0).getD (i3 + 2).toNatClampNeg 0), .int ((roT xs 0).getD (i3 + 3).toNatClampNeg 0), .int ((roT xs 0).getD (i3 + 4).toNatClampNeg 0)] [] M_117 L_118 (fun r M_120 L_121 => ∃ v_122 : Int32, r = some (.int v_122) ∧ ((v_119 = v_122 → RX xs shL md_Law_law 1598 [.retAddr 0, .ref 0, .ref 516, .int i3] [] M_120 L_121 Q) ∧ (¬ (v_119 = v_122) → Q (some (.int 0)) M_120 L_121))))))))) : RX xs shL md_Law_law 563 [.retAddr 0, .ref 0, .ref 516, .int i3] [] M L Q := by
  refine r_aload_n d_Law_law_563 rfl ?_
  refine r_aload_nR d_Law_law_564 rfl ?_
  refine r_iload_n d_Law_law_565 rfl ?_
  refine r_iconst (v := 1) d_Law_law_566 (by decide) ?_
  refine r_iadd d_Law_law_567 ?_
  obtain ⟨o_113, h9⟩ := h
  refine r_rald (k := 0) d_Law_law_568 (by decide) o_113 ?_
  refine r_aload_nR d_Law_law_569 rfl ?_
  refine r_iload_n d_Law_law_570 rfl ?_
  refine r_iconst (v := 2) d_Law_law_571 (by decide) ?_
  refine r_iadd d_Law_law_572 ?_
  obtain ⟨o_114, h9⟩ := h9
  refine r_rald (k := 0) d_Law_law_573 (by decide) o_114 ?_
  refine r_aload_nR d_Law_law_574 rfl ?_
  refine r_iload_n d_Law_law_575 rfl ?_
  refine r_iconst (v := 3) d_Law_law_576 (by decide) ?_
  refine r_iadd d_Law_law_577 ?_
  obtain ⟨o_115, h9⟩ := h9
  refine r_rald (k := 0) d_Law_law_578 (by decide) o_115 ?_
  refine r_aload_nR d_Law_law_579 rfl ?_
  refine r_iload_n d_Law_law_580 rfl ?_
  refine r_iconst (v := 4) d_Law_law_581 (by decide) ?_
  refine r_iadd d_Law_law_582 ?_
  obtain ⟨o_116, h9⟩ := h9
  refine r_rald (k := 0) d_Law_law_583 (by decide) o_116 ?_
  refine x_callV (as := [.int ((roT xs 0).getD (i3 + 1).toNatClampNeg 0), .int ((roT xs 0).getD (i3 + 2).toNatClampNeg 0), .int ((roT xs 0).getD (i3 + 3).toNatClampNeg 0), .int ((roT xs 0).getD (i3 + 4).toNatClampNeg 0)]) (st := []) d_Law_law_584 ml_Law_69 mc_Peg_way mv_Peg_way ⟨by decide, by decide⟩ gO_0 ⟨_, rfl, rfl⟩ rfl (Nat.le_of_ble_eq_true rfl) (Nat.le_of_ble_eq_true rfl) h9 ?_
  rintro _ M_117 L_118 ⟨v_119, rfl, h9⟩
  refine r_aload_n d_Law_law_587 rfl ?_
  refine r_aload_nR d_Law_law_588 rfl ?_
  refine r_iload_n d_Law_law_589 rfl ?_
  refine r_iconst (v := 1) d_Law_law_590 (by decide) ?_
  refine r_iadd d_Law_law_591 ?_
  refine r_rald (k := 0) d_Law_law_592 (by decide) o_113 ?_
  refine r_aload_nR d_Law_law_593 rfl ?_
  refine r_iload_n d_Law_law_594 rfl ?_
  refine r_iconst (v := 2) d_Law_law_595 (by decide) ?_
  refine r_iadd d_Law_law_596 ?_
  refine r_rald (k := 0) d_Law_law_597 (by decide) o_114 ?_
  refine r_aload_nR d_Law_law_598 rfl ?_
  refine r_iload_n d_Law_law_599 rfl ?_
  refine r_iconst (v := 3) d_Law_law_600 (by decide) ?_
  refine r_iadd d_Law_law_601 ?_
  refine r_rald (k := 0) d_Law_law_602 (by decide) o_115 ?_
  refine r_aload_nR d_Law_law_603 rfl ?_
  refine r_iload_n d_Law_law_604 rfl ?_
  refine r_iconst (v := 4) d_Law_law_605 (by decide) ?_
  refine r_iadd d_Law_law_606 ?_
  refine r_rald (k := 0) d_Law_law_607 (by decide) o_116 ?_
  refine x_callV (as := [.int ((roT xs 0).getD (i3 + 1).toNatClampNeg 0), .int ((roT xs 0).getD (i3 + 2).toNatClampNeg 0), .int ((roT xs 0).getD (i3 + 3).toNatClampNeg 0), .int ((roT xs 0).getD (i3 + 4).toNatClampNeg 0)]) (st := [.int v_119]) d_Law_law_608 ml_Law_73 mc_Mod_way mv_Mod_way ⟨by decide, by decide⟩ gO_516 ⟨_, rfl, rfl⟩ rfl (Nat.le_of_ble_eq_true rfl) (Nat.le_of_ble_eq_true rfl) h9 ?_
  rintro _ M_120 L_121 ⟨v_122, rfl, h9⟩
  refine r_ic_eq d_Law_law_611 (fun c_123 => ?_) (fun c_123 => ?_)
  · have h9 := h9.1 c_123
    exact h9
  · have h9 := h9.2 c_123
    refine r_iconst (v := 0) d_Law_law_614 (by decide) ?_
    exact r_iret ⟨d_Law_law_615, _, rfl, rfl⟩ ⟨_, _, rfl, h9⟩
theorem L_Law_law_616 {xs : List Int32} {i3 : Int32} {M : Mem} {L : Int64} {Q : Option Value → Mem → Int64 → Prop} 
    (h : (vp_in (i3 + 1) (roT xs 0).length ∧ RX xs shL md_Peg_miss 0 [.ref 0, .int ((roT xs 0).getD (i3 + 1).toNatClampNeg 0)] [] M L (fun r M_125 L_126 => ∃ v_127 : Int32, r = some (.int v_127) ∧ RX xs shL md_Mod_miss 0 [.ref 516, .int ((roT xs 0).getD (i3 + 1).toNatClampNeg 0)] [] M_125 L_126 (fun r M_128 L_129 => ∃ v_130 : Int32, r = some (.int v_130) ∧ ((v_127 = v_130 → RX xs shL md_Law_law 1598 [.retAddr 0, .ref 0, .ref 516, .int i3] [] M_128 L_129 Q) ∧ (¬ (v_127 = v_130) → Q (some (.int 0)) M_128 L_129)))))) : RX xs shL md_Law_law 616 [.retAddr 0, .ref 0, .ref 516, .int i3] [] M L Q := by
  refine r_aload_n d_Law_law_616 rfl ?_
  refine r_aload_nR d_Law_law_617 rfl ?_
  refine r_iload_n d_Law_law_618 rfl ?_
  refine r_iconst (v := 1) d_Law_law_619 (by decide) ?_
  refine r_iadd d_Law_law_620 ?_
  obtain ⟨o_124, h9⟩ := h
  refine r_rald (k := 0) d_Law_law_621 (by decide) o_124 ?_
  refine x_callV (as := [.int ((roT xs 0).getD (i3 + 1).toNatClampNeg 0)]) (st := []) d_Law_law_622 ml_Law_74 mc_Peg_miss mv_Peg_miss ⟨by decide, by decide⟩ gO_0 ⟨_, rfl, rfl⟩ rfl (Nat.le_of_ble_eq_true rfl) (Nat.le_of_ble_eq_true rfl) h9 ?_
  rintro _ M_125 L_126 ⟨v_127, rfl, h9⟩
  refine r_aload_n d_Law_law_625 rfl ?_
  refine r_aload_nR d_Law_law_626 rfl ?_
  refine r_iload_n d_Law_law_627 rfl ?_
  refine r_iconst (v := 1) d_Law_law_628 (by decide) ?_
  refine r_iadd d_Law_law_629 ?_
  refine r_rald (k := 0) d_Law_law_630 (by decide) o_124 ?_
  refine x_callV (as := [.int ((roT xs 0).getD (i3 + 1).toNatClampNeg 0)]) (st := [.int v_127]) d_Law_law_631 ml_Law_77 mc_Mod_miss mv_Mod_miss ⟨by decide, by decide⟩ gO_516 ⟨_, rfl, rfl⟩ rfl (Nat.le_of_ble_eq_true rfl) (Nat.le_of_ble_eq_true rfl) h9 ?_
  rintro _ M_128 L_129 ⟨v_130, rfl, h9⟩
  refine r_ic_eq d_Law_law_634 (fun c_131 => ?_) (fun c_131 => ?_)
  · have h9 := h9.1 c_131
    exact h9
  · have h9 := h9.2 c_131
    refine r_iconst (v := 0) d_Law_law_637 (by decide) ?_
    exact r_iret ⟨d_Law_law_638, _, rfl, rfl⟩ ⟨_, _, rfl, h9⟩
theorem L_Law_law_639 {xs : List Int32} {i3 : Int32} {M : Mem} {L : Int64} {Q : Option Value → Mem → Int64 → Prop} 
    (h : (vp_in (i3 + 1) (roT xs 0).length ∧ (vp_in (i3 + 2) (roT xs 0).length ∧ RX xs shL md_Peg_chart 0 [.ref 0, .int ((roT xs 0).getD (i3 + 1).toNatClampNeg 0), .int ((roT xs 0).getD (i3 + 2).toNatClampNeg 0)] [] M L (fun r M_134 L_135 => ∃ v_136 : Int32, r = some (.int v_136) ∧ RX xs shL md_Mod_chart 0 [.ref 516, .int ((roT xs 0).getD (i3 + 1).toNatClampNeg 0), .int ((roT xs 0).getD (i3 + 2).toNatClampNeg 0)] [] M_134 L_135 (fun r M_137 L_138 => ∃ v_139 : Int32, r = some (.int v_139) ∧ ((v_136 = v_139 → RX xs shL md_Law_law 1598 [.retAddr 0, .ref 0, .ref 516, .int i3] [] M_137 L_138 Q) ∧ (¬ (v_136 = v_139) → Q (some (.int 0)) M_137 L_138))))))) : RX xs shL md_Law_law 639 [.retAddr 0, .ref 0, .ref 516, .int i3] [] M L Q := by
  refine r_aload_n d_Law_law_639 rfl ?_
  refine r_aload_nR d_Law_law_640 rfl ?_
  refine r_iload_n d_Law_law_641 rfl ?_
  refine r_iconst (v := 1) d_Law_law_642 (by decide) ?_
  refine r_iadd d_Law_law_643 ?_
  obtain ⟨o_132, h9⟩ := h
  refine r_rald (k := 0) d_Law_law_644 (by decide) o_132 ?_
  refine r_aload_nR d_Law_law_645 rfl ?_
  refine r_iload_n d_Law_law_646 rfl ?_
  refine r_iconst (v := 2) d_Law_law_647 (by decide) ?_
  refine r_iadd d_Law_law_648 ?_
  obtain ⟨o_133, h9⟩ := h9
  refine r_rald (k := 0) d_Law_law_649 (by decide) o_133 ?_
  refine x_callV (as := [.int ((roT xs 0).getD (i3 + 1).toNatClampNeg 0), .int ((roT xs 0).getD (i3 + 2).toNatClampNeg 0)]) (st := []) d_Law_law_650 ml_Law_78 mc_Peg_chart mv_Peg_chart ⟨by decide, by decide⟩ gO_0 ⟨_, rfl, rfl⟩ rfl (Nat.le_of_ble_eq_true rfl) (Nat.le_of_ble_eq_true rfl) h9 ?_
  rintro _ M_134 L_135 ⟨v_136, rfl, h9⟩
  refine r_aload_n d_Law_law_653 rfl ?_
  refine r_aload_nR d_Law_law_654 rfl ?_
  refine r_iload_n d_Law_law_655 rfl ?_
  refine r_iconst (v := 1) d_Law_law_656 (by decide) ?_
  refine r_iadd d_Law_law_657 ?_
  refine r_rald (k := 0) d_Law_law_658 (by decide) o_132 ?_
  refine r_aload_nR d_Law_law_659 rfl ?_
  refine r_iload_n d_Law_law_660 rfl ?_
  refine r_iconst (v := 2) d_Law_law_661 (by decide) ?_
  refine r_iadd d_Law_law_662 ?_
  refine r_rald (k := 0) d_Law_law_663 (by decide) o_133 ?_
  refine x_callV (as := [.int ((roT xs 0).getD (i3 + 1).toNatClampNeg 0), .int ((roT xs 0).getD (i3 + 2).toNatClampNeg 0)]) (st := [.int v_136]) d_Law_law_664 ml_Law_81 mc_Mod_chart mv_Mod_chart ⟨by decide, by decide⟩ gO_516 ⟨_, rfl, rfl⟩ rfl (Nat.le_of_ble_eq_true rfl) (Nat.le_of_ble_eq_true rfl) h9 ?_
  rintro _ M_137 L_138 ⟨v_139, rfl, h9⟩
  refine r_ic_eq d_Law_law_667 (fun c_140 => ?_) (fun c_140 => ?_)
  · have h9 := h9.1 c_140
    exact h9
  · have h9 := h9.2 c_140
    refine r_iconst (v := 0) d_Law_law_670 (by decide) ?_
    exact r_iret ⟨d_Law_law_671, _, rfl, rfl⟩ ⟨_, _, rfl, h9⟩
theorem L_Law_law_672 {xs : List Int32} {i3 : Int32} {M : Mem} {L : Int64} {Q : Option Value → Mem → Int64 → Prop} 
    (h : (vp_in (i3 + 1) (roT xs 0).length ∧ (vp_in (i3 + 2) (roT xs 0).length ∧ (vp_in (i3 + 3) (roT xs 0).length ∧ (vp_in (i3 + 4) (roT xs 0).length ∧ (vp_in (i3 + 5) (roT xs 0).length ∧ RX xs shL md_Peg_sea 0 [.ref 0, .int ((roT xs 0).getD (i3 + 1).toNatClampNeg 0), .int ((roT xs 0).getD (i3 + 2).toNatClampNeg 0), .int ((roT xs 0).getD (i3 + 3).toNatClampNeg 0), .int ((roT xs 0).getD (i3 + 4).toNatClampNeg 0), .int ((roT xs 0).getD (i3 + 5).toNatClampNeg 0)] [] M L (fun r M_146 L_147 => ∃ v_148 : Int32, r = some (.int v_148) ∧ RX xs shL md_Mod_sea 0 [.ref 516, .int ((roT xs 0).getD (i3 + 1).toNatClampNeg 0), .int ((roT xs 0).getD (i3 + 2).toNatClampNeg 0), .int ((roT xs 0).getD (i3 + 3).toNatClampNeg 0), .int ((roT xs 0).getD (i3 + 4).toNatClampNeg 0), .int ((roT xs 0).getD (i3 + 5).toNatClampNeg 0)] [] M_146 L_147 (fun r M_149 L_150 => ∃ v_151 : Int32, r = some (.int v_151) ∧ ((v_148 = v_151 → RX xs shL md_Law_law 1598 [.retAddr 0, .ref 0, .ref 516, .int i3] [] M_149 L_150 Q) ∧ (¬ (v_148 = v_151) → Q (some (.int 0)) M_149 L_150)))))))))) : RX xs shL md_Law_law 672 [.retAddr 0, .ref 0, .ref 516, .int i3] [] M L Q := by
  refine r_aload_n d_Law_law_672 rfl ?_
  refine r_aload_nR d_Law_law_673 rfl ?_
  refine r_iload_n d_Law_law_674 rfl ?_
  refine r_iconst (v := 1) d_Law_law_675 (by decide) ?_
  refine r_iadd d_Law_law_676 ?_
  obtain ⟨o_141, h9⟩ := h
  refine r_rald (k := 0) d_Law_law_677 (by decide) o_141 ?_
  refine r_aload_nR d_Law_law_678 rfl ?_
  refine r_iload_n d_Law_law_679 rfl ?_
  refine r_iconst (v := 2) d_Law_law_680 (by decide) ?_
  refine r_iadd d_Law_law_681 ?_
  obtain ⟨o_142, h9⟩ := h9
  refine r_rald (k := 0) d_Law_law_682 (by decide) o_142 ?_
  refine r_aload_nR d_Law_law_683 rfl ?_
  refine r_iload_n d_Law_law_684 rfl ?_
  refine r_iconst (v := 3) d_Law_law_685 (by decide) ?_
  refine r_iadd d_Law_law_686 ?_
  obtain ⟨o_143, h9⟩ := h9
  refine r_rald (k := 0) d_Law_law_687 (by decide) o_143 ?_
  refine r_aload_nR d_Law_law_688 rfl ?_
  refine r_iload_n d_Law_law_689 rfl ?_
  refine r_iconst (v := 4) d_Law_law_690 (by decide) ?_
  refine r_iadd d_Law_law_691 ?_
  obtain ⟨o_144, h9⟩ := h9
  refine r_rald (k := 0) d_Law_law_692 (by decide) o_144 ?_
  refine r_aload_nR d_Law_law_693 rfl ?_
  refine r_iload_n d_Law_law_694 rfl ?_
  refine r_iconst (v := 5) d_Law_law_695 (by decide) ?_
  refine r_iadd d_Law_law_696 ?_
  obtain ⟨o_145, h9⟩ := h9
  refine r_rald (k := 0) d_Law_law_697 (by decide) o_145 ?_
  refine x_callV (as := [.int ((roT xs 0).getD (i3 + 1).toNatClampNeg 0), .int ((roT xs 0).getD (i3 + 2).toNatClampNeg 0), .int ((roT xs 0).getD (i3 + 3).toNatClampNeg 0), .int ((roT xs 0).getD (i3 + 4).toNatClampNeg 0), .int ((roT xs 0).getD (i3 + 5).toNatClampNeg 0)]) (st := []) d_Law_law_698 ml_Law_82 mc_Peg_sea mv_Peg_sea ⟨by decide, by decide⟩ gO_0 ⟨_, rfl, rfl⟩ rfl (Nat.le_of_ble_eq_true rfl) (Nat.le_of_ble_eq_true rfl) h9 ?_
  rintro _ M_146 L_147 ⟨v_148, rfl, h9⟩
  refine r_aload_n d_Law_law_701 rfl ?_
  refine r_aload_nR d_Law_law_702 rfl ?_
  refine r_iload_n d_Law_law_703 rfl ?_
  refine r_iconst (v := 1) d_Law_law_704 (by decide) ?_
  refine r_iadd d_Law_law_705 ?_
  refine r_rald (k := 0) d_Law_law_706 (by decide) o_141 ?_
  refine r_aload_nR d_Law_law_707 rfl ?_
  refine r_iload_n d_Law_law_708 rfl ?_
  refine r_iconst (v := 2) d_Law_law_709 (by decide) ?_
  refine r_iadd d_Law_law_710 ?_
  refine r_rald (k := 0) d_Law_law_711 (by decide) o_142 ?_
  refine r_aload_nR d_Law_law_712 rfl ?_
  refine r_iload_n d_Law_law_713 rfl ?_
  refine r_iconst (v := 3) d_Law_law_714 (by decide) ?_
  refine r_iadd d_Law_law_715 ?_
  refine r_rald (k := 0) d_Law_law_716 (by decide) o_143 ?_
  refine r_aload_nR d_Law_law_717 rfl ?_
  refine r_iload_n d_Law_law_718 rfl ?_
  refine r_iconst (v := 4) d_Law_law_719 (by decide) ?_
  refine r_iadd d_Law_law_720 ?_
  refine r_rald (k := 0) d_Law_law_721 (by decide) o_144 ?_
  refine r_aload_nR d_Law_law_722 rfl ?_
  refine r_iload_n d_Law_law_723 rfl ?_
  refine r_iconst (v := 5) d_Law_law_724 (by decide) ?_
  refine r_iadd d_Law_law_725 ?_
  refine r_rald (k := 0) d_Law_law_726 (by decide) o_145 ?_
  refine x_callV (as := [.int ((roT xs 0).getD (i3 + 1).toNatClampNeg 0), .int ((roT xs 0).getD (i3 + 2).toNatClampNeg 0), .int ((roT xs 0).getD (i3 + 3).toNatClampNeg 0), .int ((roT xs 0).getD (i3 + 4).toNatClampNeg 0), .int ((roT xs 0).getD (i3 + 5).toNatClampNeg 0)]) (st := [.int v_148]) d_Law_law_727 ml_Law_86 mc_Mod_sea mv_Mod_sea ⟨by decide, by decide⟩ gO_516 ⟨_, rfl, rfl⟩ rfl (Nat.le_of_ble_eq_true rfl) (Nat.le_of_ble_eq_true rfl) h9 ?_
  rintro _ M_149 L_150 ⟨v_151, rfl, h9⟩
  refine r_ic_eq d_Law_law_730 (fun c_152 => ?_) (fun c_152 => ?_)
  · have h9 := h9.1 c_152
    exact h9
  · have h9 := h9.2 c_152
    refine r_iconst (v := 0) d_Law_law_733 (by decide) ?_
    exact r_iret ⟨d_Law_law_734, _, rfl, rfl⟩ ⟨_, _, rfl, h9⟩
set_option maxHeartbeats 4000000 in
theorem L_Law_law_735 {xs : List Int32} {i3 : Int32} {M : Mem} {L : Int64} {Q : Option Value → Mem → Int64 → Prop} 
    (h : (vp_in (i3 + 1) (roT xs 0).length ∧ (vp_in (i3 + 2) (roT xs 0).length ∧ (vp_in (i3 + 3) (roT xs 0).length ∧ (vp_in (i3 + 4) (roT xs 0).length ∧ (vp_in (i3 + 5) (roT xs 0).length ∧ ((((roT xs 0).getD (i3 + 5).toNatClampNeg 0) = 0 → RX xs shL md_Peg_weed 0 [.ref 0, .int ((roT xs 0).getD (i3 + 1).toNatClampNeg 0), .int ((roT xs 0).getD (i3 + 2).toNatClampNeg 0), .int ((roT xs 0).getD (i3 + 3).toNatClampNeg 0), .int ((roT xs 0).getD (i3 + 4).toNatClampNeg 0), .int 0] [] M L (fun r M_159 L_160 => ∃ v_161 : Int32, r = some (.int v_161) ∧ ((((roT xs 0).getD (i3 + 5).toNatClampNeg 0) = 0 → RX xs shL md_Mod_weed 0 [.ref 516, .int ((roT xs 0).getD (i3 + 1).toNatClampNeg 0), .int ((roT xs 0).getD (i3 + 2).toNatClampNeg 0), .int ((roT xs 0).getD (i3 + 3).toNatClampNeg 0), .int ((roT xs 0).getD (i3 + 4).toNatClampNeg 0), .int 0] [] M_159 L_160 (fun r M_163 L_164 => ∃ v_165 : Int32, r = some (.int v_165) ∧ ((v_161 = v_165 → RX xs shL md_Law_law 1598 [.retAddr 0, .ref 0, .ref 516, .int i3] [] M_163 L_164 Q) ∧ (¬ (v_161 = v_165) → Q (some (.int 0)) M_163 L_164)))) ∧ (¬ (((roT xs 0).getD (i3 + 5).toNatClampNeg 0) = 0) → RX xs shL md_Mod_weed 0 [.ref 516, .int ((roT xs 0).getD (i3 + 1).toNatClampNeg 0), .int ((roT xs 0).getD (i3 + 2).toNatClampNeg 0), .int ((roT xs 0).getD (i3 + 3).toNatClampNeg 0), .int ((roT xs 0).getD (i3 + 4).toNatClampNeg 0), .int 1] [] M_159 L_160 (fun r M_167 L_168 => ∃ v_169 : Int32, r = some (.int v_169) ∧ ((v_161 = v_169 → RX xs shL md_Law_law 1598 [.retAddr 0, .ref 0, .ref 516, .int i3] [] M_167 L_168 Q) ∧ (¬ (v_161 = v_169) → Q (some (.int 0)) M_167 L_168))))))) ∧ (¬ (((roT xs 0).getD (i3 + 5).toNatClampNeg 0) = 0) → RX xs shL md_Peg_weed 0 [.ref 0, .int ((roT xs 0).getD (i3 + 1).toNatClampNeg 0), .int ((roT xs 0).getD (i3 + 2).toNatClampNeg 0), .int ((roT xs 0).getD (i3 + 3).toNatClampNeg 0), .int ((roT xs 0).getD (i3 + 4).toNatClampNeg 0), .int 1] [] M L (fun r M_171 L_172 => ∃ v_173 : Int32, r = some (.int v_173) ∧ ((((roT xs 0).getD (i3 + 5).toNatClampNeg 0) = 0 → RX xs shL md_Mod_weed 0 [.ref 516, .int ((roT xs 0).getD (i3 + 1).toNatClampNeg 0), .int ((roT xs 0).getD (i3 + 2).toNatClampNeg 0), .int ((roT xs 0).getD (i3 + 3).toNatClampNeg 0), .int ((roT xs 0).getD (i3 + 4).toNatClampNeg 0), .int 0] [] M_171 L_172 (fun r M_175 L_176 => ∃ v_177 : Int32, r = some (.int v_177) ∧ ((v_173 = v_177 → RX xs shL md_Law_law 1598 [.retAddr 0, .ref 0, .ref 516, .int i3] [] M_175 L_176 Q) ∧ (¬ (v_173 = v_177) → Q (some (.int 0)) M_175 L_176)))) ∧ (¬ (((roT xs 0).getD (i3 + 5).toNatClampNeg 0) = 0) → RX xs shL md_Mod_weed 0 [.ref 516, .int ((roT xs 0).getD (i3 + 1).toNatClampNeg 0), .int ((roT xs 0).getD (i3 + 2).toNatClampNeg 0), .int ((roT xs 0).getD (i3 + 3).toNatClampNeg 0), .int ((roT xs 0).getD (i3 + 4).toNatClampNeg 0), .int 1] [] M_171 L_172 (fun r M_179 L_180 => ∃ v_181 : Int32, r = some (.int v_181) ∧ ((v_173 = v_181 → RX xs shL md_Law_law 1598 [.retAddr 0, .ref 0, .ref 516, .int i3] [] M_179 L_180 Q) ∧ (¬ (v_173 = v_181) → Q (some (.int 0)) M_179 L_180)))))))))))))) : RX xs shL md_Law_law 735 [.retAddr 0, .ref 0, .ref 516, .int i3] [] M L Q := by
  refine r_aload_n d_Law_law_735 rfl ?_
  refine r_aload_nR d_Law_law_736 rfl ?_
  refine r_iload_n d_Law_law_737 rfl ?_
  refine r_iconst (v := 1) d_Law_law_738 (by decide) ?_
  refine r_iadd d_Law_law_739 ?_
  obtain ⟨o_153, h9⟩ := h
  refine r_rald (k := 0) d_Law_law_740 (by decide) o_153 ?_
  refine r_aload_nR d_Law_law_741 rfl ?_
  refine r_iload_n d_Law_law_742 rfl ?_
  refine r_iconst (v := 2) d_Law_law_743 (by decide) ?_
  refine r_iadd d_Law_law_744 ?_
  obtain ⟨o_154, h9⟩ := h9
  refine r_rald (k := 0) d_Law_law_745 (by decide) o_154 ?_
  refine r_aload_nR d_Law_law_746 rfl ?_
  refine r_iload_n d_Law_law_747 rfl ?_
  refine r_iconst (v := 3) d_Law_law_748 (by decide) ?_
  refine r_iadd d_Law_law_749 ?_
  obtain ⟨o_155, h9⟩ := h9
  refine r_rald (k := 0) d_Law_law_750 (by decide) o_155 ?_
  refine r_aload_nR d_Law_law_751 rfl ?_
  refine r_iload_n d_Law_law_752 rfl ?_
  refine r_iconst (v := 4) d_Law_law_753 (by decide) ?_
  refine r_iadd d_Law_law_754 ?_
  obtain ⟨o_156, h9⟩ := h9
  refine r_rald (k := 0) d_Law_law_755 (by decide) o_156 ?_
  refine r_aload_nR d_Law_law_756 rfl ?_
  refine r_iload_n d_Law_law_757 rfl ?_
  refine r_iconst (v := 5) d_Law_law_758 (by decide) ?_
  refine r_iadd d_Law_law_759 ?_
  obtain ⟨o_157, h9⟩ := h9
  refine r_rald (k := 0) d_Law_law_760 (by decide) o_157 ?_
  refine r_if_eq d_Law_law_761 (fun c_158 => ?_) (fun c_158 => ?_)
  · have h9 := h9.1 c_158
    refine r_iconst (v := 0) d_Law_law_768 (by decide) ?_
    refine x_callV (as := [.int ((roT xs 0).getD (i3 + 1).toNatClampNeg 0), .int ((roT xs 0).getD (i3 + 2).toNatClampNeg 0), .int ((roT xs 0).getD (i3 + 3).toNatClampNeg 0), .int ((roT xs 0).getD (i3 + 4).toNatClampNeg 0), .int 0]) (st := []) d_Law_law_769 ml_Law_87 mc_Peg_weed mv_Peg_weed ⟨by decide, by decide⟩ gO_0 ⟨_, rfl, rfl⟩ rfl (Nat.le_of_ble_eq_true rfl) (Nat.le_of_ble_eq_true rfl) h9 ?_
    rintro _ M_159 L_160 ⟨v_161, rfl, h9⟩
    refine r_aload_n d_Law_law_772 rfl ?_
    refine r_aload_nR d_Law_law_773 rfl ?_
    refine r_iload_n d_Law_law_774 rfl ?_
    refine r_iconst (v := 1) d_Law_law_775 (by decide) ?_
    refine r_iadd d_Law_law_776 ?_
    refine r_rald (k := 0) d_Law_law_777 (by decide) o_153 ?_
    refine r_aload_nR d_Law_law_778 rfl ?_
    refine r_iload_n d_Law_law_779 rfl ?_
    refine r_iconst (v := 2) d_Law_law_780 (by decide) ?_
    refine r_iadd d_Law_law_781 ?_
    refine r_rald (k := 0) d_Law_law_782 (by decide) o_154 ?_
    refine r_aload_nR d_Law_law_783 rfl ?_
    refine r_iload_n d_Law_law_784 rfl ?_
    refine r_iconst (v := 3) d_Law_law_785 (by decide) ?_
    refine r_iadd d_Law_law_786 ?_
    refine r_rald (k := 0) d_Law_law_787 (by decide) o_155 ?_
    refine r_aload_nR d_Law_law_788 rfl ?_
    refine r_iload_n d_Law_law_789 rfl ?_
    refine r_iconst (v := 4) d_Law_law_790 (by decide) ?_
    refine r_iadd d_Law_law_791 ?_
    refine r_rald (k := 0) d_Law_law_792 (by decide) o_156 ?_
    refine r_aload_nR d_Law_law_793 rfl ?_
    refine r_iload_n d_Law_law_794 rfl ?_
    refine r_iconst (v := 5) d_Law_law_795 (by decide) ?_
    refine r_iadd d_Law_law_796 ?_
    refine r_rald (k := 0) d_Law_law_797 (by decide) o_157 ?_
    refine r_if_eq d_Law_law_798 (fun c_162 => ?_) (fun c_162 => ?_)
    · have h9 := h9.1 c_162
      refine r_iconst (v := 0) d_Law_law_805 (by decide) ?_
      refine x_callV (as := [.int ((roT xs 0).getD (i3 + 1).toNatClampNeg 0), .int ((roT xs 0).getD (i3 + 2).toNatClampNeg 0), .int ((roT xs 0).getD (i3 + 3).toNatClampNeg 0), .int ((roT xs 0).getD (i3 + 4).toNatClampNeg 0), .int 0]) (st := [.int v_161]) d_Law_law_806 ml_Law_91 mc_Mod_weed mv_Mod_weed ⟨by decide, by decide⟩ gO_516 ⟨_, rfl, rfl⟩ rfl (Nat.le_of_ble_eq_true rfl) (Nat.le_of_ble_eq_true rfl) h9 ?_
      rintro _ M_163 L_164 ⟨v_165, rfl, h9⟩
      refine r_ic_eq d_Law_law_809 (fun c_166 => ?_) (fun c_166 => ?_)
      · have h9 := h9.1 c_166
        exact h9
      · have h9 := h9.2 c_166
        refine r_iconst (v := 0) d_Law_law_812 (by decide) ?_
        exact r_iret ⟨d_Law_law_813, _, rfl, rfl⟩ ⟨_, _, rfl, h9⟩
    · have h9 := h9.2 c_162
      refine r_iconst (v := 1) d_Law_law_801 (by decide) ?_
      refine r_goto d_Law_law_802 ?_
      refine x_callV (as := [.int ((roT xs 0).getD (i3 + 1).toNatClampNeg 0), .int ((roT xs 0).getD (i3 + 2).toNatClampNeg 0), .int ((roT xs 0).getD (i3 + 3).toNatClampNeg 0), .int ((roT xs 0).getD (i3 + 4).toNatClampNeg 0), .int 1]) (st := [.int v_161]) d_Law_law_806 ml_Law_91 mc_Mod_weed mv_Mod_weed ⟨by decide, by decide⟩ gO_516 ⟨_, rfl, rfl⟩ rfl (Nat.le_of_ble_eq_true rfl) (Nat.le_of_ble_eq_true rfl) h9 ?_
      rintro _ M_167 L_168 ⟨v_169, rfl, h9⟩
      refine r_ic_eq d_Law_law_809 (fun c_170 => ?_) (fun c_170 => ?_)
      · have h9 := h9.1 c_170
        exact h9
      · have h9 := h9.2 c_170
        refine r_iconst (v := 0) d_Law_law_812 (by decide) ?_
        exact r_iret ⟨d_Law_law_813, _, rfl, rfl⟩ ⟨_, _, rfl, h9⟩
  · have h9 := h9.2 c_158
    refine r_iconst (v := 1) d_Law_law_764 (by decide) ?_
    refine r_goto d_Law_law_765 ?_
    refine x_callV (as := [.int ((roT xs 0).getD (i3 + 1).toNatClampNeg 0), .int ((roT xs 0).getD (i3 + 2).toNatClampNeg 0), .int ((roT xs 0).getD (i3 + 3).toNatClampNeg 0), .int ((roT xs 0).getD (i3 + 4).toNatClampNeg 0), .int 1]) (st := []) d_Law_law_769 ml_Law_87 mc_Peg_weed mv_Peg_weed ⟨by decide, by decide⟩ gO_0 ⟨_, rfl, rfl⟩ rfl (Nat.le_of_ble_eq_true rfl) (Nat.le_of_ble_eq_true rfl) h9 ?_
    rintro _ M_171 L_172 ⟨v_173, rfl, h9⟩
    refine r_aload_n d_Law_law_772 rfl ?_
    refine r_aload_nR d_Law_law_773 rfl ?_
    refine r_iload_n d_Law_law_774 rfl ?_
    refine r_iconst (v := 1) d_Law_law_775 (by decide) ?_
    refine r_iadd d_Law_law_776 ?_
    refine r_rald (k := 0) d_Law_law_777 (by decide) o_153 ?_
    refine r_aload_nR d_Law_law_778 rfl ?_
    refine r_iload_n d_Law_law_779 rfl ?_
    refine r_iconst (v := 2) d_Law_law_780 (by decide) ?_
    refine r_iadd d_Law_law_781 ?_
    refine r_rald (k := 0) d_Law_law_782 (by decide) o_154 ?_
    refine r_aload_nR d_Law_law_783 rfl ?_
    refine r_iload_n d_Law_law_784 rfl ?_
    refine r_iconst (v := 3) d_Law_law_785 (by decide) ?_
    refine r_iadd d_Law_law_786 ?_
    refine r_rald (k := 0) d_Law_law_787 (by decide) o_155 ?_
    refine r_aload_nR d_Law_law_788 rfl ?_
    refine r_iload_n d_Law_law_789 rfl ?_
    refine r_iconst (v := 4) d_Law_law_790 (by decide) ?_
    refine r_iadd d_Law_law_791 ?_
    refine r_rald (k := 0) d_Law_law_792 (by decide) o_156 ?_
    refine r_aload_nR d_Law_law_793 rfl ?_
    refine r_iload_n d_Law_law_794 rfl ?_
    refine r_iconst (v := 5) d_Law_law_795 (by decide) ?_
    refine r_iadd d_Law_law_796 ?_
    refine r_rald (k := 0) d_Law_law_797 (by decide) o_157 ?_
    refine r_if_eq d_Law_law_798 (fun c_174 => ?_) (fun c_174 => ?_)
    · have h9 := h9.1 c_174
      refine r_iconst (v := 0) d_Law_law_805 (by decide) ?_
      refine x_callV (as := [.int ((roT xs 0).getD (i3 + 1).toNatClampNeg 0), .int ((roT xs 0).getD (i3 + 2).toNatClampNeg 0), .int ((roT xs 0).getD (i3 + 3).toNatClampNeg 0), .int ((roT xs 0).getD (i3 + 4).toNatClampNeg 0), .int 0]) (st := [.int v_173]) d_Law_law_806 ml_Law_91 mc_Mod_weed mv_Mod_weed ⟨by decide, by decide⟩ gO_516 ⟨_, rfl, rfl⟩ rfl (Nat.le_of_ble_eq_true rfl) (Nat.le_of_ble_eq_true rfl) h9 ?_
      rintro _ M_175 L_176 ⟨v_177, rfl, h9⟩
      refine r_ic_eq d_Law_law_809 (fun c_178 => ?_) (fun c_178 => ?_)
      · have h9 := h9.1 c_178
        exact h9
      · have h9 := h9.2 c_178
        refine r_iconst (v := 0) d_Law_law_812 (by decide) ?_
        exact r_iret ⟨d_Law_law_813, _, rfl, rfl⟩ ⟨_, _, rfl, h9⟩
    · have h9 := h9.2 c_174
      refine r_iconst (v := 1) d_Law_law_801 (by decide) ?_
      refine r_goto d_Law_law_802 ?_
      refine x_callV (as := [.int ((roT xs 0).getD (i3 + 1).toNatClampNeg 0), .int ((roT xs 0).getD (i3 + 2).toNatClampNeg 0), .int ((roT xs 0).getD (i3 + 3).toNatClampNeg 0), .int ((roT xs 0).getD (i3 + 4).toNatClampNeg 0), .int 1]) (st := [.int v_173]) d_Law_law_806 ml_Law_91 mc_Mod_weed mv_Mod_weed ⟨by decide, by decide⟩ gO_516 ⟨_, rfl, rfl⟩ rfl (Nat.le_of_ble_eq_true rfl) (Nat.le_of_ble_eq_true rfl) h9 ?_
      rintro _ M_179 L_180 ⟨v_181, rfl, h9⟩
      refine r_ic_eq d_Law_law_809 (fun c_182 => ?_) (fun c_182 => ?_)
      · have h9 := h9.1 c_182
        exact h9
      · have h9 := h9.2 c_182
        refine r_iconst (v := 0) d_Law_law_812 (by decide) ?_
        exact r_iret ⟨d_Law_law_813, _, rfl, rfl⟩ ⟨_, _, rfl, h9⟩
theorem L_Law_law_814 {xs : List Int32} {i3 : Int32} {M : Mem} {L : Int64} {Q : Option Value → Mem → Int64 → Prop} 
    (h : (vp_in (i3 + 1) (roT xs 0).length ∧ (vp_in (i3 + 2) (roT xs 0).length ∧ (vp_in (i3 + 3) (roT xs 0).length ∧ RX xs shL md_Peg_about 0 [.ref 0, .int ((roT xs 0).getD (i3 + 1).toNatClampNeg 0), .int ((roT xs 0).getD (i3 + 2).toNatClampNeg 0), .int ((roT xs 0).getD (i3 + 3).toNatClampNeg 0)] [] M L (fun r M_186 L_187 => ∃ v_188 : Int32, r = some (.int v_188) ∧ RX xs shL md_Mod_about 0 [.ref 516, .int ((roT xs 0).getD (i3 + 1).toNatClampNeg 0), .int ((roT xs 0).getD (i3 + 2).toNatClampNeg 0), .int ((roT xs 0).getD (i3 + 3).toNatClampNeg 0)] [] M_186 L_187 (fun r M_189 L_190 => ∃ v_191 : Int32, r = some (.int v_191) ∧ ((v_188 = v_191 → RX xs shL md_Law_law 1598 [.retAddr 0, .ref 0, .ref 516, .int i3] [] M_189 L_190 Q) ∧ (¬ (v_188 = v_191) → Q (some (.int 0)) M_189 L_190)))))))) : RX xs shL md_Law_law 814 [.retAddr 0, .ref 0, .ref 516, .int i3] [] M L Q := by
  refine r_aload_n d_Law_law_814 rfl ?_
  refine r_aload_nR d_Law_law_815 rfl ?_
  refine r_iload_n d_Law_law_816 rfl ?_
  refine r_iconst (v := 1) d_Law_law_817 (by decide) ?_
  refine r_iadd d_Law_law_818 ?_
  obtain ⟨o_183, h9⟩ := h
  refine r_rald (k := 0) d_Law_law_819 (by decide) o_183 ?_
  refine r_aload_nR d_Law_law_820 rfl ?_
  refine r_iload_n d_Law_law_821 rfl ?_
  refine r_iconst (v := 2) d_Law_law_822 (by decide) ?_
  refine r_iadd d_Law_law_823 ?_
  obtain ⟨o_184, h9⟩ := h9
  refine r_rald (k := 0) d_Law_law_824 (by decide) o_184 ?_
  refine r_aload_nR d_Law_law_825 rfl ?_
  refine r_iload_n d_Law_law_826 rfl ?_
  refine r_iconst (v := 3) d_Law_law_827 (by decide) ?_
  refine r_iadd d_Law_law_828 ?_
  obtain ⟨o_185, h9⟩ := h9
  refine r_rald (k := 0) d_Law_law_829 (by decide) o_185 ?_
  refine x_callV (as := [.int ((roT xs 0).getD (i3 + 1).toNatClampNeg 0), .int ((roT xs 0).getD (i3 + 2).toNatClampNeg 0), .int ((roT xs 0).getD (i3 + 3).toNatClampNeg 0)]) (st := []) d_Law_law_830 ml_Law_92 mc_Peg_about mv_Peg_about ⟨by decide, by decide⟩ gO_0 ⟨_, rfl, rfl⟩ rfl (Nat.le_of_ble_eq_true rfl) (Nat.le_of_ble_eq_true rfl) h9 ?_
  rintro _ M_186 L_187 ⟨v_188, rfl, h9⟩
  refine r_aload_n d_Law_law_833 rfl ?_
  refine r_aload_nR d_Law_law_834 rfl ?_
  refine r_iload_n d_Law_law_835 rfl ?_
  refine r_iconst (v := 1) d_Law_law_836 (by decide) ?_
  refine r_iadd d_Law_law_837 ?_
  refine r_rald (k := 0) d_Law_law_838 (by decide) o_183 ?_
  refine r_aload_nR d_Law_law_839 rfl ?_
  refine r_iload_n d_Law_law_840 rfl ?_
  refine r_iconst (v := 2) d_Law_law_841 (by decide) ?_
  refine r_iadd d_Law_law_842 ?_
  refine r_rald (k := 0) d_Law_law_843 (by decide) o_184 ?_
  refine r_aload_nR d_Law_law_844 rfl ?_
  refine r_iload_n d_Law_law_845 rfl ?_
  refine r_iconst (v := 3) d_Law_law_846 (by decide) ?_
  refine r_iadd d_Law_law_847 ?_
  refine r_rald (k := 0) d_Law_law_848 (by decide) o_185 ?_
  refine x_callV (as := [.int ((roT xs 0).getD (i3 + 1).toNatClampNeg 0), .int ((roT xs 0).getD (i3 + 2).toNatClampNeg 0), .int ((roT xs 0).getD (i3 + 3).toNatClampNeg 0)]) (st := [.int v_188]) d_Law_law_849 ml_Law_95 mc_Mod_about mv_Mod_about ⟨by decide, by decide⟩ gO_516 ⟨_, rfl, rfl⟩ rfl (Nat.le_of_ble_eq_true rfl) (Nat.le_of_ble_eq_true rfl) h9 ?_
  rintro _ M_189 L_190 ⟨v_191, rfl, h9⟩
  refine r_ic_eq d_Law_law_852 (fun c_192 => ?_) (fun c_192 => ?_)
  · have h9 := h9.1 c_192
    exact h9
  · have h9 := h9.2 c_192
    refine r_iconst (v := 0) d_Law_law_855 (by decide) ?_
    exact r_iret ⟨d_Law_law_856, _, rfl, rfl⟩ ⟨_, _, rfl, h9⟩
theorem L_Law_law_857 {xs : List Int32} {i3 : Int32} {M : Mem} {L : Int64} {Q : Option Value → Mem → Int64 → Prop} 
    (h : (vp_in (i3 + 1) (roT xs 0).length ∧ (vp_in (i3 + 2) (roT xs 0).length ∧ (vp_in (i3 + 3) (roT xs 0).length ∧ (vp_in (i3 + 4) (roT xs 0).length ∧ RX xs shL md_Peg_stream 0 [.ref 0, .int ((roT xs 0).getD (i3 + 1).toNatClampNeg 0), .int ((roT xs 0).getD (i3 + 2).toNatClampNeg 0), .int ((roT xs 0).getD (i3 + 3).toNatClampNeg 0), .int ((roT xs 0).getD (i3 + 4).toNatClampNeg 0)] [] M L (fun r M_197 L_198 => ∃ v_199 : Int32, r = some (.int v_199) ∧ RX xs shL md_Mod_stream 0 [.ref 516, .int ((roT xs 0).getD (i3 + 1).toNatClampNeg 0), .int ((roT xs 0).getD (i3 + 2).toNatClampNeg 0), .int ((roT xs 0).getD (i3 + 3).toNatClampNeg 0), .int ((roT xs 0).getD (i3 + 4).toNatClampNeg 0)] [] M_197 L_198 (fun r M_200 L_201 => ∃ v_202 : Int32, r = some (.int v_202) ∧ ((v_199 = v_202 → RX xs shL md_Law_law 1598 [.retAddr 0, .ref 0, .ref 516, .int i3] [] M_200 L_201 Q) ∧ (¬ (v_199 = v_202) → Q (some (.int 0)) M_200 L_201))))))))) : RX xs shL md_Law_law 857 [.retAddr 0, .ref 0, .ref 516, .int i3] [] M L Q := by
  refine r_aload_n d_Law_law_857 rfl ?_
  refine r_aload_nR d_Law_law_858 rfl ?_
  refine r_iload_n d_Law_law_859 rfl ?_
  refine r_iconst (v := 1) d_Law_law_860 (by decide) ?_
  refine r_iadd d_Law_law_861 ?_
  obtain ⟨o_193, h9⟩ := h
  refine r_rald (k := 0) d_Law_law_862 (by decide) o_193 ?_
  refine r_aload_nR d_Law_law_863 rfl ?_
  refine r_iload_n d_Law_law_864 rfl ?_
  refine r_iconst (v := 2) d_Law_law_865 (by decide) ?_
  refine r_iadd d_Law_law_866 ?_
  obtain ⟨o_194, h9⟩ := h9
  refine r_rald (k := 0) d_Law_law_867 (by decide) o_194 ?_
  refine r_aload_nR d_Law_law_868 rfl ?_
  refine r_iload_n d_Law_law_869 rfl ?_
  refine r_iconst (v := 3) d_Law_law_870 (by decide) ?_
  refine r_iadd d_Law_law_871 ?_
  obtain ⟨o_195, h9⟩ := h9
  refine r_rald (k := 0) d_Law_law_872 (by decide) o_195 ?_
  refine r_aload_nR d_Law_law_873 rfl ?_
  refine r_iload_n d_Law_law_874 rfl ?_
  refine r_iconst (v := 4) d_Law_law_875 (by decide) ?_
  refine r_iadd d_Law_law_876 ?_
  obtain ⟨o_196, h9⟩ := h9
  refine r_rald (k := 0) d_Law_law_877 (by decide) o_196 ?_
  refine x_callV (as := [.int ((roT xs 0).getD (i3 + 1).toNatClampNeg 0), .int ((roT xs 0).getD (i3 + 2).toNatClampNeg 0), .int ((roT xs 0).getD (i3 + 3).toNatClampNeg 0), .int ((roT xs 0).getD (i3 + 4).toNatClampNeg 0)]) (st := []) d_Law_law_878 ml_Law_96 mc_Peg_stream mv_Peg_stream ⟨by decide, by decide⟩ gO_0 ⟨_, rfl, rfl⟩ rfl (Nat.le_of_ble_eq_true rfl) (Nat.le_of_ble_eq_true rfl) h9 ?_
  rintro _ M_197 L_198 ⟨v_199, rfl, h9⟩
  refine r_aload_n d_Law_law_881 rfl ?_
  refine r_aload_nR d_Law_law_882 rfl ?_
  refine r_iload_n d_Law_law_883 rfl ?_
  refine r_iconst (v := 1) d_Law_law_884 (by decide) ?_
  refine r_iadd d_Law_law_885 ?_
  refine r_rald (k := 0) d_Law_law_886 (by decide) o_193 ?_
  refine r_aload_nR d_Law_law_887 rfl ?_
  refine r_iload_n d_Law_law_888 rfl ?_
  refine r_iconst (v := 2) d_Law_law_889 (by decide) ?_
  refine r_iadd d_Law_law_890 ?_
  refine r_rald (k := 0) d_Law_law_891 (by decide) o_194 ?_
  refine r_aload_nR d_Law_law_892 rfl ?_
  refine r_iload_n d_Law_law_893 rfl ?_
  refine r_iconst (v := 3) d_Law_law_894 (by decide) ?_
  refine r_iadd d_Law_law_895 ?_
  refine r_rald (k := 0) d_Law_law_896 (by decide) o_195 ?_
  refine r_aload_nR d_Law_law_897 rfl ?_
  refine r_iload_n d_Law_law_898 rfl ?_
  refine r_iconst (v := 4) d_Law_law_899 (by decide) ?_
  refine r_iadd d_Law_law_900 ?_
  refine r_rald (k := 0) d_Law_law_901 (by decide) o_196 ?_
  refine x_callV (as := [.int ((roT xs 0).getD (i3 + 1).toNatClampNeg 0), .int ((roT xs 0).getD (i3 + 2).toNatClampNeg 0), .int ((roT xs 0).getD (i3 + 3).toNatClampNeg 0), .int ((roT xs 0).getD (i3 + 4).toNatClampNeg 0)]) (st := [.int v_199]) d_Law_law_902 ml_Law_99 mc_Mod_stream mv_Mod_stream ⟨by decide, by decide⟩ gO_516 ⟨_, rfl, rfl⟩ rfl (Nat.le_of_ble_eq_true rfl) (Nat.le_of_ble_eq_true rfl) h9 ?_
  rintro _ M_200 L_201 ⟨v_202, rfl, h9⟩
  refine r_ic_eq d_Law_law_905 (fun c_203 => ?_) (fun c_203 => ?_)
  · have h9 := h9.1 c_203
    exact h9
  · have h9 := h9.2 c_203
    refine r_iconst (v := 0) d_Law_law_908 (by decide) ?_
    exact r_iret ⟨d_Law_law_909, _, rfl, rfl⟩ ⟨_, _, rfl, h9⟩
theorem L_Law_law_910 {xs : List Int32} {i3 : Int32} {M : Mem} {L : Int64} {Q : Option Value → Mem → Int64 → Prop} 
    (h : (vp_in (i3 + 1) (roT xs 0).length ∧ (vp_in (i3 + 2) (roT xs 0).length ∧ (vp_in (i3 + 3) (roT xs 0).length ∧ RX xs shL md_Peg_start 0 [.ref 0, .int ((roT xs 0).getD (i3 + 1).toNatClampNeg 0), .int ((roT xs 0).getD (i3 + 2).toNatClampNeg 0), .int ((roT xs 0).getD (i3 + 3).toNatClampNeg 0)] [] M L (fun r M_207 L_208 => ∃ v_209 : Int32, r = some (.int v_209) ∧ RX xs shL md_Mod_start 0 [.ref 516, .int ((roT xs 0).getD (i3 + 1).toNatClampNeg 0), .int ((roT xs 0).getD (i3 + 2).toNatClampNeg 0), .int ((roT xs 0).getD (i3 + 3).toNatClampNeg 0)] [] M_207 L_208 (fun r M_210 L_211 => ∃ v_212 : Int32, r = some (.int v_212) ∧ ((v_209 = v_212 → RX xs shL md_Law_law 1598 [.retAddr 0, .ref 0, .ref 516, .int i3] [] M_210 L_211 Q) ∧ (¬ (v_209 = v_212) → Q (some (.int 0)) M_210 L_211)))))))) : RX xs shL md_Law_law 910 [.retAddr 0, .ref 0, .ref 516, .int i3] [] M L Q := by
  refine r_aload_n d_Law_law_910 rfl ?_
  refine r_aload_nR d_Law_law_911 rfl ?_
  refine r_iload_n d_Law_law_912 rfl ?_
  refine r_iconst (v := 1) d_Law_law_913 (by decide) ?_
  refine r_iadd d_Law_law_914 ?_
  obtain ⟨o_204, h9⟩ := h
  refine r_rald (k := 0) d_Law_law_915 (by decide) o_204 ?_
  refine r_aload_nR d_Law_law_916 rfl ?_
  refine r_iload_n d_Law_law_917 rfl ?_
  refine r_iconst (v := 2) d_Law_law_918 (by decide) ?_
  refine r_iadd d_Law_law_919 ?_
  obtain ⟨o_205, h9⟩ := h9
  refine r_rald (k := 0) d_Law_law_920 (by decide) o_205 ?_
  refine r_aload_nR d_Law_law_921 rfl ?_
  refine r_iload_n d_Law_law_922 rfl ?_
  refine r_iconst (v := 3) d_Law_law_923 (by decide) ?_
  refine r_iadd d_Law_law_924 ?_
  obtain ⟨o_206, h9⟩ := h9
  refine r_rald (k := 0) d_Law_law_925 (by decide) o_206 ?_
  refine x_callV (as := [.int ((roT xs 0).getD (i3 + 1).toNatClampNeg 0), .int ((roT xs 0).getD (i3 + 2).toNatClampNeg 0), .int ((roT xs 0).getD (i3 + 3).toNatClampNeg 0)]) (st := []) d_Law_law_926 ml_Law_100 mc_Peg_start mv_Peg_start ⟨by decide, by decide⟩ gO_0 ⟨_, rfl, rfl⟩ rfl (Nat.le_of_ble_eq_true rfl) (Nat.le_of_ble_eq_true rfl) h9 ?_
  rintro _ M_207 L_208 ⟨v_209, rfl, h9⟩
  refine r_aload_n d_Law_law_929 rfl ?_
  refine r_aload_nR d_Law_law_930 rfl ?_
  refine r_iload_n d_Law_law_931 rfl ?_
  refine r_iconst (v := 1) d_Law_law_932 (by decide) ?_
  refine r_iadd d_Law_law_933 ?_
  refine r_rald (k := 0) d_Law_law_934 (by decide) o_204 ?_
  refine r_aload_nR d_Law_law_935 rfl ?_
  refine r_iload_n d_Law_law_936 rfl ?_
  refine r_iconst (v := 2) d_Law_law_937 (by decide) ?_
  refine r_iadd d_Law_law_938 ?_
  refine r_rald (k := 0) d_Law_law_939 (by decide) o_205 ?_
  refine r_aload_nR d_Law_law_940 rfl ?_
  refine r_iload_n d_Law_law_941 rfl ?_
  refine r_iconst (v := 3) d_Law_law_942 (by decide) ?_
  refine r_iadd d_Law_law_943 ?_
  refine r_rald (k := 0) d_Law_law_944 (by decide) o_206 ?_
  refine x_callV (as := [.int ((roT xs 0).getD (i3 + 1).toNatClampNeg 0), .int ((roT xs 0).getD (i3 + 2).toNatClampNeg 0), .int ((roT xs 0).getD (i3 + 3).toNatClampNeg 0)]) (st := [.int v_209]) d_Law_law_945 ml_Law_103 mc_Mod_start mv_Mod_start ⟨by decide, by decide⟩ gO_516 ⟨_, rfl, rfl⟩ rfl (Nat.le_of_ble_eq_true rfl) (Nat.le_of_ble_eq_true rfl) h9 ?_
  rintro _ M_210 L_211 ⟨v_212, rfl, h9⟩
  refine r_ic_eq d_Law_law_948 (fun c_213 => ?_) (fun c_213 => ?_)
  · have h9 := h9.1 c_213
    exact h9
  · have h9 := h9.2 c_213
    refine r_iconst (v := 0) d_Law_law_951 (by decide) ?_
    exact r_iret ⟨d_Law_law_952, _, rfl, rfl⟩ ⟨_, _, rfl, h9⟩
theorem L_Law_law_953 {xs : List Int32} {i3 : Int32} {M : Mem} {L : Int64} {Q : Option Value → Mem → Int64 → Prop} 
    (h : (vp_in (i3 + 1) (roT xs 0).length ∧ RX xs shL md_Peg_run 0 [.ref 0, .int ((roT xs 0).getD (i3 + 1).toNatClampNeg 0)] [] M L (fun r M_215 L_216 => ∃ v_217 : Int32, r = some (.int v_217) ∧ RX xs shL md_Mod_run 0 [.ref 516, .int ((roT xs 0).getD (i3 + 1).toNatClampNeg 0)] [] M_215 L_216 (fun r M_218 L_219 => ∃ v_220 : Int32, r = some (.int v_220) ∧ ((v_217 = v_220 → RX xs shL md_Law_law 1598 [.retAddr 0, .ref 0, .ref 516, .int i3] [] M_218 L_219 Q) ∧ (¬ (v_217 = v_220) → Q (some (.int 0)) M_218 L_219)))))) : RX xs shL md_Law_law 953 [.retAddr 0, .ref 0, .ref 516, .int i3] [] M L Q := by
  refine r_aload_n d_Law_law_953 rfl ?_
  refine r_aload_nR d_Law_law_954 rfl ?_
  refine r_iload_n d_Law_law_955 rfl ?_
  refine r_iconst (v := 1) d_Law_law_956 (by decide) ?_
  refine r_iadd d_Law_law_957 ?_
  obtain ⟨o_214, h9⟩ := h
  refine r_rald (k := 0) d_Law_law_958 (by decide) o_214 ?_
  refine x_callV (as := [.int ((roT xs 0).getD (i3 + 1).toNatClampNeg 0)]) (st := []) d_Law_law_959 ml_Law_104 mc_Peg_run mv_Peg_run ⟨by decide, by decide⟩ gO_0 ⟨_, rfl, rfl⟩ rfl (Nat.le_of_ble_eq_true rfl) (Nat.le_of_ble_eq_true rfl) h9 ?_
  rintro _ M_215 L_216 ⟨v_217, rfl, h9⟩
  refine r_aload_n d_Law_law_962 rfl ?_
  refine r_aload_nR d_Law_law_963 rfl ?_
  refine r_iload_n d_Law_law_964 rfl ?_
  refine r_iconst (v := 1) d_Law_law_965 (by decide) ?_
  refine r_iadd d_Law_law_966 ?_
  refine r_rald (k := 0) d_Law_law_967 (by decide) o_214 ?_
  refine x_callV (as := [.int ((roT xs 0).getD (i3 + 1).toNatClampNeg 0)]) (st := [.int v_217]) d_Law_law_968 ml_Law_107 mc_Mod_run mv_Mod_run ⟨by decide, by decide⟩ gO_516 ⟨_, rfl, rfl⟩ rfl (Nat.le_of_ble_eq_true rfl) (Nat.le_of_ble_eq_true rfl) h9 ?_
  rintro _ M_218 L_219 ⟨v_220, rfl, h9⟩
  refine r_ic_eq d_Law_law_971 (fun c_221 => ?_) (fun c_221 => ?_)
  · have h9 := h9.1 c_221
    exact h9
  · have h9 := h9.2 c_221
    refine r_iconst (v := 0) d_Law_law_974 (by decide) ?_
    exact r_iret ⟨d_Law_law_975, _, rfl, rfl⟩ ⟨_, _, rfl, h9⟩
theorem L_Law_law_976 {xs : List Int32} {i3 : Int32} {M : Mem} {L : Int64} {Q : Option Value → Mem → Int64 → Prop} 
    (h : (vp_in (i3 + 1) (roT xs 0).length ∧ (vp_in (i3 + 2) (roT xs 0).length ∧ (vp_in (i3 + 3) (roT xs 0).length ∧ RX xs shL md_Peg_sign 0 [.ref 0, .int ((roT xs 0).getD (i3 + 1).toNatClampNeg 0), .int ((roT xs 0).getD (i3 + 2).toNatClampNeg 0), .int ((roT xs 0).getD (i3 + 3).toNatClampNeg 0)] [] M L (fun r M_225 L_226 => ∃ v_227 : Int32, r = some (.int v_227) ∧ RX xs shL md_Mod_sign 0 [.ref 516, .int ((roT xs 0).getD (i3 + 1).toNatClampNeg 0), .int ((roT xs 0).getD (i3 + 2).toNatClampNeg 0), .int ((roT xs 0).getD (i3 + 3).toNatClampNeg 0)] [] M_225 L_226 (fun r M_228 L_229 => ∃ v_230 : Int32, r = some (.int v_230) ∧ ((v_227 = v_230 → RX xs shL md_Law_law 1598 [.retAddr 0, .ref 0, .ref 516, .int i3] [] M_228 L_229 Q) ∧ (¬ (v_227 = v_230) → Q (some (.int 0)) M_228 L_229)))))))) : RX xs shL md_Law_law 976 [.retAddr 0, .ref 0, .ref 516, .int i3] [] M L Q := by
  refine r_aload_n d_Law_law_976 rfl ?_
  refine r_aload_nR d_Law_law_977 rfl ?_
  refine r_iload_n d_Law_law_978 rfl ?_
  refine r_iconst (v := 1) d_Law_law_979 (by decide) ?_
  refine r_iadd d_Law_law_980 ?_
  obtain ⟨o_222, h9⟩ := h
  refine r_rald (k := 0) d_Law_law_981 (by decide) o_222 ?_
  refine r_aload_nR d_Law_law_982 rfl ?_
  refine r_iload_n d_Law_law_983 rfl ?_
  refine r_iconst (v := 2) d_Law_law_984 (by decide) ?_
  refine r_iadd d_Law_law_985 ?_
  obtain ⟨o_223, h9⟩ := h9
  refine r_rald (k := 0) d_Law_law_986 (by decide) o_223 ?_
  refine r_aload_nR d_Law_law_987 rfl ?_
  refine r_iload_n d_Law_law_988 rfl ?_
  refine r_iconst (v := 3) d_Law_law_989 (by decide) ?_
  refine r_iadd d_Law_law_990 ?_
  obtain ⟨o_224, h9⟩ := h9
  refine r_rald (k := 0) d_Law_law_991 (by decide) o_224 ?_
  refine x_callV (as := [.int ((roT xs 0).getD (i3 + 1).toNatClampNeg 0), .int ((roT xs 0).getD (i3 + 2).toNatClampNeg 0), .int ((roT xs 0).getD (i3 + 3).toNatClampNeg 0)]) (st := []) d_Law_law_992 ml_Law_108 mc_Peg_sign mv_Peg_sign ⟨by decide, by decide⟩ gO_0 ⟨_, rfl, rfl⟩ rfl (Nat.le_of_ble_eq_true rfl) (Nat.le_of_ble_eq_true rfl) h9 ?_
  rintro _ M_225 L_226 ⟨v_227, rfl, h9⟩
  refine r_aload_n d_Law_law_995 rfl ?_
  refine r_aload_nR d_Law_law_996 rfl ?_
  refine r_iload_n d_Law_law_997 rfl ?_
  refine r_iconst (v := 1) d_Law_law_998 (by decide) ?_
  refine r_iadd d_Law_law_999 ?_
  refine r_rald (k := 0) d_Law_law_1000 (by decide) o_222 ?_
  refine r_aload_nR d_Law_law_1001 rfl ?_
  refine r_iload_n d_Law_law_1002 rfl ?_
  refine r_iconst (v := 2) d_Law_law_1003 (by decide) ?_
  refine r_iadd d_Law_law_1004 ?_
  refine r_rald (k := 0) d_Law_law_1005 (by decide) o_223 ?_
  refine r_aload_nR d_Law_law_1006 rfl ?_
  refine r_iload_n d_Law_law_1007 rfl ?_
  refine r_iconst (v := 3) d_Law_law_1008 (by decide) ?_
  refine r_iadd d_Law_law_1009 ?_
  refine r_rald (k := 0) d_Law_law_1010 (by decide) o_224 ?_
  refine x_callV (as := [.int ((roT xs 0).getD (i3 + 1).toNatClampNeg 0), .int ((roT xs 0).getD (i3 + 2).toNatClampNeg 0), .int ((roT xs 0).getD (i3 + 3).toNatClampNeg 0)]) (st := [.int v_227]) d_Law_law_1011 ml_Law_111 mc_Mod_sign mv_Mod_sign ⟨by decide, by decide⟩ gO_516 ⟨_, rfl, rfl⟩ rfl (Nat.le_of_ble_eq_true rfl) (Nat.le_of_ble_eq_true rfl) h9 ?_
  rintro _ M_228 L_229 ⟨v_230, rfl, h9⟩
  refine r_ic_eq d_Law_law_1014 (fun c_231 => ?_) (fun c_231 => ?_)
  · have h9 := h9.1 c_231
    exact h9
  · have h9 := h9.2 c_231
    refine r_iconst (v := 0) d_Law_law_1017 (by decide) ?_
    exact r_iret ⟨d_Law_law_1018, _, rfl, rfl⟩ ⟨_, _, rfl, h9⟩
set_option maxHeartbeats 4000000 in
theorem L_Law_law_1019 {xs : List Int32} {i3 : Int32} {M : Mem} {L : Int64} {Q : Option Value → Mem → Int64 → Prop} 
    (h : (vp_in (i3 + 1) (roT xs 0).length ∧ (vp_in (i3 + 2) (roT xs 0).length ∧ ((((roT xs 0).getD (i3 + 2).toNatClampNeg 0) = 0 → RX xs shL md_Peg_count 0 [.ref 0, .int ((roT xs 0).getD (i3 + 1).toNatClampNeg 0), .int 0] [] M L (fun r M_235 L_236 => ∃ v_237 : Int32, r = some (.int v_237) ∧ ((((roT xs 0).getD (i3 + 2).toNatClampNeg 0) = 0 → RX xs shL md_Mod_count 0 [.ref 516, .int ((roT xs 0).getD (i3 + 1).toNatClampNeg 0), .int 0] [] M_235 L_236 (fun r M_239 L_240 => ∃ v_241 : Int32, r = some (.int v_241) ∧ ((v_237 = v_241 → RX xs shL md_Law_law 1598 [.retAddr 0, .ref 0, .ref 516, .int i3] [] M_239 L_240 Q) ∧ (¬ (v_237 = v_241) → Q (some (.int 0)) M_239 L_240)))) ∧ (¬ (((roT xs 0).getD (i3 + 2).toNatClampNeg 0) = 0) → RX xs shL md_Mod_count 0 [.ref 516, .int ((roT xs 0).getD (i3 + 1).toNatClampNeg 0), .int 1] [] M_235 L_236 (fun r M_243 L_244 => ∃ v_245 : Int32, r = some (.int v_245) ∧ ((v_237 = v_245 → RX xs shL md_Law_law 1598 [.retAddr 0, .ref 0, .ref 516, .int i3] [] M_243 L_244 Q) ∧ (¬ (v_237 = v_245) → Q (some (.int 0)) M_243 L_244))))))) ∧ (¬ (((roT xs 0).getD (i3 + 2).toNatClampNeg 0) = 0) → RX xs shL md_Peg_count 0 [.ref 0, .int ((roT xs 0).getD (i3 + 1).toNatClampNeg 0), .int 1] [] M L (fun r M_247 L_248 => ∃ v_249 : Int32, r = some (.int v_249) ∧ ((((roT xs 0).getD (i3 + 2).toNatClampNeg 0) = 0 → RX xs shL md_Mod_count 0 [.ref 516, .int ((roT xs 0).getD (i3 + 1).toNatClampNeg 0), .int 0] [] M_247 L_248 (fun r M_251 L_252 => ∃ v_253 : Int32, r = some (.int v_253) ∧ ((v_249 = v_253 → RX xs shL md_Law_law 1598 [.retAddr 0, .ref 0, .ref 516, .int i3] [] M_251 L_252 Q) ∧ (¬ (v_249 = v_253) → Q (some (.int 0)) M_251 L_252)))) ∧ (¬ (((roT xs 0).getD (i3 + 2).toNatClampNeg 0) = 0) → RX xs shL md_Mod_count 0 [.ref 516, .int ((roT xs 0).getD (i3 + 1).toNatClampNeg 0), .int 1] [] M_247 L_248 (fun r M_255 L_256 => ∃ v_257 : Int32, r = some (.int v_257) ∧ ((v_249 = v_257 → RX xs shL md_Law_law 1598 [.retAddr 0, .ref 0, .ref 516, .int i3] [] M_255 L_256 Q) ∧ (¬ (v_249 = v_257) → Q (some (.int 0)) M_255 L_256))))))))))) : RX xs shL md_Law_law 1019 [.retAddr 0, .ref 0, .ref 516, .int i3] [] M L Q := by
  refine r_aload_n d_Law_law_1019 rfl ?_
  refine r_aload_nR d_Law_law_1020 rfl ?_
  refine r_iload_n d_Law_law_1021 rfl ?_
  refine r_iconst (v := 1) d_Law_law_1022 (by decide) ?_
  refine r_iadd d_Law_law_1023 ?_
  obtain ⟨o_232, h9⟩ := h
  refine r_rald (k := 0) d_Law_law_1024 (by decide) o_232 ?_
  refine r_aload_nR d_Law_law_1025 rfl ?_
  refine r_iload_n d_Law_law_1026 rfl ?_
  refine r_iconst (v := 2) d_Law_law_1027 (by decide) ?_
  refine r_iadd d_Law_law_1028 ?_
  obtain ⟨o_233, h9⟩ := h9
  refine r_rald (k := 0) d_Law_law_1029 (by decide) o_233 ?_
  refine r_if_eq d_Law_law_1030 (fun c_234 => ?_) (fun c_234 => ?_)
  · have h9 := h9.1 c_234
    refine r_iconst (v := 0) d_Law_law_1037 (by decide) ?_
    refine x_callV (as := [.int ((roT xs 0).getD (i3 + 1).toNatClampNeg 0), .int 0]) (st := []) d_Law_law_1038 ml_Law_112 mc_Peg_count mv_Peg_count ⟨by decide, by decide⟩ gO_0 ⟨_, rfl, rfl⟩ rfl (Nat.le_of_ble_eq_true rfl) (Nat.le_of_ble_eq_true rfl) h9 ?_
    rintro _ M_235 L_236 ⟨v_237, rfl, h9⟩
    refine r_aload_n d_Law_law_1041 rfl ?_
    refine r_aload_nR d_Law_law_1042 rfl ?_
    refine r_iload_n d_Law_law_1043 rfl ?_
    refine r_iconst (v := 1) d_Law_law_1044 (by decide) ?_
    refine r_iadd d_Law_law_1045 ?_
    refine r_rald (k := 0) d_Law_law_1046 (by decide) o_232 ?_
    refine r_aload_nR d_Law_law_1047 rfl ?_
    refine r_iload_n d_Law_law_1048 rfl ?_
    refine r_iconst (v := 2) d_Law_law_1049 (by decide) ?_
    refine r_iadd d_Law_law_1050 ?_
    refine r_rald (k := 0) d_Law_law_1051 (by decide) o_233 ?_
    refine r_if_eq d_Law_law_1052 (fun c_238 => ?_) (fun c_238 => ?_)
    · have h9 := h9.1 c_238
      refine r_iconst (v := 0) d_Law_law_1059 (by decide) ?_
      refine x_callV (as := [.int ((roT xs 0).getD (i3 + 1).toNatClampNeg 0), .int 0]) (st := [.int v_237]) d_Law_law_1060 ml_Law_116 mc_Mod_count mv_Mod_count ⟨by decide, by decide⟩ gO_516 ⟨_, rfl, rfl⟩ rfl (Nat.le_of_ble_eq_true rfl) (Nat.le_of_ble_eq_true rfl) h9 ?_
      rintro _ M_239 L_240 ⟨v_241, rfl, h9⟩
      refine r_ic_eq d_Law_law_1063 (fun c_242 => ?_) (fun c_242 => ?_)
      · have h9 := h9.1 c_242
        exact h9
      · have h9 := h9.2 c_242
        refine r_iconst (v := 0) d_Law_law_1066 (by decide) ?_
        exact r_iret ⟨d_Law_law_1067, _, rfl, rfl⟩ ⟨_, _, rfl, h9⟩
    · have h9 := h9.2 c_238
      refine r_iconst (v := 1) d_Law_law_1055 (by decide) ?_
      refine r_goto d_Law_law_1056 ?_
      refine x_callV (as := [.int ((roT xs 0).getD (i3 + 1).toNatClampNeg 0), .int 1]) (st := [.int v_237]) d_Law_law_1060 ml_Law_116 mc_Mod_count mv_Mod_count ⟨by decide, by decide⟩ gO_516 ⟨_, rfl, rfl⟩ rfl (Nat.le_of_ble_eq_true rfl) (Nat.le_of_ble_eq_true rfl) h9 ?_
      rintro _ M_243 L_244 ⟨v_245, rfl, h9⟩
      refine r_ic_eq d_Law_law_1063 (fun c_246 => ?_) (fun c_246 => ?_)
      · have h9 := h9.1 c_246
        exact h9
      · have h9 := h9.2 c_246
        refine r_iconst (v := 0) d_Law_law_1066 (by decide) ?_
        exact r_iret ⟨d_Law_law_1067, _, rfl, rfl⟩ ⟨_, _, rfl, h9⟩
  · have h9 := h9.2 c_234
    refine r_iconst (v := 1) d_Law_law_1033 (by decide) ?_
    refine r_goto d_Law_law_1034 ?_
    refine x_callV (as := [.int ((roT xs 0).getD (i3 + 1).toNatClampNeg 0), .int 1]) (st := []) d_Law_law_1038 ml_Law_112 mc_Peg_count mv_Peg_count ⟨by decide, by decide⟩ gO_0 ⟨_, rfl, rfl⟩ rfl (Nat.le_of_ble_eq_true rfl) (Nat.le_of_ble_eq_true rfl) h9 ?_
    rintro _ M_247 L_248 ⟨v_249, rfl, h9⟩
    refine r_aload_n d_Law_law_1041 rfl ?_
    refine r_aload_nR d_Law_law_1042 rfl ?_
    refine r_iload_n d_Law_law_1043 rfl ?_
    refine r_iconst (v := 1) d_Law_law_1044 (by decide) ?_
    refine r_iadd d_Law_law_1045 ?_
    refine r_rald (k := 0) d_Law_law_1046 (by decide) o_232 ?_
    refine r_aload_nR d_Law_law_1047 rfl ?_
    refine r_iload_n d_Law_law_1048 rfl ?_
    refine r_iconst (v := 2) d_Law_law_1049 (by decide) ?_
    refine r_iadd d_Law_law_1050 ?_
    refine r_rald (k := 0) d_Law_law_1051 (by decide) o_233 ?_
    refine r_if_eq d_Law_law_1052 (fun c_250 => ?_) (fun c_250 => ?_)
    · have h9 := h9.1 c_250
      refine r_iconst (v := 0) d_Law_law_1059 (by decide) ?_
      refine x_callV (as := [.int ((roT xs 0).getD (i3 + 1).toNatClampNeg 0), .int 0]) (st := [.int v_249]) d_Law_law_1060 ml_Law_116 mc_Mod_count mv_Mod_count ⟨by decide, by decide⟩ gO_516 ⟨_, rfl, rfl⟩ rfl (Nat.le_of_ble_eq_true rfl) (Nat.le_of_ble_eq_true rfl) h9 ?_
      rintro _ M_251 L_252 ⟨v_253, rfl, h9⟩
      refine r_ic_eq d_Law_law_1063 (fun c_254 => ?_) (fun c_254 => ?_)
      · have h9 := h9.1 c_254
        exact h9
      · have h9 := h9.2 c_254
        refine r_iconst (v := 0) d_Law_law_1066 (by decide) ?_
        exact r_iret ⟨d_Law_law_1067, _, rfl, rfl⟩ ⟨_, _, rfl, h9⟩
    · have h9 := h9.2 c_250
      refine r_iconst (v := 1) d_Law_law_1055 (by decide) ?_
      refine r_goto d_Law_law_1056 ?_
      refine x_callV (as := [.int ((roT xs 0).getD (i3 + 1).toNatClampNeg 0), .int 1]) (st := [.int v_249]) d_Law_law_1060 ml_Law_116 mc_Mod_count mv_Mod_count ⟨by decide, by decide⟩ gO_516 ⟨_, rfl, rfl⟩ rfl (Nat.le_of_ble_eq_true rfl) (Nat.le_of_ble_eq_true rfl) h9 ?_
      rintro _ M_255 L_256 ⟨v_257, rfl, h9⟩
      refine r_ic_eq d_Law_law_1063 (fun c_258 => ?_) (fun c_258 => ?_)
      · have h9 := h9.1 c_258
        exact h9
      · have h9 := h9.2 c_258
        refine r_iconst (v := 0) d_Law_law_1066 (by decide) ?_
        exact r_iret ⟨d_Law_law_1067, _, rfl, rfl⟩ ⟨_, _, rfl, h9⟩
theorem L_Law_law_1068 {xs : List Int32} {i3 : Int32} {M : Mem} {L : Int64} {Q : Option Value → Mem → Int64 → Prop} 
    (h : RX xs shL md_Peg_strike 0 [.ref 0] [] M L (fun r M_259 L_260 => ∃ v_261 : Int32, r = some (.int v_261) ∧ RX xs shL md_Mod_strike 0 [.ref 516] [] M_259 L_260 (fun r M_262 L_263 => ∃ v_264 : Int32, r = some (.int v_264) ∧ ((v_261 = v_264 → RX xs shL md_Law_law 1598 [.retAddr 0, .ref 0, .ref 516, .int i3] [] M_262 L_263 Q) ∧ (¬ (v_261 = v_264) → Q (some (.int 0)) M_262 L_263))))) : RX xs shL md_Law_law 1068 [.retAddr 0, .ref 0, .ref 516, .int i3] [] M L Q := by
  refine r_aload_n d_Law_law_1068 rfl ?_
  refine x_callV (as := []) (st := []) d_Law_law_1069 ml_Law_117 mc_Peg_strike mv_Peg_strike ⟨by decide, by decide⟩ gO_0 ⟨_, rfl, rfl⟩ rfl (Nat.le_of_ble_eq_true rfl) (Nat.le_of_ble_eq_true rfl) h ?_
  rintro _ M_259 L_260 ⟨v_261, rfl, h9⟩
  refine r_aload_n d_Law_law_1072 rfl ?_
  refine x_callV (as := []) (st := [.int v_261]) d_Law_law_1073 ml_Law_120 mc_Mod_strike mv_Mod_strike ⟨by decide, by decide⟩ gO_516 ⟨_, rfl, rfl⟩ rfl (Nat.le_of_ble_eq_true rfl) (Nat.le_of_ble_eq_true rfl) h9 ?_
  rintro _ M_262 L_263 ⟨v_264, rfl, h9⟩
  refine r_ic_eq d_Law_law_1076 (fun c_265 => ?_) (fun c_265 => ?_)
  · have h9 := h9.1 c_265
    exact h9
  · have h9 := h9.2 c_265
    refine r_iconst (v := 0) d_Law_law_1079 (by decide) ?_
    exact r_iret ⟨d_Law_law_1080, _, rfl, rfl⟩ ⟨_, _, rfl, h9⟩
theorem L_Law_law_1081 {xs : List Int32} {i3 : Int32} {M : Mem} {L : Int64} {Q : Option Value → Mem → Int64 → Prop} 
    (h : (vp_in (i3 + 1) (roT xs 0).length ∧ (vp_in (i3 + 2) (roT xs 0).length ∧ RX xs shL md_Peg_row 0 [.ref 0, .int ((roT xs 0).getD (i3 + 1).toNatClampNeg 0), .int ((roT xs 0).getD (i3 + 2).toNatClampNeg 0)] [] M L (fun r M_268 L_269 => ∃ v_270 : Int32, r = some (.int v_270) ∧ RX xs shL md_Mod_row 0 [.ref 516, .int ((roT xs 0).getD (i3 + 1).toNatClampNeg 0), .int ((roT xs 0).getD (i3 + 2).toNatClampNeg 0)] [] M_268 L_269 (fun r M_271 L_272 => ∃ v_273 : Int32, r = some (.int v_273) ∧ ((v_270 = v_273 → RX xs shL md_Law_law 1598 [.retAddr 0, .ref 0, .ref 516, .int i3] [] M_271 L_272 Q) ∧ (¬ (v_270 = v_273) → Q (some (.int 0)) M_271 L_272))))))) : RX xs shL md_Law_law 1081 [.retAddr 0, .ref 0, .ref 516, .int i3] [] M L Q := by
  refine r_aload_n d_Law_law_1081 rfl ?_
  refine r_aload_nR d_Law_law_1082 rfl ?_
  refine r_iload_n d_Law_law_1083 rfl ?_
  refine r_iconst (v := 1) d_Law_law_1084 (by decide) ?_
  refine r_iadd d_Law_law_1085 ?_
  obtain ⟨o_266, h9⟩ := h
  refine r_rald (k := 0) d_Law_law_1086 (by decide) o_266 ?_
  refine r_aload_nR d_Law_law_1087 rfl ?_
  refine r_iload_n d_Law_law_1088 rfl ?_
  refine r_iconst (v := 2) d_Law_law_1089 (by decide) ?_
  refine r_iadd d_Law_law_1090 ?_
  obtain ⟨o_267, h9⟩ := h9
  refine r_rald (k := 0) d_Law_law_1091 (by decide) o_267 ?_
  refine x_callV (as := [.int ((roT xs 0).getD (i3 + 1).toNatClampNeg 0), .int ((roT xs 0).getD (i3 + 2).toNatClampNeg 0)]) (st := []) d_Law_law_1092 ml_Law_121 mc_Peg_row mv_Peg_row ⟨by decide, by decide⟩ gO_0 ⟨_, rfl, rfl⟩ rfl (Nat.le_of_ble_eq_true rfl) (Nat.le_of_ble_eq_true rfl) h9 ?_
  rintro _ M_268 L_269 ⟨v_270, rfl, h9⟩
  refine r_aload_n d_Law_law_1095 rfl ?_
  refine r_aload_nR d_Law_law_1096 rfl ?_
  refine r_iload_n d_Law_law_1097 rfl ?_
  refine r_iconst (v := 1) d_Law_law_1098 (by decide) ?_
  refine r_iadd d_Law_law_1099 ?_
  refine r_rald (k := 0) d_Law_law_1100 (by decide) o_266 ?_
  refine r_aload_nR d_Law_law_1101 rfl ?_
  refine r_iload_n d_Law_law_1102 rfl ?_
  refine r_iconst (v := 2) d_Law_law_1103 (by decide) ?_
  refine r_iadd d_Law_law_1104 ?_
  refine r_rald (k := 0) d_Law_law_1105 (by decide) o_267 ?_
  refine x_callV (as := [.int ((roT xs 0).getD (i3 + 1).toNatClampNeg 0), .int ((roT xs 0).getD (i3 + 2).toNatClampNeg 0)]) (st := [.int v_270]) d_Law_law_1106 ml_Law_124 mc_Mod_row mv_Mod_row ⟨by decide, by decide⟩ gO_516 ⟨_, rfl, rfl⟩ rfl (Nat.le_of_ble_eq_true rfl) (Nat.le_of_ble_eq_true rfl) h9 ?_
  rintro _ M_271 L_272 ⟨v_273, rfl, h9⟩
  refine r_ic_eq d_Law_law_1109 (fun c_274 => ?_) (fun c_274 => ?_)
  · have h9 := h9.1 c_274
    exact h9
  · have h9 := h9.2 c_274
    refine r_iconst (v := 0) d_Law_law_1112 (by decide) ?_
    exact r_iret ⟨d_Law_law_1113, _, rfl, rfl⟩ ⟨_, _, rfl, h9⟩
theorem L_Law_law_1114 {xs : List Int32} {i3 : Int32} {M : Mem} {L : Int64} {Q : Option Value → Mem → Int64 → Prop} 
    (h : (vp_in (i3 + 1) (roT xs 0).length ∧ RX xs shL md_Peg_patch 0 [.ref 0, .int ((roT xs 0).getD (i3 + 1).toNatClampNeg 0)] [] M L (fun r M_276 L_277 => ∃ v_278 : Int32, r = some (.int v_278) ∧ RX xs shL md_Mod_patch 0 [.ref 516, .int ((roT xs 0).getD (i3 + 1).toNatClampNeg 0)] [] M_276 L_277 (fun r M_279 L_280 => ∃ v_281 : Int32, r = some (.int v_281) ∧ ((v_278 = v_281 → RX xs shL md_Law_law 1598 [.retAddr 0, .ref 0, .ref 516, .int i3] [] M_279 L_280 Q) ∧ (¬ (v_278 = v_281) → Q (some (.int 0)) M_279 L_280)))))) : RX xs shL md_Law_law 1114 [.retAddr 0, .ref 0, .ref 516, .int i3] [] M L Q := by
  refine r_aload_n d_Law_law_1114 rfl ?_
  refine r_aload_nR d_Law_law_1115 rfl ?_
  refine r_iload_n d_Law_law_1116 rfl ?_
  refine r_iconst (v := 1) d_Law_law_1117 (by decide) ?_
  refine r_iadd d_Law_law_1118 ?_
  obtain ⟨o_275, h9⟩ := h
  refine r_rald (k := 0) d_Law_law_1119 (by decide) o_275 ?_
  refine x_callV (as := [.int ((roT xs 0).getD (i3 + 1).toNatClampNeg 0)]) (st := []) d_Law_law_1120 ml_Law_125 mc_Peg_patch mv_Peg_patch ⟨by decide, by decide⟩ gO_0 ⟨_, rfl, rfl⟩ rfl (Nat.le_of_ble_eq_true rfl) (Nat.le_of_ble_eq_true rfl) h9 ?_
  rintro _ M_276 L_277 ⟨v_278, rfl, h9⟩
  refine r_aload_n d_Law_law_1123 rfl ?_
  refine r_aload_nR d_Law_law_1124 rfl ?_
  refine r_iload_n d_Law_law_1125 rfl ?_
  refine r_iconst (v := 1) d_Law_law_1126 (by decide) ?_
  refine r_iadd d_Law_law_1127 ?_
  refine r_rald (k := 0) d_Law_law_1128 (by decide) o_275 ?_
  refine x_callV (as := [.int ((roT xs 0).getD (i3 + 1).toNatClampNeg 0)]) (st := [.int v_278]) d_Law_law_1129 ml_Law_128 mc_Mod_patch mv_Mod_patch ⟨by decide, by decide⟩ gO_516 ⟨_, rfl, rfl⟩ rfl (Nat.le_of_ble_eq_true rfl) (Nat.le_of_ble_eq_true rfl) h9 ?_
  rintro _ M_279 L_280 ⟨v_281, rfl, h9⟩
  refine r_ic_eq d_Law_law_1132 (fun c_282 => ?_) (fun c_282 => ?_)
  · have h9 := h9.1 c_282
    exact h9
  · have h9 := h9.2 c_282
    refine r_iconst (v := 0) d_Law_law_1135 (by decide) ?_
    exact r_iret ⟨d_Law_law_1136, _, rfl, rfl⟩ ⟨_, _, rfl, h9⟩
theorem L_Law_law_1137 {xs : List Int32} {i3 : Int32} {M : Mem} {L : Int64} {Q : Option Value → Mem → Int64 → Prop} 
    (h : (vp_in (i3 + 1) (roT xs 0).length ∧ (vp_in (i3 + 2) (roT xs 0).length ∧ (vp_in (i3 + 3) (roT xs 0).length ∧ RX xs shL md_Peg_has 0 [.ref 0, .int ((roT xs 0).getD (i3 + 1).toNatClampNeg 0), .int ((roT xs 0).getD (i3 + 2).toNatClampNeg 0), .int ((roT xs 0).getD (i3 + 3).toNatClampNeg 0)] [] M L (fun r M_286 L_287 => ∃ v_288 : Int32, r = some (.int v_288) ∧ RX xs shL md_Mod_has 0 [.ref 516, .int ((roT xs 0).getD (i3 + 1).toNatClampNeg 0), .int ((roT xs 0).getD (i3 + 2).toNatClampNeg 0), .int ((roT xs 0).getD (i3 + 3).toNatClampNeg 0)] [] M_286 L_287 (fun r M_289 L_290 => ∃ v_291 : Int32, r = some (.int v_291) ∧ ((v_288 = v_291 → RX xs shL md_Law_law 1598 [.retAddr 0, .ref 0, .ref 516, .int i3] [] M_289 L_290 Q) ∧ (¬ (v_288 = v_291) → Q (some (.int 0)) M_289 L_290)))))))) : RX xs shL md_Law_law 1137 [.retAddr 0, .ref 0, .ref 516, .int i3] [] M L Q := by
  refine r_aload_n d_Law_law_1137 rfl ?_
  refine r_aload_nR d_Law_law_1138 rfl ?_
  refine r_iload_n d_Law_law_1139 rfl ?_
  refine r_iconst (v := 1) d_Law_law_1140 (by decide) ?_
  refine r_iadd d_Law_law_1141 ?_
  obtain ⟨o_283, h9⟩ := h
  refine r_rald (k := 0) d_Law_law_1142 (by decide) o_283 ?_
  refine r_aload_nR d_Law_law_1143 rfl ?_
  refine r_iload_n d_Law_law_1144 rfl ?_
  refine r_iconst (v := 2) d_Law_law_1145 (by decide) ?_
  refine r_iadd d_Law_law_1146 ?_
  obtain ⟨o_284, h9⟩ := h9
  refine r_rald (k := 0) d_Law_law_1147 (by decide) o_284 ?_
  refine r_aload_nR d_Law_law_1148 rfl ?_
  refine r_iload_n d_Law_law_1149 rfl ?_
  refine r_iconst (v := 3) d_Law_law_1150 (by decide) ?_
  refine r_iadd d_Law_law_1151 ?_
  obtain ⟨o_285, h9⟩ := h9
  refine r_rald (k := 0) d_Law_law_1152 (by decide) o_285 ?_
  refine x_callV (as := [.int ((roT xs 0).getD (i3 + 1).toNatClampNeg 0), .int ((roT xs 0).getD (i3 + 2).toNatClampNeg 0), .int ((roT xs 0).getD (i3 + 3).toNatClampNeg 0)]) (st := []) d_Law_law_1153 ml_Law_129 mc_Peg_has mv_Peg_has ⟨by decide, by decide⟩ gO_0 ⟨_, rfl, rfl⟩ rfl (Nat.le_of_ble_eq_true rfl) (Nat.le_of_ble_eq_true rfl) h9 ?_
  rintro _ M_286 L_287 ⟨v_288, rfl, h9⟩
  refine r_aload_n d_Law_law_1156 rfl ?_
  refine r_aload_nR d_Law_law_1157 rfl ?_
  refine r_iload_n d_Law_law_1158 rfl ?_
  refine r_iconst (v := 1) d_Law_law_1159 (by decide) ?_
  refine r_iadd d_Law_law_1160 ?_
  refine r_rald (k := 0) d_Law_law_1161 (by decide) o_283 ?_
  refine r_aload_nR d_Law_law_1162 rfl ?_
  refine r_iload_n d_Law_law_1163 rfl ?_
  refine r_iconst (v := 2) d_Law_law_1164 (by decide) ?_
  refine r_iadd d_Law_law_1165 ?_
  refine r_rald (k := 0) d_Law_law_1166 (by decide) o_284 ?_
  refine r_aload_nR d_Law_law_1167 rfl ?_
  refine r_iload_n d_Law_law_1168 rfl ?_
  refine r_iconst (v := 3) d_Law_law_1169 (by decide) ?_
  refine r_iadd d_Law_law_1170 ?_
  refine r_rald (k := 0) d_Law_law_1171 (by decide) o_285 ?_
  refine x_callV (as := [.int ((roT xs 0).getD (i3 + 1).toNatClampNeg 0), .int ((roT xs 0).getD (i3 + 2).toNatClampNeg 0), .int ((roT xs 0).getD (i3 + 3).toNatClampNeg 0)]) (st := [.int v_288]) d_Law_law_1172 ml_Law_132 mc_Mod_has mv_Mod_has ⟨by decide, by decide⟩ gO_516 ⟨_, rfl, rfl⟩ rfl (Nat.le_of_ble_eq_true rfl) (Nat.le_of_ble_eq_true rfl) h9 ?_
  rintro _ M_289 L_290 ⟨v_291, rfl, h9⟩
  refine r_ic_eq d_Law_law_1175 (fun c_292 => ?_) (fun c_292 => ?_)
  · have h9 := h9.1 c_292
    exact h9
  · have h9 := h9.2 c_292
    refine r_iconst (v := 0) d_Law_law_1178 (by decide) ?_
    exact r_iret ⟨d_Law_law_1179, _, rfl, rfl⟩ ⟨_, _, rfl, h9⟩
theorem L_Law_law_1180 {xs : List Int32} {i3 : Int32} {M : Mem} {L : Int64} {Q : Option Value → Mem → Int64 → Prop} 
    (h : (vp_in (i3 + 1) (roT xs 0).length ∧ RX xs shL md_Peg_here 0 [.ref 0, .int ((roT xs 0).getD (i3 + 1).toNatClampNeg 0)] [] M L (fun r M_294 L_295 => ∃ v_296 : Int32, r = some (.int v_296) ∧ RX xs shL md_Mod_here 0 [.ref 516, .int ((roT xs 0).getD (i3 + 1).toNatClampNeg 0)] [] M_294 L_295 (fun r M_297 L_298 => ∃ v_299 : Int32, r = some (.int v_299) ∧ ((v_296 = v_299 → RX xs shL md_Law_law 1598 [.retAddr 0, .ref 0, .ref 516, .int i3] [] M_297 L_298 Q) ∧ (¬ (v_296 = v_299) → Q (some (.int 0)) M_297 L_298)))))) : RX xs shL md_Law_law 1180 [.retAddr 0, .ref 0, .ref 516, .int i3] [] M L Q := by
  refine r_aload_n d_Law_law_1180 rfl ?_
  refine r_aload_nR d_Law_law_1181 rfl ?_
  refine r_iload_n d_Law_law_1182 rfl ?_
  refine r_iconst (v := 1) d_Law_law_1183 (by decide) ?_
  refine r_iadd d_Law_law_1184 ?_
  obtain ⟨o_293, h9⟩ := h
  refine r_rald (k := 0) d_Law_law_1185 (by decide) o_293 ?_
  refine x_callV (as := [.int ((roT xs 0).getD (i3 + 1).toNatClampNeg 0)]) (st := []) d_Law_law_1186 ml_Law_133 mc_Peg_here mv_Peg_here ⟨by decide, by decide⟩ gO_0 ⟨_, rfl, rfl⟩ rfl (Nat.le_of_ble_eq_true rfl) (Nat.le_of_ble_eq_true rfl) h9 ?_
  rintro _ M_294 L_295 ⟨v_296, rfl, h9⟩
  refine r_aload_n d_Law_law_1189 rfl ?_
  refine r_aload_nR d_Law_law_1190 rfl ?_
  refine r_iload_n d_Law_law_1191 rfl ?_
  refine r_iconst (v := 1) d_Law_law_1192 (by decide) ?_
  refine r_iadd d_Law_law_1193 ?_
  refine r_rald (k := 0) d_Law_law_1194 (by decide) o_293 ?_
  refine x_callV (as := [.int ((roT xs 0).getD (i3 + 1).toNatClampNeg 0)]) (st := [.int v_296]) d_Law_law_1195 ml_Law_136 mc_Mod_here mv_Mod_here ⟨by decide, by decide⟩ gO_516 ⟨_, rfl, rfl⟩ rfl (Nat.le_of_ble_eq_true rfl) (Nat.le_of_ble_eq_true rfl) h9 ?_
  rintro _ M_297 L_298 ⟨v_299, rfl, h9⟩
  refine r_ic_eq d_Law_law_1198 (fun c_300 => ?_) (fun c_300 => ?_)
  · have h9 := h9.1 c_300
    exact h9
  · have h9 := h9.2 c_300
    refine r_iconst (v := 0) d_Law_law_1201 (by decide) ?_
    exact r_iret ⟨d_Law_law_1202, _, rfl, rfl⟩ ⟨_, _, rfl, h9⟩
theorem L_Law_law_1203 {xs : List Int32} {i3 : Int32} {M : Mem} {L : Int64} {Q : Option Value → Mem → Int64 → Prop} 
    (h : (vp_in (i3 + 1) (roT xs 0).length ∧ (vp_in (i3 + 2) (roT xs 0).length ∧ (vp_in (i3 + 3) (roT xs 0).length ∧ RX xs shL md_Peg_was 0 [.ref 0, .int ((roT xs 0).getD (i3 + 1).toNatClampNeg 0), .int ((roT xs 0).getD (i3 + 2).toNatClampNeg 0), .int ((roT xs 0).getD (i3 + 3).toNatClampNeg 0)] [] M L (fun r M_304 L_305 => ∃ v_306 : Int32, r = some (.int v_306) ∧ RX xs shL md_Mod_was 0 [.ref 516, .int ((roT xs 0).getD (i3 + 1).toNatClampNeg 0), .int ((roT xs 0).getD (i3 + 2).toNatClampNeg 0), .int ((roT xs 0).getD (i3 + 3).toNatClampNeg 0)] [] M_304 L_305 (fun r M_307 L_308 => ∃ v_309 : Int32, r = some (.int v_309) ∧ ((v_306 = v_309 → RX xs shL md_Law_law 1598 [.retAddr 0, .ref 0, .ref 516, .int i3] [] M_307 L_308 Q) ∧ (¬ (v_306 = v_309) → Q (some (.int 0)) M_307 L_308)))))))) : RX xs shL md_Law_law 1203 [.retAddr 0, .ref 0, .ref 516, .int i3] [] M L Q := by
  refine r_aload_n d_Law_law_1203 rfl ?_
  refine r_aload_nR d_Law_law_1204 rfl ?_
  refine r_iload_n d_Law_law_1205 rfl ?_
  refine r_iconst (v := 1) d_Law_law_1206 (by decide) ?_
  refine r_iadd d_Law_law_1207 ?_
  obtain ⟨o_301, h9⟩ := h
  refine r_rald (k := 0) d_Law_law_1208 (by decide) o_301 ?_
  refine r_aload_nR d_Law_law_1209 rfl ?_
  refine r_iload_n d_Law_law_1210 rfl ?_
  refine r_iconst (v := 2) d_Law_law_1211 (by decide) ?_
  refine r_iadd d_Law_law_1212 ?_
  obtain ⟨o_302, h9⟩ := h9
  refine r_rald (k := 0) d_Law_law_1213 (by decide) o_302 ?_
  refine r_aload_nR d_Law_law_1214 rfl ?_
  refine r_iload_n d_Law_law_1215 rfl ?_
  refine r_iconst (v := 3) d_Law_law_1216 (by decide) ?_
  refine r_iadd d_Law_law_1217 ?_
  obtain ⟨o_303, h9⟩ := h9
  refine r_rald (k := 0) d_Law_law_1218 (by decide) o_303 ?_
  refine x_callV (as := [.int ((roT xs 0).getD (i3 + 1).toNatClampNeg 0), .int ((roT xs 0).getD (i3 + 2).toNatClampNeg 0), .int ((roT xs 0).getD (i3 + 3).toNatClampNeg 0)]) (st := []) d_Law_law_1219 ml_Law_137 mc_Peg_was mv_Peg_was ⟨by decide, by decide⟩ gO_0 ⟨_, rfl, rfl⟩ rfl (Nat.le_of_ble_eq_true rfl) (Nat.le_of_ble_eq_true rfl) h9 ?_
  rintro _ M_304 L_305 ⟨v_306, rfl, h9⟩
  refine r_aload_n d_Law_law_1222 rfl ?_
  refine r_aload_nR d_Law_law_1223 rfl ?_
  refine r_iload_n d_Law_law_1224 rfl ?_
  refine r_iconst (v := 1) d_Law_law_1225 (by decide) ?_
  refine r_iadd d_Law_law_1226 ?_
  refine r_rald (k := 0) d_Law_law_1227 (by decide) o_301 ?_
  refine r_aload_nR d_Law_law_1228 rfl ?_
  refine r_iload_n d_Law_law_1229 rfl ?_
  refine r_iconst (v := 2) d_Law_law_1230 (by decide) ?_
  refine r_iadd d_Law_law_1231 ?_
  refine r_rald (k := 0) d_Law_law_1232 (by decide) o_302 ?_
  refine r_aload_nR d_Law_law_1233 rfl ?_
  refine r_iload_n d_Law_law_1234 rfl ?_
  refine r_iconst (v := 3) d_Law_law_1235 (by decide) ?_
  refine r_iadd d_Law_law_1236 ?_
  refine r_rald (k := 0) d_Law_law_1237 (by decide) o_303 ?_
  refine x_callV (as := [.int ((roT xs 0).getD (i3 + 1).toNatClampNeg 0), .int ((roT xs 0).getD (i3 + 2).toNatClampNeg 0), .int ((roT xs 0).getD (i3 + 3).toNatClampNeg 0)]) (st := [.int v_306]) d_Law_law_1238 ml_Law_140 mc_Mod_was mv_Mod_was ⟨by decide, by decide⟩ gO_516 ⟨_, rfl, rfl⟩ rfl (Nat.le_of_ble_eq_true rfl) (Nat.le_of_ble_eq_true rfl) h9 ?_
  rintro _ M_307 L_308 ⟨v_309, rfl, h9⟩
  refine r_ic_eq d_Law_law_1241 (fun c_310 => ?_) (fun c_310 => ?_)
  · have h9 := h9.1 c_310
    exact h9
  · have h9 := h9.2 c_310
    refine r_iconst (v := 0) d_Law_law_1244 (by decide) ?_
    exact r_iret ⟨d_Law_law_1245, _, rfl, rfl⟩ ⟨_, _, rfl, h9⟩
theorem L_Law_law_1246 {xs : List Int32} {i3 : Int32} {M : Mem} {L : Int64} {Q : Option Value → Mem → Int64 → Prop} 
    (h : RX xs shL md_Peg_blamed 0 [.ref 0] [] M L (fun r M_311 L_312 => ∃ v_313 : Int32, r = some (.int v_313) ∧ RX xs shL md_Mod_blamed 0 [.ref 516] [] M_311 L_312 (fun r M_314 L_315 => ∃ v_316 : Int32, r = some (.int v_316) ∧ ((v_313 = v_316 → RX xs shL md_Law_law 1598 [.retAddr 0, .ref 0, .ref 516, .int i3] [] M_314 L_315 Q) ∧ (¬ (v_313 = v_316) → Q (some (.int 0)) M_314 L_315))))) : RX xs shL md_Law_law 1246 [.retAddr 0, .ref 0, .ref 516, .int i3] [] M L Q := by
  refine r_aload_n d_Law_law_1246 rfl ?_
  refine x_callV (as := []) (st := []) d_Law_law_1247 ml_Law_141 mc_Peg_blamed mv_Peg_blamed ⟨by decide, by decide⟩ gO_0 ⟨_, rfl, rfl⟩ rfl (Nat.le_of_ble_eq_true rfl) (Nat.le_of_ble_eq_true rfl) h ?_
  rintro _ M_311 L_312 ⟨v_313, rfl, h9⟩
  refine r_aload_n d_Law_law_1250 rfl ?_
  refine x_callV (as := []) (st := [.int v_313]) d_Law_law_1251 ml_Law_144 mc_Mod_blamed mv_Mod_blamed ⟨by decide, by decide⟩ gO_516 ⟨_, rfl, rfl⟩ rfl (Nat.le_of_ble_eq_true rfl) (Nat.le_of_ble_eq_true rfl) h9 ?_
  rintro _ M_314 L_315 ⟨v_316, rfl, h9⟩
  refine r_ic_eq d_Law_law_1254 (fun c_317 => ?_) (fun c_317 => ?_)
  · have h9 := h9.1 c_317
    exact h9
  · have h9 := h9.2 c_317
    refine r_iconst (v := 0) d_Law_law_1257 (by decide) ?_
    exact r_iret ⟨d_Law_law_1258, _, rfl, rfl⟩ ⟨_, _, rfl, h9⟩
theorem L_Law_law_1259 {xs : List Int32} {i3 : Int32} {M : Mem} {L : Int64} {Q : Option Value → Mem → Int64 → Prop} 
    (h : (vp_in (i3 + 1) (roT xs 0).length ∧ RX xs shL md_Peg_blame 0 [.ref 0, .int ((roT xs 0).getD (i3 + 1).toNatClampNeg 0)] [] M L (fun r M_319 L_320 => ∃ v_321 : Int32, r = some (.int v_321) ∧ RX xs shL md_Mod_blame 0 [.ref 516, .int ((roT xs 0).getD (i3 + 1).toNatClampNeg 0)] [] M_319 L_320 (fun r M_322 L_323 => ∃ v_324 : Int32, r = some (.int v_324) ∧ ((v_321 = v_324 → RX xs shL md_Law_law 1598 [.retAddr 0, .ref 0, .ref 516, .int i3] [] M_322 L_323 Q) ∧ (¬ (v_321 = v_324) → Q (some (.int 0)) M_322 L_323)))))) : RX xs shL md_Law_law 1259 [.retAddr 0, .ref 0, .ref 516, .int i3] [] M L Q := by
  refine r_aload_n d_Law_law_1259 rfl ?_
  refine r_aload_nR d_Law_law_1260 rfl ?_
  refine r_iload_n d_Law_law_1261 rfl ?_
  refine r_iconst (v := 1) d_Law_law_1262 (by decide) ?_
  refine r_iadd d_Law_law_1263 ?_
  obtain ⟨o_318, h9⟩ := h
  refine r_rald (k := 0) d_Law_law_1264 (by decide) o_318 ?_
  refine x_callV (as := [.int ((roT xs 0).getD (i3 + 1).toNatClampNeg 0)]) (st := []) d_Law_law_1265 ml_Law_145 mc_Peg_blame mv_Peg_blame ⟨by decide, by decide⟩ gO_0 ⟨_, rfl, rfl⟩ rfl (Nat.le_of_ble_eq_true rfl) (Nat.le_of_ble_eq_true rfl) h9 ?_
  rintro _ M_319 L_320 ⟨v_321, rfl, h9⟩
  refine r_aload_n d_Law_law_1268 rfl ?_
  refine r_aload_nR d_Law_law_1269 rfl ?_
  refine r_iload_n d_Law_law_1270 rfl ?_
  refine r_iconst (v := 1) d_Law_law_1271 (by decide) ?_
  refine r_iadd d_Law_law_1272 ?_
  refine r_rald (k := 0) d_Law_law_1273 (by decide) o_318 ?_
  refine x_callV (as := [.int ((roT xs 0).getD (i3 + 1).toNatClampNeg 0)]) (st := [.int v_321]) d_Law_law_1274 ml_Law_148 mc_Mod_blame mv_Mod_blame ⟨by decide, by decide⟩ gO_516 ⟨_, rfl, rfl⟩ rfl (Nat.le_of_ble_eq_true rfl) (Nat.le_of_ble_eq_true rfl) h9 ?_
  rintro _ M_322 L_323 ⟨v_324, rfl, h9⟩
  refine r_ic_eq d_Law_law_1277 (fun c_325 => ?_) (fun c_325 => ?_)
  · have h9 := h9.1 c_325
    exact h9
  · have h9 := h9.2 c_325
    refine r_iconst (v := 0) d_Law_law_1280 (by decide) ?_
    exact r_iret ⟨d_Law_law_1281, _, rfl, rfl⟩ ⟨_, _, rfl, h9⟩
theorem L_Law_law_1282 {xs : List Int32} {i3 : Int32} {M : Mem} {L : Int64} {Q : Option Value → Mem → Int64 → Prop} 
    (h : (vp_in (i3 + 1) (roT xs 0).length ∧ (vp_in (i3 + 2) (roT xs 0).length ∧ RX xs shL md_Peg_fits 0 [.ref 0, .int ((roT xs 0).getD (i3 + 1).toNatClampNeg 0), .int ((roT xs 0).getD (i3 + 2).toNatClampNeg 0)] [] M L (fun r M_328 L_329 => ∃ v_330 : Int32, r = some (.int v_330) ∧ RX xs shL md_Mod_fits 0 [.ref 516, .int ((roT xs 0).getD (i3 + 1).toNatClampNeg 0), .int ((roT xs 0).getD (i3 + 2).toNatClampNeg 0)] [] M_328 L_329 (fun r M_331 L_332 => ∃ v_333 : Int32, r = some (.int v_333) ∧ ((v_330 = v_333 → RX xs shL md_Law_law 1598 [.retAddr 0, .ref 0, .ref 516, .int i3] [] M_331 L_332 Q) ∧ (¬ (v_330 = v_333) → Q (some (.int 0)) M_331 L_332))))))) : RX xs shL md_Law_law 1282 [.retAddr 0, .ref 0, .ref 516, .int i3] [] M L Q := by
  refine r_aload_n d_Law_law_1282 rfl ?_
  refine r_aload_nR d_Law_law_1283 rfl ?_
  refine r_iload_n d_Law_law_1284 rfl ?_
  refine r_iconst (v := 1) d_Law_law_1285 (by decide) ?_
  refine r_iadd d_Law_law_1286 ?_
  obtain ⟨o_326, h9⟩ := h
  refine r_rald (k := 0) d_Law_law_1287 (by decide) o_326 ?_
  refine r_aload_nR d_Law_law_1288 rfl ?_
  refine r_iload_n d_Law_law_1289 rfl ?_
  refine r_iconst (v := 2) d_Law_law_1290 (by decide) ?_
  refine r_iadd d_Law_law_1291 ?_
  obtain ⟨o_327, h9⟩ := h9
  refine r_rald (k := 0) d_Law_law_1292 (by decide) o_327 ?_
  refine x_callV (as := [.int ((roT xs 0).getD (i3 + 1).toNatClampNeg 0), .int ((roT xs 0).getD (i3 + 2).toNatClampNeg 0)]) (st := []) d_Law_law_1293 ml_Law_149 mc_Peg_fits mv_Peg_fits ⟨by decide, by decide⟩ gO_0 ⟨_, rfl, rfl⟩ rfl (Nat.le_of_ble_eq_true rfl) (Nat.le_of_ble_eq_true rfl) h9 ?_
  rintro _ M_328 L_329 ⟨v_330, rfl, h9⟩
  refine r_aload_n d_Law_law_1296 rfl ?_
  refine r_aload_nR d_Law_law_1297 rfl ?_
  refine r_iload_n d_Law_law_1298 rfl ?_
  refine r_iconst (v := 1) d_Law_law_1299 (by decide) ?_
  refine r_iadd d_Law_law_1300 ?_
  refine r_rald (k := 0) d_Law_law_1301 (by decide) o_326 ?_
  refine r_aload_nR d_Law_law_1302 rfl ?_
  refine r_iload_n d_Law_law_1303 rfl ?_
  refine r_iconst (v := 2) d_Law_law_1304 (by decide) ?_
  refine r_iadd d_Law_law_1305 ?_
  refine r_rald (k := 0) d_Law_law_1306 (by decide) o_327 ?_
  refine x_callV (as := [.int ((roT xs 0).getD (i3 + 1).toNatClampNeg 0), .int ((roT xs 0).getD (i3 + 2).toNatClampNeg 0)]) (st := [.int v_330]) d_Law_law_1307 ml_Law_152 mc_Mod_fits mv_Mod_fits ⟨by decide, by decide⟩ gO_516 ⟨_, rfl, rfl⟩ rfl (Nat.le_of_ble_eq_true rfl) (Nat.le_of_ble_eq_true rfl) h9 ?_
  rintro _ M_331 L_332 ⟨v_333, rfl, h9⟩
  refine r_ic_eq d_Law_law_1310 (fun c_334 => ?_) (fun c_334 => ?_)
  · have h9 := h9.1 c_334
    exact h9
  · have h9 := h9.2 c_334
    refine r_iconst (v := 0) d_Law_law_1313 (by decide) ?_
    exact r_iret ⟨d_Law_law_1314, _, rfl, rfl⟩ ⟨_, _, rfl, h9⟩
theorem L_Law_law_1315 {xs : List Int32} {i3 : Int32} {M : Mem} {L : Int64} {Q : Option Value → Mem → Int64 → Prop} 
    (h : (vp_in (i3 + 1) (roT xs 0).length ∧ (vp_in (i3 + 2) (roT xs 0).length ∧ (vp_in (i3 + 3) (roT xs 0).length ∧ RX xs shL md_Peg_fit 0 [.ref 0, .int ((roT xs 0).getD (i3 + 1).toNatClampNeg 0), .int ((roT xs 0).getD (i3 + 2).toNatClampNeg 0), .int ((roT xs 0).getD (i3 + 3).toNatClampNeg 0)] [] M L (fun r M_338 L_339 => ∃ v_340 : Int32, r = some (.int v_340) ∧ RX xs shL md_Mod_fit 0 [.ref 516, .int ((roT xs 0).getD (i3 + 1).toNatClampNeg 0), .int ((roT xs 0).getD (i3 + 2).toNatClampNeg 0), .int ((roT xs 0).getD (i3 + 3).toNatClampNeg 0)] [] M_338 L_339 (fun r M_341 L_342 => ∃ v_343 : Int32, r = some (.int v_343) ∧ ((v_340 = v_343 → RX xs shL md_Law_law 1598 [.retAddr 0, .ref 0, .ref 516, .int i3] [] M_341 L_342 Q) ∧ (¬ (v_340 = v_343) → Q (some (.int 0)) M_341 L_342)))))))) : RX xs shL md_Law_law 1315 [.retAddr 0, .ref 0, .ref 516, .int i3] [] M L Q := by
  refine r_aload_n d_Law_law_1315 rfl ?_
  refine r_aload_nR d_Law_law_1316 rfl ?_
  refine r_iload_n d_Law_law_1317 rfl ?_
  refine r_iconst (v := 1) d_Law_law_1318 (by decide) ?_
  refine r_iadd d_Law_law_1319 ?_
  obtain ⟨o_335, h9⟩ := h
  refine r_rald (k := 0) d_Law_law_1320 (by decide) o_335 ?_
  refine r_aload_nR d_Law_law_1321 rfl ?_
  refine r_iload_n d_Law_law_1322 rfl ?_
  refine r_iconst (v := 2) d_Law_law_1323 (by decide) ?_
  refine r_iadd d_Law_law_1324 ?_
  obtain ⟨o_336, h9⟩ := h9
  refine r_rald (k := 0) d_Law_law_1325 (by decide) o_336 ?_
  refine r_aload_nR d_Law_law_1326 rfl ?_
  refine r_iload_n d_Law_law_1327 rfl ?_
  refine r_iconst (v := 3) d_Law_law_1328 (by decide) ?_
  refine r_iadd d_Law_law_1329 ?_
  obtain ⟨o_337, h9⟩ := h9
  refine r_rald (k := 0) d_Law_law_1330 (by decide) o_337 ?_
  refine x_callV (as := [.int ((roT xs 0).getD (i3 + 1).toNatClampNeg 0), .int ((roT xs 0).getD (i3 + 2).toNatClampNeg 0), .int ((roT xs 0).getD (i3 + 3).toNatClampNeg 0)]) (st := []) d_Law_law_1331 ml_Law_153 mc_Peg_fit mv_Peg_fit ⟨by decide, by decide⟩ gO_0 ⟨_, rfl, rfl⟩ rfl (Nat.le_of_ble_eq_true rfl) (Nat.le_of_ble_eq_true rfl) h9 ?_
  rintro _ M_338 L_339 ⟨v_340, rfl, h9⟩
  refine r_aload_n d_Law_law_1334 rfl ?_
  refine r_aload_nR d_Law_law_1335 rfl ?_
  refine r_iload_n d_Law_law_1336 rfl ?_
  refine r_iconst (v := 1) d_Law_law_1337 (by decide) ?_
  refine r_iadd d_Law_law_1338 ?_
  refine r_rald (k := 0) d_Law_law_1339 (by decide) o_335 ?_
  refine r_aload_nR d_Law_law_1340 rfl ?_
  refine r_iload_n d_Law_law_1341 rfl ?_
  refine r_iconst (v := 2) d_Law_law_1342 (by decide) ?_
  refine r_iadd d_Law_law_1343 ?_
  refine r_rald (k := 0) d_Law_law_1344 (by decide) o_336 ?_
  refine r_aload_nR d_Law_law_1345 rfl ?_
  refine r_iload_n d_Law_law_1346 rfl ?_
  refine r_iconst (v := 3) d_Law_law_1347 (by decide) ?_
  refine r_iadd d_Law_law_1348 ?_
  refine r_rald (k := 0) d_Law_law_1349 (by decide) o_337 ?_
  refine x_callV (as := [.int ((roT xs 0).getD (i3 + 1).toNatClampNeg 0), .int ((roT xs 0).getD (i3 + 2).toNatClampNeg 0), .int ((roT xs 0).getD (i3 + 3).toNatClampNeg 0)]) (st := [.int v_340]) d_Law_law_1350 ml_Law_156 mc_Mod_fit mv_Mod_fit ⟨by decide, by decide⟩ gO_516 ⟨_, rfl, rfl⟩ rfl (Nat.le_of_ble_eq_true rfl) (Nat.le_of_ble_eq_true rfl) h9 ?_
  rintro _ M_341 L_342 ⟨v_343, rfl, h9⟩
  refine r_ic_eq d_Law_law_1353 (fun c_344 => ?_) (fun c_344 => ?_)
  · have h9 := h9.1 c_344
    exact h9
  · have h9 := h9.2 c_344
    refine r_iconst (v := 0) d_Law_law_1356 (by decide) ?_
    exact r_iret ⟨d_Law_law_1357, _, rfl, rfl⟩ ⟨_, _, rfl, h9⟩
set_option maxHeartbeats 4000000 in
theorem L_Law_law_1358 {xs : List Int32} {i3 : Int32} {M : Mem} {L : Int64} {Q : Option Value → Mem → Int64 → Prop} 
    (h : (vp_in (i3 + 1) (roT xs 0).length ∧ (vp_in (i3 + 2) (roT xs 0).length ∧ (vp_in (i3 + 3) (roT xs 0).length ∧ (vp_in (i3 + 4) (roT xs 0).length ∧ (vp_in (i3 + 5) (roT xs 0).length ∧ (vp_in (i3 + 6) (roT xs 0).length ∧ (vp_in (i3 + 7) (roT xs 0).length ∧ RX xs shL md_Peg_sights 0 [.ref 0, .int ((roT xs 0).getD (i3 + 1).toNatClampNeg 0), .int ((roT xs 0).getD (i3 + 2).toNatClampNeg 0), .int ((roT xs 0).getD (i3 + 3).toNatClampNeg 0), .int ((roT xs 0).getD (i3 + 4).toNatClampNeg 0), .int ((roT xs 0).getD (i3 + 5).toNatClampNeg 0), .int ((roT xs 0).getD (i3 + 6).toNatClampNeg 0), .int ((roT xs 0).getD (i3 + 7).toNatClampNeg 0)] [] M L (fun r M_352 L_353 => ∃ v_354 : Int32, r = some (.int v_354) ∧ RX xs shL md_Mod_sights 0 [.ref 516, .int ((roT xs 0).getD (i3 + 1).toNatClampNeg 0), .int ((roT xs 0).getD (i3 + 2).toNatClampNeg 0), .int ((roT xs 0).getD (i3 + 3).toNatClampNeg 0), .int ((roT xs 0).getD (i3 + 4).toNatClampNeg 0), .int ((roT xs 0).getD (i3 + 5).toNatClampNeg 0), .int ((roT xs 0).getD (i3 + 6).toNatClampNeg 0), .int ((roT xs 0).getD (i3 + 7).toNatClampNeg 0)] [] M_352 L_353 (fun r M_355 L_356 => ∃ v_357 : Int32, r = some (.int v_357) ∧ ((v_354 = v_357 → RX xs shL md_Law_law 1598 [.retAddr 0, .ref 0, .ref 516, .int i3] [] M_355 L_356 Q) ∧ (¬ (v_354 = v_357) → Q (some (.int 0)) M_355 L_356)))))))))))) : RX xs shL md_Law_law 1358 [.retAddr 0, .ref 0, .ref 516, .int i3] [] M L Q := by
  refine r_aload_n d_Law_law_1358 rfl ?_
  refine r_aload_nR d_Law_law_1359 rfl ?_
  refine r_iload_n d_Law_law_1360 rfl ?_
  refine r_iconst (v := 1) d_Law_law_1361 (by decide) ?_
  refine r_iadd d_Law_law_1362 ?_
  obtain ⟨o_345, h9⟩ := h
  refine r_rald (k := 0) d_Law_law_1363 (by decide) o_345 ?_
  refine r_aload_nR d_Law_law_1364 rfl ?_
  refine r_iload_n d_Law_law_1365 rfl ?_
  refine r_iconst (v := 2) d_Law_law_1366 (by decide) ?_
  refine r_iadd d_Law_law_1367 ?_
  obtain ⟨o_346, h9⟩ := h9
  refine r_rald (k := 0) d_Law_law_1368 (by decide) o_346 ?_
  refine r_aload_nR d_Law_law_1369 rfl ?_
  refine r_iload_n d_Law_law_1370 rfl ?_
  refine r_iconst (v := 3) d_Law_law_1371 (by decide) ?_
  refine r_iadd d_Law_law_1372 ?_
  obtain ⟨o_347, h9⟩ := h9
  refine r_rald (k := 0) d_Law_law_1373 (by decide) o_347 ?_
  refine r_aload_nR d_Law_law_1374 rfl ?_
  refine r_iload_n d_Law_law_1375 rfl ?_
  refine r_iconst (v := 4) d_Law_law_1376 (by decide) ?_
  refine r_iadd d_Law_law_1377 ?_
  obtain ⟨o_348, h9⟩ := h9
  refine r_rald (k := 0) d_Law_law_1378 (by decide) o_348 ?_
  refine r_aload_nR d_Law_law_1379 rfl ?_
  refine r_iload_n d_Law_law_1380 rfl ?_
  refine r_iconst (v := 5) d_Law_law_1381 (by decide) ?_
  refine r_iadd d_Law_law_1382 ?_
  obtain ⟨o_349, h9⟩ := h9
  refine r_rald (k := 0) d_Law_law_1383 (by decide) o_349 ?_
  refine r_aload_nR d_Law_law_1384 rfl ?_
  refine r_iload_n d_Law_law_1385 rfl ?_
  refine r_bipush (v := 6) d_Law_law_1386 (by decide) ?_
  refine r_iadd d_Law_law_1388 ?_
  obtain ⟨o_350, h9⟩ := h9
  refine r_rald (k := 0) d_Law_law_1389 (by decide) o_350 ?_
  refine r_aload_nR d_Law_law_1390 rfl ?_
  refine r_iload_n d_Law_law_1391 rfl ?_
  refine r_bipush (v := 7) d_Law_law_1392 (by decide) ?_
  refine r_iadd d_Law_law_1394 ?_
  obtain ⟨o_351, h9⟩ := h9
  refine r_rald (k := 0) d_Law_law_1395 (by decide) o_351 ?_
  refine x_callV (as := [.int ((roT xs 0).getD (i3 + 1).toNatClampNeg 0), .int ((roT xs 0).getD (i3 + 2).toNatClampNeg 0), .int ((roT xs 0).getD (i3 + 3).toNatClampNeg 0), .int ((roT xs 0).getD (i3 + 4).toNatClampNeg 0), .int ((roT xs 0).getD (i3 + 5).toNatClampNeg 0), .int ((roT xs 0).getD (i3 + 6).toNatClampNeg 0), .int ((roT xs 0).getD (i3 + 7).toNatClampNeg 0)]) (st := []) d_Law_law_1396 ml_Law_157 mc_Peg_sights mv_Peg_sights ⟨by decide, by decide⟩ gO_0 ⟨_, rfl, rfl⟩ rfl (Nat.le_of_ble_eq_true rfl) (Nat.le_of_ble_eq_true rfl) h9 ?_
  rintro _ M_352 L_353 ⟨v_354, rfl, h9⟩
  refine r_aload_n d_Law_law_1399 rfl ?_
  refine r_aload_nR d_Law_law_1400 rfl ?_
  refine r_iload_n d_Law_law_1401 rfl ?_
  refine r_iconst (v := 1) d_Law_law_1402 (by decide) ?_
  refine r_iadd d_Law_law_1403 ?_
  refine r_rald (k := 0) d_Law_law_1404 (by decide) o_345 ?_
  refine r_aload_nR d_Law_law_1405 rfl ?_
  refine r_iload_n d_Law_law_1406 rfl ?_
  refine r_iconst (v := 2) d_Law_law_1407 (by decide) ?_
  refine r_iadd d_Law_law_1408 ?_
  refine r_rald (k := 0) d_Law_law_1409 (by decide) o_346 ?_
  refine r_aload_nR d_Law_law_1410 rfl ?_
  refine r_iload_n d_Law_law_1411 rfl ?_
  refine r_iconst (v := 3) d_Law_law_1412 (by decide) ?_
  refine r_iadd d_Law_law_1413 ?_
  refine r_rald (k := 0) d_Law_law_1414 (by decide) o_347 ?_
  refine r_aload_nR d_Law_law_1415 rfl ?_
  refine r_iload_n d_Law_law_1416 rfl ?_
  refine r_iconst (v := 4) d_Law_law_1417 (by decide) ?_
  refine r_iadd d_Law_law_1418 ?_
  refine r_rald (k := 0) d_Law_law_1419 (by decide) o_348 ?_
  refine r_aload_nR d_Law_law_1420 rfl ?_
  refine r_iload_n d_Law_law_1421 rfl ?_
  refine r_iconst (v := 5) d_Law_law_1422 (by decide) ?_
  refine r_iadd d_Law_law_1423 ?_
  refine r_rald (k := 0) d_Law_law_1424 (by decide) o_349 ?_
  refine r_aload_nR d_Law_law_1425 rfl ?_
  refine r_iload_n d_Law_law_1426 rfl ?_
  refine r_bipush (v := 6) d_Law_law_1427 (by decide) ?_
  refine r_iadd d_Law_law_1429 ?_
  refine r_rald (k := 0) d_Law_law_1430 (by decide) o_350 ?_
  refine r_aload_nR d_Law_law_1431 rfl ?_
  refine r_iload_n d_Law_law_1432 rfl ?_
  refine r_bipush (v := 7) d_Law_law_1433 (by decide) ?_
  refine r_iadd d_Law_law_1435 ?_
  refine r_rald (k := 0) d_Law_law_1436 (by decide) o_351 ?_
  refine x_callV (as := [.int ((roT xs 0).getD (i3 + 1).toNatClampNeg 0), .int ((roT xs 0).getD (i3 + 2).toNatClampNeg 0), .int ((roT xs 0).getD (i3 + 3).toNatClampNeg 0), .int ((roT xs 0).getD (i3 + 4).toNatClampNeg 0), .int ((roT xs 0).getD (i3 + 5).toNatClampNeg 0), .int ((roT xs 0).getD (i3 + 6).toNatClampNeg 0), .int ((roT xs 0).getD (i3 + 7).toNatClampNeg 0)]) (st := [.int v_354]) d_Law_law_1437 ml_Law_161 mc_Mod_sights mv_Mod_sights ⟨by decide, by decide⟩ gO_516 ⟨_, rfl, rfl⟩ rfl (Nat.le_of_ble_eq_true rfl) (Nat.le_of_ble_eq_true rfl) h9 ?_
  rintro _ M_355 L_356 ⟨v_357, rfl, h9⟩
  refine r_ic_eq d_Law_law_1440 (fun c_358 => ?_) (fun c_358 => ?_)
  · have h9 := h9.1 c_358
    exact h9
  · have h9 := h9.2 c_358
    refine r_iconst (v := 0) d_Law_law_1443 (by decide) ?_
    exact r_iret ⟨d_Law_law_1444, _, rfl, rfl⟩ ⟨_, _, rfl, h9⟩
theorem L_Law_law_1445 {xs : List Int32} {i3 : Int32} {M : Mem} {L : Int64} {Q : Option Value → Mem → Int64 → Prop} 
    (h : (vp_in (i3 + 1) (roT xs 0).length ∧ (vp_in (i3 + 2) (roT xs 0).length ∧ (vp_in (i3 + 3) (roT xs 0).length ∧ (vp_in (i3 + 4) (roT xs 0).length ∧ (vp_in (i3 + 5) (roT xs 0).length ∧ RX xs shL md_Peg_sure 0 [.ref 0, .int ((roT xs 0).getD (i3 + 1).toNatClampNeg 0), .int ((roT xs 0).getD (i3 + 2).toNatClampNeg 0), .int ((roT xs 0).getD (i3 + 3).toNatClampNeg 0), .int ((roT xs 0).getD (i3 + 4).toNatClampNeg 0), .int ((roT xs 0).getD (i3 + 5).toNatClampNeg 0)] [] M L (fun r M_364 L_365 => ∃ v_366 : Int32, r = some (.int v_366) ∧ RX xs shL md_Mod_sure 0 [.ref 516, .int ((roT xs 0).getD (i3 + 1).toNatClampNeg 0), .int ((roT xs 0).getD (i3 + 2).toNatClampNeg 0), .int ((roT xs 0).getD (i3 + 3).toNatClampNeg 0), .int ((roT xs 0).getD (i3 + 4).toNatClampNeg 0), .int ((roT xs 0).getD (i3 + 5).toNatClampNeg 0)] [] M_364 L_365 (fun r M_367 L_368 => ∃ v_369 : Int32, r = some (.int v_369) ∧ ((v_366 = v_369 → RX xs shL md_Law_law 1598 [.retAddr 0, .ref 0, .ref 516, .int i3] [] M_367 L_368 Q) ∧ (¬ (v_366 = v_369) → Q (some (.int 0)) M_367 L_368)))))))))) : RX xs shL md_Law_law 1445 [.retAddr 0, .ref 0, .ref 516, .int i3] [] M L Q := by
  refine r_aload_n d_Law_law_1445 rfl ?_
  refine r_aload_nR d_Law_law_1446 rfl ?_
  refine r_iload_n d_Law_law_1447 rfl ?_
  refine r_iconst (v := 1) d_Law_law_1448 (by decide) ?_
  refine r_iadd d_Law_law_1449 ?_
  obtain ⟨o_359, h9⟩ := h
  refine r_rald (k := 0) d_Law_law_1450 (by decide) o_359 ?_
  refine r_aload_nR d_Law_law_1451 rfl ?_
  refine r_iload_n d_Law_law_1452 rfl ?_
  refine r_iconst (v := 2) d_Law_law_1453 (by decide) ?_
  refine r_iadd d_Law_law_1454 ?_
  obtain ⟨o_360, h9⟩ := h9
  refine r_rald (k := 0) d_Law_law_1455 (by decide) o_360 ?_
  refine r_aload_nR d_Law_law_1456 rfl ?_
  refine r_iload_n d_Law_law_1457 rfl ?_
  refine r_iconst (v := 3) d_Law_law_1458 (by decide) ?_
  refine r_iadd d_Law_law_1459 ?_
  obtain ⟨o_361, h9⟩ := h9
  refine r_rald (k := 0) d_Law_law_1460 (by decide) o_361 ?_
  refine r_aload_nR d_Law_law_1461 rfl ?_
  refine r_iload_n d_Law_law_1462 rfl ?_
  refine r_iconst (v := 4) d_Law_law_1463 (by decide) ?_
  refine r_iadd d_Law_law_1464 ?_
  obtain ⟨o_362, h9⟩ := h9
  refine r_rald (k := 0) d_Law_law_1465 (by decide) o_362 ?_
  refine r_aload_nR d_Law_law_1466 rfl ?_
  refine r_iload_n d_Law_law_1467 rfl ?_
  refine r_iconst (v := 5) d_Law_law_1468 (by decide) ?_
  refine r_iadd d_Law_law_1469 ?_
  obtain ⟨o_363, h9⟩ := h9
  refine r_rald (k := 0) d_Law_law_1470 (by decide) o_363 ?_
  refine x_callV (as := [.int ((roT xs 0).getD (i3 + 1).toNatClampNeg 0), .int ((roT xs 0).getD (i3 + 2).toNatClampNeg 0), .int ((roT xs 0).getD (i3 + 3).toNatClampNeg 0), .int ((roT xs 0).getD (i3 + 4).toNatClampNeg 0), .int ((roT xs 0).getD (i3 + 5).toNatClampNeg 0)]) (st := []) d_Law_law_1471 ml_Law_162 mc_Peg_sure mv_Peg_sure ⟨by decide, by decide⟩ gO_0 ⟨_, rfl, rfl⟩ rfl (Nat.le_of_ble_eq_true rfl) (Nat.le_of_ble_eq_true rfl) h9 ?_
  rintro _ M_364 L_365 ⟨v_366, rfl, h9⟩
  refine r_aload_n d_Law_law_1474 rfl ?_
  refine r_aload_nR d_Law_law_1475 rfl ?_
  refine r_iload_n d_Law_law_1476 rfl ?_
  refine r_iconst (v := 1) d_Law_law_1477 (by decide) ?_
  refine r_iadd d_Law_law_1478 ?_
  refine r_rald (k := 0) d_Law_law_1479 (by decide) o_359 ?_
  refine r_aload_nR d_Law_law_1480 rfl ?_
  refine r_iload_n d_Law_law_1481 rfl ?_
  refine r_iconst (v := 2) d_Law_law_1482 (by decide) ?_
  refine r_iadd d_Law_law_1483 ?_
  refine r_rald (k := 0) d_Law_law_1484 (by decide) o_360 ?_
  refine r_aload_nR d_Law_law_1485 rfl ?_
  refine r_iload_n d_Law_law_1486 rfl ?_
  refine r_iconst (v := 3) d_Law_law_1487 (by decide) ?_
  refine r_iadd d_Law_law_1488 ?_
  refine r_rald (k := 0) d_Law_law_1489 (by decide) o_361 ?_
  refine r_aload_nR d_Law_law_1490 rfl ?_
  refine r_iload_n d_Law_law_1491 rfl ?_
  refine r_iconst (v := 4) d_Law_law_1492 (by decide) ?_
  refine r_iadd d_Law_law_1493 ?_
  refine r_rald (k := 0) d_Law_law_1494 (by decide) o_362 ?_
  refine r_aload_nR d_Law_law_1495 rfl ?_
  refine r_iload_n d_Law_law_1496 rfl ?_
  refine r_iconst (v := 5) d_Law_law_1497 (by decide) ?_
  refine r_iadd d_Law_law_1498 ?_
  refine r_rald (k := 0) d_Law_law_1499 (by decide) o_363 ?_
  refine x_callV (as := [.int ((roT xs 0).getD (i3 + 1).toNatClampNeg 0), .int ((roT xs 0).getD (i3 + 2).toNatClampNeg 0), .int ((roT xs 0).getD (i3 + 3).toNatClampNeg 0), .int ((roT xs 0).getD (i3 + 4).toNatClampNeg 0), .int ((roT xs 0).getD (i3 + 5).toNatClampNeg 0)]) (st := [.int v_366]) d_Law_law_1500 ml_Law_165 mc_Mod_sure mv_Mod_sure ⟨by decide, by decide⟩ gO_516 ⟨_, rfl, rfl⟩ rfl (Nat.le_of_ble_eq_true rfl) (Nat.le_of_ble_eq_true rfl) h9 ?_
  rintro _ M_367 L_368 ⟨v_369, rfl, h9⟩
  refine r_ic_eq d_Law_law_1503 (fun c_370 => ?_) (fun c_370 => ?_)
  · have h9 := h9.1 c_370
    exact h9
  · have h9 := h9.2 c_370
    refine r_iconst (v := 0) d_Law_law_1506 (by decide) ?_
    exact r_iret ⟨d_Law_law_1507, _, rfl, rfl⟩ ⟨_, _, rfl, h9⟩
theorem L_Law_law_1508 {xs : List Int32} {i3 : Int32} {M : Mem} {L : Int64} {Q : Option Value → Mem → Int64 → Prop} 
    (h : (vp_in (i3 + 1) (roT xs 0).length ∧ (vp_in (i3 + 2) (roT xs 0).length ∧ (vp_in (i3 + 3) (roT xs 0).length ∧ (vp_in (i3 + 4) (roT xs 0).length ∧ RX xs shL md_Peg_course 0 [.ref 0, .int ((roT xs 0).getD (i3 + 1).toNatClampNeg 0), .int ((roT xs 0).getD (i3 + 2).toNatClampNeg 0), .int ((roT xs 0).getD (i3 + 3).toNatClampNeg 0), .int ((roT xs 0).getD (i3 + 4).toNatClampNeg 0)] [] M L (fun r M_375 L_376 => ∃ v_377 : Int32, r = some (.int v_377) ∧ RX xs shL md_Mod_course 0 [.ref 516, .int ((roT xs 0).getD (i3 + 1).toNatClampNeg 0), .int ((roT xs 0).getD (i3 + 2).toNatClampNeg 0), .int ((roT xs 0).getD (i3 + 3).toNatClampNeg 0), .int ((roT xs 0).getD (i3 + 4).toNatClampNeg 0)] [] M_375 L_376 (fun r M_378 L_379 => ∃ v_380 : Int32, r = some (.int v_380) ∧ ((v_377 = v_380 → RX xs shL md_Law_law 1598 [.retAddr 0, .ref 0, .ref 516, .int i3] [] M_378 L_379 Q) ∧ (¬ (v_377 = v_380) → Q (some (.int 0)) M_378 L_379))))))))) : RX xs shL md_Law_law 1508 [.retAddr 0, .ref 0, .ref 516, .int i3] [] M L Q := by
  refine r_aload_n d_Law_law_1508 rfl ?_
  refine r_aload_nR d_Law_law_1509 rfl ?_
  refine r_iload_n d_Law_law_1510 rfl ?_
  refine r_iconst (v := 1) d_Law_law_1511 (by decide) ?_
  refine r_iadd d_Law_law_1512 ?_
  obtain ⟨o_371, h9⟩ := h
  refine r_rald (k := 0) d_Law_law_1513 (by decide) o_371 ?_
  refine r_aload_nR d_Law_law_1514 rfl ?_
  refine r_iload_n d_Law_law_1515 rfl ?_
  refine r_iconst (v := 2) d_Law_law_1516 (by decide) ?_
  refine r_iadd d_Law_law_1517 ?_
  obtain ⟨o_372, h9⟩ := h9
  refine r_rald (k := 0) d_Law_law_1518 (by decide) o_372 ?_
  refine r_aload_nR d_Law_law_1519 rfl ?_
  refine r_iload_n d_Law_law_1520 rfl ?_
  refine r_iconst (v := 3) d_Law_law_1521 (by decide) ?_
  refine r_iadd d_Law_law_1522 ?_
  obtain ⟨o_373, h9⟩ := h9
  refine r_rald (k := 0) d_Law_law_1523 (by decide) o_373 ?_
  refine r_aload_nR d_Law_law_1524 rfl ?_
  refine r_iload_n d_Law_law_1525 rfl ?_
  refine r_iconst (v := 4) d_Law_law_1526 (by decide) ?_
  refine r_iadd d_Law_law_1527 ?_
  obtain ⟨o_374, h9⟩ := h9
  refine r_rald (k := 0) d_Law_law_1528 (by decide) o_374 ?_
  refine x_callV (as := [.int ((roT xs 0).getD (i3 + 1).toNatClampNeg 0), .int ((roT xs 0).getD (i3 + 2).toNatClampNeg 0), .int ((roT xs 0).getD (i3 + 3).toNatClampNeg 0), .int ((roT xs 0).getD (i3 + 4).toNatClampNeg 0)]) (st := []) d_Law_law_1529 ml_Law_166 mc_Peg_course mv_Peg_course ⟨by decide, by decide⟩ gO_0 ⟨_, rfl, rfl⟩ rfl (Nat.le_of_ble_eq_true rfl) (Nat.le_of_ble_eq_true rfl) h9 ?_
  rintro _ M_375 L_376 ⟨v_377, rfl, h9⟩
  refine r_aload_n d_Law_law_1532 rfl ?_
  refine r_aload_nR d_Law_law_1533 rfl ?_
  refine r_iload_n d_Law_law_1534 rfl ?_
  refine r_iconst (v := 1) d_Law_law_1535 (by decide) ?_
  refine r_iadd d_Law_law_1536 ?_
  refine r_rald (k := 0) d_Law_law_1537 (by decide) o_371 ?_
  refine r_aload_nR d_Law_law_1538 rfl ?_
  refine r_iload_n d_Law_law_1539 rfl ?_
  refine r_iconst (v := 2) d_Law_law_1540 (by decide) ?_
  refine r_iadd d_Law_law_1541 ?_
  refine r_rald (k := 0) d_Law_law_1542 (by decide) o_372 ?_
  refine r_aload_nR d_Law_law_1543 rfl ?_
  refine r_iload_n d_Law_law_1544 rfl ?_
  refine r_iconst (v := 3) d_Law_law_1545 (by decide) ?_
  refine r_iadd d_Law_law_1546 ?_
  refine r_rald (k := 0) d_Law_law_1547 (by decide) o_373 ?_
  refine r_aload_nR d_Law_law_1548 rfl ?_
  refine r_iload_n d_Law_law_1549 rfl ?_
  refine r_iconst (v := 4) d_Law_law_1550 (by decide) ?_
  refine r_iadd d_Law_law_1551 ?_
  refine r_rald (k := 0) d_Law_law_1552 (by decide) o_374 ?_
  refine x_callV (as := [.int ((roT xs 0).getD (i3 + 1).toNatClampNeg 0), .int ((roT xs 0).getD (i3 + 2).toNatClampNeg 0), .int ((roT xs 0).getD (i3 + 3).toNatClampNeg 0), .int ((roT xs 0).getD (i3 + 4).toNatClampNeg 0)]) (st := [.int v_377]) d_Law_law_1553 ml_Law_169 mc_Mod_course mv_Mod_course ⟨by decide, by decide⟩ gO_516 ⟨_, rfl, rfl⟩ rfl (Nat.le_of_ble_eq_true rfl) (Nat.le_of_ble_eq_true rfl) h9 ?_
  rintro _ M_378 L_379 ⟨v_380, rfl, h9⟩
  refine r_ic_eq d_Law_law_1556 (fun c_381 => ?_) (fun c_381 => ?_)
  · have h9 := h9.1 c_381
    exact h9
  · have h9 := h9.2 c_381
    refine r_iconst (v := 0) d_Law_law_1559 (by decide) ?_
    exact r_iret ⟨d_Law_law_1560, _, rfl, rfl⟩ ⟨_, _, rfl, h9⟩
theorem L_Law_law_1561 {xs : List Int32} {i3 : Int32} {M : Mem} {L : Int64} {Q : Option Value → Mem → Int64 → Prop} 
    (h : (vp_in (i3 + 1) (roT xs 0).length ∧ RX xs shL md_Peg_many 0 [.ref 0, .int ((roT xs 0).getD (i3 + 1).toNatClampNeg 0)] [] M L (fun r M_383 L_384 => ∃ v_385 : Int32, r = some (.int v_385) ∧ RX xs shL md_Mod_many 0 [.ref 516, .int ((roT xs 0).getD (i3 + 1).toNatClampNeg 0)] [] M_383 L_384 (fun r M_386 L_387 => ∃ v_388 : Int32, r = some (.int v_388) ∧ ((v_385 = v_388 → RX xs shL md_Law_law 1598 [.retAddr 0, .ref 0, .ref 516, .int i3] [] M_386 L_387 Q) ∧ (¬ (v_385 = v_388) → Q (some (.int 0)) M_386 L_387)))))) : RX xs shL md_Law_law 1561 [.retAddr 0, .ref 0, .ref 516, .int i3] [] M L Q := by
  refine r_aload_n d_Law_law_1561 rfl ?_
  refine r_aload_nR d_Law_law_1562 rfl ?_
  refine r_iload_n d_Law_law_1563 rfl ?_
  refine r_iconst (v := 1) d_Law_law_1564 (by decide) ?_
  refine r_iadd d_Law_law_1565 ?_
  obtain ⟨o_382, h9⟩ := h
  refine r_rald (k := 0) d_Law_law_1566 (by decide) o_382 ?_
  refine x_callV (as := [.int ((roT xs 0).getD (i3 + 1).toNatClampNeg 0)]) (st := []) d_Law_law_1567 ml_Law_170 mc_Peg_many mv_Peg_many ⟨by decide, by decide⟩ gO_0 ⟨_, rfl, rfl⟩ rfl (Nat.le_of_ble_eq_true rfl) (Nat.le_of_ble_eq_true rfl) h9 ?_
  rintro _ M_383 L_384 ⟨v_385, rfl, h9⟩
  refine r_aload_n d_Law_law_1570 rfl ?_
  refine r_aload_nR d_Law_law_1571 rfl ?_
  refine r_iload_n d_Law_law_1572 rfl ?_
  refine r_iconst (v := 1) d_Law_law_1573 (by decide) ?_
  refine r_iadd d_Law_law_1574 ?_
  refine r_rald (k := 0) d_Law_law_1575 (by decide) o_382 ?_
  refine x_callV (as := [.int ((roT xs 0).getD (i3 + 1).toNatClampNeg 0)]) (st := [.int v_385]) d_Law_law_1576 ml_Law_173 mc_Mod_many mv_Mod_many ⟨by decide, by decide⟩ gO_516 ⟨_, rfl, rfl⟩ rfl (Nat.le_of_ble_eq_true rfl) (Nat.le_of_ble_eq_true rfl) h9 ?_
  rintro _ M_386 L_387 ⟨v_388, rfl, h9⟩
  refine r_ic_eq d_Law_law_1579 (fun c_389 => ?_) (fun c_389 => ?_)
  · have h9 := h9.1 c_389
    exact h9
  · have h9 := h9.2 c_389
    refine r_iconst (v := 0) d_Law_law_1582 (by decide) ?_
    exact r_iret ⟨d_Law_law_1583, _, rfl, rfl⟩ ⟨_, _, rfl, h9⟩
theorem L_Law_law_1584 {xs : List Int32} {i3 : Int32} {M : Mem} {L : Int64} {Q : Option Value → Mem → Int64 → Prop} 
    (h : RX xs shL md_Peg_digest 0 [.ref 0] [] M L (fun r M_390 L_391 => ∃ v_392 : Int64, r = some (.long v_392) ∧ RX xs shL md_Mod_digest 0 [.ref 516] [] M_390 L_391 (fun r M_393 L_394 => ∃ v_395 : Int64, r = some (.long v_395) ∧ (((lg_cmp v_392 v_395) = 0 → RX xs shL md_Law_law 1598 [.retAddr 0, .ref 0, .ref 516, .int i3] [] M_393 L_394 Q) ∧ (¬ ((lg_cmp v_392 v_395) = 0) → Q (some (.int 0)) M_393 L_394))))) : RX xs shL md_Law_law 1584 [.retAddr 0, .ref 0, .ref 516, .int i3] [] M L Q := by
  refine r_aload_n d_Law_law_1584 rfl ?_
  refine x_callV (as := []) (st := []) d_Law_law_1585 ml_Law_174 mc_Peg_digest mv_Peg_digest ⟨by decide, by decide⟩ gO_0 ⟨_, rfl, rfl⟩ rfl (Nat.le_of_ble_eq_true rfl) (Nat.le_of_ble_eq_true rfl) h ?_
  rintro _ M_390 L_391 ⟨v_392, rfl, h9⟩
  refine r_aload_n d_Law_law_1588 rfl ?_
  refine x_callV (as := []) (st := [.long v_392]) d_Law_law_1589 ml_Law_178 mc_Mod_digest mv_Mod_digest ⟨by decide, by decide⟩ gO_516 ⟨_, rfl, rfl⟩ rfl (Nat.le_of_ble_eq_true rfl) (Nat.le_of_ble_eq_true rfl) h9 ?_
  rintro _ M_393 L_394 ⟨v_395, rfl, h9⟩
  refine r_lcmp d_Law_law_1592 ?_
  refine r_if_eq d_Law_law_1593 (fun c_396 => ?_) (fun c_396 => ?_)
  · have h9 := h9.1 c_396
    exact h9
  · have h9 := h9.2 c_396
    refine r_iconst (v := 0) d_Law_law_1596 (by decide) ?_
    exact r_iret ⟨d_Law_law_1597, _, rfl, rfl⟩ ⟨_, _, rfl, h9⟩
theorem L_Law_law_1598 {xs : List Int32} {i3 : Int32} {M : Mem} {L : Int64} {Q : Option Value → Mem → Int64 → Prop} 
    (h : RX xs shL md_Law_law 18 [.retAddr 0, .ref 0, .ref 516, .int (i3 + 8)] [] M L Q) : RX xs shL md_Law_law 1598 [.retAddr 0, .ref 0, .ref 516, .int i3] [] M L Q := by
  refine r_iinc (v := i3 + 8) d_Law_law_1598 rfl rfl (by decide) ?_
  refine r_goto d_Law_law_1601 ?_
  exact h

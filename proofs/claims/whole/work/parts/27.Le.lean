theorem L_Peg_read_0 {xs : List Int32} {i1 : Int32} {M : Mem} {L : Int64} {Q : Option Value → Mem → Int64 → Prop} 
    (h : ((i1 < 1 → Q (some (.int (-102))) M L) ∧ (¬ (i1 < 1) → RX xs shL md_Compass_hasFigureZero 0 [.int i1] [] M L (fun r M_2 L_3 => ∃ v_4 : Int32, r = some (.int v_4) ∧ ((v_4 = 0 → RX xs shL md_Compass_pointNamed 0 [.int i1] [] M_2 L_3 (fun r M_6 L_7 => ∃ v_8 : Int32, r = some (.int v_8) ∧ ((v_8 = (-1) → RX xs shL md_Compass_lettersThatBegin 0 [.int i1] [] M_6 L_7 (fun r M_10 L_11 => ∃ v_12 : Int32, r = some (.int v_12) ∧ Q (some (.int ((-1000) - v_12))) M_10 L_11)) ∧ (¬ (v_8 = (-1)) → Q (some (.int v_8)) M_6 L_7)))) ∧ (¬ (v_4 = 0) → Q (some (.int (-102))) M_2 L_3)))))) : RX xs shL md_Peg_read 0 [.ref 0, .int i1] [] M L Q := by
  refine r_weak (lv' := [.ref 0, .int i1, .null]) (by repeat (first | exact trivial | refine ⟨rfl, ?_⟩ | exact lle_nil)) ?_
  refine r_iload_n d_Peg_read_0 rfl ?_
  refine r_iconst (v := 1) d_Peg_read_1 (by decide) ?_
  refine r_ic_lt d_Peg_read_2 (fun c_1 => ?_) (fun c_1 => ?_)
  · have h9 := h.1 c_1
    refine r_bipush (v := (-102)) d_Peg_read_12 (by decide) ?_
    exact r_iret ⟨d_Peg_read_14, _, rfl, rfl⟩ ⟨_, _, rfl, h9⟩
  · have h9 := h.2 c_1
    refine r_iload_n d_Peg_read_5 rfl ?_
    refine x_callS (as := [.int i1]) (st := []) d_Peg_read_6 ml_Peg_75 mc_Compass_hasFigureZero ms_Compass_hasFigureZero ⟨by decide, by decide⟩ rfl (Nat.le_of_ble_eq_true rfl) (Nat.le_of_ble_eq_true rfl) h9 ?_
    rintro _ M_2 L_3 ⟨v_4, rfl, h9⟩
    refine r_if_eq d_Peg_read_9 (fun c_5 => ?_) (fun c_5 => ?_)
    · have h9 := h9.1 c_5
      refine r_iload_n d_Peg_read_15 rfl ?_
      refine x_callS (as := [.int i1]) (st := []) d_Peg_read_16 ml_Peg_78 mc_Compass_pointNamed ms_Compass_pointNamed ⟨by decide, by decide⟩ rfl (Nat.le_of_ble_eq_true rfl) (Nat.le_of_ble_eq_true rfl) h9 ?_
      rintro _ M_6 L_7 ⟨v_8, rfl, h9⟩
      refine r_istore_n d_Peg_read_19 (by decide) ?_
      refine r_iload_n d_Peg_read_20 rfl ?_
      refine r_iconst (v := (-1)) d_Peg_read_21 (by decide) ?_
      refine r_ic_eq d_Peg_read_22 (fun c_9 => ?_) (fun c_9 => ?_)
      · have h9 := h9.1 c_9
        refine r_sipush (v := (-1000)) d_Peg_read_29 (by decide) ?_
        refine r_iload_n d_Peg_read_32 rfl ?_
        refine x_callS (as := [.int i1]) (st := [.int (-1000)]) d_Peg_read_33 ml_Peg_82 mc_Compass_lettersThatBegin ms_Compass_lettersThatBegin ⟨by decide, by decide⟩ rfl (Nat.le_of_ble_eq_true rfl) (Nat.le_of_ble_eq_true rfl) h9 ?_
        rintro _ M_10 L_11 ⟨v_12, rfl, h9⟩
        refine r_isub d_Peg_read_36 ?_
        exact r_iret ⟨d_Peg_read_37, _, rfl, rfl⟩ ⟨_, _, rfl, h9⟩
      · have h9 := h9.2 c_9
        refine r_iload_n d_Peg_read_25 rfl ?_
        refine r_goto d_Peg_read_26 ?_
        exact r_iret ⟨d_Peg_read_37, _, rfl, rfl⟩ ⟨_, _, rfl, h9⟩
    · have h9 := h9.2 c_5
      refine r_bipush (v := (-102)) d_Peg_read_12 (by decide) ?_
      exact r_iret ⟨d_Peg_read_14, _, rfl, rfl⟩ ⟨_, _, rfl, h9⟩
theorem L_Peg_go_0 {xs : List Int32} {i1 : Int32} {i2 : Int32} {M : Mem} {L : Int64} {Q : Option Value → Mem → Int64 → Prop} 
    (h : (((0 ≤ i1 ∧ i1 ≤ 31) → ((((0 : Int32) ≤ i2 ∧ i2 ≤ 1) → ((i2 = 0 → ((0 ≤ i1 ∧ i1 ≤ 31) ∧ Q (some (.int (nrt ((i1 + 24) &&& 31)))) M L)) ∧ (¬ (i2 = 0) → ((0 ≤ i1 ∧ i1 ≤ 31) ∧ Q (some (.int (nrt i1))) M L)))) ∧ (¬ ((0 : Int32) ≤ i2 ∧ i2 ≤ 1) → Q (some (.int (-100001))) M L))) ∧ (¬ (0 ≤ i1 ∧ i1 ≤ 31) → Q (some (.int (-100000))) M L))) : RX xs shL md_Peg_go 0 [.ref 0, .int i1, .int i2] [] M L Q := by
  refine r_iload_n d_Peg_go_0 rfl ?_
  refine x_callS (as := [.int i1]) (st := []) d_Peg_go_1 ml_Peg_65 mc_Compass_isPoint ms_Compass_isPoint ⟨by decide, by decide⟩ rfl (Nat.le_of_ble_eq_true rfl) (Nat.le_of_ble_eq_true rfl) (Q1 := fun r M1 L1 => some (.int (bI (0 ≤ i1 ∧ i1 ≤ 31))) = r ∧ M = M1 ∧ L = L1) (s_Compass_isPoint ⟨rfl, rfl, rfl⟩) ?_
  rintro _ _ _ ⟨rfl, rfl, rfl⟩
  refine r_if_ne d_Peg_go_4 (fun c_1 => ?_) (fun c_1 => ?_)
  · have h9 := h.1 (bI_p1 c_1)
    refine r_iload_n d_Peg_go_10 rfl ?_
    refine r_iconst (v := 0) d_Peg_go_11 (by decide) ?_
    refine r_iconst (v := 1) d_Peg_go_12 (by decide) ?_
    refine x_callS (as := [.int i2, .int 0, .int 1]) (st := []) d_Peg_go_13 ml_Peg_90 mc_Peg_isWithin ms_Peg_isWithin ⟨by decide, by decide⟩ rfl (Nat.le_of_ble_eq_true rfl) (Nat.le_of_ble_eq_true rfl) (Q1 := fun r M1 L1 => some (.int (bI ((0 : Int32) ≤ i2 ∧ i2 ≤ 1))) = r ∧ M = M1 ∧ L = L1) (s_Peg_isWithin ⟨rfl, rfl, rfl⟩) ?_
    rintro _ _ _ ⟨rfl, rfl, rfl⟩
    refine r_if_ne d_Peg_go_16 (fun c_2 => ?_) (fun c_2 => ?_)
    · have h9 := h9.1 (bI_p1 c_2)
      refine r_iload_n d_Peg_go_22 rfl ?_
      refine r_if_ne d_Peg_go_23 (fun c_3 => ?_) (fun c_3 => ?_)
      · have h9 := h9.2 c_3
        refine r_iload_n d_Peg_go_33 rfl ?_
        obtain ⟨o_4, h9⟩ := h9
        refine x_callS (as := [.int i1]) (st := []) d_Peg_go_34 ml_Peg_98 mc_Compass_northOf ms_Compass_northOf ⟨by decide, by decide⟩ rfl (Nat.le_of_ble_eq_true rfl) (Nat.le_of_ble_eq_true rfl) (Q1 := fun r M1 L1 => some (.int (nrt i1)) = r ∧ M = M1 ∧ L = L1) (s_Compass_northOf o_4 ⟨rfl, rfl, rfl⟩) ?_
        rintro _ _ _ ⟨rfl, rfl, rfl⟩
        exact r_iret ⟨d_Peg_go_37, _, rfl, rfl⟩ ⟨_, _, rfl, h9⟩
      · have h9 := h9.1 c_3
        refine r_iload_n d_Peg_go_26 rfl ?_
        obtain ⟨o_5, h9⟩ := h9
        refine x_callS (as := [.int i1]) (st := []) d_Peg_go_27 ml_Peg_95 mc_Compass_eastOf ms_Compass_eastOf ⟨by decide, by decide⟩ rfl (Nat.le_of_ble_eq_true rfl) (Nat.le_of_ble_eq_true rfl) (Q1 := fun r M1 L1 => some (.int (nrt ((i1 + 24) &&& 31))) = r ∧ M = M1 ∧ L = L1) (s_Compass_eastOf o_5 ⟨rfl, rfl, rfl⟩) ?_
        rintro _ _ _ ⟨rfl, rfl, rfl⟩
        refine r_goto d_Peg_go_30 ?_
        exact r_iret ⟨d_Peg_go_37, _, rfl, rfl⟩ ⟨_, _, rfl, h9⟩
    · have h9 := h9.2 (bI_p0 c_2)
      refine r_ldc (v := (-100001)) d_Peg_go_19 ck_Peg_94 ?_
      exact r_iret ⟨d_Peg_go_21, _, rfl, rfl⟩ ⟨_, _, rfl, h9⟩
  · have h9 := h.2 (bI_p0 c_1)
    refine r_ldc (v := (-100000)) d_Peg_go_7 ck_Peg_89 ?_
    exact r_iret ⟨d_Peg_go_9, _, rfl, rfl⟩ ⟨_, _, rfl, h9⟩
theorem L_Peg_fault_0 {xs : List Int32}  {M : Mem} {L : Int64} {Q : Option Value → Mem → Int64 → Prop} 
    (h : RX xs shL md_Words_firstFault 0 [.ref 1] [] M L (fun r M_1 L_2 => ∃ v_3 : Int32, r = some (.int v_3) ∧ Q (some (.int v_3)) M_1 L_2)) : RX xs shL md_Peg_fault 0 [.ref 0] [] M L Q := by
  refine r_aload_n d_Peg_fault_0 rfl ?_
  refine x_getR d_Peg_fault_1 fl_Peg_10 gR_0_0 ?_
  refine x_callV (as := []) (st := []) d_Peg_fault_4 ml_Peg_107 mc_Words_firstFault mv_Words_firstFault ⟨by decide, by decide⟩ gO_1 ⟨_, rfl, rfl⟩ rfl (Nat.le_of_ble_eq_true rfl) (Nat.le_of_ble_eq_true rfl) h ?_
  rintro _ M_1 L_2 ⟨v_3, rfl, h9⟩
  exact r_iret ⟨d_Peg_fault_7, _, rfl, rfl⟩ ⟨_, _, rfl, h9⟩
theorem L_Words_firstFault_0 {xs : List Int32}  {M : Mem} {L : Int64} {Q : Option Value → Mem → Int64 → Prop} 
    (h : RX xs shL md_Words_firstFault 4 [.ref 1, .int 1, .int 0, .null] [] M L Q) : RX xs shL md_Words_firstFault 0 [.ref 1] [] M L Q := by
  refine r_weak (lv' := [.ref 1, .null, .null, .null]) (by repeat (first | exact trivial | refine ⟨rfl, ?_⟩ | exact lle_nil)) ?_
  refine r_iconst (v := 1) d_Words_firstFault_0 (by decide) ?_
  refine r_istore_n d_Words_firstFault_1 (by decide) ?_
  refine r_iconst (v := 0) d_Words_firstFault_2 (by decide) ?_
  refine r_istore_n d_Words_firstFault_3 (by decide) ?_
  exact h
theorem L_Words_firstFault_4 {xs : List Int32} {i1 : Int32} {i2 : Int32} {M : Mem} {L : Int64} {Q : Option Value → Mem → Int64 → Prop} 
    (h : (((M 1 2) ≤ i2 → ((i1 = 0 → Q (some (.int (-1))) M L) ∧ (¬ (i1 = 0) → Q (some (.int (M 1 2))) M L))) ∧ (¬ ((M 1 2) ≤ i2) → (vp_in i2 24 ∧ ((i1 = 0 → Q (some (.int i2)) M L) ∧ (¬ (i1 = 0) → RX xs shL md_Words_isWord 0 [.int (M 2 i2.toNatClampNeg)] [] M L (fun r M_5 L_6 => ∃ v_7 : Int32, r = some (.int v_7) ∧ ((v_7 = 0 → Q (some (.int i2)) M_5 L_6) ∧ (¬ (v_7 = 0) → (((0 ≤ (M 2 i2.toNatClampNeg) ∧ (M 2 i2.toNatClampNeg) ≤ 31) → RX xs shL md_Words_firstFault 4 [.ref 1, .int (i1 + (-1)), .int (i2 + 1), .null] [] M_5 L_6 Q) ∧ (¬ (0 ≤ (M 2 i2.toNatClampNeg) ∧ (M 2 i2.toNatClampNeg) ≤ 31) → (((M 2 i2.toNatClampNeg) = 301 → RX xs shL md_Words_firstFault 4 [.ref 1, .int (i1 + 1), .int (i2 + 1), .null] [] M_5 L_6 Q) ∧ (¬ ((M 2 i2.toNatClampNeg) = 301) → RX xs shL md_Words_firstFault 4 [.ref 1, .int i1, .int (i2 + 1), .null] [] M_5 L_6 Q))))))))))))) : RX xs shL md_Words_firstFault 4 [.ref 1, .int i1, .int i2, .null] [] M L Q := by
  refine r_iload_n d_Words_firstFault_4 rfl ?_
  refine r_aload_n d_Words_firstFault_5 rfl ?_
  refine x_getI d_Words_firstFault_6 fl_Words_18 gI_1_2 ?_
  refine r_ic_ge d_Words_firstFault_9 (fun c_1 => ?_) (fun c_1 => ?_)
  · have h9 := h.1 c_1
    refine r_iload_n d_Words_firstFault_61 rfl ?_
    refine r_if_ne d_Words_firstFault_62 (fun c_2 => ?_) (fun c_2 => ?_)
    · have h9 := h9.2 c_2
      refine r_aload_n d_Words_firstFault_69 rfl ?_
      refine x_getI d_Words_firstFault_70 fl_Words_18 gI_1_2 ?_
      exact r_iret ⟨d_Words_firstFault_73, _, rfl, rfl⟩ ⟨_, _, rfl, h9⟩
    · have h9 := h9.1 c_2
      refine r_iconst (v := (-1)) d_Words_firstFault_65 (by decide) ?_
      refine r_goto d_Words_firstFault_66 ?_
      exact r_iret ⟨d_Words_firstFault_73, _, rfl, rfl⟩ ⟨_, _, rfl, h9⟩
  · have h9 := h.2 c_1
    refine r_aload_n d_Words_firstFault_12 rfl ?_
    refine x_getR d_Words_firstFault_13 fl_Words_11 gR_1_0 ?_
    refine r_iload_n d_Words_firstFault_16 rfl ?_
    obtain ⟨o_3, h9⟩ := h9
    refine x_iald d_Words_firstFault_17 aI_2 o_3 ?_
    refine r_istore_n d_Words_firstFault_18 (by decide) ?_
    refine r_iload_n d_Words_firstFault_19 rfl ?_
    refine r_if_eq d_Words_firstFault_20 (fun c_4 => ?_) (fun c_4 => ?_)
    · have h9 := h9.1 c_4
      refine r_iload_n d_Words_firstFault_30 rfl ?_
      exact r_iret ⟨d_Words_firstFault_31, _, rfl, rfl⟩ ⟨_, _, rfl, h9⟩
    · have h9 := h9.2 c_4
      refine r_iload_n d_Words_firstFault_23 rfl ?_
      refine x_callS (as := [.int (M 2 i2.toNatClampNeg)]) (st := []) d_Words_firstFault_24 ml_Words_22 mc_Words_isWord ms_Words_isWord ⟨by decide, by decide⟩ rfl (Nat.le_of_ble_eq_true rfl) (Nat.le_of_ble_eq_true rfl) h9 ?_
      rintro _ M_5 L_6 ⟨v_7, rfl, h9⟩
      refine r_if_ne d_Words_firstFault_27 (fun c_8 => ?_) (fun c_8 => ?_)
      · have h9 := h9.2 c_8
        refine r_iload_n d_Words_firstFault_32 rfl ?_
        refine x_callS (as := [.int (M 2 i2.toNatClampNeg)]) (st := []) d_Words_firstFault_33 ml_Words_26 mc_Compass_isPoint ms_Compass_isPoint ⟨by decide, by decide⟩ rfl (Nat.le_of_ble_eq_true rfl) (Nat.le_of_ble_eq_true rfl) (Q1 := fun r M1 L1 => some (.int (bI (0 ≤ (M 2 i2.toNatClampNeg) ∧ (M 2 i2.toNatClampNeg) ≤ 31))) = r ∧ M_5 = M1 ∧ L_6 = L1) (s_Compass_isPoint ⟨rfl, rfl, rfl⟩) ?_
        rintro _ _ _ ⟨rfl, rfl, rfl⟩
        refine r_if_eq d_Words_firstFault_36 (fun c_9 => ?_) (fun c_9 => ?_)
        · have h9 := h9.2 (bI_p0 c_9)
          refine r_iload_n d_Words_firstFault_45 rfl ?_
          refine r_sipush (v := 301) d_Words_firstFault_46 (by decide) ?_
          refine r_ic_ne d_Words_firstFault_49 (fun c_10 => ?_) (fun c_10 => ?_)
          · have h9 := h9.2 c_10
            refine r_iinc (v := i2 + 1) d_Words_firstFault_55 rfl rfl (by decide) ?_
            refine r_goto d_Words_firstFault_58 ?_
            refine r_weak (lv' := [.ref 1, .int i1, .int (i2 + 1), .null]) (by repeat (first | exact trivial | refine ⟨rfl, ?_⟩ | exact lle_nil)) ?_
            exact h9
          · have h9 := h9.1 c_10
            refine r_iinc (v := i1 + 1) d_Words_firstFault_52 rfl rfl (by decide) ?_
            refine r_iinc (v := i2 + 1) d_Words_firstFault_55 rfl rfl (by decide) ?_
            refine r_goto d_Words_firstFault_58 ?_
            refine r_weak (lv' := [.ref 1, .int (i1 + 1), .int (i2 + 1), .null]) (by repeat (first | exact trivial | refine ⟨rfl, ?_⟩ | exact lle_nil)) ?_
            exact h9
        · have h9 := h9.1 (bI_p1 c_9)
          refine r_iinc (v := i1 + (-1)) d_Words_firstFault_39 rfl rfl (by decide) ?_
          refine r_goto d_Words_firstFault_42 ?_
          refine r_iinc (v := i2 + 1) d_Words_firstFault_55 rfl rfl (by decide) ?_
          refine r_goto d_Words_firstFault_58 ?_
          refine r_weak (lv' := [.ref 1, .int (i1 + (-1)), .int (i2 + 1), .null]) (by repeat (first | exact trivial | refine ⟨rfl, ?_⟩ | exact lle_nil)) ?_
          exact h9
      · have h9 := h9.1 c_8
        refine r_iload_n d_Words_firstFault_30 rfl ?_
        exact r_iret ⟨d_Words_firstFault_31, _, rfl, rfl⟩ ⟨_, _, rfl, h9⟩
theorem L_Peg_told_0 {xs : List Int32}  {M : Mem} {L : Int64} {Q : Option Value → Mem → Int64 → Prop} 
    (h : RX xs shL md_Words_firstFault 0 [.ref 1] [] M L (fun r M_1 L_2 => ∃ v_3 : Int32, r = some (.int v_3) ∧ ((v_3 = (-1) → RX xs shL md_Words_meaning 0 [.ref 1] [] M_1 L_2 (fun r M_5 L_6 => ∃ v_7 : Int32, r = some (.int v_7) ∧ Q (some (.int v_7)) M_5 L_6)) ∧ (¬ (v_3 = (-1)) → Q (some (.int (-103))) M_1 L_2)))) : RX xs shL md_Peg_told 0 [.ref 0] [] M L Q := by
  refine r_aload_n d_Peg_told_0 rfl ?_
  refine x_getR d_Peg_told_1 fl_Peg_10 gR_0_0 ?_
  refine x_callV (as := []) (st := []) d_Peg_told_4 ml_Peg_107 mc_Words_firstFault mv_Words_firstFault ⟨by decide, by decide⟩ gO_1 ⟨_, rfl, rfl⟩ rfl (Nat.le_of_ble_eq_true rfl) (Nat.le_of_ble_eq_true rfl) h ?_
  rintro _ M_1 L_2 ⟨v_3, rfl, h9⟩
  refine r_iconst (v := (-1)) d_Peg_told_7 (by decide) ?_
  refine r_ic_ne d_Peg_told_8 (fun c_4 => ?_) (fun c_4 => ?_)
  · have h9 := h9.2 c_4
    refine r_bipush (v := (-103)) d_Peg_told_21 (by decide) ?_
    exact r_iret ⟨d_Peg_told_23, _, rfl, rfl⟩ ⟨_, _, rfl, h9⟩
  · have h9 := h9.1 c_4
    refine r_aload_n d_Peg_told_11 rfl ?_
    refine x_getR d_Peg_told_12 fl_Peg_10 gR_0_0 ?_
    refine x_callV (as := []) (st := []) d_Peg_told_15 ml_Peg_111 mc_Words_meaning mv_Words_meaning ⟨by decide, by decide⟩ gO_1 ⟨_, rfl, rfl⟩ rfl (Nat.le_of_ble_eq_true rfl) (Nat.le_of_ble_eq_true rfl) h9 ?_
    rintro _ M_5 L_6 ⟨v_7, rfl, h9⟩
    refine r_goto d_Peg_told_18 ?_
    exact r_iret ⟨d_Peg_told_23, _, rfl, rfl⟩ ⟨_, _, rfl, h9⟩
theorem L_Words_meaning_0 {xs : List Int32}  {M : Mem} {L : Int64} {Q : Option Value → Mem → Int64 → Prop} 
    (h : RX xs shL md_Words_meaning 9 [.ref 1, .int 0, .int ((M 1 2) - 1), .null] [] M L Q) : RX xs shL md_Words_meaning 0 [.ref 1] [] M L Q := by
  refine r_weak (lv' := [.ref 1, .null, .null, .null]) (by repeat (first | exact trivial | refine ⟨rfl, ?_⟩ | exact lle_nil)) ?_
  refine r_iconst (v := 0) d_Words_meaning_0 (by decide) ?_
  refine r_istore_n d_Words_meaning_1 (by decide) ?_
  refine r_aload_n d_Words_meaning_2 rfl ?_
  refine x_getI d_Words_meaning_3 fl_Words_18 gI_1_2 ?_
  refine r_iconst (v := 1) d_Words_meaning_6 (by decide) ?_
  refine r_isub d_Words_meaning_7 ?_
  refine r_istore_n d_Words_meaning_8 (by decide) ?_
  exact h
set_option maxHeartbeats 4000000 in
theorem L_Words_meaning_9 {xs : List Int32} {i1 : Int32} {i2 : Int32} {M : Mem} {L : Int64} {Q : Option Value → Mem → Int64 → Prop} 
    (h : ((i2 < 0 → Q (some (.int (M 3 0))) M L) ∧ (¬ (i2 < 0) → (vp_in i2 24 ∧ (((0 ≤ (M 2 i2.toNatClampNeg) ∧ (M 2 i2.toNatClampNeg) ≤ 31) → (vp_in i1 24 ∧ RX xs shL md_Words_meaning 9 [.ref 1, .int (i1 + 1), .int (i2 + (-1)), .null] [] (up M 3 i1.toNatClampNeg (M 2 i2.toNatClampNeg)) L Q)) ∧ (¬ (0 ≤ (M 2 i2.toNatClampNeg) ∧ (M 2 i2.toNatClampNeg) ≤ 31) → (((M 2 i2.toNatClampNeg) = 301 → ((i1 < 2 → ((i1 < 1 → RX xs shL md_Words_meaning 9 [.ref 1, .int i1, .int (i2 + (-1)), .null] [] M L Q) ∧ (¬ (i1 < 1) → (vp_in (i1 - 1) 24 ∧ RX xs shL md_Words_meaning 9 [.ref 1, .int i1, .int (i2 + (-1)), .null] [] (up M 3 ((i1 - 1).toNatClampNeg) (((M 3 ((i1 - 1).toNatClampNeg)) + (trn (M 2 i2.toNatClampNeg))) &&& 31)) L Q)))) ∧ (¬ (i1 < 2) → (vp_in (i1 + (-1)) 24 ∧ (vp_in ((i1 + (-1)) - 1) 24 ∧ RX xs shL md_Words_meaning 9 [.ref 1, .int (i1 + (-1)), .int (i2 + (-1)), .null] [] (up M 3 (((i1 + (-1)) - 1).toNatClampNeg) (((M 3 ((i1 + (-1)).toNatClampNeg)) + ((((M 3 (((i1 + (-1)) - 1).toNatClampNeg)) - (M 3 ((i1 + (-1)).toNatClampNeg))) &&& 31) / 2)) &&& 31)) L Q))))) ∧ (¬ ((M 2 i2.toNatClampNeg) = 301) → ((i1 < 1 → RX xs shL md_Words_meaning 9 [.ref 1, .int i1, .int (i2 + (-1)), .null] [] M L Q) ∧ (¬ (i1 < 1) → (vp_in (i1 - 1) 24 ∧ RX xs shL md_Words_meaning 9 [.ref 1, .int i1, .int (i2 + (-1)), .null] [] (up M 3 ((i1 - 1).toNatClampNeg) (((M 3 ((i1 - 1).toNatClampNeg)) + (trn (M 2 i2.toNatClampNeg))) &&& 31)) L Q))))))))))) : RX xs shL md_Words_meaning 9 [.ref 1, .int i1, .int i2, .null] [] M L Q := by
  refine r_iload_n d_Words_meaning_9 rfl ?_
  refine r_if_lt d_Words_meaning_10 (fun c_1 => ?_) (fun c_1 => ?_)
  · have h9 := h.1 c_1
    refine r_aload_n d_Words_meaning_117 rfl ?_
    refine x_getR d_Words_meaning_118 fl_Words_15 gR_1_1 ?_
    refine r_iconst (v := 0) d_Words_meaning_121 (by decide) ?_
    refine x_iald d_Words_meaning_122 aI_3 (by unfold vp_in; decide) ?_
    exact r_iret ⟨d_Words_meaning_123, _, rfl, rfl⟩ ⟨_, _, rfl, h9⟩
  · have h9 := h.2 c_1
    refine r_aload_n d_Words_meaning_13 rfl ?_
    refine x_getR d_Words_meaning_14 fl_Words_11 gR_1_0 ?_
    refine r_iload_n d_Words_meaning_17 rfl ?_
    obtain ⟨o_2, h9⟩ := h9
    refine x_iald d_Words_meaning_18 aI_2 o_2 ?_
    refine r_istore_n d_Words_meaning_19 (by decide) ?_
    refine r_iload_n d_Words_meaning_20 rfl ?_
    refine x_callS (as := [.int (M 2 i2.toNatClampNeg)]) (st := []) d_Words_meaning_21 ml_Words_26 mc_Compass_isPoint ms_Compass_isPoint ⟨by decide, by decide⟩ rfl (Nat.le_of_ble_eq_true rfl) (Nat.le_of_ble_eq_true rfl) (Q1 := fun r M1 L1 => some (.int (bI (0 ≤ (M 2 i2.toNatClampNeg) ∧ (M 2 i2.toNatClampNeg) ≤ 31))) = r ∧ M = M1 ∧ L = L1) (s_Compass_isPoint ⟨rfl, rfl, rfl⟩) ?_
    rintro _ _ _ ⟨rfl, rfl, rfl⟩
    refine r_if_eq d_Words_meaning_24 (fun c_3 => ?_) (fun c_3 => ?_)
    · have h9 := h9.2 (bI_p0 c_3)
      refine r_iload_n d_Words_meaning_40 rfl ?_
      refine r_sipush (v := 301) d_Words_meaning_41 (by decide) ?_
      refine r_ic_ne d_Words_meaning_44 (fun c_4 => ?_) (fun c_4 => ?_)
      · have h9 := h9.2 c_4
        refine r_iload_n d_Words_meaning_83 rfl ?_
        refine r_iconst (v := 1) d_Words_meaning_84 (by decide) ?_
        refine r_ic_lt d_Words_meaning_85 (fun c_5 => ?_) (fun c_5 => ?_)
        · have h9 := h9.1 c_5
          refine r_iinc (v := i2 + (-1)) d_Words_meaning_111 rfl rfl (by decide) ?_
          refine r_goto d_Words_meaning_114 ?_
          refine r_weak (lv' := [.ref 1, .int i1, .int (i2 + (-1)), .null]) (by repeat (first | exact trivial | refine ⟨rfl, ?_⟩ | exact lle_nil)) ?_
          exact h9
        · have h9 := h9.2 c_5
          refine r_aload_n d_Words_meaning_88 rfl ?_
          refine x_getR d_Words_meaning_89 fl_Words_15 gR_1_1 ?_
          refine r_iload_n d_Words_meaning_92 rfl ?_
          refine r_iconst (v := 1) d_Words_meaning_93 (by decide) ?_
          refine r_isub d_Words_meaning_94 ?_
          refine r_aload_n d_Words_meaning_95 rfl ?_
          refine x_getR d_Words_meaning_96 fl_Words_15 gR_1_1 ?_
          refine r_iload_n d_Words_meaning_99 rfl ?_
          refine r_iconst (v := 1) d_Words_meaning_100 (by decide) ?_
          refine r_isub d_Words_meaning_101 ?_
          obtain ⟨o_6, h9⟩ := h9
          refine x_iald d_Words_meaning_102 aI_3 o_6 ?_
          refine r_iload_n d_Words_meaning_103 rfl ?_
          refine x_callS (as := [.int (M 2 i2.toNatClampNeg)]) (st := [.int (M 3 ((i1 - 1).toNatClampNeg)), .int (i1 - 1), .ref 3]) d_Words_meaning_104 ml_Words_35 mc_Words_turnOf ms_Words_turnOf ⟨by decide, by decide⟩ rfl (Nat.le_of_ble_eq_true rfl) (Nat.le_of_ble_eq_true rfl) (Q1 := fun r M1 L1 => some (.int (trn (M 2 i2.toNatClampNeg))) = r ∧ M = M1 ∧ L = L1) (s_Words_turnOf ⟨rfl, rfl, rfl⟩) ?_
          rintro _ _ _ ⟨rfl, rfl, rfl⟩
          refine x_callS (as := [.int (M 3 ((i1 - 1).toNatClampNeg)), .int (trn (M 2 i2.toNatClampNeg))]) (st := [.int (i1 - 1), .ref 3]) d_Words_meaning_107 ml_Words_39 mc_Compass_turned ms_Compass_turned ⟨by decide, by decide⟩ rfl (Nat.le_of_ble_eq_true rfl) (Nat.le_of_ble_eq_true rfl) (Q1 := fun r M1 L1 => some (.int (((M 3 ((i1 - 1).toNatClampNeg)) + (trn (M 2 i2.toNatClampNeg))) &&& 31)) = r ∧ M = M1 ∧ L = L1) (s_Compass_turned ⟨rfl, rfl, rfl⟩) ?_
          rintro _ _ _ ⟨rfl, rfl, rfl⟩
          refine x_iast d_Words_meaning_110 aI_3 o_6 ?_
          refine r_iinc (v := i2 + (-1)) d_Words_meaning_111 rfl rfl (by decide) ?_
          refine r_goto d_Words_meaning_114 ?_
          refine r_weak (lv' := [.ref 1, .int i1, .int (i2 + (-1)), .null]) (by repeat (first | exact trivial | refine ⟨rfl, ?_⟩ | exact lle_nil)) ?_
          exact h9
      · have h9 := h9.1 c_4
        refine r_iload_n d_Words_meaning_47 rfl ?_
        refine r_iconst (v := 2) d_Words_meaning_48 (by decide) ?_
        refine r_ic_lt d_Words_meaning_49 (fun c_7 => ?_) (fun c_7 => ?_)
        · have h9 := h9.1 c_7
          refine r_iload_n d_Words_meaning_83 rfl ?_
          refine r_iconst (v := 1) d_Words_meaning_84 (by decide) ?_
          refine r_ic_lt d_Words_meaning_85 (fun c_8 => ?_) (fun c_8 => ?_)
          · have h9 := h9.1 c_8
            refine r_iinc (v := i2 + (-1)) d_Words_meaning_111 rfl rfl (by decide) ?_
            refine r_goto d_Words_meaning_114 ?_
            refine r_weak (lv' := [.ref 1, .int i1, .int (i2 + (-1)), .null]) (by repeat (first | exact trivial | refine ⟨rfl, ?_⟩ | exact lle_nil)) ?_
            exact h9
          · have h9 := h9.2 c_8
            refine r_aload_n d_Words_meaning_88 rfl ?_
            refine x_getR d_Words_meaning_89 fl_Words_15 gR_1_1 ?_
            refine r_iload_n d_Words_meaning_92 rfl ?_
            refine r_iconst (v := 1) d_Words_meaning_93 (by decide) ?_
            refine r_isub d_Words_meaning_94 ?_
            refine r_aload_n d_Words_meaning_95 rfl ?_
            refine x_getR d_Words_meaning_96 fl_Words_15 gR_1_1 ?_
            refine r_iload_n d_Words_meaning_99 rfl ?_
            refine r_iconst (v := 1) d_Words_meaning_100 (by decide) ?_
            refine r_isub d_Words_meaning_101 ?_
            obtain ⟨o_9, h9⟩ := h9
            refine x_iald d_Words_meaning_102 aI_3 o_9 ?_
            refine r_iload_n d_Words_meaning_103 rfl ?_
            refine x_callS (as := [.int (M 2 i2.toNatClampNeg)]) (st := [.int (M 3 ((i1 - 1).toNatClampNeg)), .int (i1 - 1), .ref 3]) d_Words_meaning_104 ml_Words_35 mc_Words_turnOf ms_Words_turnOf ⟨by decide, by decide⟩ rfl (Nat.le_of_ble_eq_true rfl) (Nat.le_of_ble_eq_true rfl) (Q1 := fun r M1 L1 => some (.int (trn (M 2 i2.toNatClampNeg))) = r ∧ M = M1 ∧ L = L1) (s_Words_turnOf ⟨rfl, rfl, rfl⟩) ?_
            rintro _ _ _ ⟨rfl, rfl, rfl⟩
            refine x_callS (as := [.int (M 3 ((i1 - 1).toNatClampNeg)), .int (trn (M 2 i2.toNatClampNeg))]) (st := [.int (i1 - 1), .ref 3]) d_Words_meaning_107 ml_Words_39 mc_Compass_turned ms_Compass_turned ⟨by decide, by decide⟩ rfl (Nat.le_of_ble_eq_true rfl) (Nat.le_of_ble_eq_true rfl) (Q1 := fun r M1 L1 => some (.int (((M 3 ((i1 - 1).toNatClampNeg)) + (trn (M 2 i2.toNatClampNeg))) &&& 31)) = r ∧ M = M1 ∧ L = L1) (s_Compass_turned ⟨rfl, rfl, rfl⟩) ?_
            rintro _ _ _ ⟨rfl, rfl, rfl⟩
            refine x_iast d_Words_meaning_110 aI_3 o_9 ?_
            refine r_iinc (v := i2 + (-1)) d_Words_meaning_111 rfl rfl (by decide) ?_
            refine r_goto d_Words_meaning_114 ?_
            refine r_weak (lv' := [.ref 1, .int i1, .int (i2 + (-1)), .null]) (by repeat (first | exact trivial | refine ⟨rfl, ?_⟩ | exact lle_nil)) ?_
            exact h9
        · have h9 := h9.2 c_7
          refine r_iinc (v := i1 + (-1)) d_Words_meaning_52 rfl rfl (by decide) ?_
          refine r_aload_n d_Words_meaning_55 rfl ?_
          refine x_getR d_Words_meaning_56 fl_Words_15 gR_1_1 ?_
          refine r_iload_n d_Words_meaning_59 rfl ?_
          refine r_iconst (v := 1) d_Words_meaning_60 (by decide) ?_
          refine r_isub d_Words_meaning_61 ?_
          refine r_aload_n d_Words_meaning_62 rfl ?_
          refine x_getR d_Words_meaning_63 fl_Words_15 gR_1_1 ?_
          refine r_iload_n d_Words_meaning_66 rfl ?_
          obtain ⟨o_10, h9⟩ := h9
          refine x_iald d_Words_meaning_67 aI_3 o_10 ?_
          refine r_aload_n d_Words_meaning_68 rfl ?_
          refine x_getR d_Words_meaning_69 fl_Words_15 gR_1_1 ?_
          refine r_iload_n d_Words_meaning_72 rfl ?_
          refine r_iconst (v := 1) d_Words_meaning_73 (by decide) ?_
          refine r_isub d_Words_meaning_74 ?_
          obtain ⟨o_11, h9⟩ := h9
          refine x_iald d_Words_meaning_75 aI_3 o_11 ?_
          refine x_callS (as := [.int (M 3 ((i1 + (-1)).toNatClampNeg)), .int (M 3 (((i1 + (-1)) - 1).toNatClampNeg))]) (st := [.int ((i1 + (-1)) - 1), .ref 3]) d_Words_meaning_76 ml_Words_31 mc_Words_halfway ms_Words_halfway ⟨by decide, by decide⟩ rfl (Nat.le_of_ble_eq_true rfl) (Nat.le_of_ble_eq_true rfl) (Q1 := fun r M1 L1 => some (.int (((M 3 ((i1 + (-1)).toNatClampNeg)) + ((((M 3 (((i1 + (-1)) - 1).toNatClampNeg)) - (M 3 ((i1 + (-1)).toNatClampNeg))) &&& 31) / 2)) &&& 31)) = r ∧ M = M1 ∧ L = L1) (L_Words_halfway_0 ⟨rfl, rfl, rfl⟩) ?_
          rintro _ _ _ ⟨rfl, rfl, rfl⟩
          refine x_iast d_Words_meaning_79 aI_3 o_11 ?_
          refine r_goto d_Words_meaning_80 ?_
          refine r_iinc (v := i2 + (-1)) d_Words_meaning_111 rfl rfl (by decide) ?_
          refine r_goto d_Words_meaning_114 ?_
          refine r_weak (lv' := [.ref 1, .int (i1 + (-1)), .int (i2 + (-1)), .null]) (by repeat (first | exact trivial | refine ⟨rfl, ?_⟩ | exact lle_nil)) ?_
          exact h9
    · have h9 := h9.1 (bI_p1 c_3)
      refine r_aload_n d_Words_meaning_27 rfl ?_
      refine x_getR d_Words_meaning_28 fl_Words_15 gR_1_1 ?_
      refine r_iload_n d_Words_meaning_31 rfl ?_
      refine r_iload_n d_Words_meaning_32 rfl ?_
      obtain ⟨o_12, h9⟩ := h9
      refine x_iast d_Words_meaning_33 aI_3 o_12 ?_
      refine r_iinc (v := i1 + 1) d_Words_meaning_34 rfl rfl (by decide) ?_
      refine r_goto d_Words_meaning_37 ?_
      refine r_iinc (v := i2 + (-1)) d_Words_meaning_111 rfl rfl (by decide) ?_
      refine r_goto d_Words_meaning_114 ?_
      refine r_weak (lv' := [.ref 1, .int (i1 + 1), .int (i2 + (-1)), .null]) (by repeat (first | exact trivial | refine ⟨rfl, ?_⟩ | exact lle_nil)) ?_
      exact h9
theorem L_Peg_peg_0 {xs : List Int32} {i1 : Int32} {i2 : Int32} {i3 : Int32} {M : Mem} {L : Int64} {Q : Option Value → Mem → Int64 → Prop} 
    (h : (((0 ≤ i1 ∧ i1 < M 4 1) → ((((0 : Int32) ≤ i2 ∧ i2 ≤ 7) → ((i3 = (-1) → (vp_in i1 24 ∧ RX xs shL md_Watch_putPeg 0 [.ref (6 + 5 * i1.toNatClampNeg), .int i2, .int i3] [] M L (fun r M_5 L_6 => ∃ v_7 : Int32, r = some (.int v_7) ∧ Q (some (.int v_7)) M_5 L_6))) ∧ (¬ (i3 = (-1)) → (((0 ≤ i3 ∧ i3 ≤ 31) → (vp_in i1 24 ∧ RX xs shL md_Watch_putPeg 0 [.ref (6 + 5 * i1.toNatClampNeg), .int i2, .int i3] [] M L (fun r M_10 L_11 => ∃ v_12 : Int32, r = some (.int v_12) ∧ Q (some (.int v_12)) M_10 L_11))) ∧ (¬ (0 ≤ i3 ∧ i3 ≤ 31) → Q (some (.int (-102))) M L))))) ∧ (¬ ((0 : Int32) ≤ i2 ∧ i2 ≤ 7) → Q (some (.int (-101))) M L))) ∧ (¬ (0 ≤ i1 ∧ i1 < M 4 1) → Q (some (.int (-101))) M L))) : RX xs shL md_Peg_peg 0 [.ref 0, .int i1, .int i2, .int i3] [] M L Q := by
  refine r_aload_n d_Peg_peg_0 rfl ?_
  refine x_getR d_Peg_peg_1 fl_Peg_19 gR_0_1 ?_
  refine r_iload_n d_Peg_peg_4 rfl ?_
  refine x_callV (as := [.int i1]) (st := []) d_Peg_peg_5 ml_Peg_117 mc_Board_isWatch mv_Board_isWatch ⟨by decide, by decide⟩ gO_4 ⟨_, rfl, rfl⟩ rfl (Nat.le_of_ble_eq_true rfl) (Nat.le_of_ble_eq_true rfl) (Q1 := fun r M1 L1 => some (.int (bI (0 ≤ i1 ∧ i1 < M 4 1))) = r ∧ M = M1 ∧ L = L1) (s_Board_isWatch ⟨rfl, rfl, rfl⟩) ?_
  rintro _ _ _ ⟨rfl, rfl, rfl⟩
  refine r_if_eq d_Peg_peg_8 (fun c_1 => ?_) (fun c_1 => ?_)
  · have h9 := h.2 (bI_p0 c_1)
    refine r_bipush (v := (-101)) d_Peg_peg_21 (by decide) ?_
    exact r_iret ⟨d_Peg_peg_23, _, rfl, rfl⟩ ⟨_, _, rfl, h9⟩
  · have h9 := h.1 (bI_p1 c_1)
    refine r_iload_n d_Peg_peg_11 rfl ?_
    refine r_iconst (v := 0) d_Peg_peg_12 (by decide) ?_
    refine r_bipush (v := 7) d_Peg_peg_13 (by decide) ?_
    refine x_callS (as := [.int i2, .int 0, .int 7]) (st := []) d_Peg_peg_15 ml_Peg_90 mc_Peg_isWithin ms_Peg_isWithin ⟨by decide, by decide⟩ rfl (Nat.le_of_ble_eq_true rfl) (Nat.le_of_ble_eq_true rfl) (Q1 := fun r M1 L1 => some (.int (bI ((0 : Int32) ≤ i2 ∧ i2 ≤ 7))) = r ∧ M = M1 ∧ L = L1) (s_Peg_isWithin ⟨rfl, rfl, rfl⟩) ?_
    rintro _ _ _ ⟨rfl, rfl, rfl⟩
    refine r_if_ne d_Peg_peg_18 (fun c_2 => ?_) (fun c_2 => ?_)
    · have h9 := h9.1 (bI_p1 c_2)
      refine r_iload_n d_Peg_peg_24 rfl ?_
      refine r_iconst (v := (-1)) d_Peg_peg_25 (by decide) ?_
      refine r_ic_eq d_Peg_peg_26 (fun c_3 => ?_) (fun c_3 => ?_)
      · have h9 := h9.1 c_3
        refine r_aload_n d_Peg_peg_39 rfl ?_
        refine x_getR d_Peg_peg_40 fl_Peg_19 gR_0_1 ?_
        refine x_getR d_Peg_peg_43 fl_Peg_122 gR_4_0 ?_
        refine r_iload_n d_Peg_peg_46 rfl ?_
        obtain ⟨o_4, h9⟩ := h9
        refine x_aald d_Peg_peg_47 aR_5 o_4 ?_
        refine r_iload_n d_Peg_peg_48 rfl ?_
        refine r_iload_n d_Peg_peg_49 rfl ?_
        refine x_callV (as := [.int i2, .int i3]) (st := []) d_Peg_peg_50 ml_Peg_126 mc_Watch_putPeg mv_Watch_putPeg ⟨by decide, by decide⟩ (wt_O (vp_lt o_4)) ⟨_, rfl, rfl⟩ rfl (Nat.le_of_ble_eq_true rfl) (Nat.le_of_ble_eq_true rfl) h9 ?_
        rintro _ M_5 L_6 ⟨v_7, rfl, h9⟩
        exact r_iret ⟨d_Peg_peg_53, _, rfl, rfl⟩ ⟨_, _, rfl, h9⟩
      · have h9 := h9.2 c_3
        refine r_iload_n d_Peg_peg_29 rfl ?_
        refine x_callS (as := [.int i3]) (st := []) d_Peg_peg_30 ml_Peg_65 mc_Compass_isPoint ms_Compass_isPoint ⟨by decide, by decide⟩ rfl (Nat.le_of_ble_eq_true rfl) (Nat.le_of_ble_eq_true rfl) (Q1 := fun r M1 L1 => some (.int (bI (0 ≤ i3 ∧ i3 ≤ 31))) = r ∧ M = M1 ∧ L = L1) (s_Compass_isPoint ⟨rfl, rfl, rfl⟩) ?_
        rintro _ _ _ ⟨rfl, rfl, rfl⟩
        refine r_if_ne d_Peg_peg_33 (fun c_8 => ?_) (fun c_8 => ?_)
        · have h9 := h9.1 (bI_p1 c_8)
          refine r_aload_n d_Peg_peg_39 rfl ?_
          refine x_getR d_Peg_peg_40 fl_Peg_19 gR_0_1 ?_
          refine x_getR d_Peg_peg_43 fl_Peg_122 gR_4_0 ?_
          refine r_iload_n d_Peg_peg_46 rfl ?_
          obtain ⟨o_9, h9⟩ := h9
          refine x_aald d_Peg_peg_47 aR_5 o_9 ?_
          refine r_iload_n d_Peg_peg_48 rfl ?_
          refine r_iload_n d_Peg_peg_49 rfl ?_
          refine x_callV (as := [.int i2, .int i3]) (st := []) d_Peg_peg_50 ml_Peg_126 mc_Watch_putPeg mv_Watch_putPeg ⟨by decide, by decide⟩ (wt_O (vp_lt o_9)) ⟨_, rfl, rfl⟩ rfl (Nat.le_of_ble_eq_true rfl) (Nat.le_of_ble_eq_true rfl) h9 ?_
          rintro _ M_10 L_11 ⟨v_12, rfl, h9⟩
          exact r_iret ⟨d_Peg_peg_53, _, rfl, rfl⟩ ⟨_, _, rfl, h9⟩
        · have h9 := h9.2 (bI_p0 c_8)
          refine r_bipush (v := (-102)) d_Peg_peg_36 (by decide) ?_
          exact r_iret ⟨d_Peg_peg_38, _, rfl, rfl⟩ ⟨_, _, rfl, h9⟩
    · have h9 := h9.2 (bI_p0 c_2)
      refine r_bipush (v := (-101)) d_Peg_peg_21 (by decide) ?_
      exact r_iret ⟨d_Peg_peg_23, _, rfl, rfl⟩ ⟨_, _, rfl, h9⟩
theorem L_Peg_knots_0 {xs : List Int32} {i1 : Int32} {i2 : Int32} {i3 : Int32} {M : Mem} {L : Int64} {Q : Option Value → Mem → Int64 → Prop} 
    (h : (((0 ≤ i1 ∧ i1 < M 4 1) → ((((0 : Int32) ≤ i2 ∧ i2 ≤ 3) → ((((0 : Int32) ≤ i3 ∧ i3 ≤ 12) → (vp_in i1 24 ∧ RX xs shL md_Watch_putKnots 0 [.ref (6 + 5 * i1.toNatClampNeg), .int i2, .int i3] [] M L (fun r M_5 L_6 => ∃ v_7 : Int32, r = some (.int v_7) ∧ Q (some (.int v_7)) M_5 L_6))) ∧ (¬ ((0 : Int32) ≤ i3 ∧ i3 ≤ 12) → Q (some (.int (-102))) M L))) ∧ (¬ ((0 : Int32) ≤ i2 ∧ i2 ≤ 3) → Q (some (.int (-101))) M L))) ∧ (¬ (0 ≤ i1 ∧ i1 < M 4 1) → Q (some (.int (-101))) M L))) : RX xs shL md_Peg_knots 0 [.ref 0, .int i1, .int i2, .int i3] [] M L Q := by
  refine r_aload_n d_Peg_knots_0 rfl ?_
  refine x_getR d_Peg_knots_1 fl_Peg_19 gR_0_1 ?_
  refine r_iload_n d_Peg_knots_4 rfl ?_
  refine x_callV (as := [.int i1]) (st := []) d_Peg_knots_5 ml_Peg_117 mc_Board_isWatch mv_Board_isWatch ⟨by decide, by decide⟩ gO_4 ⟨_, rfl, rfl⟩ rfl (Nat.le_of_ble_eq_true rfl) (Nat.le_of_ble_eq_true rfl) (Q1 := fun r M1 L1 => some (.int (bI (0 ≤ i1 ∧ i1 < M 4 1))) = r ∧ M = M1 ∧ L = L1) (s_Board_isWatch ⟨rfl, rfl, rfl⟩) ?_
  rintro _ _ _ ⟨rfl, rfl, rfl⟩
  refine r_if_eq d_Peg_knots_8 (fun c_1 => ?_) (fun c_1 => ?_)
  · have h9 := h.2 (bI_p0 c_1)
    refine r_bipush (v := (-101)) d_Peg_knots_20 (by decide) ?_
    exact r_iret ⟨d_Peg_knots_22, _, rfl, rfl⟩ ⟨_, _, rfl, h9⟩
  · have h9 := h.1 (bI_p1 c_1)
    refine r_iload_n d_Peg_knots_11 rfl ?_
    refine r_iconst (v := 0) d_Peg_knots_12 (by decide) ?_
    refine r_iconst (v := 3) d_Peg_knots_13 (by decide) ?_
    refine x_callS (as := [.int i2, .int 0, .int 3]) (st := []) d_Peg_knots_14 ml_Peg_90 mc_Peg_isWithin ms_Peg_isWithin ⟨by decide, by decide⟩ rfl (Nat.le_of_ble_eq_true rfl) (Nat.le_of_ble_eq_true rfl) (Q1 := fun r M1 L1 => some (.int (bI ((0 : Int32) ≤ i2 ∧ i2 ≤ 3))) = r ∧ M = M1 ∧ L = L1) (s_Peg_isWithin ⟨rfl, rfl, rfl⟩) ?_
    rintro _ _ _ ⟨rfl, rfl, rfl⟩
    refine r_if_ne d_Peg_knots_17 (fun c_2 => ?_) (fun c_2 => ?_)
    · have h9 := h9.1 (bI_p1 c_2)
      refine r_iload_n d_Peg_knots_23 rfl ?_
      refine r_iconst (v := 0) d_Peg_knots_24 (by decide) ?_
      refine r_bipush (v := 12) d_Peg_knots_25 (by decide) ?_
      refine x_callS (as := [.int i3, .int 0, .int 12]) (st := []) d_Peg_knots_27 ml_Peg_90 mc_Peg_isWithin ms_Peg_isWithin ⟨by decide, by decide⟩ rfl (Nat.le_of_ble_eq_true rfl) (Nat.le_of_ble_eq_true rfl) (Q1 := fun r M1 L1 => some (.int (bI ((0 : Int32) ≤ i3 ∧ i3 ≤ 12))) = r ∧ M = M1 ∧ L = L1) (s_Peg_isWithin ⟨rfl, rfl, rfl⟩) ?_
      rintro _ _ _ ⟨rfl, rfl, rfl⟩
      refine r_if_ne d_Peg_knots_30 (fun c_3 => ?_) (fun c_3 => ?_)
      · have h9 := h9.1 (bI_p1 c_3)
        refine r_aload_n d_Peg_knots_36 rfl ?_
        refine x_getR d_Peg_knots_37 fl_Peg_19 gR_0_1 ?_
        refine x_getR d_Peg_knots_40 fl_Peg_122 gR_4_0 ?_
        refine r_iload_n d_Peg_knots_43 rfl ?_
        obtain ⟨o_4, h9⟩ := h9
        refine x_aald d_Peg_knots_44 aR_5 o_4 ?_
        refine r_iload_n d_Peg_knots_45 rfl ?_
        refine r_iload_n d_Peg_knots_46 rfl ?_
        refine x_callV (as := [.int i2, .int i3]) (st := []) d_Peg_knots_47 ml_Peg_129 mc_Watch_putKnots mv_Watch_putKnots ⟨by decide, by decide⟩ (wt_O (vp_lt o_4)) ⟨_, rfl, rfl⟩ rfl (Nat.le_of_ble_eq_true rfl) (Nat.le_of_ble_eq_true rfl) h9 ?_
        rintro _ M_5 L_6 ⟨v_7, rfl, h9⟩
        exact r_iret ⟨d_Peg_knots_50, _, rfl, rfl⟩ ⟨_, _, rfl, h9⟩
      · have h9 := h9.2 (bI_p0 c_3)
        refine r_bipush (v := (-102)) d_Peg_knots_33 (by decide) ?_
        exact r_iret ⟨d_Peg_knots_35, _, rfl, rfl⟩ ⟨_, _, rfl, h9⟩
    · have h9 := h9.2 (bI_p0 c_2)
      refine r_bipush (v := (-101)) d_Peg_knots_20 (by decide) ?_
      exact r_iret ⟨d_Peg_knots_22, _, rfl, rfl⟩ ⟨_, _, rfl, h9⟩
theorem L_Peg_set_0 {xs : List Int32} {i1 : Int32} {i2 : Int32} {i3 : Int32} {M : Mem} {L : Int64} {Q : Option Value → Mem → Int64 → Prop} 
    (h : (((0 ≤ i1 ∧ i1 < M 4 1) → ((((0 : Int32) ≤ i2 ∧ i2 ≤ 2) → ((((0 : Int32) ≤ i3 ∧ i3 ≤ (if i2 = 0 then 5 else if i2 = 1 then 31 else 2)) → (vp_in i1 24 ∧ RX xs shL md_Watch_putTrait 0 [.ref (6 + 5 * i1.toNatClampNeg), .int i2, .int i3] [] M L (fun r M_5 L_6 => ∃ v_7 : Int32, r = some (.int v_7) ∧ Q (some (.int v_7)) M_5 L_6))) ∧ (¬ ((0 : Int32) ≤ i3 ∧ i3 ≤ (if i2 = 0 then 5 else if i2 = 1 then 31 else 2)) → Q (some (.int (-102))) M L))) ∧ (¬ ((0 : Int32) ≤ i2 ∧ i2 ≤ 2) → Q (some (.int (-101))) M L))) ∧ (¬ (0 ≤ i1 ∧ i1 < M 4 1) → Q (some (.int (-101))) M L))) : RX xs shL md_Peg_set 0 [.ref 0, .int i1, .int i2, .int i3] [] M L Q := by
  refine r_aload_n d_Peg_set_0 rfl ?_
  refine x_getR d_Peg_set_1 fl_Peg_19 gR_0_1 ?_
  refine r_iload_n d_Peg_set_4 rfl ?_
  refine x_callV (as := [.int i1]) (st := []) d_Peg_set_5 ml_Peg_117 mc_Board_isWatch mv_Board_isWatch ⟨by decide, by decide⟩ gO_4 ⟨_, rfl, rfl⟩ rfl (Nat.le_of_ble_eq_true rfl) (Nat.le_of_ble_eq_true rfl) (Q1 := fun r M1 L1 => some (.int (bI (0 ≤ i1 ∧ i1 < M 4 1))) = r ∧ M = M1 ∧ L = L1) (s_Board_isWatch ⟨rfl, rfl, rfl⟩) ?_
  rintro _ _ _ ⟨rfl, rfl, rfl⟩
  refine r_if_eq d_Peg_set_8 (fun c_1 => ?_) (fun c_1 => ?_)
  · have h9 := h.2 (bI_p0 c_1)
    refine r_bipush (v := (-101)) d_Peg_set_20 (by decide) ?_
    exact r_iret ⟨d_Peg_set_22, _, rfl, rfl⟩ ⟨_, _, rfl, h9⟩
  · have h9 := h.1 (bI_p1 c_1)
    refine r_iload_n d_Peg_set_11 rfl ?_
    refine r_iconst (v := 0) d_Peg_set_12 (by decide) ?_
    refine r_iconst (v := 2) d_Peg_set_13 (by decide) ?_
    refine x_callS (as := [.int i2, .int 0, .int 2]) (st := []) d_Peg_set_14 ml_Peg_90 mc_Peg_isWithin ms_Peg_isWithin ⟨by decide, by decide⟩ rfl (Nat.le_of_ble_eq_true rfl) (Nat.le_of_ble_eq_true rfl) (Q1 := fun r M1 L1 => some (.int (bI ((0 : Int32) ≤ i2 ∧ i2 ≤ 2))) = r ∧ M = M1 ∧ L = L1) (s_Peg_isWithin ⟨rfl, rfl, rfl⟩) ?_
    rintro _ _ _ ⟨rfl, rfl, rfl⟩
    refine r_if_ne d_Peg_set_17 (fun c_2 => ?_) (fun c_2 => ?_)
    · have h9 := h9.1 (bI_p1 c_2)
      refine r_iload_n d_Peg_set_23 rfl ?_
      refine r_iconst (v := 0) d_Peg_set_24 (by decide) ?_
      refine r_iload_n d_Peg_set_25 rfl ?_
      refine x_callS (as := [.int i2]) (st := [.int 0, .int i3]) d_Peg_set_26 ml_Peg_132 mc_Watch_mostOf ms_Watch_mostOf ⟨by decide, by decide⟩ rfl (Nat.le_of_ble_eq_true rfl) (Nat.le_of_ble_eq_true rfl) (Q1 := fun r M1 L1 => some (.int (if i2 = 0 then 5 else if i2 = 1 then 31 else 2)) = r ∧ M = M1 ∧ L = L1) (s_Watch_mostOf ⟨rfl, rfl, rfl⟩) ?_
      rintro _ _ _ ⟨rfl, rfl, rfl⟩
      refine x_callS (as := [.int i3, .int 0, .int (if i2 = 0 then 5 else if i2 = 1 then 31 else 2)]) (st := []) d_Peg_set_29 ml_Peg_90 mc_Peg_isWithin ms_Peg_isWithin ⟨by decide, by decide⟩ rfl (Nat.le_of_ble_eq_true rfl) (Nat.le_of_ble_eq_true rfl) (Q1 := fun r M1 L1 => some (.int (bI ((0 : Int32) ≤ i3 ∧ i3 ≤ (if i2 = 0 then 5 else if i2 = 1 then 31 else 2)))) = r ∧ M = M1 ∧ L = L1) (s_Peg_isWithin ⟨rfl, rfl, rfl⟩) ?_
      rintro _ _ _ ⟨rfl, rfl, rfl⟩
      refine r_if_ne d_Peg_set_32 (fun c_3 => ?_) (fun c_3 => ?_)
      · have h9 := h9.1 (bI_p1 c_3)
        refine r_aload_n d_Peg_set_38 rfl ?_
        refine x_getR d_Peg_set_39 fl_Peg_19 gR_0_1 ?_
        refine x_getR d_Peg_set_42 fl_Peg_122 gR_4_0 ?_
        refine r_iload_n d_Peg_set_45 rfl ?_
        obtain ⟨o_4, h9⟩ := h9
        refine x_aald d_Peg_set_46 aR_5 o_4 ?_
        refine r_iload_n d_Peg_set_47 rfl ?_
        refine r_iload_n d_Peg_set_48 rfl ?_
        refine x_callV (as := [.int i2, .int i3]) (st := []) d_Peg_set_49 ml_Peg_135 mc_Watch_putTrait mv_Watch_putTrait ⟨by decide, by decide⟩ (wt_O (vp_lt o_4)) ⟨_, rfl, rfl⟩ rfl (Nat.le_of_ble_eq_true rfl) (Nat.le_of_ble_eq_true rfl) h9 ?_
        rintro _ M_5 L_6 ⟨v_7, rfl, h9⟩
        exact r_iret ⟨d_Peg_set_52, _, rfl, rfl⟩ ⟨_, _, rfl, h9⟩
      · have h9 := h9.2 (bI_p0 c_3)
        refine r_bipush (v := (-102)) d_Peg_set_35 (by decide) ?_
        exact r_iret ⟨d_Peg_set_37, _, rfl, rfl⟩ ⟨_, _, rfl, h9⟩
    · have h9 := h9.2 (bI_p0 c_2)
      refine r_bipush (v := (-101)) d_Peg_set_20 (by decide) ?_
      exact r_iret ⟨d_Peg_set_22, _, rfl, rfl⟩ ⟨_, _, rfl, h9⟩
theorem L_Peg_leeway_0 {xs : List Int32} {i1 : Int32} {i2 : Int32} {i3 : Int32} {M : Mem} {L : Int64} {Q : Option Value → Mem → Int64 → Prop} 
    (h : (((0 ≤ i1 ∧ i1 ≤ 31) → (((0 ≤ i2 ∧ i2 ≤ 31) → ((((0 : Int32) ≤ i3 ∧ i3 ≤ 2) → Q (some (.int (lwA (angC i1 i2) i3))) M L) ∧ (¬ ((0 : Int32) ≤ i3 ∧ i3 ≤ 2) → Q (some (.int (-102))) M L))) ∧ (¬ (0 ≤ i2 ∧ i2 ≤ 31) → Q (some (.int (-101))) M L))) ∧ (¬ (0 ≤ i1 ∧ i1 ≤ 31) → Q (some (.int (-101))) M L))) : RX xs shL md_Peg_leeway 0 [.ref 0, .int i1, .int i2, .int i3] [] M L Q := by
  refine r_iload_n d_Peg_leeway_0 rfl ?_
  refine x_callS (as := [.int i1]) (st := []) d_Peg_leeway_1 ml_Peg_65 mc_Compass_isPoint ms_Compass_isPoint ⟨by decide, by decide⟩ rfl (Nat.le_of_ble_eq_true rfl) (Nat.le_of_ble_eq_true rfl) (Q1 := fun r M1 L1 => some (.int (bI (0 ≤ i1 ∧ i1 ≤ 31))) = r ∧ M = M1 ∧ L = L1) (s_Compass_isPoint ⟨rfl, rfl, rfl⟩) ?_
  rintro _ _ _ ⟨rfl, rfl, rfl⟩
  refine r_if_eq d_Peg_leeway_4 (fun c_1 => ?_) (fun c_1 => ?_)
  · have h9 := h.2 (bI_p0 c_1)
    refine r_bipush (v := (-101)) d_Peg_leeway_14 (by decide) ?_
    exact r_iret ⟨d_Peg_leeway_16, _, rfl, rfl⟩ ⟨_, _, rfl, h9⟩
  · have h9 := h.1 (bI_p1 c_1)
    refine r_iload_n d_Peg_leeway_7 rfl ?_
    refine x_callS (as := [.int i2]) (st := []) d_Peg_leeway_8 ml_Peg_65 mc_Compass_isPoint ms_Compass_isPoint ⟨by decide, by decide⟩ rfl (Nat.le_of_ble_eq_true rfl) (Nat.le_of_ble_eq_true rfl) (Q1 := fun r M1 L1 => some (.int (bI (0 ≤ i2 ∧ i2 ≤ 31))) = r ∧ M = M1 ∧ L = L1) (s_Compass_isPoint ⟨rfl, rfl, rfl⟩) ?_
    rintro _ _ _ ⟨rfl, rfl, rfl⟩
    refine r_if_ne d_Peg_leeway_11 (fun c_2 => ?_) (fun c_2 => ?_)
    · have h9 := h9.1 (bI_p1 c_2)
      refine r_iload_n d_Peg_leeway_17 rfl ?_
      refine r_iconst (v := 0) d_Peg_leeway_18 (by decide) ?_
      refine r_iconst (v := 2) d_Peg_leeway_19 (by decide) ?_
      refine x_callS (as := [.int i3, .int 0, .int 2]) (st := []) d_Peg_leeway_20 ml_Peg_90 mc_Peg_isWithin ms_Peg_isWithin ⟨by decide, by decide⟩ rfl (Nat.le_of_ble_eq_true rfl) (Nat.le_of_ble_eq_true rfl) (Q1 := fun r M1 L1 => some (.int (bI ((0 : Int32) ≤ i3 ∧ i3 ≤ 2))) = r ∧ M = M1 ∧ L = L1) (s_Peg_isWithin ⟨rfl, rfl, rfl⟩) ?_
      rintro _ _ _ ⟨rfl, rfl, rfl⟩
      refine r_if_ne d_Peg_leeway_23 (fun c_3 => ?_) (fun c_3 => ?_)
      · have h9 := h9.1 (bI_p1 c_3)
        refine r_iload_n d_Peg_leeway_29 rfl ?_
        refine r_iload_n d_Peg_leeway_30 rfl ?_
        refine r_iload_n d_Peg_leeway_31 rfl ?_
        refine x_callS (as := [.int i1, .int i2, .int i3]) (st := []) d_Peg_leeway_32 ml_Peg_138 mc_Compass_pointsFarther ms_Compass_pointsFarther ⟨by decide, by decide⟩ rfl (Nat.le_of_ble_eq_true rfl) (Nat.le_of_ble_eq_true rfl) (Q1 := fun r M1 L1 => some (.int (lwA (angC i1 i2) i3)) = r ∧ M = M1 ∧ L = L1) (s_Compass_pointsFarther ⟨rfl, rfl, rfl⟩) ?_
        rintro _ _ _ ⟨rfl, rfl, rfl⟩
        exact r_iret ⟨d_Peg_leeway_35, _, rfl, rfl⟩ ⟨_, _, rfl, h9⟩
      · have h9 := h9.2 (bI_p0 c_3)
        refine r_bipush (v := (-102)) d_Peg_leeway_26 (by decide) ?_
        exact r_iret ⟨d_Peg_leeway_28, _, rfl, rfl⟩ ⟨_, _, rfl, h9⟩
    · have h9 := h9.2 (bI_p0 c_2)
      refine r_bipush (v := (-101)) d_Peg_leeway_14 (by decide) ?_
      exact r_iret ⟨d_Peg_leeway_16, _, rfl, rfl⟩ ⟨_, _, rfl, h9⟩
set_option maxHeartbeats 4000000 in
theorem L_Peg_way_0 {xs : List Int32} {i1 : Int32} {i2 : Int32} {i3 : Int32} {i4 : Int32} {M : Mem} {L : Int64} {Q : Option Value → Mem → Int64 → Prop} 
    (h : (((0 ≤ i1 ∧ i1 < M 4 1) → (((((-9) : Int32) ≤ i2 ∧ i2 ≤ 9) → (((((-2) : Int32) ≤ i3 ∧ i3 ≤ 2) → (((1 : Int32) = 0 → Q (some (.int (-10000002))) M L) ∧ (¬ ((1 : Int32) = 0) → ((((0 : Int32) ≤ i4 ∧ i4 ≤ 2) → (vp_in i1 24 ∧ ((i4 = 2 → Q (some (.int ((M (6 + 5 * i1.toNatClampNeg) 4) + (M 4 2)))) M L) ∧ (¬ (i4 = 2) → ((i4 = 0 → RX xs shL md_Watch_wayEast 0 [.ref (6 + 5 * i1.toNatClampNeg), .int i2, .int i3] [] M L (fun r M_34 L_35 => ∃ v_36 : Int32, r = some (.int v_36) ∧ Q (some (.int v_36)) M_34 L_35)) ∧ (¬ (i4 = 0) → RX xs shL md_Watch_wayNorth 0 [.ref (6 + 5 * i1.toNatClampNeg), .int i2, .int i3] [] M L (fun r M_31 L_32 => ∃ v_33 : Int32, r = some (.int v_33) ∧ Q (some (.int v_33)) M_31 L_32))))))) ∧ (¬ ((0 : Int32) ≤ i4 ∧ i4 ≤ 2) → Q (some (.int (-10000002))) M L))))) ∧ (¬ (((-2) : Int32) ≤ i3 ∧ i3 ≤ 2) → (((0 : Int32) = 0 → Q (some (.int (-10000002))) M L) ∧ (¬ ((0 : Int32) = 0) → ((((0 : Int32) ≤ i4 ∧ i4 ≤ 2) → (vp_in i1 24 ∧ ((i4 = 2 → Q (some (.int ((M (6 + 5 * i1.toNatClampNeg) 4) + (M 4 2)))) M L) ∧ (¬ (i4 = 2) → ((i4 = 0 → RX xs shL md_Watch_wayEast 0 [.ref (6 + 5 * i1.toNatClampNeg), .int i2, .int i3] [] M L (fun r M_23 L_24 => ∃ v_25 : Int32, r = some (.int v_25) ∧ Q (some (.int v_25)) M_23 L_24)) ∧ (¬ (i4 = 0) → RX xs shL md_Watch_wayNorth 0 [.ref (6 + 5 * i1.toNatClampNeg), .int i2, .int i3] [] M L (fun r M_20 L_21 => ∃ v_22 : Int32, r = some (.int v_22) ∧ Q (some (.int v_22)) M_20 L_21))))))) ∧ (¬ ((0 : Int32) ≤ i4 ∧ i4 ≤ 2) → Q (some (.int (-10000002))) M L))))))) ∧ (¬ (((-9) : Int32) ≤ i2 ∧ i2 ≤ 9) → (((0 : Int32) = 0 → Q (some (.int (-10000002))) M L) ∧ (¬ ((0 : Int32) = 0) → ((((0 : Int32) ≤ i4 ∧ i4 ≤ 2) → (vp_in i1 24 ∧ ((i4 = 2 → Q (some (.int ((M (6 + 5 * i1.toNatClampNeg) 4) + (M 4 2)))) M L) ∧ (¬ (i4 = 2) → ((i4 = 0 → RX xs shL md_Watch_wayEast 0 [.ref (6 + 5 * i1.toNatClampNeg), .int i2, .int i3] [] M L (fun r M_11 L_12 => ∃ v_13 : Int32, r = some (.int v_13) ∧ Q (some (.int v_13)) M_11 L_12)) ∧ (¬ (i4 = 0) → RX xs shL md_Watch_wayNorth 0 [.ref (6 + 5 * i1.toNatClampNeg), .int i2, .int i3] [] M L (fun r M_8 L_9 => ∃ v_10 : Int32, r = some (.int v_10) ∧ Q (some (.int v_10)) M_8 L_9))))))) ∧ (¬ ((0 : Int32) ≤ i4 ∧ i4 ≤ 2) → Q (some (.int (-10000002))) M L))))))) ∧ (¬ (0 ≤ i1 ∧ i1 < M 4 1) → Q (some (.int (-10000001))) M L))) : RX xs shL md_Peg_way 0 [.ref 0, .int i1, .int i2, .int i3, .int i4] [] M L Q := by
  refine r_weak (lv' := [.ref 0, .int i1, .int i2, .int i3, .int i4, .null, .null]) (by repeat (first | exact trivial | refine ⟨rfl, ?_⟩ | exact lle_nil)) ?_
  refine r_aload_n d_Peg_way_0 rfl ?_
  refine x_getR d_Peg_way_1 fl_Peg_19 gR_0_1 ?_
  refine r_iload_n d_Peg_way_4 rfl ?_
  refine x_callV (as := [.int i1]) (st := []) d_Peg_way_5 ml_Peg_117 mc_Board_isWatch mv_Board_isWatch ⟨by decide, by decide⟩ gO_4 ⟨_, rfl, rfl⟩ rfl (Nat.le_of_ble_eq_true rfl) (Nat.le_of_ble_eq_true rfl) (Q1 := fun r M1 L1 => some (.int (bI (0 ≤ i1 ∧ i1 < M 4 1))) = r ∧ M = M1 ∧ L = L1) (s_Board_isWatch ⟨rfl, rfl, rfl⟩) ?_
  rintro _ _ _ ⟨rfl, rfl, rfl⟩
  refine r_if_ne d_Peg_way_8 (fun c_1 => ?_) (fun c_1 => ?_)
  · have h9 := h.1 (bI_p1 c_1)
    refine r_iload_n d_Peg_way_14 rfl ?_
    refine r_bipush (v := (-9)) d_Peg_way_15 (by decide) ?_
    refine r_bipush (v := 9) d_Peg_way_17 (by decide) ?_
    refine x_callS (as := [.int i2, .int (-9), .int 9]) (st := []) d_Peg_way_19 ml_Peg_90 mc_Peg_isWithin ms_Peg_isWithin ⟨by decide, by decide⟩ rfl (Nat.le_of_ble_eq_true rfl) (Nat.le_of_ble_eq_true rfl) (Q1 := fun r M1 L1 => some (.int (bI (((-9) : Int32) ≤ i2 ∧ i2 ≤ 9))) = r ∧ M = M1 ∧ L = L1) (s_Peg_isWithin ⟨rfl, rfl, rfl⟩) ?_
    rintro _ _ _ ⟨rfl, rfl, rfl⟩
    refine r_if_eq d_Peg_way_22 (fun c_2 => ?_) (fun c_2 => ?_)
    · have h9 := h9.2 (bI_p0 c_2)
      refine r_iconst (v := 0) d_Peg_way_39 (by decide) ?_
      refine r_istore d_Peg_way_40 (by decide) ?_
      refine r_iload d_Peg_way_42 rfl ?_
      refine r_if_eq d_Peg_way_44 (fun c_3 => ?_) (fun c_3 => ?_)
      · have h9 := h9.1 c_3
        refine r_ldc (v := (-10000002)) d_Peg_way_57 ck_Peg_143 ?_
        exact r_iret ⟨d_Peg_way_59, _, rfl, rfl⟩ ⟨_, _, rfl, h9⟩
      · have h9 := h9.2 c_3
        refine r_iload d_Peg_way_47 rfl ?_
        refine r_iconst (v := 0) d_Peg_way_49 (by decide) ?_
        refine r_iconst (v := 2) d_Peg_way_50 (by decide) ?_
        refine x_callS (as := [.int i4, .int 0, .int 2]) (st := []) d_Peg_way_51 ml_Peg_90 mc_Peg_isWithin ms_Peg_isWithin ⟨by decide, by decide⟩ rfl (Nat.le_of_ble_eq_true rfl) (Nat.le_of_ble_eq_true rfl) (Q1 := fun r M1 L1 => some (.int (bI ((0 : Int32) ≤ i4 ∧ i4 ≤ 2))) = r ∧ M = M1 ∧ L = L1) (s_Peg_isWithin ⟨rfl, rfl, rfl⟩) ?_
        rintro _ _ _ ⟨rfl, rfl, rfl⟩
        refine r_if_ne d_Peg_way_54 (fun c_4 => ?_) (fun c_4 => ?_)
        · have h9 := h9.1 (bI_p1 c_4)
          refine r_aload_n d_Peg_way_60 rfl ?_
          refine x_getR d_Peg_way_61 fl_Peg_19 gR_0_1 ?_
          refine x_getR d_Peg_way_64 fl_Peg_122 gR_4_0 ?_
          refine r_iload_n d_Peg_way_67 rfl ?_
          obtain ⟨o_5, h9⟩ := h9
          refine x_aald d_Peg_way_68 aR_5 o_5 ?_
          refine r_astore d_Peg_way_69 (by decide) ?_
          refine r_iload d_Peg_way_71 rfl ?_
          refine r_iconst (v := 2) d_Peg_way_73 (by decide) ?_
          refine r_ic_ne d_Peg_way_74 (fun c_6 => ?_) (fun c_6 => ?_)
          · have h9 := h9.2 c_6
            refine r_iload d_Peg_way_91 rfl ?_
            refine r_if_ne d_Peg_way_93 (fun c_7 => ?_) (fun c_7 => ?_)
            · have h9 := h9.2 c_7
              refine r_aload d_Peg_way_106 rfl ?_
              refine r_iload_n d_Peg_way_108 rfl ?_
              refine r_iload_n d_Peg_way_109 rfl ?_
              refine x_callV (as := [.int i2, .int i3]) (st := []) d_Peg_way_110 ml_Peg_153 mc_Watch_wayNorth mv_Watch_wayNorth ⟨by decide, by decide⟩ (wt_O (vp_lt o_5)) ⟨_, rfl, rfl⟩ rfl (Nat.le_of_ble_eq_true rfl) (Nat.le_of_ble_eq_true rfl) h9 ?_
              rintro _ M_8 L_9 ⟨v_10, rfl, h9⟩
              exact r_iret ⟨d_Peg_way_113, _, rfl, rfl⟩ ⟨_, _, rfl, h9⟩
            · have h9 := h9.1 c_7
              refine r_aload d_Peg_way_96 rfl ?_
              refine r_iload_n d_Peg_way_98 rfl ?_
              refine r_iload_n d_Peg_way_99 rfl ?_
              refine x_callV (as := [.int i2, .int i3]) (st := []) d_Peg_way_100 ml_Peg_150 mc_Watch_wayEast mv_Watch_wayEast ⟨by decide, by decide⟩ (wt_O (vp_lt o_5)) ⟨_, rfl, rfl⟩ rfl (Nat.le_of_ble_eq_true rfl) (Nat.le_of_ble_eq_true rfl) h9 ?_
              rintro _ M_11 L_12 ⟨v_13, rfl, h9⟩
              refine r_goto d_Peg_way_103 ?_
              exact r_iret ⟨d_Peg_way_113, _, rfl, rfl⟩ ⟨_, _, rfl, h9⟩
          · have h9 := h9.1 c_6
            refine r_aload d_Peg_way_77 rfl ?_
            refine x_getI d_Peg_way_79 fl_Peg_144 (wt_I (vp_lt o_5) 4 (by decide) (by decide)) ?_
            refine r_aload_n d_Peg_way_82 rfl ?_
            refine x_getR d_Peg_way_83 fl_Peg_19 gR_0_1 ?_
            refine x_getI d_Peg_way_86 fl_Peg_147 gI_4_2 ?_
            refine r_iadd d_Peg_way_89 ?_
            exact r_iret ⟨d_Peg_way_90, _, rfl, rfl⟩ ⟨_, _, rfl, h9⟩
        · have h9 := h9.2 (bI_p0 c_4)
          refine r_ldc (v := (-10000002)) d_Peg_way_57 ck_Peg_143 ?_
          exact r_iret ⟨d_Peg_way_59, _, rfl, rfl⟩ ⟨_, _, rfl, h9⟩
    · have h9 := h9.1 (bI_p1 c_2)
      refine r_iload_n d_Peg_way_25 rfl ?_
      refine r_bipush (v := (-2)) d_Peg_way_26 (by decide) ?_
      refine r_iconst (v := 2) d_Peg_way_28 (by decide) ?_
      refine x_callS (as := [.int i3, .int (-2), .int 2]) (st := []) d_Peg_way_29 ml_Peg_90 mc_Peg_isWithin ms_Peg_isWithin ⟨by decide, by decide⟩ rfl (Nat.le_of_ble_eq_true rfl) (Nat.le_of_ble_eq_true rfl) (Q1 := fun r M1 L1 => some (.int (bI (((-2) : Int32) ≤ i3 ∧ i3 ≤ 2))) = r ∧ M = M1 ∧ L = L1) (s_Peg_isWithin ⟨rfl, rfl, rfl⟩) ?_
      rintro _ _ _ ⟨rfl, rfl, rfl⟩
      refine r_if_eq d_Peg_way_32 (fun c_14 => ?_) (fun c_14 => ?_)
      · have h9 := h9.2 (bI_p0 c_14)
        refine r_iconst (v := 0) d_Peg_way_39 (by decide) ?_
        refine r_istore d_Peg_way_40 (by decide) ?_
        refine r_iload d_Peg_way_42 rfl ?_
        refine r_if_eq d_Peg_way_44 (fun c_15 => ?_) (fun c_15 => ?_)
        · have h9 := h9.1 c_15
          refine r_ldc (v := (-10000002)) d_Peg_way_57 ck_Peg_143 ?_
          exact r_iret ⟨d_Peg_way_59, _, rfl, rfl⟩ ⟨_, _, rfl, h9⟩
        · have h9 := h9.2 c_15
          refine r_iload d_Peg_way_47 rfl ?_
          refine r_iconst (v := 0) d_Peg_way_49 (by decide) ?_
          refine r_iconst (v := 2) d_Peg_way_50 (by decide) ?_
          refine x_callS (as := [.int i4, .int 0, .int 2]) (st := []) d_Peg_way_51 ml_Peg_90 mc_Peg_isWithin ms_Peg_isWithin ⟨by decide, by decide⟩ rfl (Nat.le_of_ble_eq_true rfl) (Nat.le_of_ble_eq_true rfl) (Q1 := fun r M1 L1 => some (.int (bI ((0 : Int32) ≤ i4 ∧ i4 ≤ 2))) = r ∧ M = M1 ∧ L = L1) (s_Peg_isWithin ⟨rfl, rfl, rfl⟩) ?_
          rintro _ _ _ ⟨rfl, rfl, rfl⟩
          refine r_if_ne d_Peg_way_54 (fun c_16 => ?_) (fun c_16 => ?_)
          · have h9 := h9.1 (bI_p1 c_16)
            refine r_aload_n d_Peg_way_60 rfl ?_
            refine x_getR d_Peg_way_61 fl_Peg_19 gR_0_1 ?_
            refine x_getR d_Peg_way_64 fl_Peg_122 gR_4_0 ?_
            refine r_iload_n d_Peg_way_67 rfl ?_
            obtain ⟨o_17, h9⟩ := h9
            refine x_aald d_Peg_way_68 aR_5 o_17 ?_
            refine r_astore d_Peg_way_69 (by decide) ?_
            refine r_iload d_Peg_way_71 rfl ?_
            refine r_iconst (v := 2) d_Peg_way_73 (by decide) ?_
            refine r_ic_ne d_Peg_way_74 (fun c_18 => ?_) (fun c_18 => ?_)
            · have h9 := h9.2 c_18
              refine r_iload d_Peg_way_91 rfl ?_
              refine r_if_ne d_Peg_way_93 (fun c_19 => ?_) (fun c_19 => ?_)
              · have h9 := h9.2 c_19
                refine r_aload d_Peg_way_106 rfl ?_
                refine r_iload_n d_Peg_way_108 rfl ?_
                refine r_iload_n d_Peg_way_109 rfl ?_
                refine x_callV (as := [.int i2, .int i3]) (st := []) d_Peg_way_110 ml_Peg_153 mc_Watch_wayNorth mv_Watch_wayNorth ⟨by decide, by decide⟩ (wt_O (vp_lt o_17)) ⟨_, rfl, rfl⟩ rfl (Nat.le_of_ble_eq_true rfl) (Nat.le_of_ble_eq_true rfl) h9 ?_
                rintro _ M_20 L_21 ⟨v_22, rfl, h9⟩
                exact r_iret ⟨d_Peg_way_113, _, rfl, rfl⟩ ⟨_, _, rfl, h9⟩
              · have h9 := h9.1 c_19
                refine r_aload d_Peg_way_96 rfl ?_
                refine r_iload_n d_Peg_way_98 rfl ?_
                refine r_iload_n d_Peg_way_99 rfl ?_
                refine x_callV (as := [.int i2, .int i3]) (st := []) d_Peg_way_100 ml_Peg_150 mc_Watch_wayEast mv_Watch_wayEast ⟨by decide, by decide⟩ (wt_O (vp_lt o_17)) ⟨_, rfl, rfl⟩ rfl (Nat.le_of_ble_eq_true rfl) (Nat.le_of_ble_eq_true rfl) h9 ?_
                rintro _ M_23 L_24 ⟨v_25, rfl, h9⟩
                refine r_goto d_Peg_way_103 ?_
                exact r_iret ⟨d_Peg_way_113, _, rfl, rfl⟩ ⟨_, _, rfl, h9⟩
            · have h9 := h9.1 c_18
              refine r_aload d_Peg_way_77 rfl ?_
              refine x_getI d_Peg_way_79 fl_Peg_144 (wt_I (vp_lt o_17) 4 (by decide) (by decide)) ?_
              refine r_aload_n d_Peg_way_82 rfl ?_
              refine x_getR d_Peg_way_83 fl_Peg_19 gR_0_1 ?_
              refine x_getI d_Peg_way_86 fl_Peg_147 gI_4_2 ?_
              refine r_iadd d_Peg_way_89 ?_
              exact r_iret ⟨d_Peg_way_90, _, rfl, rfl⟩ ⟨_, _, rfl, h9⟩
          · have h9 := h9.2 (bI_p0 c_16)
            refine r_ldc (v := (-10000002)) d_Peg_way_57 ck_Peg_143 ?_
            exact r_iret ⟨d_Peg_way_59, _, rfl, rfl⟩ ⟨_, _, rfl, h9⟩
      · have h9 := h9.1 (bI_p1 c_14)
        refine r_iconst (v := 1) d_Peg_way_35 (by decide) ?_
        refine r_goto d_Peg_way_36 ?_
        refine r_istore d_Peg_way_40 (by decide) ?_
        refine r_iload d_Peg_way_42 rfl ?_
        refine r_if_eq d_Peg_way_44 (fun c_26 => ?_) (fun c_26 => ?_)
        · have h9 := h9.1 c_26
          refine r_ldc (v := (-10000002)) d_Peg_way_57 ck_Peg_143 ?_
          exact r_iret ⟨d_Peg_way_59, _, rfl, rfl⟩ ⟨_, _, rfl, h9⟩
        · have h9 := h9.2 c_26
          refine r_iload d_Peg_way_47 rfl ?_
          refine r_iconst (v := 0) d_Peg_way_49 (by decide) ?_
          refine r_iconst (v := 2) d_Peg_way_50 (by decide) ?_
          refine x_callS (as := [.int i4, .int 0, .int 2]) (st := []) d_Peg_way_51 ml_Peg_90 mc_Peg_isWithin ms_Peg_isWithin ⟨by decide, by decide⟩ rfl (Nat.le_of_ble_eq_true rfl) (Nat.le_of_ble_eq_true rfl) (Q1 := fun r M1 L1 => some (.int (bI ((0 : Int32) ≤ i4 ∧ i4 ≤ 2))) = r ∧ M = M1 ∧ L = L1) (s_Peg_isWithin ⟨rfl, rfl, rfl⟩) ?_
          rintro _ _ _ ⟨rfl, rfl, rfl⟩
          refine r_if_ne d_Peg_way_54 (fun c_27 => ?_) (fun c_27 => ?_)
          · have h9 := h9.1 (bI_p1 c_27)
            refine r_aload_n d_Peg_way_60 rfl ?_
            refine x_getR d_Peg_way_61 fl_Peg_19 gR_0_1 ?_
            refine x_getR d_Peg_way_64 fl_Peg_122 gR_4_0 ?_
            refine r_iload_n d_Peg_way_67 rfl ?_
            obtain ⟨o_28, h9⟩ := h9
            refine x_aald d_Peg_way_68 aR_5 o_28 ?_
            refine r_astore d_Peg_way_69 (by decide) ?_
            refine r_iload d_Peg_way_71 rfl ?_
            refine r_iconst (v := 2) d_Peg_way_73 (by decide) ?_
            refine r_ic_ne d_Peg_way_74 (fun c_29 => ?_) (fun c_29 => ?_)
            · have h9 := h9.2 c_29
              refine r_iload d_Peg_way_91 rfl ?_
              refine r_if_ne d_Peg_way_93 (fun c_30 => ?_) (fun c_30 => ?_)
              · have h9 := h9.2 c_30
                refine r_aload d_Peg_way_106 rfl ?_
                refine r_iload_n d_Peg_way_108 rfl ?_
                refine r_iload_n d_Peg_way_109 rfl ?_
                refine x_callV (as := [.int i2, .int i3]) (st := []) d_Peg_way_110 ml_Peg_153 mc_Watch_wayNorth mv_Watch_wayNorth ⟨by decide, by decide⟩ (wt_O (vp_lt o_28)) ⟨_, rfl, rfl⟩ rfl (Nat.le_of_ble_eq_true rfl) (Nat.le_of_ble_eq_true rfl) h9 ?_
                rintro _ M_31 L_32 ⟨v_33, rfl, h9⟩
                exact r_iret ⟨d_Peg_way_113, _, rfl, rfl⟩ ⟨_, _, rfl, h9⟩
              · have h9 := h9.1 c_30
                refine r_aload d_Peg_way_96 rfl ?_
                refine r_iload_n d_Peg_way_98 rfl ?_
                refine r_iload_n d_Peg_way_99 rfl ?_
                refine x_callV (as := [.int i2, .int i3]) (st := []) d_Peg_way_100 ml_Peg_150 mc_Watch_wayEast mv_Watch_wayEast ⟨by decide, by decide⟩ (wt_O (vp_lt o_28)) ⟨_, rfl, rfl⟩ rfl (Nat.le_of_ble_eq_true rfl) (Nat.le_of_ble_eq_true rfl) h9 ?_
                rintro _ M_34 L_35 ⟨v_36, rfl, h9⟩
                refine r_goto d_Peg_way_103 ?_
                exact r_iret ⟨d_Peg_way_113, _, rfl, rfl⟩ ⟨_, _, rfl, h9⟩
            · have h9 := h9.1 c_29
              refine r_aload d_Peg_way_77 rfl ?_
              refine x_getI d_Peg_way_79 fl_Peg_144 (wt_I (vp_lt o_28) 4 (by decide) (by decide)) ?_
              refine r_aload_n d_Peg_way_82 rfl ?_
              refine x_getR d_Peg_way_83 fl_Peg_19 gR_0_1 ?_
              refine x_getI d_Peg_way_86 fl_Peg_147 gI_4_2 ?_
              refine r_iadd d_Peg_way_89 ?_
              exact r_iret ⟨d_Peg_way_90, _, rfl, rfl⟩ ⟨_, _, rfl, h9⟩
          · have h9 := h9.2 (bI_p0 c_27)
            refine r_ldc (v := (-10000002)) d_Peg_way_57 ck_Peg_143 ?_
            exact r_iret ⟨d_Peg_way_59, _, rfl, rfl⟩ ⟨_, _, rfl, h9⟩
  · have h9 := h.2 (bI_p0 c_1)
    refine r_ldc (v := (-10000001)) d_Peg_way_11 ck_Peg_142 ?_
    exact r_iret ⟨d_Peg_way_13, _, rfl, rfl⟩ ⟨_, _, rfl, h9⟩
theorem L_Peg_chart_0 {xs : List Int32} {i1 : Int32} {i2 : Int32} {M : Mem} {L : Int64} {Q : Option Value → Mem → Int64 → Prop} 
    (h : ((((4 : Int32) ≤ i1 ∧ i1 ≤ 20) → ((((4 : Int32) ≤ i2 ∧ i2 ≤ 20) → (((M 134 1) ≤ 0 → RX xs shL md_Chart_drawAnew 0 [.ref 126, .int i1, .int i2] [] M L (fun r M_4 L_5 => r = none ∧ Q (some (.int (i1 * i2))) (up (up (up M_4 134 2 0) 134 3 0) 134 4 0) L_5)) ∧ (¬ ((M 134 1) ≤ 0) → Q (some (.int (-103))) M L))) ∧ (¬ ((4 : Int32) ≤ i2 ∧ i2 ≤ 20) → Q (some (.int (-102))) M L))) ∧ (¬ ((4 : Int32) ≤ i1 ∧ i1 ≤ 20) → Q (some (.int (-102))) M L))) : RX xs shL md_Peg_chart 0 [.ref 0, .int i1, .int i2] [] M L Q := by
  refine r_iload_n d_Peg_chart_0 rfl ?_
  refine r_iconst (v := 4) d_Peg_chart_1 (by decide) ?_
  refine r_bipush (v := 20) d_Peg_chart_2 (by decide) ?_
  refine x_callS (as := [.int i1, .int 4, .int 20]) (st := []) d_Peg_chart_4 ml_Peg_90 mc_Peg_isWithin ms_Peg_isWithin ⟨by decide, by decide⟩ rfl (Nat.le_of_ble_eq_true rfl) (Nat.le_of_ble_eq_true rfl) (Q1 := fun r M1 L1 => some (.int (bI ((4 : Int32) ≤ i1 ∧ i1 ≤ 20))) = r ∧ M = M1 ∧ L = L1) (s_Peg_isWithin ⟨rfl, rfl, rfl⟩) ?_
  rintro _ _ _ ⟨rfl, rfl, rfl⟩
  refine r_if_eq d_Peg_chart_7 (fun c_1 => ?_) (fun c_1 => ?_)
  · have h9 := h.2 (bI_p0 c_1)
    refine r_bipush (v := (-102)) d_Peg_chart_20 (by decide) ?_
    exact r_iret ⟨d_Peg_chart_22, _, rfl, rfl⟩ ⟨_, _, rfl, h9⟩
  · have h9 := h.1 (bI_p1 c_1)
    refine r_iload_n d_Peg_chart_10 rfl ?_
    refine r_iconst (v := 4) d_Peg_chart_11 (by decide) ?_
    refine r_bipush (v := 20) d_Peg_chart_12 (by decide) ?_
    refine x_callS (as := [.int i2, .int 4, .int 20]) (st := []) d_Peg_chart_14 ml_Peg_90 mc_Peg_isWithin ms_Peg_isWithin ⟨by decide, by decide⟩ rfl (Nat.le_of_ble_eq_true rfl) (Nat.le_of_ble_eq_true rfl) (Q1 := fun r M1 L1 => some (.int (bI ((4 : Int32) ≤ i2 ∧ i2 ≤ 20))) = r ∧ M = M1 ∧ L = L1) (s_Peg_isWithin ⟨rfl, rfl, rfl⟩) ?_
    rintro _ _ _ ⟨rfl, rfl, rfl⟩
    refine r_if_ne d_Peg_chart_17 (fun c_2 => ?_) (fun c_2 => ?_)
    · have h9 := h9.1 (bI_p1 c_2)
      refine r_aload_n d_Peg_chart_23 rfl ?_
      refine x_getR d_Peg_chart_24 fl_Peg_33 gR_0_3 ?_
      refine x_getI d_Peg_chart_27 fl_Peg_156 gI_134_1 ?_
      refine r_if_le d_Peg_chart_30 (fun c_3 => ?_) (fun c_3 => ?_)
      · have h9 := h9.1 c_3
        refine r_aload_n d_Peg_chart_36 rfl ?_
        refine x_getR d_Peg_chart_37 fl_Peg_26 gR_0_2 ?_
        refine r_iload_n d_Peg_chart_40 rfl ?_
        refine r_iload_n d_Peg_chart_41 rfl ?_
        refine x_callV (as := [.int i1, .int i2]) (st := []) d_Peg_chart_42 ml_Peg_157 mc_Chart_drawAnew mv_Chart_drawAnew ⟨by decide, by decide⟩ gO_126 ⟨_, rfl, rfl⟩ rfl (Nat.le_of_ble_eq_true rfl) (Nat.le_of_ble_eq_true rfl) h9 ?_
        rintro _ M_4 L_5 ⟨rfl, h9⟩
        refine r_aload_n d_Peg_chart_45 rfl ?_
        refine x_getR d_Peg_chart_46 fl_Peg_33 gR_0_3 ?_
        refine r_iconst (v := 0) d_Peg_chart_49 (by decide) ?_
        refine r_iconst (v := 0) d_Peg_chart_50 (by decide) ?_
        refine r_iconst (v := 0) d_Peg_chart_51 (by decide) ?_
        refine x_callV (as := [.int 0, .int 0, .int 0]) (st := []) d_Peg_chart_52 ml_Peg_161 mc_Log_startFrom mv_Log_startFrom ⟨by decide, by decide⟩ gO_134 ⟨_, rfl, rfl⟩ rfl (Nat.le_of_ble_eq_true rfl) (Nat.le_of_ble_eq_true rfl) (Q1 := fun r M1 L1 => none = r ∧ up (up (up M_4 134 2 0) 134 3 0) 134 4 0 = M1 ∧ L_5 = L1) (L_Log_startFrom_0 (fun _ _ _ => rfl) ⟨rfl, rfl, rfl⟩) ?_
        rintro _ _ _ ⟨rfl, rfl, rfl⟩
        refine r_iload_n d_Peg_chart_55 rfl ?_
        refine r_iload_n d_Peg_chart_56 rfl ?_
        refine r_imul d_Peg_chart_57 ?_
        exact r_iret ⟨d_Peg_chart_58, _, rfl, rfl⟩ ⟨_, _, rfl, h9⟩
      · have h9 := h9.2 c_3
        refine r_bipush (v := (-103)) d_Peg_chart_33 (by decide) ?_
        exact r_iret ⟨d_Peg_chart_35, _, rfl, rfl⟩ ⟨_, _, rfl, h9⟩
    · have h9 := h9.2 (bI_p0 c_2)
      refine r_bipush (v := (-102)) d_Peg_chart_20 (by decide) ?_
      exact r_iret ⟨d_Peg_chart_22, _, rfl, rfl⟩ ⟨_, _, rfl, h9⟩
theorem L_Peg_sea_0 {xs : List Int32} {i1 : Int32} {i2 : Int32} {i3 : Int32} {i4 : Int32} {i5 : Int32} {M : Mem} {L : Int64} {Q : Option Value → Mem → Int64 → Prop} 
    (h : ((((0 ≤ i1 ∧ i1 < M 126 4) ∧ 0 ≤ i2 ∧ i2 < M 126 5) → ((((0 ≤ i3 ∧ i3 < M 126 4) ∧ 0 ≤ i4 ∧ i4 < M 126 5) → ((((0 : Int32) ≤ i5 ∧ i5 ≤ 99) → ((i3 < i1 → Q (some (.int (-102))) M L) ∧ (¬ (i3 < i1) → ((i2 ≤ i4 → RX xs shL md_Chart_putDepth 0 [.ref 126, .int i1, .int i2, .int i3, .int i4, .int i5] [] M L (fun r M_6 L_7 => r = none ∧ Q (some (.int (((i3 - i1) + 1) * ((i4 - i2) + 1)))) M_6 L_7)) ∧ (¬ (i2 ≤ i4) → Q (some (.int (-102))) M L))))) ∧ (¬ ((0 : Int32) ≤ i5 ∧ i5 ≤ 99) → Q (some (.int (-102))) M L))) ∧ (¬ ((0 ≤ i3 ∧ i3 < M 126 4) ∧ 0 ≤ i4 ∧ i4 < M 126 5) → Q (some (.int (-101))) M L))) ∧ (¬ ((0 ≤ i1 ∧ i1 < M 126 4) ∧ 0 ≤ i2 ∧ i2 < M 126 5) → Q (some (.int (-101))) M L))) : RX xs shL md_Peg_sea 0 [.ref 0, .int i1, .int i2, .int i3, .int i4, .int i5] [] M L Q := by
  refine r_aload_n d_Peg_sea_0 rfl ?_
  refine x_getR d_Peg_sea_1 fl_Peg_26 gR_0_2 ?_
  refine r_iload_n d_Peg_sea_4 rfl ?_
  refine r_iload_n d_Peg_sea_5 rfl ?_
  refine x_callV (as := [.int i1, .int i2]) (st := []) d_Peg_sea_6 ml_Peg_165 mc_Chart_isCell mv_Chart_isCell ⟨by decide, by decide⟩ gO_126 ⟨_, rfl, rfl⟩ rfl (Nat.le_of_ble_eq_true rfl) (Nat.le_of_ble_eq_true rfl) (Q1 := fun r M1 L1 => some (.int (bI ((0 ≤ i1 ∧ i1 < M 126 4) ∧ 0 ≤ i2 ∧ i2 < M 126 5))) = r ∧ M = M1 ∧ L = L1) (s_Chart_isCell ⟨rfl, rfl, rfl⟩) ?_
  rintro _ _ _ ⟨rfl, rfl, rfl⟩
  refine r_if_eq d_Peg_sea_9 (fun c_1 => ?_) (fun c_1 => ?_)
  · have h9 := h.2 (bI_p0 c_1)
    refine r_bipush (v := (-101)) d_Peg_sea_25 (by decide) ?_
    exact r_iret ⟨d_Peg_sea_27, _, rfl, rfl⟩ ⟨_, _, rfl, h9⟩
  · have h9 := h.1 (bI_p1 c_1)
    refine r_aload_n d_Peg_sea_12 rfl ?_
    refine x_getR d_Peg_sea_13 fl_Peg_26 gR_0_2 ?_
    refine r_iload_n d_Peg_sea_16 rfl ?_
    refine r_iload d_Peg_sea_17 rfl ?_
    refine x_callV (as := [.int i3, .int i4]) (st := []) d_Peg_sea_19 ml_Peg_165 mc_Chart_isCell mv_Chart_isCell ⟨by decide, by decide⟩ gO_126 ⟨_, rfl, rfl⟩ rfl (Nat.le_of_ble_eq_true rfl) (Nat.le_of_ble_eq_true rfl) (Q1 := fun r M1 L1 => some (.int (bI ((0 ≤ i3 ∧ i3 < M 126 4) ∧ 0 ≤ i4 ∧ i4 < M 126 5))) = r ∧ M = M1 ∧ L = L1) (s_Chart_isCell ⟨rfl, rfl, rfl⟩) ?_
    rintro _ _ _ ⟨rfl, rfl, rfl⟩
    refine r_if_ne d_Peg_sea_22 (fun c_2 => ?_) (fun c_2 => ?_)
    · have h9 := h9.1 (bI_p1 c_2)
      refine r_iload d_Peg_sea_28 rfl ?_
      refine r_iconst (v := 0) d_Peg_sea_30 (by decide) ?_
      refine r_bipush (v := 99) d_Peg_sea_31 (by decide) ?_
      refine x_callS (as := [.int i5, .int 0, .int 99]) (st := []) d_Peg_sea_33 ml_Peg_90 mc_Peg_isWithin ms_Peg_isWithin ⟨by decide, by decide⟩ rfl (Nat.le_of_ble_eq_true rfl) (Nat.le_of_ble_eq_true rfl) (Q1 := fun r M1 L1 => some (.int (bI ((0 : Int32) ≤ i5 ∧ i5 ≤ 99))) = r ∧ M = M1 ∧ L = L1) (s_Peg_isWithin ⟨rfl, rfl, rfl⟩) ?_
      rintro _ _ _ ⟨rfl, rfl, rfl⟩
      refine r_if_eq d_Peg_sea_36 (fun c_3 => ?_) (fun c_3 => ?_)
      · have h9 := h9.2 (bI_p0 c_3)
        refine r_bipush (v := (-102)) d_Peg_sea_50 (by decide) ?_
        exact r_iret ⟨d_Peg_sea_52, _, rfl, rfl⟩ ⟨_, _, rfl, h9⟩
      · have h9 := h9.1 (bI_p1 c_3)
        refine r_iload_n d_Peg_sea_39 rfl ?_
        refine r_iload_n d_Peg_sea_40 rfl ?_
        refine r_ic_gt d_Peg_sea_41 (fun c_4 => ?_) (fun c_4 => ?_)
        · have h9 := h9.1 c_4
          refine r_bipush (v := (-102)) d_Peg_sea_50 (by decide) ?_
          exact r_iret ⟨d_Peg_sea_52, _, rfl, rfl⟩ ⟨_, _, rfl, h9⟩
        · have h9 := h9.2 c_4
          refine r_iload_n d_Peg_sea_44 rfl ?_
          refine r_iload d_Peg_sea_45 rfl ?_
          refine r_ic_le d_Peg_sea_47 (fun c_5 => ?_) (fun c_5 => ?_)
          · have h9 := h9.1 c_5
            refine r_aload_n d_Peg_sea_53 rfl ?_
            refine x_getR d_Peg_sea_54 fl_Peg_26 gR_0_2 ?_
            refine r_iload_n d_Peg_sea_57 rfl ?_
            refine r_iload_n d_Peg_sea_58 rfl ?_
            refine r_iload_n d_Peg_sea_59 rfl ?_
            refine r_iload d_Peg_sea_60 rfl ?_
            refine r_iload d_Peg_sea_62 rfl ?_
            refine x_callV (as := [.int i1, .int i2, .int i3, .int i4, .int i5]) (st := []) d_Peg_sea_64 ml_Peg_169 mc_Chart_putDepth mv_Chart_putDepth ⟨by decide, by decide⟩ gO_126 ⟨_, rfl, rfl⟩ rfl (Nat.le_of_ble_eq_true rfl) (Nat.le_of_ble_eq_true rfl) h9 ?_
            rintro _ M_6 L_7 ⟨rfl, h9⟩
            refine r_iload_n d_Peg_sea_67 rfl ?_
            refine r_iload_n d_Peg_sea_68 rfl ?_
            refine r_isub d_Peg_sea_69 ?_
            refine r_iconst (v := 1) d_Peg_sea_70 (by decide) ?_
            refine r_iadd d_Peg_sea_71 ?_
            refine r_iload d_Peg_sea_72 rfl ?_
            refine r_iload_n d_Peg_sea_74 rfl ?_
            refine r_isub d_Peg_sea_75 ?_
            refine r_iconst (v := 1) d_Peg_sea_76 (by decide) ?_
            refine r_iadd d_Peg_sea_77 ?_
            refine r_imul d_Peg_sea_78 ?_
            exact r_iret ⟨d_Peg_sea_79, _, rfl, rfl⟩ ⟨_, _, rfl, h9⟩
          · have h9 := h9.2 c_5
            refine r_bipush (v := (-102)) d_Peg_sea_50 (by decide) ?_
            exact r_iret ⟨d_Peg_sea_52, _, rfl, rfl⟩ ⟨_, _, rfl, h9⟩
    · have h9 := h9.2 (bI_p0 c_2)
      refine r_bipush (v := (-101)) d_Peg_sea_25 (by decide) ?_
      exact r_iret ⟨d_Peg_sea_27, _, rfl, rfl⟩ ⟨_, _, rfl, h9⟩
theorem L_Peg_weed_0 {xs : List Int32} {i1 : Int32} {i2 : Int32} {i3 : Int32} {i4 : Int32} {i5 : Int32} {M : Mem} {L : Int64} {Q : Option Value → Mem → Int64 → Prop} 
    (h : ((((0 ≤ i1 ∧ i1 < M 126 4) ∧ 0 ≤ i2 ∧ i2 < M 126 5) → ((((0 ≤ i3 ∧ i3 < M 126 4) ∧ 0 ≤ i4 ∧ i4 < M 126 5) → ((i3 < i1 → Q (some (.int (-102))) M L) ∧ (¬ (i3 < i1) → ((i2 ≤ i4 → Q (some (.int (((i3 - i1) + 1) * ((i4 - i2) + 1)))) (setP M 132 (rcF i1.toInt i2.toInt i3.toInt i4.toInt (bB (¬ i5 = 0)) (gp M 132))) L) ∧ (¬ (i2 ≤ i4) → Q (some (.int (-102))) M L))))) ∧ (¬ ((0 ≤ i3 ∧ i3 < M 126 4) ∧ 0 ≤ i4 ∧ i4 < M 126 5) → Q (some (.int (-101))) M L))) ∧ (¬ ((0 ≤ i1 ∧ i1 < M 126 4) ∧ 0 ≤ i2 ∧ i2 < M 126 5) → Q (some (.int (-101))) M L))) : RX xs shL md_Peg_weed 0 [.ref 0, .int i1, .int i2, .int i3, .int i4, .int i5] [] M L Q := by
  refine r_aload_n d_Peg_weed_0 rfl ?_
  refine x_getR d_Peg_weed_1 fl_Peg_26 gR_0_2 ?_
  refine r_iload_n d_Peg_weed_4 rfl ?_
  refine r_iload_n d_Peg_weed_5 rfl ?_
  refine x_callV (as := [.int i1, .int i2]) (st := []) d_Peg_weed_6 ml_Peg_165 mc_Chart_isCell mv_Chart_isCell ⟨by decide, by decide⟩ gO_126 ⟨_, rfl, rfl⟩ rfl (Nat.le_of_ble_eq_true rfl) (Nat.le_of_ble_eq_true rfl) (Q1 := fun r M1 L1 => some (.int (bI ((0 ≤ i1 ∧ i1 < M 126 4) ∧ 0 ≤ i2 ∧ i2 < M 126 5))) = r ∧ M = M1 ∧ L = L1) (s_Chart_isCell ⟨rfl, rfl, rfl⟩) ?_
  rintro _ _ _ ⟨rfl, rfl, rfl⟩
  refine r_if_eq d_Peg_weed_9 (fun c_1 => ?_) (fun c_1 => ?_)
  · have h9 := h.2 (bI_p0 c_1)
    refine r_bipush (v := (-101)) d_Peg_weed_25 (by decide) ?_
    exact r_iret ⟨d_Peg_weed_27, _, rfl, rfl⟩ ⟨_, _, rfl, h9⟩
  · have h9 := h.1 (bI_p1 c_1)
    refine r_aload_n d_Peg_weed_12 rfl ?_
    refine x_getR d_Peg_weed_13 fl_Peg_26 gR_0_2 ?_
    refine r_iload_n d_Peg_weed_16 rfl ?_
    refine r_iload d_Peg_weed_17 rfl ?_
    refine x_callV (as := [.int i3, .int i4]) (st := []) d_Peg_weed_19 ml_Peg_165 mc_Chart_isCell mv_Chart_isCell ⟨by decide, by decide⟩ gO_126 ⟨_, rfl, rfl⟩ rfl (Nat.le_of_ble_eq_true rfl) (Nat.le_of_ble_eq_true rfl) (Q1 := fun r M1 L1 => some (.int (bI ((0 ≤ i3 ∧ i3 < M 126 4) ∧ 0 ≤ i4 ∧ i4 < M 126 5))) = r ∧ M = M1 ∧ L = L1) (s_Chart_isCell ⟨rfl, rfl, rfl⟩) ?_
    rintro _ _ _ ⟨rfl, rfl, rfl⟩
    refine r_if_ne d_Peg_weed_22 (fun c_2 => ?_) (fun c_2 => ?_)
    · have h9 := h9.1 (bI_p1 c_2)
      refine r_iload_n d_Peg_weed_28 rfl ?_
      refine r_iload_n d_Peg_weed_29 rfl ?_
      refine r_ic_gt d_Peg_weed_30 (fun c_3 => ?_) (fun c_3 => ?_)
      · have h9 := h9.1 c_3
        refine r_bipush (v := (-102)) d_Peg_weed_39 (by decide) ?_
        exact r_iret ⟨d_Peg_weed_41, _, rfl, rfl⟩ ⟨_, _, rfl, h9⟩
      · have h9 := h9.2 c_3
        refine r_iload_n d_Peg_weed_33 rfl ?_
        refine r_iload d_Peg_weed_34 rfl ?_
        refine r_ic_le d_Peg_weed_36 (fun c_4 => ?_) (fun c_4 => ?_)
        · have h9 := h9.1 c_4
          refine r_aload_n d_Peg_weed_42 rfl ?_
          refine x_getR d_Peg_weed_43 fl_Peg_26 gR_0_2 ?_
          refine x_getR d_Peg_weed_46 fl_Peg_173 gR_126_3 ?_
          refine r_iload_n d_Peg_weed_49 rfl ?_
          refine r_iload_n d_Peg_weed_50 rfl ?_
          refine r_iload_n d_Peg_weed_51 rfl ?_
          refine r_iload d_Peg_weed_52 rfl ?_
          refine r_iload d_Peg_weed_54 rfl ?_
          refine x_callV (as := [.int i1, .int i2, .int i3, .int i4, .int i5]) (st := []) d_Peg_weed_56 ml_Peg_177 mc_Patch_put mv_Patch_put ⟨by decide, by decide⟩ (isP_O isP_132) ⟨_, rfl, rfl⟩ rfl (Nat.le_of_ble_eq_true rfl) (Nat.le_of_ble_eq_true rfl) (Q1 := fun r M1 L1 => none = r ∧ setP M 132 (rcF i1.toInt i2.toInt i3.toInt i4.toInt (bB (¬ i5 = 0)) (gp M 132)) = M1 ∧ L = L1) (t_put isP_132 ⟨rfl, rfl, rfl⟩) ?_
          rintro _ _ _ ⟨rfl, rfl, rfl⟩
          refine r_iload_n d_Peg_weed_59 rfl ?_
          refine r_iload_n d_Peg_weed_60 rfl ?_
          refine r_isub d_Peg_weed_61 ?_
          refine r_iconst (v := 1) d_Peg_weed_62 (by decide) ?_
          refine r_iadd d_Peg_weed_63 ?_
          refine r_iload d_Peg_weed_64 rfl ?_
          refine r_iload_n d_Peg_weed_66 rfl ?_
          refine r_isub d_Peg_weed_67 ?_
          refine r_iconst (v := 1) d_Peg_weed_68 (by decide) ?_
          refine r_iadd d_Peg_weed_69 ?_
          refine r_imul d_Peg_weed_70 ?_
          exact r_iret ⟨d_Peg_weed_71, _, rfl, rfl⟩ ⟨_, _, rfl, h9⟩
        · have h9 := h9.2 c_4
          refine r_bipush (v := (-102)) d_Peg_weed_39 (by decide) ?_
          exact r_iret ⟨d_Peg_weed_41, _, rfl, rfl⟩ ⟨_, _, rfl, h9⟩
    · have h9 := h9.2 (bI_p0 c_2)
      refine r_bipush (v := (-101)) d_Peg_weed_25 (by decide) ?_
      exact r_iret ⟨d_Peg_weed_27, _, rfl, rfl⟩ ⟨_, _, rfl, h9⟩
theorem L_Peg_about_0 {xs : List Int32} {i1 : Int32} {i2 : Int32} {i3 : Int32} {M : Mem} {L : Int64} {Q : Option Value → Mem → Int64 → Prop} 
    (h : ((((0 ≤ i1 ∧ i1 < M 126 4) ∧ 0 ≤ i2 ∧ i2 < M 126 5) → ((((0 : Int32) ≤ i3 ∧ i3 ≤ 2) → ((i3 = 0 → RX xs shL md_Chart_depthAt 0 [.ref 126, .int i1, .int i2] [] M L (fun r M_8 L_9 => ∃ v_10 : Int32, r = some (.int v_10) ∧ Q (some (.int v_10)) M_8 L_9)) ∧ (¬ (i3 = 0) → ((i3 = 1 → Q (some (.int (bI ((0 ≤ i1 ∧ i1 ≤ 19) ∧ (0 ≤ i2 ∧ i2 ≤ 19) ∧ gp M 132 i1.toNatClampNeg i2.toNatClampNeg = true)))) M L) ∧ (¬ (i3 = 1) → RX xs shL md_Chart_leastNear 0 [.ref 126, .int i1, .int i2] [] M L (fun r M_5 L_6 => ∃ v_7 : Int32, r = some (.int v_7) ∧ Q (some (.int v_7)) M_5 L_6)))))) ∧ (¬ ((0 : Int32) ≤ i3 ∧ i3 ≤ 2) → Q (some (.int (-102))) M L))) ∧ (¬ ((0 ≤ i1 ∧ i1 < M 126 4) ∧ 0 ≤ i2 ∧ i2 < M 126 5) → Q (some (.int (-101))) M L))) : RX xs shL md_Peg_about 0 [.ref 0, .int i1, .int i2, .int i3] [] M L Q := by
  refine r_aload_n d_Peg_about_0 rfl ?_
  refine x_getR d_Peg_about_1 fl_Peg_26 gR_0_2 ?_
  refine r_iload_n d_Peg_about_4 rfl ?_
  refine r_iload_n d_Peg_about_5 rfl ?_
  refine x_callV (as := [.int i1, .int i2]) (st := []) d_Peg_about_6 ml_Peg_165 mc_Chart_isCell mv_Chart_isCell ⟨by decide, by decide⟩ gO_126 ⟨_, rfl, rfl⟩ rfl (Nat.le_of_ble_eq_true rfl) (Nat.le_of_ble_eq_true rfl) (Q1 := fun r M1 L1 => some (.int (bI ((0 ≤ i1 ∧ i1 < M 126 4) ∧ 0 ≤ i2 ∧ i2 < M 126 5))) = r ∧ M = M1 ∧ L = L1) (s_Chart_isCell ⟨rfl, rfl, rfl⟩) ?_
  rintro _ _ _ ⟨rfl, rfl, rfl⟩
  refine r_if_ne d_Peg_about_9 (fun c_1 => ?_) (fun c_1 => ?_)
  · have h9 := h.1 (bI_p1 c_1)
    refine r_iload_n d_Peg_about_15 rfl ?_
    refine r_iconst (v := 0) d_Peg_about_16 (by decide) ?_
    refine r_iconst (v := 2) d_Peg_about_17 (by decide) ?_
    refine x_callS (as := [.int i3, .int 0, .int 2]) (st := []) d_Peg_about_18 ml_Peg_90 mc_Peg_isWithin ms_Peg_isWithin ⟨by decide, by decide⟩ rfl (Nat.le_of_ble_eq_true rfl) (Nat.le_of_ble_eq_true rfl) (Q1 := fun r M1 L1 => some (.int (bI ((0 : Int32) ≤ i3 ∧ i3 ≤ 2))) = r ∧ M = M1 ∧ L = L1) (s_Peg_isWithin ⟨rfl, rfl, rfl⟩) ?_
    rintro _ _ _ ⟨rfl, rfl, rfl⟩
    refine r_if_ne d_Peg_about_21 (fun c_2 => ?_) (fun c_2 => ?_)
    · have h9 := h9.1 (bI_p1 c_2)
      refine r_iload_n d_Peg_about_27 rfl ?_
      refine r_if_ne d_Peg_about_28 (fun c_3 => ?_) (fun c_3 => ?_)
      · have h9 := h9.2 c_3
        refine r_iload_n d_Peg_about_41 rfl ?_
        refine r_iconst (v := 1) d_Peg_about_42 (by decide) ?_
        refine r_ic_ne d_Peg_about_43 (fun c_4 => ?_) (fun c_4 => ?_)
        · have h9 := h9.2 c_4
          refine r_aload_n d_Peg_about_64 rfl ?_
          refine x_getR d_Peg_about_65 fl_Peg_26 gR_0_2 ?_
          refine r_iload_n d_Peg_about_68 rfl ?_
          refine r_iload_n d_Peg_about_69 rfl ?_
          refine x_callV (as := [.int i1, .int i2]) (st := []) d_Peg_about_70 ml_Peg_193 mc_Chart_leastNear mv_Chart_leastNear ⟨by decide, by decide⟩ gO_126 ⟨_, rfl, rfl⟩ rfl (Nat.le_of_ble_eq_true rfl) (Nat.le_of_ble_eq_true rfl) h9 ?_
          rintro _ M_5 L_6 ⟨v_7, rfl, h9⟩
          exact r_iret ⟨d_Peg_about_73, _, rfl, rfl⟩ ⟨_, _, rfl, h9⟩
        · have h9 := h9.1 c_4
          refine r_aload_n d_Peg_about_46 rfl ?_
          refine x_getR d_Peg_about_47 fl_Peg_26 gR_0_2 ?_
          refine x_getR d_Peg_about_50 fl_Peg_173 gR_126_3 ?_
          refine r_iload_n d_Peg_about_53 rfl ?_
          refine r_iload_n d_Peg_about_54 rfl ?_
          refine x_callV (as := [.int i1, .int i2]) (st := []) d_Peg_about_55 ml_Peg_186 mc_Patch_holds mv_Patch_holds ⟨by decide, by decide⟩ (isP_O isP_132) ⟨_, rfl, rfl⟩ rfl (Nat.le_of_ble_eq_true rfl) (Nat.le_of_ble_eq_true rfl) (Q1 := fun r M1 L1 => some (.int (bI ((0 ≤ i1 ∧ i1 ≤ 19) ∧ (0 ≤ i2 ∧ i2 ≤ 19) ∧ gp M 132 i1.toNatClampNeg i2.toNatClampNeg = true))) = r ∧ M = M1 ∧ L = L1) (t_holds isP_132 ⟨rfl, rfl, rfl⟩) ?_
          rintro _ _ _ ⟨rfl, rfl, rfl⟩
          refine x_callS (as := [.int (bI ((0 ≤ i1 ∧ i1 ≤ 19) ∧ (0 ≤ i2 ∧ i2 ≤ 19) ∧ gp M 132 i1.toNatClampNeg i2.toNatClampNeg = true))]) (st := []) d_Peg_about_58 ml_Peg_189 mc_Peg_asNumber ms_Peg_asNumber ⟨by decide, by decide⟩ rfl (Nat.le_of_ble_eq_true rfl) (Nat.le_of_ble_eq_true rfl) (Q1 := fun r M1 L1 => some (.int (bI ((0 ≤ i1 ∧ i1 ≤ 19) ∧ (0 ≤ i2 ∧ i2 ≤ 19) ∧ gp M 132 i1.toNatClampNeg i2.toNatClampNeg = true))) = r ∧ M = M1 ∧ L = L1) (s_Peg_asNumberB ⟨rfl, rfl, rfl⟩) ?_
          rintro _ _ _ ⟨rfl, rfl, rfl⟩
          refine r_goto d_Peg_about_61 ?_
          exact r_iret ⟨d_Peg_about_73, _, rfl, rfl⟩ ⟨_, _, rfl, h9⟩
      · have h9 := h9.1 c_3
        refine r_aload_n d_Peg_about_31 rfl ?_
        refine x_getR d_Peg_about_32 fl_Peg_26 gR_0_2 ?_
        refine r_iload_n d_Peg_about_35 rfl ?_
        refine r_iload_n d_Peg_about_36 rfl ?_
        refine x_callV (as := [.int i1, .int i2]) (st := []) d_Peg_about_37 ml_Peg_183 mc_Chart_depthAt mv_Chart_depthAt ⟨by decide, by decide⟩ gO_126 ⟨_, rfl, rfl⟩ rfl (Nat.le_of_ble_eq_true rfl) (Nat.le_of_ble_eq_true rfl) h9 ?_
        rintro _ M_8 L_9 ⟨v_10, rfl, h9⟩
        exact r_iret ⟨d_Peg_about_40, _, rfl, rfl⟩ ⟨_, _, rfl, h9⟩
    · have h9 := h9.2 (bI_p0 c_2)
      refine r_bipush (v := (-102)) d_Peg_about_24 (by decide) ?_
      exact r_iret ⟨d_Peg_about_26, _, rfl, rfl⟩ ⟨_, _, rfl, h9⟩
  · have h9 := h.2 (bI_p0 c_1)
    refine r_bipush (v := (-101)) d_Peg_about_12 (by decide) ?_
    exact r_iret ⟨d_Peg_about_14, _, rfl, rfl⟩ ⟨_, _, rfl, h9⟩
theorem L_Peg_start_0 {xs : List Int32} {i1 : Int32} {i2 : Int32} {i3 : Int32} {M : Mem} {L : Int64} {Q : Option Value → Mem → Int64 → Prop} 
    (h : ((((0 ≤ i1 ∧ i1 < M 126 4) ∧ 0 ≤ i2 ∧ i2 < M 126 5) → ((((0 : Int32) ≤ i3 ∧ i3 ≤ 20) → RX xs shL md_Reckoning_startCells 0 [.ref 336] [] (up (up (up M 134 2 i1) 134 3 i2) 134 4 i3) L (fun r M_3 L_4 => ∃ v_5 : Int32, r = some (.int v_5) ∧ Q (some (.int v_5)) M_3 L_4)) ∧ (¬ ((0 : Int32) ≤ i3 ∧ i3 ≤ 20) → Q (some (.int (-102))) M L))) ∧ (¬ ((0 ≤ i1 ∧ i1 < M 126 4) ∧ 0 ≤ i2 ∧ i2 < M 126 5) → Q (some (.int (-101))) M L))) : RX xs shL md_Peg_start 0 [.ref 0, .int i1, .int i2, .int i3] [] M L Q := by
  refine r_aload_n d_Peg_start_0 rfl ?_
  refine x_getR d_Peg_start_1 fl_Peg_26 gR_0_2 ?_
  refine r_iload_n d_Peg_start_4 rfl ?_
  refine r_iload_n d_Peg_start_5 rfl ?_
  refine x_callV (as := [.int i1, .int i2]) (st := []) d_Peg_start_6 ml_Peg_165 mc_Chart_isCell mv_Chart_isCell ⟨by decide, by decide⟩ gO_126 ⟨_, rfl, rfl⟩ rfl (Nat.le_of_ble_eq_true rfl) (Nat.le_of_ble_eq_true rfl) (Q1 := fun r M1 L1 => some (.int (bI ((0 ≤ i1 ∧ i1 < M 126 4) ∧ 0 ≤ i2 ∧ i2 < M 126 5))) = r ∧ M = M1 ∧ L = L1) (s_Chart_isCell ⟨rfl, rfl, rfl⟩) ?_
  rintro _ _ _ ⟨rfl, rfl, rfl⟩
  refine r_if_ne d_Peg_start_9 (fun c_1 => ?_) (fun c_1 => ?_)
  · have h9 := h.1 (bI_p1 c_1)
    refine r_iload_n d_Peg_start_15 rfl ?_
    refine r_iconst (v := 0) d_Peg_start_16 (by decide) ?_
    refine r_bipush (v := 20) d_Peg_start_17 (by decide) ?_
    refine x_callS (as := [.int i3, .int 0, .int 20]) (st := []) d_Peg_start_19 ml_Peg_90 mc_Peg_isWithin ms_Peg_isWithin ⟨by decide, by decide⟩ rfl (Nat.le_of_ble_eq_true rfl) (Nat.le_of_ble_eq_true rfl) (Q1 := fun r M1 L1 => some (.int (bI ((0 : Int32) ≤ i3 ∧ i3 ≤ 20))) = r ∧ M = M1 ∧ L = L1) (s_Peg_isWithin ⟨rfl, rfl, rfl⟩) ?_
    rintro _ _ _ ⟨rfl, rfl, rfl⟩
    refine r_if_ne d_Peg_start_22 (fun c_2 => ?_) (fun c_2 => ?_)
    · have h9 := h9.1 (bI_p1 c_2)
      refine r_aload_n d_Peg_start_28 rfl ?_
      refine x_getR d_Peg_start_29 fl_Peg_33 gR_0_3 ?_
      refine r_iload_n d_Peg_start_32 rfl ?_
      refine r_iload_n d_Peg_start_33 rfl ?_
      refine r_iload_n d_Peg_start_34 rfl ?_
      refine x_callV (as := [.int i1, .int i2, .int i3]) (st := []) d_Peg_start_35 ml_Peg_161 mc_Log_startFrom mv_Log_startFrom ⟨by decide, by decide⟩ gO_134 ⟨_, rfl, rfl⟩ rfl (Nat.le_of_ble_eq_true rfl) (Nat.le_of_ble_eq_true rfl) (Q1 := fun r M1 L1 => none = r ∧ up (up (up M 134 2 i1) 134 3 i2) 134 4 i3 = M1 ∧ L = L1) (L_Log_startFrom_0 (fun _ _ _ => rfl) ⟨rfl, rfl, rfl⟩) ?_
      rintro _ _ _ ⟨rfl, rfl, rfl⟩
      refine r_aload_n d_Peg_start_38 rfl ?_
      refine x_getR d_Peg_start_39 fl_Peg_42 gR_0_4 ?_
      refine x_callV (as := []) (st := []) d_Peg_start_42 ml_Peg_203 mc_Reckoning_startCells mv_Reckoning_startCells ⟨by decide, by decide⟩ gO_336 ⟨_, rfl, rfl⟩ rfl (Nat.le_of_ble_eq_true rfl) (Nat.le_of_ble_eq_true rfl) h9 ?_
      rintro _ M_3 L_4 ⟨v_5, rfl, h9⟩
      exact r_iret ⟨d_Peg_start_45, _, rfl, rfl⟩ ⟨_, _, rfl, h9⟩
    · have h9 := h9.2 (bI_p0 c_2)
      refine r_bipush (v := (-102)) d_Peg_start_25 (by decide) ?_
      exact r_iret ⟨d_Peg_start_27, _, rfl, rfl⟩ ⟨_, _, rfl, h9⟩
  · have h9 := h.2 (bI_p0 c_1)
    refine r_bipush (v := (-101)) d_Peg_start_12 (by decide) ?_
    exact r_iret ⟨d_Peg_start_14, _, rfl, rfl⟩ ⟨_, _, rfl, h9⟩
theorem L_Peg_run_0 {xs : List Int32} {i1 : Int32} {M : Mem} {L : Int64} {Q : Option Value → Mem → Int64 → Prop} 
    (h : (((0 ≤ i1 ∧ i1 < M 4 1) → RX xs shL md_Log_holdsWatch 0 [.ref 134, .int i1] [] M L (fun r M_2 L_3 => ∃ v_4 : Int32, r = some (.int v_4) ∧ ((v_4 = 0 → RX xs shL md_Log_append 0 [.ref 134, .int i1, .int (-1), .int 0, .int 0] [] M_2 L_3 (fun r M_6 L_7 => ∃ v_8 : Int32, r = some (.int v_8) ∧ ((v_8 = 0 → Q (some (.int (-104))) M_6 L_7) ∧ (¬ (v_8 = 0) → Q (some (.int (M_6 134 1))) M_6 L_7)))) ∧ (¬ (v_4 = 0) → Q (some (.int (-103))) M_2 L_3)))) ∧ (¬ (0 ≤ i1 ∧ i1 < M 4 1) → Q (some (.int (-101))) M L))) : RX xs shL md_Peg_run 0 [.ref 0, .int i1] [] M L Q := by
  refine r_aload_n d_Peg_run_0 rfl ?_
  refine x_getR d_Peg_run_1 fl_Peg_19 gR_0_1 ?_
  refine r_iload_n d_Peg_run_4 rfl ?_
  refine x_callV (as := [.int i1]) (st := []) d_Peg_run_5 ml_Peg_117 mc_Board_isWatch mv_Board_isWatch ⟨by decide, by decide⟩ gO_4 ⟨_, rfl, rfl⟩ rfl (Nat.le_of_ble_eq_true rfl) (Nat.le_of_ble_eq_true rfl) (Q1 := fun r M1 L1 => some (.int (bI (0 ≤ i1 ∧ i1 < M 4 1))) = r ∧ M = M1 ∧ L = L1) (s_Board_isWatch ⟨rfl, rfl, rfl⟩) ?_
  rintro _ _ _ ⟨rfl, rfl, rfl⟩
  refine r_if_ne d_Peg_run_8 (fun c_1 => ?_) (fun c_1 => ?_)
  · have h9 := h.1 (bI_p1 c_1)
    refine r_aload_n d_Peg_run_14 rfl ?_
    refine x_getR d_Peg_run_15 fl_Peg_33 gR_0_3 ?_
    refine r_iload_n d_Peg_run_18 rfl ?_
    refine x_callV (as := [.int i1]) (st := []) d_Peg_run_19 ml_Peg_206 mc_Log_holdsWatch mv_Log_holdsWatch ⟨by decide, by decide⟩ gO_134 ⟨_, rfl, rfl⟩ rfl (Nat.le_of_ble_eq_true rfl) (Nat.le_of_ble_eq_true rfl) h9 ?_
    rintro _ M_2 L_3 ⟨v_4, rfl, h9⟩
    refine r_if_eq d_Peg_run_22 (fun c_5 => ?_) (fun c_5 => ?_)
    · have h9 := h9.1 c_5
      refine r_aload_n d_Peg_run_28 rfl ?_
      refine x_getR d_Peg_run_29 fl_Peg_33 gR_0_3 ?_
      refine r_iload_n d_Peg_run_32 rfl ?_
      refine r_iconst (v := (-1)) d_Peg_run_33 (by decide) ?_
      refine r_iconst (v := 0) d_Peg_run_34 (by decide) ?_
      refine r_iconst (v := 0) d_Peg_run_35 (by decide) ?_
      refine x_callV (as := [.int i1, .int (-1), .int 0, .int 0]) (st := []) d_Peg_run_36 ml_Peg_209 mc_Log_append mv_Log_append ⟨by decide, by decide⟩ gO_134 ⟨_, rfl, rfl⟩ rfl (Nat.le_of_ble_eq_true rfl) (Nat.le_of_ble_eq_true rfl) h9 ?_
      rintro _ M_6 L_7 ⟨v_8, rfl, h9⟩
      refine r_if_eq d_Peg_run_39 (fun c_9 => ?_) (fun c_9 => ?_)
      · have h9 := h9.1 c_9
        refine r_bipush (v := (-104)) d_Peg_run_52 (by decide) ?_
        exact r_iret ⟨d_Peg_run_54, _, rfl, rfl⟩ ⟨_, _, rfl, h9⟩
      · have h9 := h9.2 c_9
        refine r_aload_n d_Peg_run_42 rfl ?_
        refine x_getR d_Peg_run_43 fl_Peg_33 gR_0_3 ?_
        refine x_getI d_Peg_run_46 fl_Peg_156 gI_134_1 ?_
        refine r_goto d_Peg_run_49 ?_
        exact r_iret ⟨d_Peg_run_54, _, rfl, rfl⟩ ⟨_, _, rfl, h9⟩
    · have h9 := h9.2 c_5
      refine r_bipush (v := (-103)) d_Peg_run_25 (by decide) ?_
      exact r_iret ⟨d_Peg_run_27, _, rfl, rfl⟩ ⟨_, _, rfl, h9⟩
  · have h9 := h.2 (bI_p0 c_1)
    refine r_bipush (v := (-101)) d_Peg_run_11 (by decide) ?_
    exact r_iret ⟨d_Peg_run_13, _, rfl, rfl⟩ ⟨_, _, rfl, h9⟩
set_option maxHeartbeats 4000000 in
theorem L_Peg_sign_0 {xs : List Int32} {i1 : Int32} {i2 : Int32} {i3 : Int32} {M : Mem} {L : Int64} {Q : Option Value → Mem → Int64 → Prop} 
    (h : RX xs shL md_Row_isSign 0 [.int i1, .int i2, .int i3] [] M L (fun r M_1 L_2 => ∃ v_3 : Int32, r = some (.int v_3) ∧ ((v_3 = 0 → Q (some (.int (-102))) M_1 L_2) ∧ (¬ (v_3 = 0) → (((¬ i1 = 3) → (((i1 = 0 ∨ i1 = 4) → RX xs shL md_Log_append 0 [.ref 134, .int (-1), .int i1, .int i2, .int i3] [] M_1 L_2 (fun r M_20 L_21 => ∃ v_22 : Int32, r = some (.int v_22) ∧ ((v_22 = 0 → Q (some (.int (-104))) M_20 L_21) ∧ (¬ (v_22 = 0) → Q (some (.int (M_20 134 1))) M_20 L_21)))) ∧ (¬ (i1 = 0 ∨ i1 = 4) → RX xs shL md_Log_append 0 [.ref 134, .int (-1), .int i1, .int i2, .int 0] [] M_1 L_2 (fun r M_16 L_17 => ∃ v_18 : Int32, r = some (.int v_18) ∧ ((v_18 = 0 → Q (some (.int (-104))) M_16 L_17) ∧ (¬ (v_18 = 0) → Q (some (.int (M_16 134 1))) M_16 L_17)))))) ∧ (¬ (¬ i1 = 3) → (((i1 = 0 ∨ i1 = 4) → RX xs shL md_Log_append 0 [.ref 134, .int (-1), .int i1, .int 0, .int i3] [] M_1 L_2 (fun r M_11 L_12 => ∃ v_13 : Int32, r = some (.int v_13) ∧ ((v_13 = 0 → Q (some (.int (-104))) M_11 L_12) ∧ (¬ (v_13 = 0) → Q (some (.int (M_11 134 1))) M_11 L_12)))) ∧ (¬ (i1 = 0 ∨ i1 = 4) → RX xs shL md_Log_append 0 [.ref 134, .int (-1), .int i1, .int 0, .int 0] [] M_1 L_2 (fun r M_7 L_8 => ∃ v_9 : Int32, r = some (.int v_9) ∧ ((v_9 = 0 → Q (some (.int (-104))) M_7 L_8) ∧ (¬ (v_9 = 0) → Q (some (.int (M_7 134 1))) M_7 L_8))))))))))) : RX xs shL md_Peg_sign 0 [.ref 0, .int i1, .int i2, .int i3] [] M L Q := by
  refine r_weak (lv' := [.ref 0, .int i1, .int i2, .int i3, .null, .null]) (by repeat (first | exact trivial | refine ⟨rfl, ?_⟩ | exact lle_nil)) ?_
  refine r_iload_n d_Peg_sign_0 rfl ?_
  refine r_iload_n d_Peg_sign_1 rfl ?_
  refine r_iload_n d_Peg_sign_2 rfl ?_
  refine x_callS (as := [.int i1, .int i2, .int i3]) (st := []) d_Peg_sign_3 ml_Peg_212 mc_Row_isSign ms_Row_isSign ⟨by decide, by decide⟩ rfl (Nat.le_of_ble_eq_true rfl) (Nat.le_of_ble_eq_true rfl) h ?_
  rintro _ M_1 L_2 ⟨v_3, rfl, h9⟩
  refine r_if_ne d_Peg_sign_6 (fun c_4 => ?_) (fun c_4 => ?_)
  · have h9 := h9.2 c_4
    refine r_iload_n d_Peg_sign_12 rfl ?_
    refine x_callS (as := [.int i1]) (st := []) d_Peg_sign_13 ml_Peg_217 mc_Row_needsFirst ms_Row_needsFirst ⟨by decide, by decide⟩ rfl (Nat.le_of_ble_eq_true rfl) (Nat.le_of_ble_eq_true rfl) (Q1 := fun r M1 L1 => some (.int (bI (¬ i1 = 3))) = r ∧ M_1 = M1 ∧ L_2 = L1) (s_Row_needsFirst ⟨rfl, rfl, rfl⟩) ?_
    rintro _ _ _ ⟨rfl, rfl, rfl⟩
    refine r_if_eq d_Peg_sign_16 (fun c_5 => ?_) (fun c_5 => ?_)
    · have h9 := h9.2 (bI_p0 c_5)
      refine r_iconst (v := 0) d_Peg_sign_23 (by decide) ?_
      refine r_istore d_Peg_sign_24 (by decide) ?_
      refine r_iload_n d_Peg_sign_26 rfl ?_
      refine x_callS (as := [.int i1]) (st := []) d_Peg_sign_27 ml_Peg_220 mc_Row_needsSecond ms_Row_needsSecond ⟨by decide, by decide⟩ rfl (Nat.le_of_ble_eq_true rfl) (Nat.le_of_ble_eq_true rfl) (Q1 := fun r M1 L1 => some (.int (bI (i1 = 0 ∨ i1 = 4))) = r ∧ M_1 = M1 ∧ L_2 = L1) (s_Row_needsSecond ⟨rfl, rfl, rfl⟩) ?_
      rintro _ _ _ ⟨rfl, rfl, rfl⟩
      refine r_if_eq d_Peg_sign_30 (fun c_6 => ?_) (fun c_6 => ?_)
      · have h9 := h9.2 (bI_p0 c_6)
        refine r_iconst (v := 0) d_Peg_sign_37 (by decide) ?_
        refine r_istore d_Peg_sign_38 (by decide) ?_
        refine r_aload_n d_Peg_sign_40 rfl ?_
        refine x_getR d_Peg_sign_41 fl_Peg_33 gR_0_3 ?_
        refine r_iconst (v := (-1)) d_Peg_sign_44 (by decide) ?_
        refine r_iload_n d_Peg_sign_45 rfl ?_
        refine r_iload d_Peg_sign_46 rfl ?_
        refine r_iload d_Peg_sign_48 rfl ?_
        refine x_callV (as := [.int (-1), .int i1, .int 0, .int 0]) (st := []) d_Peg_sign_50 ml_Peg_209 mc_Log_append mv_Log_append ⟨by decide, by decide⟩ gO_134 ⟨_, rfl, rfl⟩ rfl (Nat.le_of_ble_eq_true rfl) (Nat.le_of_ble_eq_true rfl) h9 ?_
        rintro _ M_7 L_8 ⟨v_9, rfl, h9⟩
        refine r_if_eq d_Peg_sign_53 (fun c_10 => ?_) (fun c_10 => ?_)
        · have h9 := h9.1 c_10
          refine r_bipush (v := (-104)) d_Peg_sign_66 (by decide) ?_
          exact r_iret ⟨d_Peg_sign_68, _, rfl, rfl⟩ ⟨_, _, rfl, h9⟩
        · have h9 := h9.2 c_10
          refine r_aload_n d_Peg_sign_56 rfl ?_
          refine x_getR d_Peg_sign_57 fl_Peg_33 gR_0_3 ?_
          refine x_getI d_Peg_sign_60 fl_Peg_156 gI_134_1 ?_
          refine r_goto d_Peg_sign_63 ?_
          exact r_iret ⟨d_Peg_sign_68, _, rfl, rfl⟩ ⟨_, _, rfl, h9⟩
      · have h9 := h9.1 (bI_p1 c_6)
        refine r_iload_n d_Peg_sign_33 rfl ?_
        refine r_goto d_Peg_sign_34 ?_
        refine r_istore d_Peg_sign_38 (by decide) ?_
        refine r_aload_n d_Peg_sign_40 rfl ?_
        refine x_getR d_Peg_sign_41 fl_Peg_33 gR_0_3 ?_
        refine r_iconst (v := (-1)) d_Peg_sign_44 (by decide) ?_
        refine r_iload_n d_Peg_sign_45 rfl ?_
        refine r_iload d_Peg_sign_46 rfl ?_
        refine r_iload d_Peg_sign_48 rfl ?_
        refine x_callV (as := [.int (-1), .int i1, .int 0, .int i3]) (st := []) d_Peg_sign_50 ml_Peg_209 mc_Log_append mv_Log_append ⟨by decide, by decide⟩ gO_134 ⟨_, rfl, rfl⟩ rfl (Nat.le_of_ble_eq_true rfl) (Nat.le_of_ble_eq_true rfl) h9 ?_
        rintro _ M_11 L_12 ⟨v_13, rfl, h9⟩
        refine r_if_eq d_Peg_sign_53 (fun c_14 => ?_) (fun c_14 => ?_)
        · have h9 := h9.1 c_14
          refine r_bipush (v := (-104)) d_Peg_sign_66 (by decide) ?_
          exact r_iret ⟨d_Peg_sign_68, _, rfl, rfl⟩ ⟨_, _, rfl, h9⟩
        · have h9 := h9.2 c_14
          refine r_aload_n d_Peg_sign_56 rfl ?_
          refine x_getR d_Peg_sign_57 fl_Peg_33 gR_0_3 ?_
          refine x_getI d_Peg_sign_60 fl_Peg_156 gI_134_1 ?_
          refine r_goto d_Peg_sign_63 ?_
          exact r_iret ⟨d_Peg_sign_68, _, rfl, rfl⟩ ⟨_, _, rfl, h9⟩
    · have h9 := h9.1 (bI_p1 c_5)
      refine r_iload_n d_Peg_sign_19 rfl ?_
      refine r_goto d_Peg_sign_20 ?_
      refine r_istore d_Peg_sign_24 (by decide) ?_
      refine r_iload_n d_Peg_sign_26 rfl ?_
      refine x_callS (as := [.int i1]) (st := []) d_Peg_sign_27 ml_Peg_220 mc_Row_needsSecond ms_Row_needsSecond ⟨by decide, by decide⟩ rfl (Nat.le_of_ble_eq_true rfl) (Nat.le_of_ble_eq_true rfl) (Q1 := fun r M1 L1 => some (.int (bI (i1 = 0 ∨ i1 = 4))) = r ∧ M_1 = M1 ∧ L_2 = L1) (s_Row_needsSecond ⟨rfl, rfl, rfl⟩) ?_
      rintro _ _ _ ⟨rfl, rfl, rfl⟩
      refine r_if_eq d_Peg_sign_30 (fun c_15 => ?_) (fun c_15 => ?_)
      · have h9 := h9.2 (bI_p0 c_15)
        refine r_iconst (v := 0) d_Peg_sign_37 (by decide) ?_
        refine r_istore d_Peg_sign_38 (by decide) ?_
        refine r_aload_n d_Peg_sign_40 rfl ?_
        refine x_getR d_Peg_sign_41 fl_Peg_33 gR_0_3 ?_
        refine r_iconst (v := (-1)) d_Peg_sign_44 (by decide) ?_
        refine r_iload_n d_Peg_sign_45 rfl ?_
        refine r_iload d_Peg_sign_46 rfl ?_
        refine r_iload d_Peg_sign_48 rfl ?_
        refine x_callV (as := [.int (-1), .int i1, .int i2, .int 0]) (st := []) d_Peg_sign_50 ml_Peg_209 mc_Log_append mv_Log_append ⟨by decide, by decide⟩ gO_134 ⟨_, rfl, rfl⟩ rfl (Nat.le_of_ble_eq_true rfl) (Nat.le_of_ble_eq_true rfl) h9 ?_
        rintro _ M_16 L_17 ⟨v_18, rfl, h9⟩
        refine r_if_eq d_Peg_sign_53 (fun c_19 => ?_) (fun c_19 => ?_)
        · have h9 := h9.1 c_19
          refine r_bipush (v := (-104)) d_Peg_sign_66 (by decide) ?_
          exact r_iret ⟨d_Peg_sign_68, _, rfl, rfl⟩ ⟨_, _, rfl, h9⟩
        · have h9 := h9.2 c_19
          refine r_aload_n d_Peg_sign_56 rfl ?_
          refine x_getR d_Peg_sign_57 fl_Peg_33 gR_0_3 ?_
          refine x_getI d_Peg_sign_60 fl_Peg_156 gI_134_1 ?_
          refine r_goto d_Peg_sign_63 ?_
          exact r_iret ⟨d_Peg_sign_68, _, rfl, rfl⟩ ⟨_, _, rfl, h9⟩
      · have h9 := h9.1 (bI_p1 c_15)
        refine r_iload_n d_Peg_sign_33 rfl ?_
        refine r_goto d_Peg_sign_34 ?_
        refine r_istore d_Peg_sign_38 (by decide) ?_
        refine r_aload_n d_Peg_sign_40 rfl ?_
        refine x_getR d_Peg_sign_41 fl_Peg_33 gR_0_3 ?_
        refine r_iconst (v := (-1)) d_Peg_sign_44 (by decide) ?_
        refine r_iload_n d_Peg_sign_45 rfl ?_
        refine r_iload d_Peg_sign_46 rfl ?_
        refine r_iload d_Peg_sign_48 rfl ?_
        refine x_callV (as := [.int (-1), .int i1, .int i2, .int i3]) (st := []) d_Peg_sign_50 ml_Peg_209 mc_Log_append mv_Log_append ⟨by decide, by decide⟩ gO_134 ⟨_, rfl, rfl⟩ rfl (Nat.le_of_ble_eq_true rfl) (Nat.le_of_ble_eq_true rfl) h9 ?_
        rintro _ M_20 L_21 ⟨v_22, rfl, h9⟩
        refine r_if_eq d_Peg_sign_53 (fun c_23 => ?_) (fun c_23 => ?_)
        · have h9 := h9.1 c_23
          refine r_bipush (v := (-104)) d_Peg_sign_66 (by decide) ?_
          exact r_iret ⟨d_Peg_sign_68, _, rfl, rfl⟩ ⟨_, _, rfl, h9⟩
        · have h9 := h9.2 c_23
          refine r_aload_n d_Peg_sign_56 rfl ?_
          refine x_getR d_Peg_sign_57 fl_Peg_33 gR_0_3 ?_
          refine x_getI d_Peg_sign_60 fl_Peg_156 gI_134_1 ?_
          refine r_goto d_Peg_sign_63 ?_
          exact r_iret ⟨d_Peg_sign_68, _, rfl, rfl⟩ ⟨_, _, rfl, h9⟩
  · have h9 := h9.1 c_4
    refine r_bipush (v := (-102)) d_Peg_sign_9 (by decide) ?_
    exact r_iret ⟨d_Peg_sign_11, _, rfl, rfl⟩ ⟨_, _, rfl, h9⟩
theorem L_Peg_row_0 {xs : List Int32} {i1 : Int32} {i2 : Int32} {M : Mem} {L : Int64} {Q : Option Value → Mem → Int64 → Prop} 
    (h : (((0 ≤ i1 ∧ i1 < M 134 1) → ((((0 : Int32) ≤ i2 ∧ i2 ≤ 4) → (vp_in i1 40 ∧ RX xs shL md_Row_fact 0 [.ref (136 + 5 * i1.toNatClampNeg), .int i2] [] M L (fun r M_4 L_5 => ∃ v_6 : Int32, r = some (.int v_6) ∧ Q (some (.int v_6)) M_4 L_5))) ∧ (¬ ((0 : Int32) ≤ i2 ∧ i2 ≤ 4) → Q (some (.int (-102))) M L))) ∧ (¬ (0 ≤ i1 ∧ i1 < M 134 1) → Q (some (.int (-101))) M L))) : RX xs shL md_Peg_row 0 [.ref 0, .int i1, .int i2] [] M L Q := by
  refine r_aload_n d_Peg_row_0 rfl ?_
  refine x_getR d_Peg_row_1 fl_Peg_33 gR_0_3 ?_
  refine r_iload_n d_Peg_row_4 rfl ?_
  refine x_callV (as := [.int i1]) (st := []) d_Peg_row_5 ml_Peg_223 mc_Log_isRow mv_Log_isRow ⟨by decide, by decide⟩ gO_134 ⟨_, rfl, rfl⟩ rfl (Nat.le_of_ble_eq_true rfl) (Nat.le_of_ble_eq_true rfl) (Q1 := fun r M1 L1 => some (.int (bI (0 ≤ i1 ∧ i1 < M 134 1))) = r ∧ M = M1 ∧ L = L1) (s_Log_isRow ⟨rfl, rfl, rfl⟩) ?_
  rintro _ _ _ ⟨rfl, rfl, rfl⟩
  refine r_if_ne d_Peg_row_8 (fun c_1 => ?_) (fun c_1 => ?_)
  · have h9 := h.1 (bI_p1 c_1)
    refine r_iload_n d_Peg_row_14 rfl ?_
    refine r_iconst (v := 0) d_Peg_row_15 (by decide) ?_
    refine r_iconst (v := 4) d_Peg_row_16 (by decide) ?_
    refine x_callS (as := [.int i2, .int 0, .int 4]) (st := []) d_Peg_row_17 ml_Peg_90 mc_Peg_isWithin ms_Peg_isWithin ⟨by decide, by decide⟩ rfl (Nat.le_of_ble_eq_true rfl) (Nat.le_of_ble_eq_true rfl) (Q1 := fun r M1 L1 => some (.int (bI ((0 : Int32) ≤ i2 ∧ i2 ≤ 4))) = r ∧ M = M1 ∧ L = L1) (s_Peg_isWithin ⟨rfl, rfl, rfl⟩) ?_
    rintro _ _ _ ⟨rfl, rfl, rfl⟩
    refine r_if_eq d_Peg_row_20 (fun c_2 => ?_) (fun c_2 => ?_)
    · have h9 := h9.2 (bI_p0 c_2)
      refine r_bipush (v := (-102)) d_Peg_row_39 (by decide) ?_
      exact r_iret ⟨d_Peg_row_41, _, rfl, rfl⟩ ⟨_, _, rfl, h9⟩
    · have h9 := h9.1 (bI_p1 c_2)
      refine r_aload_n d_Peg_row_23 rfl ?_
      refine x_getR d_Peg_row_24 fl_Peg_33 gR_0_3 ?_
      refine x_getR d_Peg_row_27 fl_Peg_226 gR_134_0 ?_
      refine r_iload_n d_Peg_row_30 rfl ?_
      obtain ⟨o_3, h9⟩ := h9
      refine x_aald d_Peg_row_31 aR_135 o_3 ?_
      refine r_iload_n d_Peg_row_32 rfl ?_
      refine x_callV (as := [.int i2]) (st := []) d_Peg_row_33 ml_Peg_234 mc_Row_fact mv_Row_fact ⟨by decide, by decide⟩ (rw_O (vp_lt o_3)) ⟨_, rfl, rfl⟩ rfl (Nat.le_of_ble_eq_true rfl) (Nat.le_of_ble_eq_true rfl) h9 ?_
      rintro _ M_4 L_5 ⟨v_6, rfl, h9⟩
      refine r_goto d_Peg_row_36 ?_
      exact r_iret ⟨d_Peg_row_41, _, rfl, rfl⟩ ⟨_, _, rfl, h9⟩
  · have h9 := h.2 (bI_p0 c_1)
    refine r_bipush (v := (-101)) d_Peg_row_11 (by decide) ?_
    exact r_iret ⟨d_Peg_row_13, _, rfl, rfl⟩ ⟨_, _, rfl, h9⟩
theorem L_Peg_patch_0 {xs : List Int32} {i1 : Int32} {M : Mem} {L : Int64} {Q : Option Value → Mem → Int64 → Prop} 
    (h : (((0 ≤ i1 ∧ i1 ≤ M 134 1) → RX xs shL md_Reckoning_lookAhead 0 [.ref 336] [] M L (fun r M_2 L_3 => ∃ b_4 : Nat, r = some (.ref b_4) ∧ isP shL b_4 ∧ (vp_in i1 41 ∧ RX xs shL md_Patch_size 0 [.ref (339 + 4 * i1.toNatClampNeg)] [] M_2 L_3 (fun r M_6 L_7 => ∃ v_8 : Int32, r = some (.int v_8) ∧ Q (some (.int v_8)) M_6 L_7)))) ∧ (¬ (0 ≤ i1 ∧ i1 ≤ M 134 1) → Q (some (.int (-101))) M L))) : RX xs shL md_Peg_patch 0 [.ref 0, .int i1] [] M L Q := by
  refine r_aload_n d_Peg_patch_0 rfl ?_
  refine x_getR d_Peg_patch_1 fl_Peg_33 gR_0_3 ?_
  refine r_iload_n d_Peg_patch_4 rfl ?_
  refine x_callV (as := [.int i1]) (st := []) d_Peg_patch_5 ml_Peg_237 mc_Log_isBehind mv_Log_isBehind ⟨by decide, by decide⟩ gO_134 ⟨_, rfl, rfl⟩ rfl (Nat.le_of_ble_eq_true rfl) (Nat.le_of_ble_eq_true rfl) (Q1 := fun r M1 L1 => some (.int (bI (0 ≤ i1 ∧ i1 ≤ M 134 1))) = r ∧ M = M1 ∧ L = L1) (s_Log_isBehind ⟨rfl, rfl, rfl⟩) ?_
  rintro _ _ _ ⟨rfl, rfl, rfl⟩
  refine r_if_ne d_Peg_patch_8 (fun c_1 => ?_) (fun c_1 => ?_)
  · have h9 := h.1 (bI_p1 c_1)
    refine r_aload_n d_Peg_patch_14 rfl ?_
    refine x_getR d_Peg_patch_15 fl_Peg_42 gR_0_4 ?_
    refine x_callV (as := []) (st := []) d_Peg_patch_18 ml_Peg_240 mc_Reckoning_lookAhead mv_Reckoning_lookAhead ⟨by decide, by decide⟩ gO_336 ⟨_, rfl, rfl⟩ rfl (Nat.le_of_ble_eq_true rfl) (Nat.le_of_ble_eq_true rfl) h9 ?_
    rintro _ M_2 L_3 ⟨b_4, rfl, hbb_4, h9⟩
    refine r_pop d_Peg_patch_21 rfl ?_
    refine r_aload_n d_Peg_patch_22 rfl ?_
    refine x_getR d_Peg_patch_23 fl_Peg_42 gR_0_4 ?_
    refine x_getR d_Peg_patch_26 fl_Peg_244 gR_336_3 ?_
    refine r_iload_n d_Peg_patch_29 rfl ?_
    obtain ⟨o_5, h9⟩ := h9
    refine x_aald d_Peg_patch_30 aR_337 o_5 ?_
    refine x_callV (as := []) (st := []) d_Peg_patch_31 ml_Peg_248 mc_Patch_size mv_Patch_size ⟨by decide, by decide⟩ (isP_O (isP_ahead (vp_lt o_5))) ⟨_, rfl, rfl⟩ rfl (Nat.le_of_ble_eq_true rfl) (Nat.le_of_ble_eq_true rfl) h9 ?_
    rintro _ M_6 L_7 ⟨v_8, rfl, h9⟩
    exact r_iret ⟨d_Peg_patch_34, _, rfl, rfl⟩ ⟨_, _, rfl, h9⟩
  · have h9 := h.2 (bI_p0 c_1)
    refine r_bipush (v := (-101)) d_Peg_patch_11 (by decide) ?_
    exact r_iret ⟨d_Peg_patch_13, _, rfl, rfl⟩ ⟨_, _, rfl, h9⟩
theorem L_Peg_has_0 {xs : List Int32} {i1 : Int32} {i2 : Int32} {i3 : Int32} {M : Mem} {L : Int64} {Q : Option Value → Mem → Int64 → Prop} 
    (h : (((0 ≤ i1 ∧ i1 ≤ M 134 1) → ((((0 ≤ i2 ∧ i2 < M 126 4) ∧ 0 ≤ i3 ∧ i3 < M 126 5) → RX xs shL md_Reckoning_lookAhead 0 [.ref 336] [] M L (fun r M_3 L_4 => ∃ b_5 : Nat, r = some (.ref b_5) ∧ isP shL b_5 ∧ (vp_in i1 41 ∧ Q (some (.int (bI ((0 ≤ i2 ∧ i2 ≤ 19) ∧ (0 ≤ i3 ∧ i3 ≤ 19) ∧ gp M_3 (339 + 4 * i1.toNatClampNeg) i2.toNatClampNeg i3.toNatClampNeg = true)))) M_3 L_4))) ∧ (¬ ((0 ≤ i2 ∧ i2 < M 126 4) ∧ 0 ≤ i3 ∧ i3 < M 126 5) → Q (some (.int (-101))) M L))) ∧ (¬ (0 ≤ i1 ∧ i1 ≤ M 134 1) → Q (some (.int (-101))) M L))) : RX xs shL md_Peg_has 0 [.ref 0, .int i1, .int i2, .int i3] [] M L Q := by
  refine r_aload_n d_Peg_has_0 rfl ?_
  refine x_getR d_Peg_has_1 fl_Peg_33 gR_0_3 ?_
  refine r_iload_n d_Peg_has_4 rfl ?_
  refine x_callV (as := [.int i1]) (st := []) d_Peg_has_5 ml_Peg_237 mc_Log_isBehind mv_Log_isBehind ⟨by decide, by decide⟩ gO_134 ⟨_, rfl, rfl⟩ rfl (Nat.le_of_ble_eq_true rfl) (Nat.le_of_ble_eq_true rfl) (Q1 := fun r M1 L1 => some (.int (bI (0 ≤ i1 ∧ i1 ≤ M 134 1))) = r ∧ M = M1 ∧ L = L1) (s_Log_isBehind ⟨rfl, rfl, rfl⟩) ?_
  rintro _ _ _ ⟨rfl, rfl, rfl⟩
  refine r_if_eq d_Peg_has_8 (fun c_1 => ?_) (fun c_1 => ?_)
  · have h9 := h.2 (bI_p0 c_1)
    refine r_bipush (v := (-101)) d_Peg_has_23 (by decide) ?_
    exact r_iret ⟨d_Peg_has_25, _, rfl, rfl⟩ ⟨_, _, rfl, h9⟩
  · have h9 := h.1 (bI_p1 c_1)
    refine r_aload_n d_Peg_has_11 rfl ?_
    refine x_getR d_Peg_has_12 fl_Peg_26 gR_0_2 ?_
    refine r_iload_n d_Peg_has_15 rfl ?_
    refine r_iload_n d_Peg_has_16 rfl ?_
    refine x_callV (as := [.int i2, .int i3]) (st := []) d_Peg_has_17 ml_Peg_165 mc_Chart_isCell mv_Chart_isCell ⟨by decide, by decide⟩ gO_126 ⟨_, rfl, rfl⟩ rfl (Nat.le_of_ble_eq_true rfl) (Nat.le_of_ble_eq_true rfl) (Q1 := fun r M1 L1 => some (.int (bI ((0 ≤ i2 ∧ i2 < M 126 4) ∧ 0 ≤ i3 ∧ i3 < M 126 5))) = r ∧ M = M1 ∧ L = L1) (s_Chart_isCell ⟨rfl, rfl, rfl⟩) ?_
    rintro _ _ _ ⟨rfl, rfl, rfl⟩
    refine r_if_ne d_Peg_has_20 (fun c_2 => ?_) (fun c_2 => ?_)
    · have h9 := h9.1 (bI_p1 c_2)
      refine r_aload_n d_Peg_has_26 rfl ?_
      refine x_getR d_Peg_has_27 fl_Peg_42 gR_0_4 ?_
      refine x_callV (as := []) (st := []) d_Peg_has_30 ml_Peg_240 mc_Reckoning_lookAhead mv_Reckoning_lookAhead ⟨by decide, by decide⟩ gO_336 ⟨_, rfl, rfl⟩ rfl (Nat.le_of_ble_eq_true rfl) (Nat.le_of_ble_eq_true rfl) h9 ?_
      rintro _ M_3 L_4 ⟨b_5, rfl, hbb_5, h9⟩
      refine r_pop d_Peg_has_33 rfl ?_
      refine r_aload_n d_Peg_has_34 rfl ?_
      refine x_getR d_Peg_has_35 fl_Peg_42 gR_0_4 ?_
      refine x_getR d_Peg_has_38 fl_Peg_244 gR_336_3 ?_
      refine r_iload_n d_Peg_has_41 rfl ?_
      obtain ⟨o_6, h9⟩ := h9
      refine x_aald d_Peg_has_42 aR_337 o_6 ?_
      refine r_iload_n d_Peg_has_43 rfl ?_
      refine r_iload_n d_Peg_has_44 rfl ?_
      refine x_callV (as := [.int i2, .int i3]) (st := []) d_Peg_has_45 ml_Peg_186 mc_Patch_holds mv_Patch_holds ⟨by decide, by decide⟩ (isP_O (isP_ahead (vp_lt o_6))) ⟨_, rfl, rfl⟩ rfl (Nat.le_of_ble_eq_true rfl) (Nat.le_of_ble_eq_true rfl) (Q1 := fun r M1 L1 => some (.int (bI ((0 ≤ i2 ∧ i2 ≤ 19) ∧ (0 ≤ i3 ∧ i3 ≤ 19) ∧ gp M_3 (339 + 4 * i1.toNatClampNeg) i2.toNatClampNeg i3.toNatClampNeg = true))) = r ∧ M_3 = M1 ∧ L_4 = L1) (t_holds (isP_ahead (vp_lt o_6)) ⟨rfl, rfl, rfl⟩) ?_
      rintro _ _ _ ⟨rfl, rfl, rfl⟩
      refine x_callS (as := [.int (bI ((0 ≤ i2 ∧ i2 ≤ 19) ∧ (0 ≤ i3 ∧ i3 ≤ 19) ∧ gp M_3 (339 + 4 * i1.toNatClampNeg) i2.toNatClampNeg i3.toNatClampNeg = true))]) (st := []) d_Peg_has_48 ml_Peg_189 mc_Peg_asNumber ms_Peg_asNumber ⟨by decide, by decide⟩ rfl (Nat.le_of_ble_eq_true rfl) (Nat.le_of_ble_eq_true rfl) (Q1 := fun r M1 L1 => some (.int (bI ((0 ≤ i2 ∧ i2 ≤ 19) ∧ (0 ≤ i3 ∧ i3 ≤ 19) ∧ gp M_3 (339 + 4 * i1.toNatClampNeg) i2.toNatClampNeg i3.toNatClampNeg = true))) = r ∧ M_3 = M1 ∧ L_4 = L1) (s_Peg_asNumberB ⟨rfl, rfl, rfl⟩) ?_
      rintro _ _ _ ⟨rfl, rfl, rfl⟩
      exact r_iret ⟨d_Peg_has_51, _, rfl, rfl⟩ ⟨_, _, rfl, h9⟩
    · have h9 := h9.2 (bI_p0 c_2)
      refine r_bipush (v := (-101)) d_Peg_has_23 (by decide) ?_
      exact r_iret ⟨d_Peg_has_25, _, rfl, rfl⟩ ⟨_, _, rfl, h9⟩
theorem L_Peg_here_0 {xs : List Int32} {i1 : Int32} {M : Mem} {L : Int64} {Q : Option Value → Mem → Int64 → Prop} 
    (h : (((0 ≤ i1 ∧ i1 ≤ M 134 1) → RX xs shL md_Reckoning_seenFromEnd 0 [.ref 336, .int i1] [] M L (fun r M_2 L_3 => ∃ b_4 : Nat, r = some (.ref b_4) ∧ isP shL b_4 ∧ RX xs shL md_Patch_size 0 [.ref b_4] [] M_2 L_3 (fun r M_5 L_6 => ∃ v_7 : Int32, r = some (.int v_7) ∧ Q (some (.int v_7)) M_5 L_6))) ∧ (¬ (0 ≤ i1 ∧ i1 ≤ M 134 1) → Q (some (.int (-101))) M L))) : RX xs shL md_Peg_here 0 [.ref 0, .int i1] [] M L Q := by
  refine r_aload_n d_Peg_here_0 rfl ?_
  refine x_getR d_Peg_here_1 fl_Peg_33 gR_0_3 ?_
  refine r_iload_n d_Peg_here_4 rfl ?_
  refine x_callV (as := [.int i1]) (st := []) d_Peg_here_5 ml_Peg_237 mc_Log_isBehind mv_Log_isBehind ⟨by decide, by decide⟩ gO_134 ⟨_, rfl, rfl⟩ rfl (Nat.le_of_ble_eq_true rfl) (Nat.le_of_ble_eq_true rfl) (Q1 := fun r M1 L1 => some (.int (bI (0 ≤ i1 ∧ i1 ≤ M 134 1))) = r ∧ M = M1 ∧ L = L1) (s_Log_isBehind ⟨rfl, rfl, rfl⟩) ?_
  rintro _ _ _ ⟨rfl, rfl, rfl⟩
  refine r_if_ne d_Peg_here_8 (fun c_1 => ?_) (fun c_1 => ?_)
  · have h9 := h.1 (bI_p1 c_1)
    refine r_aload_n d_Peg_here_14 rfl ?_
    refine x_getR d_Peg_here_15 fl_Peg_42 gR_0_4 ?_
    refine r_iload_n d_Peg_here_18 rfl ?_
    refine x_callV (as := [.int i1]) (st := []) d_Peg_here_19 ml_Peg_250 mc_Reckoning_seenFromEnd mv_Reckoning_seenFromEnd ⟨by decide, by decide⟩ gO_336 ⟨_, rfl, rfl⟩ rfl (Nat.le_of_ble_eq_true rfl) (Nat.le_of_ble_eq_true rfl) h9 ?_
    rintro _ M_2 L_3 ⟨b_4, rfl, hbb_4, h9⟩
    refine x_callV (as := []) (st := []) d_Peg_here_22 ml_Peg_248 mc_Patch_size mv_Patch_size ⟨by decide, by decide⟩ (isP_O hbb_4) ⟨_, rfl, rfl⟩ rfl (Nat.le_of_ble_eq_true rfl) (Nat.le_of_ble_eq_true rfl) h9 ?_
    rintro _ M_5 L_6 ⟨v_7, rfl, h9⟩
    exact r_iret ⟨d_Peg_here_25, _, rfl, rfl⟩ ⟨_, _, rfl, h9⟩
  · have h9 := h.2 (bI_p0 c_1)
    refine r_bipush (v := (-101)) d_Peg_here_11 (by decide) ?_
    exact r_iret ⟨d_Peg_here_13, _, rfl, rfl⟩ ⟨_, _, rfl, h9⟩
theorem L_Peg_was_0 {xs : List Int32} {i1 : Int32} {i2 : Int32} {i3 : Int32} {M : Mem} {L : Int64} {Q : Option Value → Mem → Int64 → Prop} 
    (h : (((0 ≤ i1 ∧ i1 ≤ M 134 1) → ((((0 ≤ i2 ∧ i2 < M 126 4) ∧ 0 ≤ i3 ∧ i3 < M 126 5) → RX xs shL md_Reckoning_seenFromEnd 0 [.ref 336, .int i1] [] M L (fun r M_3 L_4 => ∃ b_5 : Nat, r = some (.ref b_5) ∧ isP shL b_5 ∧ Q (some (.int (bI ((0 ≤ i2 ∧ i2 ≤ 19) ∧ (0 ≤ i3 ∧ i3 ≤ 19) ∧ gp M_3 b_5 i2.toNatClampNeg i3.toNatClampNeg = true)))) M_3 L_4)) ∧ (¬ ((0 ≤ i2 ∧ i2 < M 126 4) ∧ 0 ≤ i3 ∧ i3 < M 126 5) → Q (some (.int (-101))) M L))) ∧ (¬ (0 ≤ i1 ∧ i1 ≤ M 134 1) → Q (some (.int (-101))) M L))) : RX xs shL md_Peg_was 0 [.ref 0, .int i1, .int i2, .int i3] [] M L Q := by
  refine r_aload_n d_Peg_was_0 rfl ?_
  refine x_getR d_Peg_was_1 fl_Peg_33 gR_0_3 ?_
  refine r_iload_n d_Peg_was_4 rfl ?_
  refine x_callV (as := [.int i1]) (st := []) d_Peg_was_5 ml_Peg_237 mc_Log_isBehind mv_Log_isBehind ⟨by decide, by decide⟩ gO_134 ⟨_, rfl, rfl⟩ rfl (Nat.le_of_ble_eq_true rfl) (Nat.le_of_ble_eq_true rfl) (Q1 := fun r M1 L1 => some (.int (bI (0 ≤ i1 ∧ i1 ≤ M 134 1))) = r ∧ M = M1 ∧ L = L1) (s_Log_isBehind ⟨rfl, rfl, rfl⟩) ?_
  rintro _ _ _ ⟨rfl, rfl, rfl⟩
  refine r_if_eq d_Peg_was_8 (fun c_1 => ?_) (fun c_1 => ?_)
  · have h9 := h.2 (bI_p0 c_1)
    refine r_bipush (v := (-101)) d_Peg_was_23 (by decide) ?_
    exact r_iret ⟨d_Peg_was_25, _, rfl, rfl⟩ ⟨_, _, rfl, h9⟩
  · have h9 := h.1 (bI_p1 c_1)
    refine r_aload_n d_Peg_was_11 rfl ?_
    refine x_getR d_Peg_was_12 fl_Peg_26 gR_0_2 ?_
    refine r_iload_n d_Peg_was_15 rfl ?_
    refine r_iload_n d_Peg_was_16 rfl ?_
    refine x_callV (as := [.int i2, .int i3]) (st := []) d_Peg_was_17 ml_Peg_165 mc_Chart_isCell mv_Chart_isCell ⟨by decide, by decide⟩ gO_126 ⟨_, rfl, rfl⟩ rfl (Nat.le_of_ble_eq_true rfl) (Nat.le_of_ble_eq_true rfl) (Q1 := fun r M1 L1 => some (.int (bI ((0 ≤ i2 ∧ i2 < M 126 4) ∧ 0 ≤ i3 ∧ i3 < M 126 5))) = r ∧ M = M1 ∧ L = L1) (s_Chart_isCell ⟨rfl, rfl, rfl⟩) ?_
    rintro _ _ _ ⟨rfl, rfl, rfl⟩
    refine r_if_ne d_Peg_was_20 (fun c_2 => ?_) (fun c_2 => ?_)
    · have h9 := h9.1 (bI_p1 c_2)
      refine r_aload_n d_Peg_was_26 rfl ?_
      refine x_getR d_Peg_was_27 fl_Peg_42 gR_0_4 ?_
      refine r_iload_n d_Peg_was_30 rfl ?_
      refine x_callV (as := [.int i1]) (st := []) d_Peg_was_31 ml_Peg_250 mc_Reckoning_seenFromEnd mv_Reckoning_seenFromEnd ⟨by decide, by decide⟩ gO_336 ⟨_, rfl, rfl⟩ rfl (Nat.le_of_ble_eq_true rfl) (Nat.le_of_ble_eq_true rfl) h9 ?_
      rintro _ M_3 L_4 ⟨b_5, rfl, hbb_5, h9⟩
      refine r_iload_n d_Peg_was_34 rfl ?_
      refine r_iload_n d_Peg_was_35 rfl ?_
      refine x_callV (as := [.int i2, .int i3]) (st := []) d_Peg_was_36 ml_Peg_186 mc_Patch_holds mv_Patch_holds ⟨by decide, by decide⟩ (isP_O hbb_5) ⟨_, rfl, rfl⟩ rfl (Nat.le_of_ble_eq_true rfl) (Nat.le_of_ble_eq_true rfl) (Q1 := fun r M1 L1 => some (.int (bI ((0 ≤ i2 ∧ i2 ≤ 19) ∧ (0 ≤ i3 ∧ i3 ≤ 19) ∧ gp M_3 b_5 i2.toNatClampNeg i3.toNatClampNeg = true))) = r ∧ M_3 = M1 ∧ L_4 = L1) (t_holds hbb_5 ⟨rfl, rfl, rfl⟩) ?_
      rintro _ _ _ ⟨rfl, rfl, rfl⟩
      refine x_callS (as := [.int (bI ((0 ≤ i2 ∧ i2 ≤ 19) ∧ (0 ≤ i3 ∧ i3 ≤ 19) ∧ gp M_3 b_5 i2.toNatClampNeg i3.toNatClampNeg = true))]) (st := []) d_Peg_was_39 ml_Peg_189 mc_Peg_asNumber ms_Peg_asNumber ⟨by decide, by decide⟩ rfl (Nat.le_of_ble_eq_true rfl) (Nat.le_of_ble_eq_true rfl) (Q1 := fun r M1 L1 => some (.int (bI ((0 ≤ i2 ∧ i2 ≤ 19) ∧ (0 ≤ i3 ∧ i3 ≤ 19) ∧ gp M_3 b_5 i2.toNatClampNeg i3.toNatClampNeg = true))) = r ∧ M_3 = M1 ∧ L_4 = L1) (s_Peg_asNumberB ⟨rfl, rfl, rfl⟩) ?_
      rintro _ _ _ ⟨rfl, rfl, rfl⟩
      exact r_iret ⟨d_Peg_was_42, _, rfl, rfl⟩ ⟨_, _, rfl, h9⟩
    · have h9 := h9.2 (bI_p0 c_2)
      refine r_bipush (v := (-101)) d_Peg_was_23 (by decide) ?_
      exact r_iret ⟨d_Peg_was_25, _, rfl, rfl⟩ ⟨_, _, rfl, h9⟩
theorem L_Peg_blamed_0 {xs : List Int32}  {M : Mem} {L : Int64} {Q : Option Value → Mem → Int64 → Prop} 
    (h : RX xs shL md_Peg_mayBlame 0 [.ref 0] [] M L (fun r M_1 L_2 => ∃ v_3 : Int32, r = some (.int v_3) ∧ ((v_3 = 0 → Q (some (.int (-103))) M_1 L_2) ∧ (¬ (v_3 = 0) → RX xs shL md_Reckoning_findBlamed 0 [.ref 336] [] (up M_1 0 8 ((M_1 0 8) + 1)) L_2 (fun r M_5 L_6 => r = none ∧ Q (some (.int (M_5 336 9))) M_5 L_6))))) : RX xs shL md_Peg_blamed 0 [.ref 0] [] M L Q := by
  refine r_aload_n d_Peg_blamed_0 rfl ?_
  refine x_callV (as := []) (st := []) d_Peg_blamed_1 ml_Peg_254 mc_Peg_mayBlame mv_Peg_mayBlame ⟨by decide, by decide⟩ gO_0 ⟨_, rfl, rfl⟩ rfl (Nat.le_of_ble_eq_true rfl) (Nat.le_of_ble_eq_true rfl) h ?_
  rintro _ M_1 L_2 ⟨v_3, rfl, h9⟩
  refine r_if_ne d_Peg_blamed_4 (fun c_4 => ?_) (fun c_4 => ?_)
  · have h9 := h9.2 c_4
    refine r_aload_n d_Peg_blamed_10 rfl ?_
    refine r_dup d_Peg_blamed_11 rfl ?_
    refine x_getI d_Peg_blamed_12 fl_Peg_62 gI_0_8 ?_
    refine r_iconst (v := 1) d_Peg_blamed_15 (by decide) ?_
    refine r_iadd d_Peg_blamed_16 ?_
    refine x_putI d_Peg_blamed_17 fl_Peg_62 (fun r hr => by cases hr; rfl) gI_0_8 (VOk_int _) ?_
    refine r_aload_n d_Peg_blamed_20 rfl ?_
    refine x_getR d_Peg_blamed_21 fl_Peg_42 gR_0_4 ?_
    refine x_callV (as := []) (st := []) d_Peg_blamed_24 ml_Peg_258 mc_Reckoning_findBlamed mv_Reckoning_findBlamed ⟨by decide, by decide⟩ gO_336 ⟨_, rfl, rfl⟩ rfl (Nat.le_of_ble_eq_true rfl) (Nat.le_of_ble_eq_true rfl) h9 ?_
    rintro _ M_5 L_6 ⟨rfl, h9⟩
    refine r_aload_n d_Peg_blamed_27 rfl ?_
    refine x_getR d_Peg_blamed_28 fl_Peg_42 gR_0_4 ?_
    refine x_getI d_Peg_blamed_31 fl_Peg_261 gI_336_9 ?_
    exact r_iret ⟨d_Peg_blamed_34, _, rfl, rfl⟩ ⟨_, _, rfl, h9⟩
  · have h9 := h9.1 c_4
    refine r_bipush (v := (-103)) d_Peg_blamed_7 (by decide) ?_
    exact r_iret ⟨d_Peg_blamed_9, _, rfl, rfl⟩ ⟨_, _, rfl, h9⟩
theorem L_Peg_mayBlame_0 {xs : List Int32}  {M : Mem} {L : Int64} {Q : Option Value → Mem → Int64 → Prop} 
    (h : ((20 ≤ (M 0 8) → Q (some (.int 0)) M L) ∧ (¬ (20 ≤ (M 0 8)) → RX xs shL md_Reckoning_lookAhead 0 [.ref 336] [] M L (fun r M_2 L_3 => ∃ b_4 : Nat, r = some (.ref b_4) ∧ isP shL b_4 ∧ (((∀ y, y < 20 → ∀ x, x < 32 → gp M_2 b_4 x y = false) → Q (some (.int 1)) M_2 L_3) ∧ (¬ (∀ y, y < 20 → ∀ x, x < 32 → gp M_2 b_4 x y = false) → Q (some (.int 0)) M_2 L_3)))))) : RX xs shL md_Peg_mayBlame 0 [.ref 0] [] M L Q := by
  refine r_aload_n d_Peg_mayBlame_0 rfl ?_
  refine x_getI d_Peg_mayBlame_1 fl_Peg_62 gI_0_8 ?_
  refine r_bipush (v := 20) d_Peg_mayBlame_4 (by decide) ?_
  refine r_ic_ge d_Peg_mayBlame_6 (fun c_1 => ?_) (fun c_1 => ?_)
  · have h9 := h.1 c_1
    refine r_iconst (v := 0) d_Peg_mayBlame_26 (by decide) ?_
    exact r_iret ⟨d_Peg_mayBlame_27, _, rfl, rfl⟩ ⟨_, _, rfl, h9⟩
  · have h9 := h.2 c_1
    refine r_aload_n d_Peg_mayBlame_9 rfl ?_
    refine x_getR d_Peg_mayBlame_10 fl_Peg_42 gR_0_4 ?_
    refine x_callV (as := []) (st := []) d_Peg_mayBlame_13 ml_Peg_240 mc_Reckoning_lookAhead mv_Reckoning_lookAhead ⟨by decide, by decide⟩ gO_336 ⟨_, rfl, rfl⟩ rfl (Nat.le_of_ble_eq_true rfl) (Nat.le_of_ble_eq_true rfl) h9 ?_
    rintro _ M_2 L_3 ⟨b_4, rfl, hbb_4, h9⟩
    refine x_callV (as := []) (st := []) d_Peg_mayBlame_16 ml_Peg_280 mc_Patch_isEmpty mv_Patch_isEmpty ⟨by decide, by decide⟩ (isP_O hbb_4) ⟨_, rfl, rfl⟩ rfl (Nat.le_of_ble_eq_true rfl) (Nat.le_of_ble_eq_true rfl) (Q1 := fun r M1 L1 => some (.int (bI (∀ y, y < 20 → ∀ x, x < 32 → gp M_2 b_4 x y = false))) = r ∧ M_2 = M1 ∧ L_3 = L1) (t_isEmpty hbb_4 ⟨rfl, rfl, rfl⟩) ?_
    rintro _ _ _ ⟨rfl, rfl, rfl⟩
    refine r_if_eq d_Peg_mayBlame_19 (fun c_5 => ?_) (fun c_5 => ?_)
    · have h9 := h9.2 (bI_p0 c_5)
      refine r_iconst (v := 0) d_Peg_mayBlame_26 (by decide) ?_
      exact r_iret ⟨d_Peg_mayBlame_27, _, rfl, rfl⟩ ⟨_, _, rfl, h9⟩
    · have h9 := h9.1 (bI_p1 c_5)
      refine r_iconst (v := 1) d_Peg_mayBlame_22 (by decide) ?_
      refine r_goto d_Peg_mayBlame_23 ?_
      exact r_iret ⟨d_Peg_mayBlame_27, _, rfl, rfl⟩ ⟨_, _, rfl, h9⟩
theorem L_Peg_blame_0 {xs : List Int32} {i1 : Int32} {M : Mem} {L : Int64} {Q : Option Value → Mem → Int64 → Prop} 
    (h : RX xs shL md_Peg_mayBlame 0 [.ref 0] [] M L (fun r M_1 L_2 => ∃ v_3 : Int32, r = some (.int v_3) ∧ ((v_3 = 0 → Q (some (.int (-103))) M_1 L_2) ∧ (¬ (v_3 = 0) → RX xs shL md_Reckoning_findBlamed 0 [.ref 336] [] (up M_1 0 8 ((M_1 0 8) + 1)) L_2 (fun r M_5 L_6 => r = none ∧ RX xs shL md_Reckoning_foundAt 0 [.ref 336, .int i1] [] M_5 L_6 (fun r M_7 L_8 => ∃ v_9 : Int32, r = some (.int v_9) ∧ Q (some (.int v_9)) M_7 L_8)))))) : RX xs shL md_Peg_blame 0 [.ref 0, .int i1] [] M L Q := by
  refine r_aload_n d_Peg_blame_0 rfl ?_
  refine x_callV (as := []) (st := []) d_Peg_blame_1 ml_Peg_254 mc_Peg_mayBlame mv_Peg_mayBlame ⟨by decide, by decide⟩ gO_0 ⟨_, rfl, rfl⟩ rfl (Nat.le_of_ble_eq_true rfl) (Nat.le_of_ble_eq_true rfl) h ?_
  rintro _ M_1 L_2 ⟨v_3, rfl, h9⟩
  refine r_if_ne d_Peg_blame_4 (fun c_4 => ?_) (fun c_4 => ?_)
  · have h9 := h9.2 c_4
    refine r_aload_n d_Peg_blame_10 rfl ?_
    refine r_dup d_Peg_blame_11 rfl ?_
    refine x_getI d_Peg_blame_12 fl_Peg_62 gI_0_8 ?_
    refine r_iconst (v := 1) d_Peg_blame_15 (by decide) ?_
    refine r_iadd d_Peg_blame_16 ?_
    refine x_putI d_Peg_blame_17 fl_Peg_62 (fun r hr => by cases hr; rfl) gI_0_8 (VOk_int _) ?_
    refine r_aload_n d_Peg_blame_20 rfl ?_
    refine x_getR d_Peg_blame_21 fl_Peg_42 gR_0_4 ?_
    refine x_callV (as := []) (st := []) d_Peg_blame_24 ml_Peg_258 mc_Reckoning_findBlamed mv_Reckoning_findBlamed ⟨by decide, by decide⟩ gO_336 ⟨_, rfl, rfl⟩ rfl (Nat.le_of_ble_eq_true rfl) (Nat.le_of_ble_eq_true rfl) h9 ?_
    rintro _ M_5 L_6 ⟨rfl, h9⟩
    refine r_aload_n d_Peg_blame_27 rfl ?_
    refine x_getR d_Peg_blame_28 fl_Peg_42 gR_0_4 ?_
    refine r_iload_n d_Peg_blame_31 rfl ?_
    refine x_callV (as := [.int i1]) (st := []) d_Peg_blame_32 ml_Peg_264 mc_Reckoning_foundAt mv_Reckoning_foundAt ⟨by decide, by decide⟩ gO_336 ⟨_, rfl, rfl⟩ rfl (Nat.le_of_ble_eq_true rfl) (Nat.le_of_ble_eq_true rfl) h9 ?_
    rintro _ M_7 L_8 ⟨v_9, rfl, h9⟩
    exact r_iret ⟨d_Peg_blame_35, _, rfl, rfl⟩ ⟨_, _, rfl, h9⟩
  · have h9 := h9.1 c_4
    refine r_bipush (v := (-103)) d_Peg_blame_7 (by decide) ?_
    exact r_iret ⟨d_Peg_blame_9, _, rfl, rfl⟩ ⟨_, _, rfl, h9⟩
theorem L_Peg_fits_0 {xs : List Int32} {i1 : Int32} {i2 : Int32} {M : Mem} {L : Int64} {Q : Option Value → Mem → Int64 → Prop} 
    (h : ((((0 ≤ i1 ∧ i1 < M 126 4) ∧ 0 ≤ i2 ∧ i2 < M 126 5) → (((M 0 6) < 20 → RX xs shL md_Reckoning_findFits 0 [.ref 336, .int i1, .int i2] [] (up M 0 6 ((M 0 6) + 1)) L (fun r M_3 L_4 => r = none ∧ Q (some (.int (M_3 336 9))) M_3 L_4)) ∧ (¬ ((M 0 6) < 20) → Q (some (.int (-103))) M L))) ∧ (¬ ((0 ≤ i1 ∧ i1 < M 126 4) ∧ 0 ≤ i2 ∧ i2 < M 126 5) → Q (some (.int (-101))) M L))) : RX xs shL md_Peg_fits 0 [.ref 0, .int i1, .int i2] [] M L Q := by
  refine r_aload_n d_Peg_fits_0 rfl ?_
  refine x_getR d_Peg_fits_1 fl_Peg_26 gR_0_2 ?_
  refine r_iload_n d_Peg_fits_4 rfl ?_
  refine r_iload_n d_Peg_fits_5 rfl ?_
  refine x_callV (as := [.int i1, .int i2]) (st := []) d_Peg_fits_6 ml_Peg_165 mc_Chart_isCell mv_Chart_isCell ⟨by decide, by decide⟩ gO_126 ⟨_, rfl, rfl⟩ rfl (Nat.le_of_ble_eq_true rfl) (Nat.le_of_ble_eq_true rfl) (Q1 := fun r M1 L1 => some (.int (bI ((0 ≤ i1 ∧ i1 < M 126 4) ∧ 0 ≤ i2 ∧ i2 < M 126 5))) = r ∧ M = M1 ∧ L = L1) (s_Chart_isCell ⟨rfl, rfl, rfl⟩) ?_
  rintro _ _ _ ⟨rfl, rfl, rfl⟩
  refine r_if_ne d_Peg_fits_9 (fun c_1 => ?_) (fun c_1 => ?_)
  · have h9 := h.1 (bI_p1 c_1)
    refine r_aload_n d_Peg_fits_15 rfl ?_
    refine x_getI d_Peg_fits_16 fl_Peg_55 gI_0_6 ?_
    refine r_bipush (v := 20) d_Peg_fits_19 (by decide) ?_
    refine r_ic_lt d_Peg_fits_21 (fun c_2 => ?_) (fun c_2 => ?_)
    · have h9 := h9.1 c_2
      refine r_aload_n d_Peg_fits_27 rfl ?_
      refine r_dup d_Peg_fits_28 rfl ?_
      refine x_getI d_Peg_fits_29 fl_Peg_55 gI_0_6 ?_
      refine r_iconst (v := 1) d_Peg_fits_32 (by decide) ?_
      refine r_iadd d_Peg_fits_33 ?_
      refine x_putI d_Peg_fits_34 fl_Peg_55 (fun r hr => by cases hr; rfl) gI_0_6 (VOk_int _) ?_
      refine r_aload_n d_Peg_fits_37 rfl ?_
      refine x_getR d_Peg_fits_38 fl_Peg_42 gR_0_4 ?_
      refine r_iload_n d_Peg_fits_41 rfl ?_
      refine r_iload_n d_Peg_fits_42 rfl ?_
      refine x_callV (as := [.int i1, .int i2]) (st := []) d_Peg_fits_43 ml_Peg_267 mc_Reckoning_findFits mv_Reckoning_findFits ⟨by decide, by decide⟩ gO_336 ⟨_, rfl, rfl⟩ rfl (Nat.le_of_ble_eq_true rfl) (Nat.le_of_ble_eq_true rfl) h9 ?_
      rintro _ M_3 L_4 ⟨rfl, h9⟩
      refine r_aload_n d_Peg_fits_46 rfl ?_
      refine x_getR d_Peg_fits_47 fl_Peg_42 gR_0_4 ?_
      refine x_getI d_Peg_fits_50 fl_Peg_261 gI_336_9 ?_
      exact r_iret ⟨d_Peg_fits_53, _, rfl, rfl⟩ ⟨_, _, rfl, h9⟩
    · have h9 := h9.2 c_2
      refine r_bipush (v := (-103)) d_Peg_fits_24 (by decide) ?_
      exact r_iret ⟨d_Peg_fits_26, _, rfl, rfl⟩ ⟨_, _, rfl, h9⟩
  · have h9 := h.2 (bI_p0 c_1)
    refine r_bipush (v := (-101)) d_Peg_fits_12 (by decide) ?_
    exact r_iret ⟨d_Peg_fits_14, _, rfl, rfl⟩ ⟨_, _, rfl, h9⟩
theorem L_Peg_fit_0 {xs : List Int32} {i1 : Int32} {i2 : Int32} {i3 : Int32} {M : Mem} {L : Int64} {Q : Option Value → Mem → Int64 → Prop} 
    (h : ((((0 ≤ i1 ∧ i1 < M 126 4) ∧ 0 ≤ i2 ∧ i2 < M 126 5) → (((M 0 6) < 20 → RX xs shL md_Reckoning_findFits 0 [.ref 336, .int i1, .int i2] [] (up M 0 6 ((M 0 6) + 1)) L (fun r M_3 L_4 => r = none ∧ RX xs shL md_Reckoning_foundAt 0 [.ref 336, .int i3] [] M_3 L_4 (fun r M_5 L_6 => ∃ v_7 : Int32, r = some (.int v_7) ∧ Q (some (.int v_7)) M_5 L_6))) ∧ (¬ ((M 0 6) < 20) → Q (some (.int (-103))) M L))) ∧ (¬ ((0 ≤ i1 ∧ i1 < M 126 4) ∧ 0 ≤ i2 ∧ i2 < M 126 5) → Q (some (.int (-101))) M L))) : RX xs shL md_Peg_fit 0 [.ref 0, .int i1, .int i2, .int i3] [] M L Q := by
  refine r_aload_n d_Peg_fit_0 rfl ?_
  refine x_getR d_Peg_fit_1 fl_Peg_26 gR_0_2 ?_
  refine r_iload_n d_Peg_fit_4 rfl ?_
  refine r_iload_n d_Peg_fit_5 rfl ?_
  refine x_callV (as := [.int i1, .int i2]) (st := []) d_Peg_fit_6 ml_Peg_165 mc_Chart_isCell mv_Chart_isCell ⟨by decide, by decide⟩ gO_126 ⟨_, rfl, rfl⟩ rfl (Nat.le_of_ble_eq_true rfl) (Nat.le_of_ble_eq_true rfl) (Q1 := fun r M1 L1 => some (.int (bI ((0 ≤ i1 ∧ i1 < M 126 4) ∧ 0 ≤ i2 ∧ i2 < M 126 5))) = r ∧ M = M1 ∧ L = L1) (s_Chart_isCell ⟨rfl, rfl, rfl⟩) ?_
  rintro _ _ _ ⟨rfl, rfl, rfl⟩
  refine r_if_ne d_Peg_fit_9 (fun c_1 => ?_) (fun c_1 => ?_)
  · have h9 := h.1 (bI_p1 c_1)
    refine r_aload_n d_Peg_fit_15 rfl ?_
    refine x_getI d_Peg_fit_16 fl_Peg_55 gI_0_6 ?_
    refine r_bipush (v := 20) d_Peg_fit_19 (by decide) ?_
    refine r_ic_lt d_Peg_fit_21 (fun c_2 => ?_) (fun c_2 => ?_)
    · have h9 := h9.1 c_2
      refine r_aload_n d_Peg_fit_27 rfl ?_
      refine r_dup d_Peg_fit_28 rfl ?_
      refine x_getI d_Peg_fit_29 fl_Peg_55 gI_0_6 ?_
      refine r_iconst (v := 1) d_Peg_fit_32 (by decide) ?_
      refine r_iadd d_Peg_fit_33 ?_
      refine x_putI d_Peg_fit_34 fl_Peg_55 (fun r hr => by cases hr; rfl) gI_0_6 (VOk_int _) ?_
      refine r_aload_n d_Peg_fit_37 rfl ?_
      refine x_getR d_Peg_fit_38 fl_Peg_42 gR_0_4 ?_
      refine r_iload_n d_Peg_fit_41 rfl ?_
      refine r_iload_n d_Peg_fit_42 rfl ?_
      refine x_callV (as := [.int i1, .int i2]) (st := []) d_Peg_fit_43 ml_Peg_267 mc_Reckoning_findFits mv_Reckoning_findFits ⟨by decide, by decide⟩ gO_336 ⟨_, rfl, rfl⟩ rfl (Nat.le_of_ble_eq_true rfl) (Nat.le_of_ble_eq_true rfl) h9 ?_
      rintro _ M_3 L_4 ⟨rfl, h9⟩
      refine r_aload_n d_Peg_fit_46 rfl ?_
      refine x_getR d_Peg_fit_47 fl_Peg_42 gR_0_4 ?_
      refine r_iload_n d_Peg_fit_50 rfl ?_
      refine x_callV (as := [.int i3]) (st := []) d_Peg_fit_51 ml_Peg_264 mc_Reckoning_foundAt mv_Reckoning_foundAt ⟨by decide, by decide⟩ gO_336 ⟨_, rfl, rfl⟩ rfl (Nat.le_of_ble_eq_true rfl) (Nat.le_of_ble_eq_true rfl) h9 ?_
      rintro _ M_5 L_6 ⟨v_7, rfl, h9⟩
      exact r_iret ⟨d_Peg_fit_54, _, rfl, rfl⟩ ⟨_, _, rfl, h9⟩
    · have h9 := h9.2 c_2
      refine r_bipush (v := (-103)) d_Peg_fit_24 (by decide) ?_
      exact r_iret ⟨d_Peg_fit_26, _, rfl, rfl⟩ ⟨_, _, rfl, h9⟩
  · have h9 := h.2 (bI_p0 c_1)
    refine r_bipush (v := (-101)) d_Peg_fit_12 (by decide) ?_
    exact r_iret ⟨d_Peg_fit_14, _, rfl, rfl⟩ ⟨_, _, rfl, h9⟩
set_option maxHeartbeats 4000000 in
theorem L_Peg_sights_0 {xs : List Int32} {i1 : Int32} {i2 : Int32} {i3 : Int32} {i4 : Int32} {i5 : Int32} {i6 : Int32} {i7 : Int32} {M : Mem} {L : Int64} {Q : Option Value → Mem → Int64 → Prop} 
    (h : ((((0 ≤ i1 ∧ i1 < M 126 4) ∧ 0 ≤ i2 ∧ i2 < M 126 5) → (((0 ≤ i3 ∧ i3 ≤ 31) → (((isVo i4 i5 i6 i7) → RX xs shL md_Reckoning_lookAhead 0 [.ref 336] [] M L (fun r M_4 L_5 => ∃ b_6 : Nat, r = some (.ref b_6) ∧ isP shL b_6 ∧ ((((0 ≤ i1 ∧ i1 ≤ 19) ∧ (0 ≤ i2 ∧ i2 ≤ 19) ∧ gp M_4 b_6 i1.toNatClampNeg i2.toNatClampNeg = true) → RX xs shL md_Voyage_fitOut 0 [.ref 510, .int i4, .int i6, .int i7] [] M_4 L_5 (fun r M_8 L_9 => r = none ∧ RX xs shL md_Voyage_sightedFromCell 0 [.ref 510, .int i1, .int i2, .int i3, .int i5] [] M_8 L_9 (fun r M_10 L_11 => ∃ v_12 : Int32, r = some (.int v_12) ∧ Q (some (.int v_12)) M_10 L_11))) ∧ (¬ ((0 ≤ i1 ∧ i1 ≤ 19) ∧ (0 ≤ i2 ∧ i2 ≤ 19) ∧ gp M_4 b_6 i1.toNatClampNeg i2.toNatClampNeg = true) → Q (some (.int (-103))) M_4 L_5)))) ∧ (¬ (isVo i4 i5 i6 i7) → Q (some (.int (-102))) M L))) ∧ (¬ (0 ≤ i3 ∧ i3 ≤ 31) → Q (some (.int (-102))) M L))) ∧ (¬ ((0 ≤ i1 ∧ i1 < M 126 4) ∧ 0 ≤ i2 ∧ i2 < M 126 5) → Q (some (.int (-101))) M L))) : RX xs shL md_Peg_sights 0 [.ref 0, .int i1, .int i2, .int i3, .int i4, .int i5, .int i6, .int i7] [] M L Q := by
  refine r_aload_n d_Peg_sights_0 rfl ?_
  refine x_getR d_Peg_sights_1 fl_Peg_26 gR_0_2 ?_
  refine r_iload_n d_Peg_sights_4 rfl ?_
  refine r_iload_n d_Peg_sights_5 rfl ?_
  refine x_callV (as := [.int i1, .int i2]) (st := []) d_Peg_sights_6 ml_Peg_165 mc_Chart_isCell mv_Chart_isCell ⟨by decide, by decide⟩ gO_126 ⟨_, rfl, rfl⟩ rfl (Nat.le_of_ble_eq_true rfl) (Nat.le_of_ble_eq_true rfl) (Q1 := fun r M1 L1 => some (.int (bI ((0 ≤ i1 ∧ i1 < M 126 4) ∧ 0 ≤ i2 ∧ i2 < M 126 5))) = r ∧ M = M1 ∧ L = L1) (s_Chart_isCell ⟨rfl, rfl, rfl⟩) ?_
  rintro _ _ _ ⟨rfl, rfl, rfl⟩
  refine r_if_ne d_Peg_sights_9 (fun c_1 => ?_) (fun c_1 => ?_)
  · have h9 := h.1 (bI_p1 c_1)
    refine r_iload_n d_Peg_sights_15 rfl ?_
    refine x_callS (as := [.int i3]) (st := []) d_Peg_sights_16 ml_Peg_65 mc_Compass_isPoint ms_Compass_isPoint ⟨by decide, by decide⟩ rfl (Nat.le_of_ble_eq_true rfl) (Nat.le_of_ble_eq_true rfl) (Q1 := fun r M1 L1 => some (.int (bI (0 ≤ i3 ∧ i3 ≤ 31))) = r ∧ M = M1 ∧ L = L1) (s_Compass_isPoint ⟨rfl, rfl, rfl⟩) ?_
    rintro _ _ _ ⟨rfl, rfl, rfl⟩
    refine r_if_eq d_Peg_sights_19 (fun c_2 => ?_) (fun c_2 => ?_)
    · have h9 := h9.2 (bI_p0 c_2)
      refine r_bipush (v := (-102)) d_Peg_sights_36 (by decide) ?_
      exact r_iret ⟨d_Peg_sights_38, _, rfl, rfl⟩ ⟨_, _, rfl, h9⟩
    · have h9 := h9.1 (bI_p1 c_2)
      refine r_iload d_Peg_sights_22 rfl ?_
      refine r_iload d_Peg_sights_24 rfl ?_
      refine r_iload d_Peg_sights_26 rfl ?_
      refine r_iload d_Peg_sights_28 rfl ?_
      refine x_callS (as := [.int i4, .int i5, .int i6, .int i7]) (st := []) d_Peg_sights_30 ml_Peg_270 mc_Voyage_isVoyage ms_Voyage_isVoyage ⟨by decide, by decide⟩ rfl (Nat.le_of_ble_eq_true rfl) (Nat.le_of_ble_eq_true rfl) (Q1 := fun r M1 L1 => some (.int (bI (isVo i4 i5 i6 i7))) = r ∧ M = M1 ∧ L = L1) (s_Voyage_isVoyage ⟨rfl, rfl, rfl⟩) ?_
      rintro _ _ _ ⟨rfl, rfl, rfl⟩
      refine r_if_ne d_Peg_sights_33 (fun c_3 => ?_) (fun c_3 => ?_)
      · have h9 := h9.1 (bI_p1 c_3)
        refine r_aload_n d_Peg_sights_39 rfl ?_
        refine x_getR d_Peg_sights_40 fl_Peg_42 gR_0_4 ?_
        refine x_callV (as := []) (st := []) d_Peg_sights_43 ml_Peg_240 mc_Reckoning_lookAhead mv_Reckoning_lookAhead ⟨by decide, by decide⟩ gO_336 ⟨_, rfl, rfl⟩ rfl (Nat.le_of_ble_eq_true rfl) (Nat.le_of_ble_eq_true rfl) h9 ?_
        rintro _ M_4 L_5 ⟨b_6, rfl, hbb_6, h9⟩
        refine r_iload_n d_Peg_sights_46 rfl ?_
        refine r_iload_n d_Peg_sights_47 rfl ?_
        refine x_callV (as := [.int i1, .int i2]) (st := []) d_Peg_sights_48 ml_Peg_186 mc_Patch_holds mv_Patch_holds ⟨by decide, by decide⟩ (isP_O hbb_6) ⟨_, rfl, rfl⟩ rfl (Nat.le_of_ble_eq_true rfl) (Nat.le_of_ble_eq_true rfl) (Q1 := fun r M1 L1 => some (.int (bI ((0 ≤ i1 ∧ i1 ≤ 19) ∧ (0 ≤ i2 ∧ i2 ≤ 19) ∧ gp M_4 b_6 i1.toNatClampNeg i2.toNatClampNeg = true))) = r ∧ M_4 = M1 ∧ L_5 = L1) (t_holds hbb_6 ⟨rfl, rfl, rfl⟩) ?_
        rintro _ _ _ ⟨rfl, rfl, rfl⟩
        refine r_if_ne d_Peg_sights_51 (fun c_7 => ?_) (fun c_7 => ?_)
        · have h9 := h9.1 (bI_p1 c_7)
          refine r_aload_n d_Peg_sights_57 rfl ?_
          refine x_getR d_Peg_sights_58 fl_Peg_51 gR_0_5 ?_
          refine r_iload d_Peg_sights_61 rfl ?_
          refine r_iload d_Peg_sights_63 rfl ?_
          refine r_iload d_Peg_sights_65 rfl ?_
          refine x_callV (as := [.int i4, .int i6, .int i7]) (st := []) d_Peg_sights_67 ml_Peg_273 mc_Voyage_fitOut mv_Voyage_fitOut ⟨by decide, by decide⟩ gO_510 ⟨_, rfl, rfl⟩ rfl (Nat.le_of_ble_eq_true rfl) (Nat.le_of_ble_eq_true rfl) h9 ?_
          rintro _ M_8 L_9 ⟨rfl, h9⟩
          refine r_aload_n d_Peg_sights_70 rfl ?_
          refine x_getR d_Peg_sights_71 fl_Peg_51 gR_0_5 ?_
          refine r_iload_n d_Peg_sights_74 rfl ?_
          refine r_iload_n d_Peg_sights_75 rfl ?_
          refine r_iload_n d_Peg_sights_76 rfl ?_
          refine r_iload d_Peg_sights_77 rfl ?_
          refine x_callV (as := [.int i1, .int i2, .int i3, .int i5]) (st := []) d_Peg_sights_79 ml_Peg_276 mc_Voyage_sightedFromCell mv_Voyage_sightedFromCell ⟨by decide, by decide⟩ gO_510 ⟨_, rfl, rfl⟩ rfl (Nat.le_of_ble_eq_true rfl) (Nat.le_of_ble_eq_true rfl) h9 ?_
          rintro _ M_10 L_11 ⟨v_12, rfl, h9⟩
          exact r_iret ⟨d_Peg_sights_82, _, rfl, rfl⟩ ⟨_, _, rfl, h9⟩
        · have h9 := h9.2 (bI_p0 c_7)
          refine r_bipush (v := (-103)) d_Peg_sights_54 (by decide) ?_
          exact r_iret ⟨d_Peg_sights_56, _, rfl, rfl⟩ ⟨_, _, rfl, h9⟩
      · have h9 := h9.2 (bI_p0 c_3)
        refine r_bipush (v := (-102)) d_Peg_sights_36 (by decide) ?_
        exact r_iret ⟨d_Peg_sights_38, _, rfl, rfl⟩ ⟨_, _, rfl, h9⟩
  · have h9 := h.2 (bI_p0 c_1)
    refine r_bipush (v := (-101)) d_Peg_sights_12 (by decide) ?_
    exact r_iret ⟨d_Peg_sights_14, _, rfl, rfl⟩ ⟨_, _, rfl, h9⟩
theorem L_Peg_sure_0 {xs : List Int32} {i1 : Int32} {i2 : Int32} {i3 : Int32} {i4 : Int32} {i5 : Int32} {M : Mem} {L : Int64} {Q : Option Value → Mem → Int64 → Prop} 
    (h : (((0 ≤ i1 ∧ i1 ≤ 31) → (((isVo i2 i3 i4 i5) → RX xs shL md_Reckoning_lookAhead 0 [.ref 336] [] M L (fun r M_3 L_4 => ∃ b_5 : Nat, r = some (.ref b_5) ∧ isP shL b_5 ∧ (((∀ y, y < 20 → ∀ x, x < 32 → gp M_3 b_5 x y = false) → Q (some (.int (-103))) M_3 L_4) ∧ (¬ (∀ y, y < 20 → ∀ x, x < 32 → gp M_3 b_5 x y = false) → RX xs shL md_Voyage_fitOut 0 [.ref 510, .int i2, .int i4, .int i5] [] M_3 L_4 (fun r M_7 L_8 => r = none ∧ RX xs shL md_Voyage_sightedFromAll 0 [.ref 510, .ref b_5, .int i1, .int i3] [] M_7 L_8 (fun r M_9 L_10 => ∃ v_11 : Int32, r = some (.int v_11) ∧ Q (some (.int v_11)) M_9 L_10)))))) ∧ (¬ (isVo i2 i3 i4 i5) → Q (some (.int (-102))) M L))) ∧ (¬ (0 ≤ i1 ∧ i1 ≤ 31) → Q (some (.int (-102))) M L))) : RX xs shL md_Peg_sure 0 [.ref 0, .int i1, .int i2, .int i3, .int i4, .int i5] [] M L Q := by
  refine r_weak (lv' := [.ref 0, .int i1, .int i2, .int i3, .int i4, .int i5, .null]) (by repeat (first | exact trivial | refine ⟨rfl, ?_⟩ | exact lle_nil)) ?_
  refine r_iload_n d_Peg_sure_0 rfl ?_
  refine x_callS (as := [.int i1]) (st := []) d_Peg_sure_1 ml_Peg_65 mc_Compass_isPoint ms_Compass_isPoint ⟨by decide, by decide⟩ rfl (Nat.le_of_ble_eq_true rfl) (Nat.le_of_ble_eq_true rfl) (Q1 := fun r M1 L1 => some (.int (bI (0 ≤ i1 ∧ i1 ≤ 31))) = r ∧ M = M1 ∧ L = L1) (s_Compass_isPoint ⟨rfl, rfl, rfl⟩) ?_
  rintro _ _ _ ⟨rfl, rfl, rfl⟩
  refine r_if_eq d_Peg_sure_4 (fun c_1 => ?_) (fun c_1 => ?_)
  · have h9 := h.2 (bI_p0 c_1)
    refine r_bipush (v := (-102)) d_Peg_sure_19 (by decide) ?_
    exact r_iret ⟨d_Peg_sure_21, _, rfl, rfl⟩ ⟨_, _, rfl, h9⟩
  · have h9 := h.1 (bI_p1 c_1)
    refine r_iload_n d_Peg_sure_7 rfl ?_
    refine r_iload_n d_Peg_sure_8 rfl ?_
    refine r_iload d_Peg_sure_9 rfl ?_
    refine r_iload d_Peg_sure_11 rfl ?_
    refine x_callS (as := [.int i2, .int i3, .int i4, .int i5]) (st := []) d_Peg_sure_13 ml_Peg_270 mc_Voyage_isVoyage ms_Voyage_isVoyage ⟨by decide, by decide⟩ rfl (Nat.le_of_ble_eq_true rfl) (Nat.le_of_ble_eq_true rfl) (Q1 := fun r M1 L1 => some (.int (bI (isVo i2 i3 i4 i5))) = r ∧ M = M1 ∧ L = L1) (s_Voyage_isVoyage ⟨rfl, rfl, rfl⟩) ?_
    rintro _ _ _ ⟨rfl, rfl, rfl⟩
    refine r_if_ne d_Peg_sure_16 (fun c_2 => ?_) (fun c_2 => ?_)
    · have h9 := h9.1 (bI_p1 c_2)
      refine r_aload_n d_Peg_sure_22 rfl ?_
      refine x_getR d_Peg_sure_23 fl_Peg_42 gR_0_4 ?_
      refine x_callV (as := []) (st := []) d_Peg_sure_26 ml_Peg_240 mc_Reckoning_lookAhead mv_Reckoning_lookAhead ⟨by decide, by decide⟩ gO_336 ⟨_, rfl, rfl⟩ rfl (Nat.le_of_ble_eq_true rfl) (Nat.le_of_ble_eq_true rfl) h9 ?_
      rintro _ M_3 L_4 ⟨b_5, rfl, hbb_5, h9⟩
      refine r_astore d_Peg_sure_29 (by decide) ?_
      refine r_aload d_Peg_sure_31 rfl ?_
      refine x_callV (as := []) (st := []) d_Peg_sure_33 ml_Peg_280 mc_Patch_isEmpty mv_Patch_isEmpty ⟨by decide, by decide⟩ (isP_O hbb_5) ⟨_, rfl, rfl⟩ rfl (Nat.le_of_ble_eq_true rfl) (Nat.le_of_ble_eq_true rfl) (Q1 := fun r M1 L1 => some (.int (bI (∀ y, y < 20 → ∀ x, x < 32 → gp M_3 b_5 x y = false))) = r ∧ M_3 = M1 ∧ L_4 = L1) (t_isEmpty hbb_5 ⟨rfl, rfl, rfl⟩) ?_
      rintro _ _ _ ⟨rfl, rfl, rfl⟩
      refine r_if_eq d_Peg_sure_36 (fun c_6 => ?_) (fun c_6 => ?_)
      · have h9 := h9.2 (bI_p0 c_6)
        refine r_aload_n d_Peg_sure_42 rfl ?_
        refine x_getR d_Peg_sure_43 fl_Peg_51 gR_0_5 ?_
        refine r_iload_n d_Peg_sure_46 rfl ?_
        refine r_iload d_Peg_sure_47 rfl ?_
        refine r_iload d_Peg_sure_49 rfl ?_
        refine x_callV (as := [.int i2, .int i4, .int i5]) (st := []) d_Peg_sure_51 ml_Peg_273 mc_Voyage_fitOut mv_Voyage_fitOut ⟨by decide, by decide⟩ gO_510 ⟨_, rfl, rfl⟩ rfl (Nat.le_of_ble_eq_true rfl) (Nat.le_of_ble_eq_true rfl) h9 ?_
        rintro _ M_7 L_8 ⟨rfl, h9⟩
        refine r_aload_n d_Peg_sure_54 rfl ?_
        refine x_getR d_Peg_sure_55 fl_Peg_51 gR_0_5 ?_
        refine r_aload d_Peg_sure_58 rfl ?_
        refine r_iload_n d_Peg_sure_60 rfl ?_
        refine r_iload_n d_Peg_sure_61 rfl ?_
        refine x_callV (as := [.ref b_5, .int i1, .int i3]) (st := []) d_Peg_sure_62 ml_Peg_283 mc_Voyage_sightedFromAll mv_Voyage_sightedFromAll ⟨by decide, by decide⟩ gO_510 ⟨_, rfl, rfl⟩ rfl (Nat.le_of_ble_eq_true rfl) (Nat.le_of_ble_eq_true rfl) h9 ?_
        rintro _ M_9 L_10 ⟨v_11, rfl, h9⟩
        exact r_iret ⟨d_Peg_sure_65, _, rfl, rfl⟩ ⟨_, _, rfl, h9⟩
      · have h9 := h9.1 (bI_p1 c_6)
        refine r_bipush (v := (-103)) d_Peg_sure_39 (by decide) ?_
        exact r_iret ⟨d_Peg_sure_41, _, rfl, rfl⟩ ⟨_, _, rfl, h9⟩
    · have h9 := h9.2 (bI_p0 c_2)
      refine r_bipush (v := (-102)) d_Peg_sure_19 (by decide) ?_
      exact r_iret ⟨d_Peg_sure_21, _, rfl, rfl⟩ ⟨_, _, rfl, h9⟩
theorem L_Peg_course_0 {xs : List Int32} {i1 : Int32} {i2 : Int32} {i3 : Int32} {i4 : Int32} {M : Mem} {L : Int64} {Q : Option Value → Mem → Int64 → Prop} 
    (h : (((isVo i1 i2 i3 i4) → RX xs shL md_Reckoning_lookAhead 0 [.ref 336] [] M L (fun r M_2 L_3 => ∃ b_4 : Nat, r = some (.ref b_4) ∧ isP shL b_4 ∧ (((∀ y, y < 20 → ∀ x, x < 32 → gp M_2 b_4 x y = false) → Q (some (.int (-103))) M_2 L_3) ∧ (¬ (∀ y, y < 20 → ∀ x, x < 32 → gp M_2 b_4 x y = false) → (((M_2 0 7) < 20 → RX xs shL md_Voyage_fitOut 0 [.ref 510, .int i1, .int i3, .int i4] [] (up M_2 0 7 ((M_2 0 7) + 1)) L_3 (fun r M_7 L_8 => r = none ∧ RX xs shL md_Voyage_soonestPoint 0 [.ref 510, .ref b_4, .int i2] [] M_7 L_8 (fun r M_9 L_10 => ∃ v_11 : Int32, r = some (.int v_11) ∧ Q (some (.int v_11)) M_9 L_10))) ∧ (¬ ((M_2 0 7) < 20) → Q (some (.int (-103))) M_2 L_3)))))) ∧ (¬ (isVo i1 i2 i3 i4) → Q (some (.int (-102))) M L))) : RX xs shL md_Peg_course 0 [.ref 0, .int i1, .int i2, .int i3, .int i4] [] M L Q := by
  refine r_weak (lv' := [.ref 0, .int i1, .int i2, .int i3, .int i4, .null]) (by repeat (first | exact trivial | refine ⟨rfl, ?_⟩ | exact lle_nil)) ?_
  refine r_iload_n d_Peg_course_0 rfl ?_
  refine r_iload_n d_Peg_course_1 rfl ?_
  refine r_iload_n d_Peg_course_2 rfl ?_
  refine r_iload d_Peg_course_3 rfl ?_
  refine x_callS (as := [.int i1, .int i2, .int i3, .int i4]) (st := []) d_Peg_course_5 ml_Peg_270 mc_Voyage_isVoyage ms_Voyage_isVoyage ⟨by decide, by decide⟩ rfl (Nat.le_of_ble_eq_true rfl) (Nat.le_of_ble_eq_true rfl) (Q1 := fun r M1 L1 => some (.int (bI (isVo i1 i2 i3 i4))) = r ∧ M = M1 ∧ L = L1) (s_Voyage_isVoyage ⟨rfl, rfl, rfl⟩) ?_
  rintro _ _ _ ⟨rfl, rfl, rfl⟩
  refine r_if_ne d_Peg_course_8 (fun c_1 => ?_) (fun c_1 => ?_)
  · have h9 := h.1 (bI_p1 c_1)
    refine r_aload_n d_Peg_course_14 rfl ?_
    refine x_getR d_Peg_course_15 fl_Peg_42 gR_0_4 ?_
    refine x_callV (as := []) (st := []) d_Peg_course_18 ml_Peg_240 mc_Reckoning_lookAhead mv_Reckoning_lookAhead ⟨by decide, by decide⟩ gO_336 ⟨_, rfl, rfl⟩ rfl (Nat.le_of_ble_eq_true rfl) (Nat.le_of_ble_eq_true rfl) h9 ?_
    rintro _ M_2 L_3 ⟨b_4, rfl, hbb_4, h9⟩
    refine r_astore d_Peg_course_21 (by decide) ?_
    refine r_aload d_Peg_course_23 rfl ?_
    refine x_callV (as := []) (st := []) d_Peg_course_25 ml_Peg_280 mc_Patch_isEmpty mv_Patch_isEmpty ⟨by decide, by decide⟩ (isP_O hbb_4) ⟨_, rfl, rfl⟩ rfl (Nat.le_of_ble_eq_true rfl) (Nat.le_of_ble_eq_true rfl) (Q1 := fun r M1 L1 => some (.int (bI (∀ y, y < 20 → ∀ x, x < 32 → gp M_2 b_4 x y = false))) = r ∧ M_2 = M1 ∧ L_3 = L1) (t_isEmpty hbb_4 ⟨rfl, rfl, rfl⟩) ?_
    rintro _ _ _ ⟨rfl, rfl, rfl⟩
    refine r_if_ne d_Peg_course_28 (fun c_5 => ?_) (fun c_5 => ?_)
    · have h9 := h9.1 (bI_p1 c_5)
      refine r_bipush (v := (-103)) d_Peg_course_40 (by decide) ?_
      exact r_iret ⟨d_Peg_course_42, _, rfl, rfl⟩ ⟨_, _, rfl, h9⟩
    · have h9 := h9.2 (bI_p0 c_5)
      refine r_aload_n d_Peg_course_31 rfl ?_
      refine x_getI d_Peg_course_32 fl_Peg_59 gI_0_7 ?_
      refine r_bipush (v := 20) d_Peg_course_35 (by decide) ?_
      refine r_ic_lt d_Peg_course_37 (fun c_6 => ?_) (fun c_6 => ?_)
      · have h9 := h9.1 c_6
        refine r_aload_n d_Peg_course_43 rfl ?_
        refine r_dup d_Peg_course_44 rfl ?_
        refine x_getI d_Peg_course_45 fl_Peg_59 gI_0_7 ?_
        refine r_iconst (v := 1) d_Peg_course_48 (by decide) ?_
        refine r_iadd d_Peg_course_49 ?_
        refine x_putI d_Peg_course_50 fl_Peg_59 (fun r hr => by cases hr; rfl) gI_0_7 (VOk_int _) ?_
        refine r_aload_n d_Peg_course_53 rfl ?_
        refine x_getR d_Peg_course_54 fl_Peg_51 gR_0_5 ?_
        refine r_iload_n d_Peg_course_57 rfl ?_
        refine r_iload_n d_Peg_course_58 rfl ?_
        refine r_iload d_Peg_course_59 rfl ?_
        refine x_callV (as := [.int i1, .int i3, .int i4]) (st := []) d_Peg_course_61 ml_Peg_273 mc_Voyage_fitOut mv_Voyage_fitOut ⟨by decide, by decide⟩ gO_510 ⟨_, rfl, rfl⟩ rfl (Nat.le_of_ble_eq_true rfl) (Nat.le_of_ble_eq_true rfl) h9 ?_
        rintro _ M_7 L_8 ⟨rfl, h9⟩
        refine r_aload_n d_Peg_course_64 rfl ?_
        refine x_getR d_Peg_course_65 fl_Peg_51 gR_0_5 ?_
        refine r_aload d_Peg_course_68 rfl ?_
        refine r_iload_n d_Peg_course_70 rfl ?_
        refine x_callV (as := [.ref b_4, .int i2]) (st := []) d_Peg_course_71 ml_Peg_287 mc_Voyage_soonestPoint mv_Voyage_soonestPoint ⟨by decide, by decide⟩ gO_510 ⟨_, rfl, rfl⟩ rfl (Nat.le_of_ble_eq_true rfl) (Nat.le_of_ble_eq_true rfl) h9 ?_
        rintro _ M_9 L_10 ⟨v_11, rfl, h9⟩
        exact r_iret ⟨d_Peg_course_74, _, rfl, rfl⟩ ⟨_, _, rfl, h9⟩
      · have h9 := h9.2 c_6
        refine r_bipush (v := (-103)) d_Peg_course_40 (by decide) ?_
        exact r_iret ⟨d_Peg_course_42, _, rfl, rfl⟩ ⟨_, _, rfl, h9⟩
  · have h9 := h.2 (bI_p0 c_1)
    refine r_bipush (v := (-102)) d_Peg_course_11 (by decide) ?_
    exact r_iret ⟨d_Peg_course_13, _, rfl, rfl⟩ ⟨_, _, rfl, h9⟩
theorem L_Peg_many_0 {xs : List Int32} {i1 : Int32} {M : Mem} {L : Int64} {Q : Option Value → Mem → Int64 → Prop} 
    (h : ((i1 = 0 ∧ Q (some (.int (M 4 1))) M L) ∨ (i1 = 1 ∧ Q (some (.int (M 134 1))) M L) ∨ (i1 = 2 ∧ RX xs shL md_Patch_size 0 [.ref 130] [] M L (fun r M_1 L_2 => ∃ v_3 : Int32, r = some (.int v_3) ∧ Q (some (.int v_3)) M_1 L_2)) ∨ (i1 = 3 ∧ Q (some (.int (M 1 2))) M L) ∨ (i1 = 4 ∧ Q (some (.int (M 0 6))) M L) ∨ (i1 = 5 ∧ Q (some (.int (M 0 7))) M L) ∨ (i1 = 6 ∧ Q (some (.int (M 126 4))) M L) ∨ (i1 = 7 ∧ Q (some (.int (M 126 5))) M L) ∨ (i1 = 8 ∧ Q (some (.int (M 4 2))) M L) ∨ (i1 = 9 ∧ Q (some (.int (M 0 8))) M L) ∨ ((i1 < 0 ∨ 9 < i1) ∧ Q (some (.int (-102))) M L))) : RX xs shL md_Peg_many 0 [.ref 0, .int i1] [] M L Q := by
  refine r_iload_n d_Peg_many_0 rfl ?_
  rcases h with h9 | h9 | h9 | h9 | h9 | h9 | h9 | h9 | h9 | h9 | h9
  · obtain ⟨c9, h9⟩ := h9
    refine r_switch (tgt := 56) ⟨_, _, _, _, _, d_Peg_many_1, Or.inr ⟨by rw [c9]; decide, by rw [c9]; decide, 55, by rw [c9]; rfl, by decide⟩⟩ ?_
    refine r_aload_n d_Peg_many_56 rfl ?_
    refine x_getR d_Peg_many_57 fl_Peg_19 gR_0_1 ?_
    refine x_getI d_Peg_many_60 fl_Peg_114 gI_4_1 ?_
    exact r_iret ⟨d_Peg_many_63, _, rfl, rfl⟩ ⟨_, _, rfl, h9⟩
  · obtain ⟨c9, h9⟩ := h9
    refine r_switch (tgt := 64) ⟨_, _, _, _, _, d_Peg_many_1, Or.inr ⟨by rw [c9]; decide, by rw [c9]; decide, 63, by rw [c9]; rfl, by decide⟩⟩ ?_
    refine r_aload_n d_Peg_many_64 rfl ?_
    refine x_getR d_Peg_many_65 fl_Peg_33 gR_0_3 ?_
    refine x_getI d_Peg_many_68 fl_Peg_156 gI_134_1 ?_
    exact r_iret ⟨d_Peg_many_71, _, rfl, rfl⟩ ⟨_, _, rfl, h9⟩
  · obtain ⟨c9, h9⟩ := h9
    refine r_switch (tgt := 72) ⟨_, _, _, _, _, d_Peg_many_1, Or.inr ⟨by rw [c9]; decide, by rw [c9]; decide, 71, by rw [c9]; rfl, by decide⟩⟩ ?_
    refine r_aload_n d_Peg_many_72 rfl ?_
    refine x_getR d_Peg_many_73 fl_Peg_26 gR_0_2 ?_
    refine x_getR d_Peg_many_76 fl_Peg_291 gR_126_2 ?_
    refine x_callV (as := []) (st := []) d_Peg_many_79 ml_Peg_248 mc_Patch_size mv_Patch_size ⟨by decide, by decide⟩ (isP_O isP_130) ⟨_, rfl, rfl⟩ rfl (Nat.le_of_ble_eq_true rfl) (Nat.le_of_ble_eq_true rfl) h9 ?_
    rintro _ M_1 L_2 ⟨v_3, rfl, h9⟩
    exact r_iret ⟨d_Peg_many_82, _, rfl, rfl⟩ ⟨_, _, rfl, h9⟩
  · obtain ⟨c9, h9⟩ := h9
    refine r_switch (tgt := 83) ⟨_, _, _, _, _, d_Peg_many_1, Or.inr ⟨by rw [c9]; decide, by rw [c9]; decide, 82, by rw [c9]; rfl, by decide⟩⟩ ?_
    refine r_aload_n d_Peg_many_83 rfl ?_
    refine x_getR d_Peg_many_84 fl_Peg_10 gR_0_0 ?_
    refine x_getI d_Peg_many_87 fl_Peg_104 gI_1_2 ?_
    exact r_iret ⟨d_Peg_many_90, _, rfl, rfl⟩ ⟨_, _, rfl, h9⟩
  · obtain ⟨c9, h9⟩ := h9
    refine r_switch (tgt := 91) ⟨_, _, _, _, _, d_Peg_many_1, Or.inr ⟨by rw [c9]; decide, by rw [c9]; decide, 90, by rw [c9]; rfl, by decide⟩⟩ ?_
    refine r_aload_n d_Peg_many_91 rfl ?_
    refine x_getI d_Peg_many_92 fl_Peg_55 gI_0_6 ?_
    exact r_iret ⟨d_Peg_many_95, _, rfl, rfl⟩ ⟨_, _, rfl, h9⟩
  · obtain ⟨c9, h9⟩ := h9
    refine r_switch (tgt := 96) ⟨_, _, _, _, _, d_Peg_many_1, Or.inr ⟨by rw [c9]; decide, by rw [c9]; decide, 95, by rw [c9]; rfl, by decide⟩⟩ ?_
    refine r_aload_n d_Peg_many_96 rfl ?_
    refine x_getI d_Peg_many_97 fl_Peg_59 gI_0_7 ?_
    exact r_iret ⟨d_Peg_many_100, _, rfl, rfl⟩ ⟨_, _, rfl, h9⟩
  · obtain ⟨c9, h9⟩ := h9
    refine r_switch (tgt := 101) ⟨_, _, _, _, _, d_Peg_many_1, Or.inr ⟨by rw [c9]; decide, by rw [c9]; decide, 100, by rw [c9]; rfl, by decide⟩⟩ ?_
    refine r_aload_n d_Peg_many_101 rfl ?_
    refine x_getR d_Peg_many_102 fl_Peg_26 gR_0_2 ?_
    refine x_getI d_Peg_many_105 fl_Peg_294 gI_126_4 ?_
    exact r_iret ⟨d_Peg_many_108, _, rfl, rfl⟩ ⟨_, _, rfl, h9⟩
  · obtain ⟨c9, h9⟩ := h9
    refine r_switch (tgt := 109) ⟨_, _, _, _, _, d_Peg_many_1, Or.inr ⟨by rw [c9]; decide, by rw [c9]; decide, 108, by rw [c9]; rfl, by decide⟩⟩ ?_
    refine r_aload_n d_Peg_many_109 rfl ?_
    refine x_getR d_Peg_many_110 fl_Peg_26 gR_0_2 ?_
    refine x_getI d_Peg_many_113 fl_Peg_297 gI_126_5 ?_
    exact r_iret ⟨d_Peg_many_116, _, rfl, rfl⟩ ⟨_, _, rfl, h9⟩
  · obtain ⟨c9, h9⟩ := h9
    refine r_switch (tgt := 117) ⟨_, _, _, _, _, d_Peg_many_1, Or.inr ⟨by rw [c9]; decide, by rw [c9]; decide, 116, by rw [c9]; rfl, by decide⟩⟩ ?_
    refine r_aload_n d_Peg_many_117 rfl ?_
    refine x_getR d_Peg_many_118 fl_Peg_19 gR_0_1 ?_
    refine x_getI d_Peg_many_121 fl_Peg_147 gI_4_2 ?_
    exact r_iret ⟨d_Peg_many_124, _, rfl, rfl⟩ ⟨_, _, rfl, h9⟩
  · obtain ⟨c9, h9⟩ := h9
    refine r_switch (tgt := 125) ⟨_, _, _, _, _, d_Peg_many_1, Or.inr ⟨by rw [c9]; decide, by rw [c9]; decide, 124, by rw [c9]; rfl, by decide⟩⟩ ?_
    refine r_aload_n d_Peg_many_125 rfl ?_
    refine x_getI d_Peg_many_126 fl_Peg_62 gI_0_8 ?_
    exact r_iret ⟨d_Peg_many_129, _, rfl, rfl⟩ ⟨_, _, rfl, h9⟩
  · obtain ⟨c9, h9⟩ := h9
    refine r_switch (tgt := 130) ⟨_, _, _, _, _, d_Peg_many_1, Or.inl ⟨sw_out c9 (by decide) (by decide), by decide⟩⟩ ?_
    refine r_bipush (v := (-102)) d_Peg_many_130 (by decide) ?_
    exact r_iret ⟨d_Peg_many_132, _, rfl, rfl⟩ ⟨_, _, rfl, h9⟩
set_option maxHeartbeats 4000000 in
theorem L_Peg_digest_0 {xs : List Int32}  {M : Mem} {L : Int64} {Q : Option Value → Mem → Int64 → Prop} 
    (h : RX xs shL md_Words_foldInto 0 [.ref 1, .long 199, .null] [] M L (fun r M_1 L_2 => ∃ v_3 : Int64, r = some (.long v_3) ∧ RX xs shL md_Board_foldWatchesInto 0 [.ref 4, .long v_3, .null] [] M_1 L_2 (fun r M_4 L_5 => ∃ v_6 : Int64, r = some (.long v_6) ∧ RX xs shL md_Chart_foldInto 0 [.ref 126, .long v_6, .null] [] M_4 L_5 (fun r M_7 L_8 => ∃ v_9 : Int64, r = some (.long v_9) ∧ RX xs shL md_Log_foldInto 0 [.ref 134, .long (fld v_9 (M_7 4 2)), .null] [] M_7 L_8 (fun r M_10 L_11 => ∃ v_12 : Int64, r = some (.long v_12) ∧ RX xs shL md_Reckoning_lookAhead 0 [.ref 336] [] M_10 L_11 (fun r M_13 L_14 => ∃ b_15 : Nat, r = some (.ref b_15) ∧ isP shL b_15 ∧ RX xs shL md_Patch_size 0 [.ref b_15] [] M_13 L_14 (fun r M_16 L_17 => ∃ v_18 : Int32, r = some (.int v_18) ∧ Q (some (.long (fld (fld (fld (fld v_12 v_18) (M_16 0 6)) (M_16 0 7)) (M_16 0 8)))) M_16 L_17))))))) : RX xs shL md_Peg_digest 0 [.ref 0] [] M L Q := by
  refine r_weak (lv' := [.ref 0, .null, .null]) (by repeat (first | exact trivial | refine ⟨rfl, ?_⟩ | exact lle_nil)) ?_
  refine r_aload_n d_Peg_digest_0 rfl ?_
  refine x_getR d_Peg_digest_1 fl_Peg_10 gR_0_0 ?_
  refine r_ldc2 (v := 199) d_Peg_digest_4 ck_Peg_300 ?_
  generalize (199 : Int64) = k9 at h ⊢
  refine x_callV (as := [.long k9]) (st := []) d_Peg_digest_7 ml_Peg_302 mc_Words_foldInto mv_Words_foldInto ⟨by decide, by decide⟩ gO_1 ⟨_, rfl, rfl⟩ rfl (Nat.le_of_ble_eq_true rfl) (Nat.le_of_ble_eq_true rfl) h ?_
  rintro _ M_1 L_2 ⟨v_3, rfl, h9⟩
  refine r_lstore_n d_Peg_digest_10 (by decide) ?_
  change RX xs shL md_Peg_digest _ [.ref 0, .long _, .null] _ _ _ _
  refine r_aload_n d_Peg_digest_11 rfl ?_
  refine x_getR d_Peg_digest_12 fl_Peg_19 gR_0_1 ?_
  refine r_lload_n d_Peg_digest_15 rfl ?_
  refine x_callV (as := [.long v_3]) (st := []) d_Peg_digest_16 ml_Peg_306 mc_Board_foldWatchesInto mv_Board_foldWatchesInto ⟨by decide, by decide⟩ gO_4 ⟨_, rfl, rfl⟩ rfl (Nat.le_of_ble_eq_true rfl) (Nat.le_of_ble_eq_true rfl) h9 ?_
  rintro _ M_4 L_5 ⟨v_6, rfl, h9⟩
  refine r_lstore_n d_Peg_digest_19 (by decide) ?_
  change RX xs shL md_Peg_digest _ [.ref 0, .long _, .null] _ _ _ _
  refine r_aload_n d_Peg_digest_20 rfl ?_
  refine x_getR d_Peg_digest_21 fl_Peg_26 gR_0_2 ?_
  refine r_lload_n d_Peg_digest_24 rfl ?_
  refine x_callV (as := [.long v_6]) (st := []) d_Peg_digest_25 ml_Peg_309 mc_Chart_foldInto mv_Chart_foldInto ⟨by decide, by decide⟩ gO_126 ⟨_, rfl, rfl⟩ rfl (Nat.le_of_ble_eq_true rfl) (Nat.le_of_ble_eq_true rfl) h9 ?_
  rintro _ M_7 L_8 ⟨v_9, rfl, h9⟩
  refine r_lstore_n d_Peg_digest_28 (by decide) ?_
  change RX xs shL md_Peg_digest _ [.ref 0, .long _, .null] _ _ _ _
  refine r_lload_n d_Peg_digest_29 rfl ?_
  refine r_aload_n d_Peg_digest_30 rfl ?_
  refine x_getR d_Peg_digest_31 fl_Peg_19 gR_0_1 ?_
  refine x_getI d_Peg_digest_34 fl_Peg_147 gI_4_2 ?_
  refine x_callS (as := [.long v_9, .int (M_7 4 2)]) (st := []) d_Peg_digest_37 ml_Peg_310 mc_Peg_fold ms_Peg_fold ⟨by decide, by decide⟩ rfl (Nat.le_of_ble_eq_true rfl) (Nat.le_of_ble_eq_true rfl) (Q1 := fun r M1 L1 => some (.long (fld v_9 (M_7 4 2))) = r ∧ M_7 = M1 ∧ L_8 = L1) (s_Peg_fld ⟨rfl, rfl, rfl⟩) ?_
  rintro _ _ _ ⟨rfl, rfl, rfl⟩
  refine r_lstore_n d_Peg_digest_40 (by decide) ?_
  change RX xs shL md_Peg_digest _ [.ref 0, .long _, .null] _ _ _ _
  refine r_aload_n d_Peg_digest_41 rfl ?_
  refine x_getR d_Peg_digest_42 fl_Peg_33 gR_0_3 ?_
  refine r_lload_n d_Peg_digest_45 rfl ?_
  refine x_callV (as := [.long (fld v_9 (M_7 4 2))]) (st := []) d_Peg_digest_46 ml_Peg_314 mc_Log_foldInto mv_Log_foldInto ⟨by decide, by decide⟩ gO_134 ⟨_, rfl, rfl⟩ rfl (Nat.le_of_ble_eq_true rfl) (Nat.le_of_ble_eq_true rfl) h9 ?_
  rintro _ M_10 L_11 ⟨v_12, rfl, h9⟩
  refine r_lstore_n d_Peg_digest_49 (by decide) ?_
  change RX xs shL md_Peg_digest _ [.ref 0, .long _, .null] _ _ _ _
  refine r_lload_n d_Peg_digest_50 rfl ?_
  refine r_aload_n d_Peg_digest_51 rfl ?_
  refine x_getR d_Peg_digest_52 fl_Peg_42 gR_0_4 ?_
  refine x_callV (as := []) (st := [.long v_12]) d_Peg_digest_55 ml_Peg_240 mc_Reckoning_lookAhead mv_Reckoning_lookAhead ⟨by decide, by decide⟩ gO_336 ⟨_, rfl, rfl⟩ rfl (Nat.le_of_ble_eq_true rfl) (Nat.le_of_ble_eq_true rfl) h9 ?_
  rintro _ M_13 L_14 ⟨b_15, rfl, hbb_15, h9⟩
  refine x_callV (as := []) (st := [.long v_12]) d_Peg_digest_58 ml_Peg_248 mc_Patch_size mv_Patch_size ⟨by decide, by decide⟩ (isP_O hbb_15) ⟨_, rfl, rfl⟩ rfl (Nat.le_of_ble_eq_true rfl) (Nat.le_of_ble_eq_true rfl) h9 ?_
  rintro _ M_16 L_17 ⟨v_18, rfl, h9⟩
  refine x_callS (as := [.long v_12, .int v_18]) (st := []) d_Peg_digest_61 ml_Peg_310 mc_Peg_fold ms_Peg_fold ⟨by decide, by decide⟩ rfl (Nat.le_of_ble_eq_true rfl) (Nat.le_of_ble_eq_true rfl) (Q1 := fun r M1 L1 => some (.long (fld v_12 v_18)) = r ∧ M_16 = M1 ∧ L_17 = L1) (s_Peg_fld ⟨rfl, rfl, rfl⟩) ?_
  rintro _ _ _ ⟨rfl, rfl, rfl⟩
  refine r_lstore_n d_Peg_digest_64 (by decide) ?_
  change RX xs shL md_Peg_digest _ [.ref 0, .long _, .null] _ _ _ _
  refine r_lload_n d_Peg_digest_65 rfl ?_
  refine r_aload_n d_Peg_digest_66 rfl ?_
  refine x_getI d_Peg_digest_67 fl_Peg_55 gI_0_6 ?_
  refine x_callS (as := [.long (fld v_12 v_18), .int (M_16 0 6)]) (st := []) d_Peg_digest_70 ml_Peg_310 mc_Peg_fold ms_Peg_fold ⟨by decide, by decide⟩ rfl (Nat.le_of_ble_eq_true rfl) (Nat.le_of_ble_eq_true rfl) (Q1 := fun r M1 L1 => some (.long (fld (fld v_12 v_18) (M_16 0 6))) = r ∧ M_16 = M1 ∧ L_17 = L1) (s_Peg_fld ⟨rfl, rfl, rfl⟩) ?_
  rintro _ _ _ ⟨rfl, rfl, rfl⟩
  refine r_lstore_n d_Peg_digest_73 (by decide) ?_
  change RX xs shL md_Peg_digest _ [.ref 0, .long _, .null] _ _ _ _
  refine r_lload_n d_Peg_digest_74 rfl ?_
  refine r_aload_n d_Peg_digest_75 rfl ?_
  refine x_getI d_Peg_digest_76 fl_Peg_59 gI_0_7 ?_
  refine x_callS (as := [.long (fld (fld v_12 v_18) (M_16 0 6)), .int (M_16 0 7)]) (st := []) d_Peg_digest_79 ml_Peg_310 mc_Peg_fold ms_Peg_fold ⟨by decide, by decide⟩ rfl (Nat.le_of_ble_eq_true rfl) (Nat.le_of_ble_eq_true rfl) (Q1 := fun r M1 L1 => some (.long (fld (fld (fld v_12 v_18) (M_16 0 6)) (M_16 0 7))) = r ∧ M_16 = M1 ∧ L_17 = L1) (s_Peg_fld ⟨rfl, rfl, rfl⟩) ?_
  rintro _ _ _ ⟨rfl, rfl, rfl⟩
  refine r_lstore_n d_Peg_digest_82 (by decide) ?_
  change RX xs shL md_Peg_digest _ [.ref 0, .long _, .null] _ _ _ _
  refine r_lload_n d_Peg_digest_83 rfl ?_
  refine r_aload_n d_Peg_digest_84 rfl ?_
  refine x_getI d_Peg_digest_85 fl_Peg_62 gI_0_8 ?_
  refine x_callS (as := [.long (fld (fld (fld v_12 v_18) (M_16 0 6)) (M_16 0 7)), .int (M_16 0 8)]) (st := []) d_Peg_digest_88 ml_Peg_310 mc_Peg_fold ms_Peg_fold ⟨by decide, by decide⟩ rfl (Nat.le_of_ble_eq_true rfl) (Nat.le_of_ble_eq_true rfl) (Q1 := fun r M1 L1 => some (.long (fld (fld (fld (fld v_12 v_18) (M_16 0 6)) (M_16 0 7)) (M_16 0 8))) = r ∧ M_16 = M1 ∧ L_17 = L1) (s_Peg_fld ⟨rfl, rfl, rfl⟩) ?_
  rintro _ _ _ ⟨rfl, rfl, rfl⟩
  exact r_lret ⟨d_Peg_digest_91, rfl⟩ ⟨_, _, rfl, h9⟩
theorem L_Board_foldWatchesInto_0 {xs : List Int32} {l1 : Int64} {M : Mem} {L : Int64} {Q : Option Value → Mem → Int64 → Prop} 
    (h : RX xs shL md_Board_foldWatchesInto 5 [.ref 4, .null, .null, .long l1, .null, .int 0] [] M L Q) : RX xs shL md_Board_foldWatchesInto 0 [.ref 4, .long l1, .null] [] M L Q := by
  refine r_weak (lv' := [.ref 4, .long l1, .null, .null, .null, .null]) (by repeat (first | exact trivial | refine ⟨rfl, ?_⟩ | exact lle_nil)) ?_
  refine r_lload_n d_Board_foldWatchesInto_0 rfl ?_
  refine r_lstore_n d_Board_foldWatchesInto_1 (by decide) ?_
  refine r_iconst (v := 0) d_Board_foldWatchesInto_2 (by decide) ?_
  refine r_istore d_Board_foldWatchesInto_3 (by decide) ?_
  refine r_weak (lv' := [.ref 4, .null, .null, .long l1, .null, .int 0]) (by repeat (first | exact trivial | refine ⟨rfl, ?_⟩ | exact lle_nil)) ?_
  exact h
theorem L_Board_foldWatchesInto_5 {xs : List Int32} {l3 : Int64} {i5 : Int32} {M : Mem} {L : Int64} {Q : Option Value → Mem → Int64 → Prop} 
    (h : (((M 4 1) ≤ i5 → Q (some (.long l3)) M L) ∧ (¬ ((M 4 1) ≤ i5) → (vp_in i5 24 ∧ RX xs shL md_Watch_foldInto 0 [.ref (6 + 5 * i5.toNatClampNeg), .long l3, .null] [] M L (fun r M_3 L_4 => ∃ v_5 : Int64, r = some (.long v_5) ∧ RX xs shL md_Board_foldWatchesInto 5 [.ref 4, .null, .null, .long v_5, .null, .int (i5 + 1)] [] M_3 L_4 Q))))) : RX xs shL md_Board_foldWatchesInto 5 [.ref 4, .null, .null, .long l3, .null, .int i5] [] M L Q := by
  refine r_iload d_Board_foldWatchesInto_5 rfl ?_
  refine r_aload_n d_Board_foldWatchesInto_7 rfl ?_
  refine x_getI d_Board_foldWatchesInto_8 fl_Board_16 gI_4_1 ?_
  refine r_ic_ge d_Board_foldWatchesInto_11 (fun c_1 => ?_) (fun c_1 => ?_)
  · have h9 := h.1 c_1
    refine r_lload_n d_Board_foldWatchesInto_32 rfl ?_
    exact r_lret ⟨d_Board_foldWatchesInto_33, rfl⟩ ⟨_, _, rfl, h9⟩
  · have h9 := h.2 c_1
    refine r_aload_n d_Board_foldWatchesInto_14 rfl ?_
    refine x_getR d_Board_foldWatchesInto_15 fl_Board_11 gR_4_0 ?_
    refine r_iload d_Board_foldWatchesInto_18 rfl ?_
    obtain ⟨o_2, h9⟩ := h9
    refine x_aald d_Board_foldWatchesInto_20 aR_5 o_2 ?_
    refine r_lload_n d_Board_foldWatchesInto_21 rfl ?_
    refine x_callV (as := [.long l3]) (st := []) d_Board_foldWatchesInto_22 ml_Board_23 mc_Watch_foldInto mv_Watch_foldInto ⟨by decide, by decide⟩ (wt_O (vp_lt o_2)) ⟨_, rfl, rfl⟩ rfl (Nat.le_of_ble_eq_true rfl) (Nat.le_of_ble_eq_true rfl) h9 ?_
    rintro _ M_3 L_4 ⟨v_5, rfl, h9⟩
    refine r_lstore_n d_Board_foldWatchesInto_25 (by decide) ?_
    refine r_iinc (v := i5 + 1) d_Board_foldWatchesInto_26 rfl rfl (by decide) ?_
    refine r_goto d_Board_foldWatchesInto_29 ?_
    exact h9
theorem L_Chart_foldInto_0 {xs : List Int32} {l1 : Int64} {M : Mem} {L : Int64} {Q : Option Value → Mem → Int64 → Prop} 
    (h : RX xs shL md_Chart_foldInto 19 [.ref 126, .null, .null, .long (fld (fld l1 (M 126 4)) (M 126 5)), .null, .int 0, .null] [] M L Q) : RX xs shL md_Chart_foldInto 0 [.ref 126, .long l1, .null] [] M L Q := by
  refine r_weak (lv' := [.ref 126, .long l1, .null, .null, .null, .null, .null]) (by repeat (first | exact trivial | refine ⟨rfl, ?_⟩ | exact lle_nil)) ?_
  refine r_lload_n d_Chart_foldInto_0 rfl ?_
  refine r_aload_n d_Chart_foldInto_1 rfl ?_
  refine x_getI d_Chart_foldInto_2 fl_Chart_36 gI_126_4 ?_
  refine x_callS (as := [.long l1, .int (M 126 4)]) (st := []) d_Chart_foldInto_5 ml_Chart_83 mc_Peg_fold ms_Peg_fold ⟨by decide, by decide⟩ rfl (Nat.le_of_ble_eq_true rfl) (Nat.le_of_ble_eq_true rfl) (Q1 := fun r M1 L1 => some (.long (fld l1 (M 126 4))) = r ∧ M = M1 ∧ L = L1) (s_Peg_fld ⟨rfl, rfl, rfl⟩) ?_
  rintro _ _ _ ⟨rfl, rfl, rfl⟩
  refine r_aload_n d_Chart_foldInto_8 rfl ?_
  refine x_getI d_Chart_foldInto_9 fl_Chart_40 gI_126_5 ?_
  refine x_callS (as := [.long (fld l1 (M 126 4)), .int (M 126 5)]) (st := []) d_Chart_foldInto_12 ml_Chart_83 mc_Peg_fold ms_Peg_fold ⟨by decide, by decide⟩ rfl (Nat.le_of_ble_eq_true rfl) (Nat.le_of_ble_eq_true rfl) (Q1 := fun r M1 L1 => some (.long (fld (fld l1 (M 126 4)) (M 126 5))) = r ∧ M = M1 ∧ L = L1) (s_Peg_fld ⟨rfl, rfl, rfl⟩) ?_
  rintro _ _ _ ⟨rfl, rfl, rfl⟩
  refine r_lstore_n d_Chart_foldInto_15 (by decide) ?_
  refine r_iconst (v := 0) d_Chart_foldInto_16 (by decide) ?_
  refine r_istore d_Chart_foldInto_17 (by decide) ?_
  refine r_weak (lv' := [.ref 126, .null, .null, .long (fld (fld l1 (M 126 4)) (M 126 5)), .null, .int 0, .null]) (by repeat (first | exact trivial | refine ⟨rfl, ?_⟩ | exact lle_nil)) ?_
  exact h
theorem L_Chart_foldInto_19 {xs : List Int32} {l3 : Int64} {i5 : Int32} {M : Mem} {L : Int64} {Q : Option Value → Mem → Int64 → Prop} 
    (h : (((M 126 5) ≤ i5 → Q (some (.long (fld (fld (fld (fld l3 (M 126 6)) (M 126 7)) (M 126 8)) (M 126 9)))) M L) ∧ (¬ ((M 126 5) ≤ i5) → RX xs shL md_Chart_foldInto 31 [.ref 126, .null, .null, .long l3, .null, .int i5, .int 0] [] M L Q))) : RX xs shL md_Chart_foldInto 19 [.ref 126, .null, .null, .long l3, .null, .int i5, .null] [] M L Q := by
  refine r_iload d_Chart_foldInto_19 rfl ?_
  refine r_aload_n d_Chart_foldInto_21 rfl ?_
  refine x_getI d_Chart_foldInto_22 fl_Chart_40 gI_126_5 ?_
  refine r_ic_ge d_Chart_foldInto_25 (fun c_1 => ?_) (fun c_1 => ?_)
  · have h9 := h.1 c_1
    refine r_lload_n d_Chart_foldInto_89 rfl ?_
    refine r_aload_n d_Chart_foldInto_90 rfl ?_
    refine x_getI d_Chart_foldInto_91 fl_Chart_56 gI_126_6 ?_
    refine x_callS (as := [.long l3, .int (M 126 6)]) (st := []) d_Chart_foldInto_94 ml_Chart_83 mc_Peg_fold ms_Peg_fold ⟨by decide, by decide⟩ rfl (Nat.le_of_ble_eq_true rfl) (Nat.le_of_ble_eq_true rfl) (Q1 := fun r M1 L1 => some (.long (fld l3 (M 126 6))) = r ∧ M = M1 ∧ L = L1) (s_Peg_fld ⟨rfl, rfl, rfl⟩) ?_
    rintro _ _ _ ⟨rfl, rfl, rfl⟩
    refine r_aload_n d_Chart_foldInto_97 rfl ?_
    refine x_getI d_Chart_foldInto_98 fl_Chart_59 gI_126_7 ?_
    refine x_callS (as := [.long (fld l3 (M 126 6)), .int (M 126 7)]) (st := []) d_Chart_foldInto_101 ml_Chart_83 mc_Peg_fold ms_Peg_fold ⟨by decide, by decide⟩ rfl (Nat.le_of_ble_eq_true rfl) (Nat.le_of_ble_eq_true rfl) (Q1 := fun r M1 L1 => some (.long (fld (fld l3 (M 126 6)) (M 126 7))) = r ∧ M = M1 ∧ L = L1) (s_Peg_fld ⟨rfl, rfl, rfl⟩) ?_
    rintro _ _ _ ⟨rfl, rfl, rfl⟩
    refine r_aload_n d_Chart_foldInto_104 rfl ?_
    refine x_getI d_Chart_foldInto_105 fl_Chart_62 gI_126_8 ?_
    refine x_callS (as := [.long (fld (fld l3 (M 126 6)) (M 126 7)), .int (M 126 8)]) (st := []) d_Chart_foldInto_108 ml_Chart_83 mc_Peg_fold ms_Peg_fold ⟨by decide, by decide⟩ rfl (Nat.le_of_ble_eq_true rfl) (Nat.le_of_ble_eq_true rfl) (Q1 := fun r M1 L1 => some (.long (fld (fld (fld l3 (M 126 6)) (M 126 7)) (M 126 8))) = r ∧ M = M1 ∧ L = L1) (s_Peg_fld ⟨rfl, rfl, rfl⟩) ?_
    rintro _ _ _ ⟨rfl, rfl, rfl⟩
    refine r_aload_n d_Chart_foldInto_111 rfl ?_
    refine x_getI d_Chart_foldInto_112 fl_Chart_65 gI_126_9 ?_
    refine x_callS (as := [.long (fld (fld (fld l3 (M 126 6)) (M 126 7)) (M 126 8)), .int (M 126 9)]) (st := []) d_Chart_foldInto_115 ml_Chart_83 mc_Peg_fold ms_Peg_fold ⟨by decide, by decide⟩ rfl (Nat.le_of_ble_eq_true rfl) (Nat.le_of_ble_eq_true rfl) (Q1 := fun r M1 L1 => some (.long (fld (fld (fld (fld l3 (M 126 6)) (M 126 7)) (M 126 8)) (M 126 9))) = r ∧ M = M1 ∧ L = L1) (s_Peg_fld ⟨rfl, rfl, rfl⟩) ?_
    rintro _ _ _ ⟨rfl, rfl, rfl⟩
    exact r_lret ⟨d_Chart_foldInto_118, rfl⟩ ⟨_, _, rfl, h9⟩
  · have h9 := h.2 c_1
    refine r_iconst (v := 0) d_Chart_foldInto_28 (by decide) ?_
    refine r_istore d_Chart_foldInto_29 (by decide) ?_
    exact h9
theorem L_Chart_foldInto_31 {xs : List Int32} {l3 : Int64} {i5 : Int32} {i6 : Int32} {M : Mem} {L : Int64} {Q : Option Value → Mem → Int64 → Prop} 
    (h : (((M 126 4) ≤ i6 → RX xs shL md_Chart_foldInto 19 [.ref 126, .null, .null, .long l3, .null, .int (i5 + 1), .null] [] M L Q) ∧ (¬ ((M 126 4) ≤ i6) → (vp_in ((i5 * 20) + i6) 400 ∧ RX xs shL md_Chart_foldInto 31 [.ref 126, .null, .null, .long (fld (fld l3 (M 127 (((i5 * 20) + i6).toNatClampNeg))) (bI ((0 ≤ i6 ∧ i6 ≤ 19) ∧ (0 ≤ i5 ∧ i5 ≤ 19) ∧ gp M 132 i6.toNatClampNeg i5.toNatClampNeg = true))), .null, .int i5, .int (i6 + 1)] [] M L Q)))) : RX xs shL md_Chart_foldInto 31 [.ref 126, .null, .null, .long l3, .null, .int i5, .int i6] [] M L Q := by
  refine r_iload d_Chart_foldInto_31 rfl ?_
  refine r_aload_n d_Chart_foldInto_33 rfl ?_
  refine x_getI d_Chart_foldInto_34 fl_Chart_36 gI_126_4 ?_
  refine r_ic_ge d_Chart_foldInto_37 (fun c_2 => ?_) (fun c_2 => ?_)
  · have h9 := h.1 c_2
    refine r_iinc (v := i5 + 1) d_Chart_foldInto_83 rfl rfl (by decide) ?_
    refine r_goto d_Chart_foldInto_86 ?_
    refine r_weak (lv' := [.ref 126, .null, .null, .long l3, .null, .int (i5 + 1), .null]) (by repeat (first | exact trivial | refine ⟨rfl, ?_⟩ | exact lle_nil)) ?_
    exact h9
  · have h9 := h.2 c_2
    refine r_lload_n d_Chart_foldInto_40 rfl ?_
    refine r_aload_n d_Chart_foldInto_41 rfl ?_
    refine x_getR d_Chart_foldInto_42 fl_Chart_11 gR_126_0 ?_
    refine r_iload d_Chart_foldInto_45 rfl ?_
    refine r_bipush (v := 20) d_Chart_foldInto_47 (by decide) ?_
    refine r_imul d_Chart_foldInto_49 ?_
    refine r_iload d_Chart_foldInto_50 rfl ?_
    refine r_iadd d_Chart_foldInto_52 ?_
    obtain ⟨o_3, h9⟩ := h9
    refine x_iald d_Chart_foldInto_53 aI_127 o_3 ?_
    refine x_callS (as := [.long l3, .int (M 127 (((i5 * 20) + i6).toNatClampNeg))]) (st := []) d_Chart_foldInto_54 ml_Chart_83 mc_Peg_fold ms_Peg_fold ⟨by decide, by decide⟩ rfl (Nat.le_of_ble_eq_true rfl) (Nat.le_of_ble_eq_true rfl) (Q1 := fun r M1 L1 => some (.long (fld l3 (M 127 (((i5 * 20) + i6).toNatClampNeg)))) = r ∧ M = M1 ∧ L = L1) (s_Peg_fld ⟨rfl, rfl, rfl⟩) ?_
    rintro _ _ _ ⟨rfl, rfl, rfl⟩
    refine r_lstore_n d_Chart_foldInto_57 (by decide) ?_
    refine r_lload_n d_Chart_foldInto_58 rfl ?_
    refine r_aload_n d_Chart_foldInto_59 rfl ?_
    refine x_getR d_Chart_foldInto_60 fl_Chart_25 gR_126_3 ?_
    refine r_iload d_Chart_foldInto_63 rfl ?_
    refine r_iload d_Chart_foldInto_65 rfl ?_
    refine x_callV (as := [.int i6, .int i5]) (st := [.long (fld l3 (M 127 (((i5 * 20) + i6).toNatClampNeg)))]) d_Chart_foldInto_67 ml_Chart_72 mc_Patch_holds mv_Patch_holds ⟨by decide, by decide⟩ (isP_O isP_132) ⟨_, rfl, rfl⟩ rfl (Nat.le_of_ble_eq_true rfl) (Nat.le_of_ble_eq_true rfl) (Q1 := fun r M1 L1 => some (.int (bI ((0 ≤ i6 ∧ i6 ≤ 19) ∧ (0 ≤ i5 ∧ i5 ≤ 19) ∧ gp M 132 i6.toNatClampNeg i5.toNatClampNeg = true))) = r ∧ M = M1 ∧ L = L1) (t_holds isP_132 ⟨rfl, rfl, rfl⟩) ?_
    rintro _ _ _ ⟨rfl, rfl, rfl⟩
    refine x_callS (as := [.int (bI ((0 ≤ i6 ∧ i6 ≤ 19) ∧ (0 ≤ i5 ∧ i5 ≤ 19) ∧ gp M 132 i6.toNatClampNeg i5.toNatClampNeg = true))]) (st := [.long (fld l3 (M 127 (((i5 * 20) + i6).toNatClampNeg)))]) d_Chart_foldInto_70 ml_Chart_87 mc_Peg_asNumber ms_Peg_asNumber ⟨by decide, by decide⟩ rfl (Nat.le_of_ble_eq_true rfl) (Nat.le_of_ble_eq_true rfl) (Q1 := fun r M1 L1 => some (.int (bI ((0 ≤ i6 ∧ i6 ≤ 19) ∧ (0 ≤ i5 ∧ i5 ≤ 19) ∧ gp M 132 i6.toNatClampNeg i5.toNatClampNeg = true))) = r ∧ M = M1 ∧ L = L1) (s_Peg_asNumberB ⟨rfl, rfl, rfl⟩) ?_
    rintro _ _ _ ⟨rfl, rfl, rfl⟩
    refine x_callS (as := [.long (fld l3 (M 127 (((i5 * 20) + i6).toNatClampNeg))), .int (bI ((0 ≤ i6 ∧ i6 ≤ 19) ∧ (0 ≤ i5 ∧ i5 ≤ 19) ∧ gp M 132 i6.toNatClampNeg i5.toNatClampNeg = true))]) (st := []) d_Chart_foldInto_73 ml_Chart_83 mc_Peg_fold ms_Peg_fold ⟨by decide, by decide⟩ rfl (Nat.le_of_ble_eq_true rfl) (Nat.le_of_ble_eq_true rfl) (Q1 := fun r M1 L1 => some (.long (fld (fld l3 (M 127 (((i5 * 20) + i6).toNatClampNeg))) (bI ((0 ≤ i6 ∧ i6 ≤ 19) ∧ (0 ≤ i5 ∧ i5 ≤ 19) ∧ gp M 132 i6.toNatClampNeg i5.toNatClampNeg = true)))) = r ∧ M = M1 ∧ L = L1) (s_Peg_fld ⟨rfl, rfl, rfl⟩) ?_
    rintro _ _ _ ⟨rfl, rfl, rfl⟩
    refine r_lstore_n d_Chart_foldInto_76 (by decide) ?_
    refine r_iinc (v := i6 + 1) d_Chart_foldInto_77 rfl rfl (by decide) ?_
    refine r_goto d_Chart_foldInto_80 ?_
    exact h9
theorem L_Log_foldInto_0 {xs : List Int32} {l1 : Int64} {M : Mem} {L : Int64} {Q : Option Value → Mem → Int64 → Prop} 
    (h : RX xs shL md_Log_foldInto 26 [.ref 134, .null, .null, .long (fld (fld (fld l1 (M 134 2)) (M 134 3)) (M 134 4)), .null, .int 0, .null] [] M L Q) : RX xs shL md_Log_foldInto 0 [.ref 134, .long l1, .null] [] M L Q := by
  refine r_weak (lv' := [.ref 134, .long l1, .null, .null, .null, .null, .null]) (by repeat (first | exact trivial | refine ⟨rfl, ?_⟩ | exact lle_nil)) ?_
  refine r_lload_n d_Log_foldInto_0 rfl ?_
  refine r_aload_n d_Log_foldInto_1 rfl ?_
  refine x_getI d_Log_foldInto_2 fl_Log_26 gI_134_2 ?_
  refine x_callS (as := [.long l1, .int (M 134 2)]) (st := []) d_Log_foldInto_5 ml_Log_42 mc_Peg_fold ms_Peg_fold ⟨by decide, by decide⟩ rfl (Nat.le_of_ble_eq_true rfl) (Nat.le_of_ble_eq_true rfl) (Q1 := fun r M1 L1 => some (.long (fld l1 (M 134 2))) = r ∧ M = M1 ∧ L = L1) (s_Peg_fld ⟨rfl, rfl, rfl⟩) ?_
  rintro _ _ _ ⟨rfl, rfl, rfl⟩
  refine r_aload_n d_Log_foldInto_8 rfl ?_
  refine x_getI d_Log_foldInto_9 fl_Log_29 gI_134_3 ?_
  refine x_callS (as := [.long (fld l1 (M 134 2)), .int (M 134 3)]) (st := []) d_Log_foldInto_12 ml_Log_42 mc_Peg_fold ms_Peg_fold ⟨by decide, by decide⟩ rfl (Nat.le_of_ble_eq_true rfl) (Nat.le_of_ble_eq_true rfl) (Q1 := fun r M1 L1 => some (.long (fld (fld l1 (M 134 2)) (M 134 3))) = r ∧ M = M1 ∧ L = L1) (s_Peg_fld ⟨rfl, rfl, rfl⟩) ?_
  rintro _ _ _ ⟨rfl, rfl, rfl⟩
  refine r_aload_n d_Log_foldInto_15 rfl ?_
  refine x_getI d_Log_foldInto_16 fl_Log_32 gI_134_4 ?_
  refine x_callS (as := [.long (fld (fld l1 (M 134 2)) (M 134 3)), .int (M 134 4)]) (st := []) d_Log_foldInto_19 ml_Log_42 mc_Peg_fold ms_Peg_fold ⟨by decide, by decide⟩ rfl (Nat.le_of_ble_eq_true rfl) (Nat.le_of_ble_eq_true rfl) (Q1 := fun r M1 L1 => some (.long (fld (fld (fld l1 (M 134 2)) (M 134 3)) (M 134 4))) = r ∧ M = M1 ∧ L = L1) (s_Peg_fld ⟨rfl, rfl, rfl⟩) ?_
  rintro _ _ _ ⟨rfl, rfl, rfl⟩
  refine r_lstore_n d_Log_foldInto_22 (by decide) ?_
  refine r_iconst (v := 0) d_Log_foldInto_23 (by decide) ?_
  refine r_istore d_Log_foldInto_24 (by decide) ?_
  refine r_weak (lv' := [.ref 134, .null, .null, .long (fld (fld (fld l1 (M 134 2)) (M 134 3)) (M 134 4)), .null, .int 0, .null]) (by repeat (first | exact trivial | refine ⟨rfl, ?_⟩ | exact lle_nil)) ?_
  exact h
theorem L_Log_foldInto_26 {xs : List Int32} {l3 : Int64} {i5 : Int32} {M : Mem} {L : Int64} {Q : Option Value → Mem → Int64 → Prop} 
    (h : (((M 134 1) ≤ i5 → Q (some (.long l3)) M L) ∧ (¬ ((M 134 1) ≤ i5) → RX xs shL md_Log_foldInto 38 [.ref 134, .null, .null, .long l3, .null, .int i5, .int 0] [] M L Q))) : RX xs shL md_Log_foldInto 26 [.ref 134, .null, .null, .long l3, .null, .int i5, .null] [] M L Q := by
  refine r_iload d_Log_foldInto_26 rfl ?_
  refine r_aload_n d_Log_foldInto_28 rfl ?_
  refine x_getI d_Log_foldInto_29 fl_Log_18 gI_134_1 ?_
  refine r_ic_ge d_Log_foldInto_32 (fun c_1 => ?_) (fun c_1 => ?_)
  · have h9 := h.1 c_1
    refine r_lload_n d_Log_foldInto_73 rfl ?_
    exact r_lret ⟨d_Log_foldInto_74, rfl⟩ ⟨_, _, rfl, h9⟩
  · have h9 := h.2 c_1
    refine r_iconst (v := 0) d_Log_foldInto_35 (by decide) ?_
    refine r_istore d_Log_foldInto_36 (by decide) ?_
    exact h9
theorem L_Log_foldInto_38 {xs : List Int32} {l3 : Int64} {i5 : Int32} {i6 : Int32} {M : Mem} {L : Int64} {Q : Option Value → Mem → Int64 → Prop} 
    (h : ((5 ≤ i6 → RX xs shL md_Log_foldInto 26 [.ref 134, .null, .null, .long l3, .null, .int (i5 + 1), .null] [] M L Q) ∧ (¬ (5 ≤ i6) → (vp_in i5 40 ∧ RX xs shL md_Row_fact 0 [.ref (136 + 5 * i5.toNatClampNeg), .int i6] [] M L (fun r M_4 L_5 => ∃ v_6 : Int32, r = some (.int v_6) ∧ RX xs shL md_Log_foldInto 38 [.ref 134, .null, .null, .long (fld l3 v_6), .null, .int i5, .int (i6 + 1)] [] M_4 L_5 Q))))) : RX xs shL md_Log_foldInto 38 [.ref 134, .null, .null, .long l3, .null, .int i5, .int i6] [] M L Q := by
  refine r_iload d_Log_foldInto_38 rfl ?_
  refine r_iconst (v := 5) d_Log_foldInto_40 (by decide) ?_
  refine r_ic_ge d_Log_foldInto_41 (fun c_2 => ?_) (fun c_2 => ?_)
  · have h9 := h.1 c_2
    refine r_iinc (v := i5 + 1) d_Log_foldInto_67 rfl rfl (by decide) ?_
    refine r_goto d_Log_foldInto_70 ?_
    refine r_weak (lv' := [.ref 134, .null, .null, .long l3, .null, .int (i5 + 1), .null]) (by repeat (first | exact trivial | refine ⟨rfl, ?_⟩ | exact lle_nil)) ?_
    exact h9
  · have h9 := h.2 c_2
    refine r_lload_n d_Log_foldInto_44 rfl ?_
    refine r_aload_n d_Log_foldInto_45 rfl ?_
    refine x_getR d_Log_foldInto_46 fl_Log_13 gR_134_0 ?_
    refine r_iload d_Log_foldInto_49 rfl ?_
    obtain ⟨o_3, h9⟩ := h9
    refine x_aald d_Log_foldInto_51 aR_135 o_3 ?_
    refine r_iload d_Log_foldInto_52 rfl ?_
    refine x_callV (as := [.int i6]) (st := [.long l3]) d_Log_foldInto_54 ml_Log_46 mc_Row_fact mv_Row_fact ⟨by decide, by decide⟩ (rw_O (vp_lt o_3)) ⟨_, rfl, rfl⟩ rfl (Nat.le_of_ble_eq_true rfl) (Nat.le_of_ble_eq_true rfl) h9 ?_
    rintro _ M_4 L_5 ⟨v_6, rfl, h9⟩
    refine x_callS (as := [.long l3, .int v_6]) (st := []) d_Log_foldInto_57 ml_Log_42 mc_Peg_fold ms_Peg_fold ⟨by decide, by decide⟩ rfl (Nat.le_of_ble_eq_true rfl) (Nat.le_of_ble_eq_true rfl) (Q1 := fun r M1 L1 => some (.long (fld l3 v_6)) = r ∧ M_4 = M1 ∧ L_5 = L1) (s_Peg_fld ⟨rfl, rfl, rfl⟩) ?_
    rintro _ _ _ ⟨rfl, rfl, rfl⟩
    refine r_lstore_n d_Log_foldInto_60 (by decide) ?_
    refine r_iinc (v := i6 + 1) d_Log_foldInto_61 rfl rfl (by decide) ?_
    refine r_goto d_Log_foldInto_64 ?_
    exact h9
theorem L_Mod_name_0 {xs : List Int32} {i1 : Int32} {M : Mem} {L : Int64} {Q : Option Value → Mem → Int64 → Prop} 
    (h : (((0 ≤ i1 ∧ i1 ≤ 31) → (vp_in i1 32 ∧ Q (some (.int (M 517 i1.toNatClampNeg))) M L)) ∧ (¬ (0 ≤ i1 ∧ i1 ≤ 31) → Q (some (.int (-1))) M L))) : RX xs shL md_Mod_name 0 [.ref 516, .int i1] [] M L Q := by
  refine r_iload_n d_Mod_name_0 rfl ?_
  refine x_callS (as := [.int i1]) (st := []) d_Mod_name_1 ml_Mod_79 mc_Mod_isPoint ms_Mod_isPoint ⟨by decide, by decide⟩ rfl (Nat.le_of_ble_eq_true rfl) (Nat.le_of_ble_eq_true rfl) (Q1 := fun r M1 L1 => some (.int (bI (0 ≤ i1 ∧ i1 ≤ 31))) = r ∧ M = M1 ∧ L = L1) (L_Mod_isPoint_0 ⟨rfl, rfl, rfl⟩) ?_
  rintro _ _ _ ⟨rfl, rfl, rfl⟩
  refine r_if_eq d_Mod_name_4 (fun c_1 => ?_) (fun c_1 => ?_)
  · have h9 := h.2 (bI_p0 c_1)
    refine r_iconst (v := (-1)) d_Mod_name_16 (by decide) ?_
    exact r_iret ⟨d_Mod_name_17, _, rfl, rfl⟩ ⟨_, _, rfl, h9⟩
  · have h9 := h.1 (bI_p1 c_1)
    refine r_aload_n d_Mod_name_7 rfl ?_
    refine x_getR d_Mod_name_8 fl_Mod_7 gR_516_0 ?_
    refine r_iload_n d_Mod_name_11 rfl ?_
    obtain ⟨o_2, h9⟩ := h9
    refine x_iald d_Mod_name_12 aI_517 o_2 ?_
    refine r_goto d_Mod_name_13 ?_
    exact r_iret ⟨d_Mod_name_17, _, rfl, rfl⟩ ⟨_, _, rfl, h9⟩
theorem L_Mod_read_0 {xs : List Int32} {i1 : Int32} {M : Mem} {L : Int64} {Q : Option Value → Mem → Int64 → Prop} 
    (h : ((1 ≤ i1 → RX xs shL md_Mod_read 10 [.ref 516, .int i1, .int i1, .null] [] M L Q) ∧ (¬ (1 ≤ i1) → Q (some (.int (-102))) M L))) : RX xs shL md_Mod_read 0 [.ref 516, .int i1] [] M L Q := by
  refine r_weak (lv' := [.ref 516, .int i1, .null, .null]) (by repeat (first | exact trivial | refine ⟨rfl, ?_⟩ | exact lle_nil)) ?_
  refine r_iload_n d_Mod_read_0 rfl ?_
  refine r_iconst (v := 1) d_Mod_read_1 (by decide) ?_
  refine r_ic_ge d_Mod_read_2 (fun c_1 => ?_) (fun c_1 => ?_)
  · have h9 := h.1 c_1
    refine r_iload_n d_Mod_read_8 rfl ?_
    refine r_istore_n d_Mod_read_9 (by decide) ?_
    exact h9
  · have h9 := h.2 c_1
    refine r_bipush (v := (-102)) d_Mod_read_5 (by decide) ?_
    exact r_iret ⟨d_Mod_read_7, _, rfl, rfl⟩ ⟨_, _, rfl, h9⟩
theorem L_Mod_read_10 {xs : List Int32} {i1 : Int32} {i2 : Int32} {M : Mem} {L : Int64} {Q : Option Value → Mem → Int64 → Prop} 
    (h : ((i2 ≤ 0 → RX xs shL md_Mod_read 34 [.ref 516, .int i1, .int 0, .null] [] M L Q) ∧ (¬ (i2 ≤ 0) → (((i2 - i2 / 6 * 6) = 0 → Q (some (.int (-102))) M L) ∧ (¬ ((i2 - i2 / 6 * 6) = 0) → RX xs shL md_Mod_read 10 [.ref 516, .int i1, .int (i2 / 6), .null] [] M L Q))))) : RX xs shL md_Mod_read 10 [.ref 516, .int i1, .int i2, .null] [] M L Q := by
  refine r_iload_n d_Mod_read_10 rfl ?_
  refine r_if_le d_Mod_read_11 (fun c_2 => ?_) (fun c_2 => ?_)
  · have h9 := h.1 c_2
    refine r_iconst (v := 0) d_Mod_read_32 (by decide) ?_
    refine r_istore_n d_Mod_read_33 (by decide) ?_
    exact h9
  · have h9 := h.2 c_2
    refine r_iload_n d_Mod_read_14 rfl ?_
    refine r_bipush (v := 6) d_Mod_read_15 (by decide) ?_
    refine r_irem d_Mod_read_17 (by decide) ?_
    refine r_if_ne d_Mod_read_18 (fun c_3 => ?_) (fun c_3 => ?_)
    · have h9 := h9.2 c_3
      refine r_iload_n d_Mod_read_24 rfl ?_
      refine r_bipush (v := 6) d_Mod_read_25 (by decide) ?_
      refine r_idiv d_Mod_read_27 (by decide) ?_
      refine r_istore_n d_Mod_read_28 (by decide) ?_
      refine r_goto d_Mod_read_29 ?_
      exact h9
    · have h9 := h9.1 c_3
      refine r_bipush (v := (-102)) d_Mod_read_21 (by decide) ?_
      exact r_iret ⟨d_Mod_read_23, _, rfl, rfl⟩ ⟨_, _, rfl, h9⟩
theorem L_Mod_read_34 {xs : List Int32} {i1 : Int32} {i2 : Int32} {M : Mem} {L : Int64} {Q : Option Value → Mem → Int64 → Prop} 
    (h : ((32 ≤ i2 → RX xs shL md_Mod_lettersOf 0 [.int i1] [] M L (fun r M_5 L_6 => ∃ v_7 : Int32, r = some (.int v_7) ∧ RX xs shL md_Mod_read 65 [.ref 516, .int i1, .int v_7, .int 0] [] M_5 L_6 Q)) ∧ (¬ (32 ≤ i2) → (vp_in i2 32 ∧ (((M 517 i2.toNatClampNeg) = i1 → Q (some (.int i2)) M L) ∧ (¬ ((M 517 i2.toNatClampNeg) = i1) → RX xs shL md_Mod_read 34 [.ref 516, .int i1, .int (i2 + 1), .null] [] M L Q)))))) : RX xs shL md_Mod_read 34 [.ref 516, .int i1, .int i2, .null] [] M L Q := by
  refine r_iload_n d_Mod_read_34 rfl ?_
  refine r_bipush (v := 32) d_Mod_read_35 (by decide) ?_
  refine r_ic_ge d_Mod_read_37 (fun c_4 => ?_) (fun c_4 => ?_)
  · have h9 := h.1 c_4
    refine r_iload_n d_Mod_read_58 rfl ?_
    refine x_callS (as := [.int i1]) (st := []) d_Mod_read_59 ml_Mod_83 mc_Mod_lettersOf ms_Mod_lettersOf ⟨by decide, by decide⟩ rfl (Nat.le_of_ble_eq_true rfl) (Nat.le_of_ble_eq_true rfl) h9 ?_
    rintro _ M_5 L_6 ⟨v_7, rfl, h9⟩
    refine r_istore_n d_Mod_read_62 (by decide) ?_
    refine r_iconst (v := 0) d_Mod_read_63 (by decide) ?_
    refine r_istore_n d_Mod_read_64 (by decide) ?_
    exact h9
  · have h9 := h.2 c_4
    refine r_aload_n d_Mod_read_40 rfl ?_
    refine x_getR d_Mod_read_41 fl_Mod_7 gR_516_0 ?_
    refine r_iload_n d_Mod_read_44 rfl ?_
    obtain ⟨o_8, h9⟩ := h9
    refine x_iald d_Mod_read_45 aI_517 o_8 ?_
    refine r_iload_n d_Mod_read_46 rfl ?_
    refine r_ic_ne d_Mod_read_47 (fun c_9 => ?_) (fun c_9 => ?_)
    · have h9 := h9.2 c_9
      refine r_iinc (v := i2 + 1) d_Mod_read_52 rfl rfl (by decide) ?_
      refine r_goto d_Mod_read_55 ?_
      exact h9
    · have h9 := h9.1 c_9
      refine r_iload_n d_Mod_read_50 rfl ?_
      exact r_iret ⟨d_Mod_read_51, _, rfl, rfl⟩ ⟨_, _, rfl, h9⟩
theorem L_Mod_read_65 {xs : List Int32} {i1 : Int32} {i2 : Int32} {i3 : Int32} {M : Mem} {L : Int64} {Q : Option Value → Mem → Int64 → Prop} 
    (h : ((i2 ≤ i3 → Q (some (.int ((-1000) - (i2 - i3)))) M L) ∧ (¬ (i2 ≤ i3) → RX xs shL md_Mod_cutOff 0 [.int i1, .int i3] [] M L (fun r M_11 L_12 => ∃ v_13 : Int32, r = some (.int v_13) ∧ RX xs shL md_Mod_begins 0 [.ref 516, .int v_13] [] M_11 L_12 (fun r M_14 L_15 => ∃ v_16 : Int32, r = some (.int v_16) ∧ ((v_16 = 0 → RX xs shL md_Mod_read 65 [.ref 516, .int i1, .int i2, .int (i3 + 1)] [] M_14 L_15 Q) ∧ (¬ (v_16 = 0) → Q (some (.int ((-1000) - (i2 - i3)))) M_14 L_15))))))) : RX xs shL md_Mod_read 65 [.ref 516, .int i1, .int i2, .int i3] [] M L Q := by
  refine r_iload_n d_Mod_read_65 rfl ?_
  refine r_iload_n d_Mod_read_66 rfl ?_
  refine r_ic_ge d_Mod_read_67 (fun c_10 => ?_) (fun c_10 => ?_)
  · have h9 := h.1 c_10
    refine r_sipush (v := (-1000)) d_Mod_read_88 (by decide) ?_
    refine r_iload_n d_Mod_read_91 rfl ?_
    refine r_iload_n d_Mod_read_92 rfl ?_
    refine r_isub d_Mod_read_93 ?_
    refine r_isub d_Mod_read_94 ?_
    exact r_iret ⟨d_Mod_read_95, _, rfl, rfl⟩ ⟨_, _, rfl, h9⟩
  · have h9 := h.2 c_10
    refine r_aload_n d_Mod_read_70 rfl ?_
    refine r_iload_n d_Mod_read_71 rfl ?_
    refine r_iload_n d_Mod_read_72 rfl ?_
    refine x_callS (as := [.int i1, .int i3]) (st := [.ref 516]) d_Mod_read_73 ml_Mod_87 mc_Mod_cutOff ms_Mod_cutOff ⟨by decide, by decide⟩ rfl (Nat.le_of_ble_eq_true rfl) (Nat.le_of_ble_eq_true rfl) h9 ?_
    rintro _ M_11 L_12 ⟨v_13, rfl, h9⟩
    refine x_callV (as := [.int v_13]) (st := []) d_Mod_read_76 ml_Mod_91 mc_Mod_begins mv_Mod_begins ⟨by decide, by decide⟩ gO_516 ⟨_, rfl, rfl⟩ rfl (Nat.le_of_ble_eq_true rfl) (Nat.le_of_ble_eq_true rfl) h9 ?_
    rintro _ M_14 L_15 ⟨v_16, rfl, h9⟩
    refine r_if_ne d_Mod_read_79 (fun c_17 => ?_) (fun c_17 => ?_)
    · have h9 := h9.2 c_17
      refine r_sipush (v := (-1000)) d_Mod_read_88 (by decide) ?_
      refine r_iload_n d_Mod_read_91 rfl ?_
      refine r_iload_n d_Mod_read_92 rfl ?_
      refine r_isub d_Mod_read_93 ?_
      refine r_isub d_Mod_read_94 ?_
      exact r_iret ⟨d_Mod_read_95, _, rfl, rfl⟩ ⟨_, _, rfl, h9⟩
    · have h9 := h9.1 c_17
      refine r_iinc (v := i3 + 1) d_Mod_read_82 rfl rfl (by decide) ?_
      refine r_goto d_Mod_read_85 ?_
      exact h9
theorem L_Mod_turns_0 {xs : List Int32} {i1 : Int32} {i2 : Int32} {M : Mem} {L : Int64} {Q : Option Value → Mem → Int64 → Prop} 
    (h : (((0 ≤ i1 ∧ i1 ≤ 31) → (((0 ≤ i2 ∧ i2 ≤ 31) → Q (some (.int (((i2 - i1) + 32) - ((i2 - i1) + 32) / 32 * 32))) M L) ∧ (¬ (0 ≤ i2 ∧ i2 ≤ 31) → Q (some (.int (-101))) M L))) ∧ (¬ (0 ≤ i1 ∧ i1 ≤ 31) → Q (some (.int (-101))) M L))) : RX xs shL md_Mod_turns 0 [.ref 516, .int i1, .int i2] [] M L Q := by
  refine r_iload_n d_Mod_turns_0 rfl ?_
  refine x_callS (as := [.int i1]) (st := []) d_Mod_turns_1 ml_Mod_79 mc_Mod_isPoint ms_Mod_isPoint ⟨by decide, by decide⟩ rfl (Nat.le_of_ble_eq_true rfl) (Nat.le_of_ble_eq_true rfl) (Q1 := fun r M1 L1 => some (.int (bI (0 ≤ i1 ∧ i1 ≤ 31))) = r ∧ M = M1 ∧ L = L1) (L_Mod_isPoint_0 ⟨rfl, rfl, rfl⟩) ?_
  rintro _ _ _ ⟨rfl, rfl, rfl⟩
  refine r_if_eq d_Mod_turns_4 (fun c_1 => ?_) (fun c_1 => ?_)
  · have h9 := h.2 (bI_p0 c_1)
    refine r_bipush (v := (-101)) d_Mod_turns_22 (by decide) ?_
    exact r_iret ⟨d_Mod_turns_24, _, rfl, rfl⟩ ⟨_, _, rfl, h9⟩
  · have h9 := h.1 (bI_p1 c_1)
    refine r_iload_n d_Mod_turns_7 rfl ?_
    refine x_callS (as := [.int i2]) (st := []) d_Mod_turns_8 ml_Mod_79 mc_Mod_isPoint ms_Mod_isPoint ⟨by decide, by decide⟩ rfl (Nat.le_of_ble_eq_true rfl) (Nat.le_of_ble_eq_true rfl) (Q1 := fun r M1 L1 => some (.int (bI (0 ≤ i2 ∧ i2 ≤ 31))) = r ∧ M = M1 ∧ L = L1) (L_Mod_isPoint_0 ⟨rfl, rfl, rfl⟩) ?_
    rintro _ _ _ ⟨rfl, rfl, rfl⟩
    refine r_if_eq d_Mod_turns_11 (fun c_2 => ?_) (fun c_2 => ?_)
    · have h9 := h9.2 (bI_p0 c_2)
      refine r_bipush (v := (-101)) d_Mod_turns_22 (by decide) ?_
      exact r_iret ⟨d_Mod_turns_24, _, rfl, rfl⟩ ⟨_, _, rfl, h9⟩
    · have h9 := h9.1 (bI_p1 c_2)
      refine r_iload_n d_Mod_turns_14 rfl ?_
      refine r_iload_n d_Mod_turns_15 rfl ?_
      refine x_callS (as := [.int i1, .int i2]) (st := []) d_Mod_turns_16 ml_Mod_94 mc_Mod_turnsOf ms_Mod_turnsOf ⟨by decide, by decide⟩ rfl (Nat.le_of_ble_eq_true rfl) (Nat.le_of_ble_eq_true rfl) (Q1 := fun r M1 L1 => some (.int (((i2 - i1) + 32) - ((i2 - i1) + 32) / 32 * 32)) = r ∧ M = M1 ∧ L = L1) (s_Mod_turnsOf ⟨rfl, rfl, rfl⟩) ?_
      rintro _ _ _ ⟨rfl, rfl, rfl⟩
      refine r_goto d_Mod_turns_19 ?_
      exact r_iret ⟨d_Mod_turns_24, _, rfl, rfl⟩ ⟨_, _, rfl, h9⟩
theorem L_Mod_go_0 {xs : List Int32} {i1 : Int32} {i2 : Int32} {M : Mem} {L : Int64} {Q : Option Value → Mem → Int64 → Prop} 
    (h : (((0 ≤ i1 ∧ i1 ≤ 31) → ((i2 = 0 → ((0 ≤ i1 ∧ i1 ≤ 31) ∧ (tabT M ∧ Q (some (.int (nrt ((i1 + 24) &&& 31)))) M L))) ∧ (¬ (i2 = 0) → ((i2 = 1 → ((0 ≤ i1 ∧ i1 ≤ 31) ∧ (tabT M ∧ Q (some (.int (nrt i1))) M L))) ∧ (¬ (i2 = 1) → Q (some (.int (-100001))) M L))))) ∧ (¬ (0 ≤ i1 ∧ i1 ≤ 31) → Q (some (.int (-100000))) M L))) : RX xs shL md_Mod_go 0 [.ref 516, .int i1, .int i2] [] M L Q := by
  refine r_iload_n d_Mod_go_0 rfl ?_
  refine x_callS (as := [.int i1]) (st := []) d_Mod_go_1 ml_Mod_79 mc_Mod_isPoint ms_Mod_isPoint ⟨by decide, by decide⟩ rfl (Nat.le_of_ble_eq_true rfl) (Nat.le_of_ble_eq_true rfl) (Q1 := fun r M1 L1 => some (.int (bI (0 ≤ i1 ∧ i1 ≤ 31))) = r ∧ M = M1 ∧ L = L1) (L_Mod_isPoint_0 ⟨rfl, rfl, rfl⟩) ?_
  rintro _ _ _ ⟨rfl, rfl, rfl⟩
  refine r_if_ne d_Mod_go_4 (fun c_1 => ?_) (fun c_1 => ?_)
  · have h9 := h.1 (bI_p1 c_1)
    refine r_iload_n d_Mod_go_10 rfl ?_
    refine r_if_ne d_Mod_go_11 (fun c_2 => ?_) (fun c_2 => ?_)
    · have h9 := h9.2 c_2
      refine r_iload_n d_Mod_go_22 rfl ?_
      refine r_iconst (v := 1) d_Mod_go_23 (by decide) ?_
      refine r_ic_ne d_Mod_go_24 (fun c_3 => ?_) (fun c_3 => ?_)
      · have h9 := h9.2 c_3
        refine r_ldc (v := (-100001)) d_Mod_go_35 ck_Mod_104 ?_
        exact r_iret ⟨d_Mod_go_37, _, rfl, rfl⟩ ⟨_, _, rfl, h9⟩
      · have h9 := h9.1 c_3
        refine r_aload_n d_Mod_go_27 rfl ?_
        refine r_iload_n d_Mod_go_28 rfl ?_
        obtain ⟨o_4, h9⟩ := h9
        obtain ⟨o_5, h9⟩ := h9
        refine x_callV (as := [.int i1]) (st := []) d_Mod_go_29 ml_Mod_97 mc_Mod_northOf mv_Mod_northOf ⟨by decide, by decide⟩ gO_516 ⟨_, rfl, rfl⟩ rfl (Nat.le_of_ble_eq_true rfl) (Nat.le_of_ble_eq_true rfl) (Q1 := fun r M1 L1 => some (.int (nrt i1)) = r ∧ M = M1 ∧ L = L1) (s_Mod_northOf o_4 o_5 ⟨rfl, rfl, rfl⟩) ?_
        rintro _ _ _ ⟨rfl, rfl, rfl⟩
        refine r_goto d_Mod_go_32 ?_
        exact r_iret ⟨d_Mod_go_37, _, rfl, rfl⟩ ⟨_, _, rfl, h9⟩
    · have h9 := h9.1 c_2
      refine r_aload_n d_Mod_go_14 rfl ?_
      refine r_iload_n d_Mod_go_15 rfl ?_
      obtain ⟨o_6, h9⟩ := h9
      obtain ⟨o_7, h9⟩ := h9
      refine x_callV (as := [.int i1]) (st := []) d_Mod_go_16 ml_Mod_101 mc_Mod_eastOf mv_Mod_eastOf ⟨by decide, by decide⟩ gO_516 ⟨_, rfl, rfl⟩ rfl (Nat.le_of_ble_eq_true rfl) (Nat.le_of_ble_eq_true rfl) (Q1 := fun r M1 L1 => some (.int (nrt ((i1 + 24) &&& 31))) = r ∧ M = M1 ∧ L = L1) (s_Mod_eastOf o_6 o_7 ⟨rfl, rfl, rfl⟩) ?_
      rintro _ _ _ ⟨rfl, rfl, rfl⟩
      refine r_goto d_Mod_go_19 ?_
      exact r_iret ⟨d_Mod_go_37, _, rfl, rfl⟩ ⟨_, _, rfl, h9⟩
  · have h9 := h.2 (bI_p0 c_1)
    refine r_ldc (v := (-100000)) d_Mod_go_7 ck_Mod_100 ?_
    exact r_iret ⟨d_Mod_go_9, _, rfl, rfl⟩ ⟨_, _, rfl, h9⟩
theorem L_Mod_fault_0 {xs : List Int32}  {M : Mem} {L : Int64} {Q : Option Value → Mem → Int64 → Prop} 
    (h : RX xs shL md_Mod_faultOf 0 [.ref 516] [] M L (fun r M_1 L_2 => ∃ v_3 : Int32, r = some (.int v_3) ∧ Q (some (.int v_3)) M_1 L_2)) : RX xs shL md_Mod_fault 0 [.ref 516] [] M L Q := by
  refine r_aload_n d_Mod_fault_0 rfl ?_
  refine x_callV (as := []) (st := []) d_Mod_fault_1 ml_Mod_108 mc_Mod_faultOf mv_Mod_faultOf ⟨by decide, by decide⟩ gO_516 ⟨_, rfl, rfl⟩ rfl (Nat.le_of_ble_eq_true rfl) (Nat.le_of_ble_eq_true rfl) h ?_
  rintro _ M_1 L_2 ⟨v_3, rfl, h9⟩
  exact r_iret ⟨d_Mod_fault_4, _, rfl, rfl⟩ ⟨_, _, rfl, h9⟩
theorem L_Mod_faultOf_0 {xs : List Int32}  {M : Mem} {L : Int64} {Q : Option Value → Mem → Int64 → Prop} 
    (h : RX xs shL md_Mod_faultOf 4 [.ref 516, .int 1, .int 0, .null, .null] [] M L Q) : RX xs shL md_Mod_faultOf 0 [.ref 516] [] M L Q := by
  refine r_weak (lv' := [.ref 516, .null, .null, .null, .null]) (by repeat (first | exact trivial | refine ⟨rfl, ?_⟩ | exact lle_nil)) ?_
  refine r_iconst (v := 1) d_Mod_faultOf_0 (by decide) ?_
  refine r_istore_n d_Mod_faultOf_1 (by decide) ?_
  refine r_iconst (v := 0) d_Mod_faultOf_2 (by decide) ?_
  refine r_istore_n d_Mod_faultOf_3 (by decide) ?_
  exact h
set_option maxHeartbeats 4000000 in
theorem L_Mod_faultOf_4 {xs : List Int32} {i1 : Int32} {i2 : Int32} {M : Mem} {L : Int64} {Q : Option Value → Mem → Int64 → Prop} 
    (h : (((M 516 2) ≤ i2 → ((i1 ≤ 0 → Q (some (.int (-1))) M L) ∧ (¬ (i1 ≤ 0) → Q (some (.int (M 516 2))) M L))) ∧ (¬ ((M 516 2) ≤ i2) → (vp_in i2 24 ∧ ((((101 : Int32) ≤ (M 519 i2.toNatClampNeg) ∧ (M 519 i2.toNatClampNeg) ≤ 116) → ((i1 = 0 → Q (some (.int i2)) M L) ∧ (¬ (i1 = 0) → (((1 : Int32) = 0 → (((M 519 i2.toNatClampNeg) = 301 → (((M 519 i2.toNatClampNeg) = 301 → RX xs shL md_Mod_faultOf 4 [.ref 516, .int (i1 + 1), .int (i2 + 1), .null, .null] [] M L Q) ∧ (¬ ((M 519 i2.toNatClampNeg) = 301) → (((1 : Int32) = 0 → RX xs shL md_Mod_faultOf 4 [.ref 516, .int (i1 + (-1)), .int (i2 + 1), .null, .null] [] M L Q) ∧ (¬ ((1 : Int32) = 0) → RX xs shL md_Mod_faultOf 4 [.ref 516, .int (i1 + 0), .int (i2 + 1), .null, .null] [] M L Q))))) ∧ (¬ ((M 519 i2.toNatClampNeg) = 301) → (((0 ≤ (M 519 i2.toNatClampNeg) ∧ (M 519 i2.toNatClampNeg) ≤ 31) → (((M 519 i2.toNatClampNeg) = 301 → RX xs shL md_Mod_faultOf 4 [.ref 516, .int (i1 + 1), .int (i2 + 1), .null, .null] [] M L Q) ∧ (¬ ((M 519 i2.toNatClampNeg) = 301) → (((1 : Int32) = 0 → RX xs shL md_Mod_faultOf 4 [.ref 516, .int (i1 + (-1)), .int (i2 + 1), .null, .null] [] M L Q) ∧ (¬ ((1 : Int32) = 0) → RX xs shL md_Mod_faultOf 4 [.ref 516, .int (i1 + 0), .int (i2 + 1), .null, .null] [] M L Q))))) ∧ (¬ (0 ≤ (M 519 i2.toNatClampNeg) ∧ (M 519 i2.toNatClampNeg) ≤ 31) → Q (some (.int i2)) M L))))) ∧ (¬ ((1 : Int32) = 0) → (((M 519 i2.toNatClampNeg) = 301 → RX xs shL md_Mod_faultOf 4 [.ref 516, .int (i1 + 1), .int (i2 + 1), .null, .null] [] M L Q) ∧ (¬ ((M 519 i2.toNatClampNeg) = 301) → (((1 : Int32) = 0 → RX xs shL md_Mod_faultOf 4 [.ref 516, .int (i1 + (-1)), .int (i2 + 1), .null, .null] [] M L Q) ∧ (¬ ((1 : Int32) = 0) → RX xs shL md_Mod_faultOf 4 [.ref 516, .int (i1 + 0), .int (i2 + 1), .null, .null] [] M L Q))))))))) ∧ (¬ ((101 : Int32) ≤ (M 519 i2.toNatClampNeg) ∧ (M 519 i2.toNatClampNeg) ≤ 116) → ((((201 : Int32) ≤ (M 519 i2.toNatClampNeg) ∧ (M 519 i2.toNatClampNeg) ≤ 216) → ((i1 = 0 → Q (some (.int i2)) M L) ∧ (¬ (i1 = 0) → (((1 : Int32) = 0 → (((M 519 i2.toNatClampNeg) = 301 → (((M 519 i2.toNatClampNeg) = 301 → RX xs shL md_Mod_faultOf 4 [.ref 516, .int (i1 + 1), .int (i2 + 1), .null, .null] [] M L Q) ∧ (¬ ((M 519 i2.toNatClampNeg) = 301) → (((1 : Int32) = 0 → RX xs shL md_Mod_faultOf 4 [.ref 516, .int (i1 + (-1)), .int (i2 + 1), .null, .null] [] M L Q) ∧ (¬ ((1 : Int32) = 0) → RX xs shL md_Mod_faultOf 4 [.ref 516, .int (i1 + 0), .int (i2 + 1), .null, .null] [] M L Q))))) ∧ (¬ ((M 519 i2.toNatClampNeg) = 301) → (((0 ≤ (M 519 i2.toNatClampNeg) ∧ (M 519 i2.toNatClampNeg) ≤ 31) → (((M 519 i2.toNatClampNeg) = 301 → RX xs shL md_Mod_faultOf 4 [.ref 516, .int (i1 + 1), .int (i2 + 1), .null, .null] [] M L Q) ∧ (¬ ((M 519 i2.toNatClampNeg) = 301) → (((1 : Int32) = 0 → RX xs shL md_Mod_faultOf 4 [.ref 516, .int (i1 + (-1)), .int (i2 + 1), .null, .null] [] M L Q) ∧ (¬ ((1 : Int32) = 0) → RX xs shL md_Mod_faultOf 4 [.ref 516, .int (i1 + 0), .int (i2 + 1), .null, .null] [] M L Q))))) ∧ (¬ (0 ≤ (M 519 i2.toNatClampNeg) ∧ (M 519 i2.toNatClampNeg) ≤ 31) → Q (some (.int i2)) M L))))) ∧ (¬ ((1 : Int32) = 0) → (((M 519 i2.toNatClampNeg) = 301 → RX xs shL md_Mod_faultOf 4 [.ref 516, .int (i1 + 1), .int (i2 + 1), .null, .null] [] M L Q) ∧ (¬ ((M 519 i2.toNatClampNeg) = 301) → (((1 : Int32) = 0 → RX xs shL md_Mod_faultOf 4 [.ref 516, .int (i1 + (-1)), .int (i2 + 1), .null, .null] [] M L Q) ∧ (¬ ((1 : Int32) = 0) → RX xs shL md_Mod_faultOf 4 [.ref 516, .int (i1 + 0), .int (i2 + 1), .null, .null] [] M L Q))))))))) ∧ (¬ ((201 : Int32) ≤ (M 519 i2.toNatClampNeg) ∧ (M 519 i2.toNatClampNeg) ≤ 216) → (((M 519 i2.toNatClampNeg) = 300 → ((i1 = 0 → Q (some (.int i2)) M L) ∧ (¬ (i1 = 0) → (((1 : Int32) = 0 → (((M 519 i2.toNatClampNeg) = 301 → (((M 519 i2.toNatClampNeg) = 301 → RX xs shL md_Mod_faultOf 4 [.ref 516, .int (i1 + 1), .int (i2 + 1), .null, .null] [] M L Q) ∧ (¬ ((M 519 i2.toNatClampNeg) = 301) → (((1 : Int32) = 0 → RX xs shL md_Mod_faultOf 4 [.ref 516, .int (i1 + (-1)), .int (i2 + 1), .null, .null] [] M L Q) ∧ (¬ ((1 : Int32) = 0) → RX xs shL md_Mod_faultOf 4 [.ref 516, .int (i1 + 0), .int (i2 + 1), .null, .null] [] M L Q))))) ∧ (¬ ((M 519 i2.toNatClampNeg) = 301) → (((0 ≤ (M 519 i2.toNatClampNeg) ∧ (M 519 i2.toNatClampNeg) ≤ 31) → (((M 519 i2.toNatClampNeg) = 301 → RX xs shL md_Mod_faultOf 4 [.ref 516, .int (i1 + 1), .int (i2 + 1), .null, .null] [] M L Q) ∧ (¬ ((M 519 i2.toNatClampNeg) = 301) → (((1 : Int32) = 0 → RX xs shL md_Mod_faultOf 4 [.ref 516, .int (i1 + (-1)), .int (i2 + 1), .null, .null] [] M L Q) ∧ (¬ ((1 : Int32) = 0) → RX xs shL md_Mod_faultOf 4 [.ref 516, .int (i1 + 0), .int (i2 + 1), .null, .null] [] M L Q))))) ∧ (¬ (0 ≤ (M 519 i2.toNatClampNeg) ∧ (M 519 i2.toNatClampNeg) ≤ 31) → Q (some (.int i2)) M L))))) ∧ (¬ ((1 : Int32) = 0) → (((M 519 i2.toNatClampNeg) = 301 → RX xs shL md_Mod_faultOf 4 [.ref 516, .int (i1 + 1), .int (i2 + 1), .null, .null] [] M L Q) ∧ (¬ ((M 519 i2.toNatClampNeg) = 301) → (((1 : Int32) = 0 → RX xs shL md_Mod_faultOf 4 [.ref 516, .int (i1 + (-1)), .int (i2 + 1), .null, .null] [] M L Q) ∧ (¬ ((1 : Int32) = 0) → RX xs shL md_Mod_faultOf 4 [.ref 516, .int (i1 + 0), .int (i2 + 1), .null, .null] [] M L Q))))))))) ∧ (¬ ((M 519 i2.toNatClampNeg) = 300) → ((i1 = 0 → Q (some (.int i2)) M L) ∧ (¬ (i1 = 0) → (((0 : Int32) = 0 → (((M 519 i2.toNatClampNeg) = 301 → (((M 519 i2.toNatClampNeg) = 301 → RX xs shL md_Mod_faultOf 4 [.ref 516, .int (i1 + 1), .int (i2 + 1), .null, .null] [] M L Q) ∧ (¬ ((M 519 i2.toNatClampNeg) = 301) → (((0 : Int32) = 0 → RX xs shL md_Mod_faultOf 4 [.ref 516, .int (i1 + (-1)), .int (i2 + 1), .null, .null] [] M L Q) ∧ (¬ ((0 : Int32) = 0) → RX xs shL md_Mod_faultOf 4 [.ref 516, .int (i1 + 0), .int (i2 + 1), .null, .null] [] M L Q))))) ∧ (¬ ((M 519 i2.toNatClampNeg) = 301) → (((0 ≤ (M 519 i2.toNatClampNeg) ∧ (M 519 i2.toNatClampNeg) ≤ 31) → (((M 519 i2.toNatClampNeg) = 301 → RX xs shL md_Mod_faultOf 4 [.ref 516, .int (i1 + 1), .int (i2 + 1), .null, .null] [] M L Q) ∧ (¬ ((M 519 i2.toNatClampNeg) = 301) → (((0 : Int32) = 0 → RX xs shL md_Mod_faultOf 4 [.ref 516, .int (i1 + (-1)), .int (i2 + 1), .null, .null] [] M L Q) ∧ (¬ ((0 : Int32) = 0) → RX xs shL md_Mod_faultOf 4 [.ref 516, .int (i1 + 0), .int (i2 + 1), .null, .null] [] M L Q))))) ∧ (¬ (0 ≤ (M 519 i2.toNatClampNeg) ∧ (M 519 i2.toNatClampNeg) ≤ 31) → Q (some (.int i2)) M L))))) ∧ (¬ ((0 : Int32) = 0) → (((M 519 i2.toNatClampNeg) = 301 → RX xs shL md_Mod_faultOf 4 [.ref 516, .int (i1 + 1), .int (i2 + 1), .null, .null] [] M L Q) ∧ (¬ ((M 519 i2.toNatClampNeg) = 301) → (((0 : Int32) = 0 → RX xs shL md_Mod_faultOf 4 [.ref 516, .int (i1 + (-1)), .int (i2 + 1), .null, .null] [] M L Q) ∧ (¬ ((0 : Int32) = 0) → RX xs shL md_Mod_faultOf 4 [.ref 516, .int (i1 + 0), .int (i2 + 1), .null, .null] [] M L Q)))))))))))))))))) : RX xs shL md_Mod_faultOf 4 [.ref 516, .int i1, .int i2, .null, .null] [] M L Q := by
  refine r_iload_n d_Mod_faultOf_4 rfl ?_
  refine r_aload_n d_Mod_faultOf_5 rfl ?_
  refine x_getI d_Mod_faultOf_6 fl_Mod_105 gI_516_2 ?_
  refine r_ic_ge d_Mod_faultOf_9 (fun c_1 => ?_) (fun c_1 => ?_)
  · have h9 := h.1 c_1
    refine r_iload_n d_Mod_faultOf_112 rfl ?_
    refine r_if_le d_Mod_faultOf_113 (fun c_2 => ?_) (fun c_2 => ?_)
    · have h9 := h9.1 c_2
      refine r_iconst (v := (-1)) d_Mod_faultOf_123 (by decide) ?_
      exact r_iret ⟨d_Mod_faultOf_124, _, rfl, rfl⟩ ⟨_, _, rfl, h9⟩
    · have h9 := h9.2 c_2
      refine r_aload_n d_Mod_faultOf_116 rfl ?_
      refine x_getI d_Mod_faultOf_117 fl_Mod_105 gI_516_2 ?_
      refine r_goto d_Mod_faultOf_120 ?_
      exact r_iret ⟨d_Mod_faultOf_124, _, rfl, rfl⟩ ⟨_, _, rfl, h9⟩
  · have h9 := h.2 c_1
    refine r_aload_n d_Mod_faultOf_12 rfl ?_
    refine x_getR d_Mod_faultOf_13 fl_Mod_16 gR_516_3 ?_
    refine r_iload_n d_Mod_faultOf_16 rfl ?_
    obtain ⟨o_3, h9⟩ := h9
    refine x_iald d_Mod_faultOf_17 aI_519 o_3 ?_
    refine r_istore_n d_Mod_faultOf_18 (by decide) ?_
    refine r_iload_n d_Mod_faultOf_19 rfl ?_
    refine r_bipush (v := 101) d_Mod_faultOf_20 (by decide) ?_
    refine r_bipush (v := 116) d_Mod_faultOf_22 (by decide) ?_
    refine x_callS (as := [.int (M 519 i2.toNatClampNeg), .int 101, .int 116]) (st := []) d_Mod_faultOf_24 ml_Mod_75 mc_Mod_in ms_Mod_in ⟨by decide, by decide⟩ rfl (Nat.le_of_ble_eq_true rfl) (Nat.le_of_ble_eq_true rfl) (Q1 := fun r M1 L1 => some (.int (bI ((101 : Int32) ≤ (M 519 i2.toNatClampNeg) ∧ (M 519 i2.toNatClampNeg) ≤ 116))) = r ∧ M = M1 ∧ L = L1) (s_Mod_in ⟨rfl, rfl, rfl⟩) ?_
    rintro _ _ _ ⟨rfl, rfl, rfl⟩
    refine r_if_ne d_Mod_faultOf_27 (fun c_4 => ?_) (fun c_4 => ?_)
    · have h9 := h9.1 (bI_p1 c_4)
      refine r_iconst (v := 1) d_Mod_faultOf_50 (by decide) ?_
      refine r_goto d_Mod_faultOf_51 ?_
      refine r_istore d_Mod_faultOf_55 (by decide) ?_
      refine r_iload_n d_Mod_faultOf_57 rfl ?_
      refine r_if_eq d_Mod_faultOf_58 (fun c_5 => ?_) (fun c_5 => ?_)
      · have h9 := h9.1 c_5
        refine r_iload_n d_Mod_faultOf_80 rfl ?_
        exact r_iret ⟨d_Mod_faultOf_81, _, rfl, rfl⟩ ⟨_, _, rfl, h9⟩
      · have h9 := h9.2 c_5
        refine r_iload d_Mod_faultOf_61 rfl ?_
        refine r_if_ne d_Mod_faultOf_63 (fun c_6 => ?_) (fun c_6 => ?_)
        · have h9 := h9.2 c_6
          refine r_iload_n d_Mod_faultOf_82 rfl ?_
          refine r_iload_n d_Mod_faultOf_83 rfl ?_
          refine r_sipush (v := 301) d_Mod_faultOf_84 (by decide) ?_
          refine r_ic_ne d_Mod_faultOf_87 (fun c_7 => ?_) (fun c_7 => ?_)
          · have h9 := h9.2 c_7
            refine r_iload d_Mod_faultOf_94 rfl ?_
            refine r_if_eq d_Mod_faultOf_96 (fun c_8 => ?_) (fun c_8 => ?_)
            · have h9 := h9.1 c_8
              refine r_iconst (v := (-1)) d_Mod_faultOf_103 (by decide) ?_
              refine r_iadd d_Mod_faultOf_104 ?_
              refine r_istore_n d_Mod_faultOf_105 (by decide) ?_
              refine r_iinc (v := i2 + 1) d_Mod_faultOf_106 rfl rfl (by decide) ?_
              refine r_goto d_Mod_faultOf_109 ?_
              refine r_weak (lv' := [.ref 516, .int (i1 + (-1)), .int (i2 + 1), .null, .null]) (by repeat (first | exact trivial | refine ⟨rfl, ?_⟩ | exact lle_nil)) ?_
              exact h9
            · have h9 := h9.2 c_8
              refine r_iconst (v := 0) d_Mod_faultOf_99 (by decide) ?_
              refine r_goto d_Mod_faultOf_100 ?_
              refine r_iadd d_Mod_faultOf_104 ?_
              refine r_istore_n d_Mod_faultOf_105 (by decide) ?_
              refine r_iinc (v := i2 + 1) d_Mod_faultOf_106 rfl rfl (by decide) ?_
              refine r_goto d_Mod_faultOf_109 ?_
              refine r_weak (lv' := [.ref 516, .int (i1 + 0), .int (i2 + 1), .null, .null]) (by repeat (first | exact trivial | refine ⟨rfl, ?_⟩ | exact lle_nil)) ?_
              exact h9
          · have h9 := h9.1 c_7
            refine r_iconst (v := 1) d_Mod_faultOf_90 (by decide) ?_
            refine r_goto d_Mod_faultOf_91 ?_
            refine r_iadd d_Mod_faultOf_104 ?_
            refine r_istore_n d_Mod_faultOf_105 (by decide) ?_
            refine r_iinc (v := i2 + 1) d_Mod_faultOf_106 rfl rfl (by decide) ?_
            refine r_goto d_Mod_faultOf_109 ?_
            refine r_weak (lv' := [.ref 516, .int (i1 + 1), .int (i2 + 1), .null, .null]) (by repeat (first | exact trivial | refine ⟨rfl, ?_⟩ | exact lle_nil)) ?_
            exact h9
        · have h9 := h9.1 c_6
          refine r_iload_n d_Mod_faultOf_66 rfl ?_
          refine r_sipush (v := 301) d_Mod_faultOf_67 (by decide) ?_
          refine r_ic_eq d_Mod_faultOf_70 (fun c_9 => ?_) (fun c_9 => ?_)
          · have h9 := h9.1 c_9
            refine r_iload_n d_Mod_faultOf_82 rfl ?_
            refine r_iload_n d_Mod_faultOf_83 rfl ?_
            refine r_sipush (v := 301) d_Mod_faultOf_84 (by decide) ?_
            refine r_ic_ne d_Mod_faultOf_87 (fun c_10 => ?_) (fun c_10 => ?_)
            · have h9 := h9.2 c_10
              refine r_iload d_Mod_faultOf_94 rfl ?_
              refine r_if_eq d_Mod_faultOf_96 (fun c_11 => ?_) (fun c_11 => ?_)
              · have h9 := h9.1 c_11
                refine r_iconst (v := (-1)) d_Mod_faultOf_103 (by decide) ?_
                refine r_iadd d_Mod_faultOf_104 ?_
                refine r_istore_n d_Mod_faultOf_105 (by decide) ?_
                refine r_iinc (v := i2 + 1) d_Mod_faultOf_106 rfl rfl (by decide) ?_
                refine r_goto d_Mod_faultOf_109 ?_
                refine r_weak (lv' := [.ref 516, .int (i1 + (-1)), .int (i2 + 1), .null, .null]) (by repeat (first | exact trivial | refine ⟨rfl, ?_⟩ | exact lle_nil)) ?_
                exact h9
              · have h9 := h9.2 c_11
                refine r_iconst (v := 0) d_Mod_faultOf_99 (by decide) ?_
                refine r_goto d_Mod_faultOf_100 ?_
                refine r_iadd d_Mod_faultOf_104 ?_
                refine r_istore_n d_Mod_faultOf_105 (by decide) ?_
                refine r_iinc (v := i2 + 1) d_Mod_faultOf_106 rfl rfl (by decide) ?_
                refine r_goto d_Mod_faultOf_109 ?_
                refine r_weak (lv' := [.ref 516, .int (i1 + 0), .int (i2 + 1), .null, .null]) (by repeat (first | exact trivial | refine ⟨rfl, ?_⟩ | exact lle_nil)) ?_
                exact h9
            · have h9 := h9.1 c_10
              refine r_iconst (v := 1) d_Mod_faultOf_90 (by decide) ?_
              refine r_goto d_Mod_faultOf_91 ?_
              refine r_iadd d_Mod_faultOf_104 ?_
              refine r_istore_n d_Mod_faultOf_105 (by decide) ?_
              refine r_iinc (v := i2 + 1) d_Mod_faultOf_106 rfl rfl (by decide) ?_
              refine r_goto d_Mod_faultOf_109 ?_
              refine r_weak (lv' := [.ref 516, .int (i1 + 1), .int (i2 + 1), .null, .null]) (by repeat (first | exact trivial | refine ⟨rfl, ?_⟩ | exact lle_nil)) ?_
              exact h9
          · have h9 := h9.2 c_9
            refine r_iload_n d_Mod_faultOf_73 rfl ?_
            refine x_callS (as := [.int (M 519 i2.toNatClampNeg)]) (st := []) d_Mod_faultOf_74 ml_Mod_79 mc_Mod_isPoint ms_Mod_isPoint ⟨by decide, by decide⟩ rfl (Nat.le_of_ble_eq_true rfl) (Nat.le_of_ble_eq_true rfl) (Q1 := fun r M1 L1 => some (.int (bI (0 ≤ (M 519 i2.toNatClampNeg) ∧ (M 519 i2.toNatClampNeg) ≤ 31))) = r ∧ M = M1 ∧ L = L1) (L_Mod_isPoint_0 ⟨rfl, rfl, rfl⟩) ?_
            rintro _ _ _ ⟨rfl, rfl, rfl⟩
            refine r_if_ne d_Mod_faultOf_77 (fun c_12 => ?_) (fun c_12 => ?_)
            · have h9 := h9.1 (bI_p1 c_12)
              refine r_iload_n d_Mod_faultOf_82 rfl ?_
              refine r_iload_n d_Mod_faultOf_83 rfl ?_
              refine r_sipush (v := 301) d_Mod_faultOf_84 (by decide) ?_
              refine r_ic_ne d_Mod_faultOf_87 (fun c_13 => ?_) (fun c_13 => ?_)
              · have h9 := h9.2 c_13
                refine r_iload d_Mod_faultOf_94 rfl ?_
                refine r_if_eq d_Mod_faultOf_96 (fun c_14 => ?_) (fun c_14 => ?_)
                · have h9 := h9.1 c_14
                  refine r_iconst (v := (-1)) d_Mod_faultOf_103 (by decide) ?_
                  refine r_iadd d_Mod_faultOf_104 ?_
                  refine r_istore_n d_Mod_faultOf_105 (by decide) ?_
                  refine r_iinc (v := i2 + 1) d_Mod_faultOf_106 rfl rfl (by decide) ?_
                  refine r_goto d_Mod_faultOf_109 ?_
                  refine r_weak (lv' := [.ref 516, .int (i1 + (-1)), .int (i2 + 1), .null, .null]) (by repeat (first | exact trivial | refine ⟨rfl, ?_⟩ | exact lle_nil)) ?_
                  exact h9
                · have h9 := h9.2 c_14
                  refine r_iconst (v := 0) d_Mod_faultOf_99 (by decide) ?_
                  refine r_goto d_Mod_faultOf_100 ?_
                  refine r_iadd d_Mod_faultOf_104 ?_
                  refine r_istore_n d_Mod_faultOf_105 (by decide) ?_
                  refine r_iinc (v := i2 + 1) d_Mod_faultOf_106 rfl rfl (by decide) ?_
                  refine r_goto d_Mod_faultOf_109 ?_
                  refine r_weak (lv' := [.ref 516, .int (i1 + 0), .int (i2 + 1), .null, .null]) (by repeat (first | exact trivial | refine ⟨rfl, ?_⟩ | exact lle_nil)) ?_
                  exact h9
              · have h9 := h9.1 c_13
                refine r_iconst (v := 1) d_Mod_faultOf_90 (by decide) ?_
                refine r_goto d_Mod_faultOf_91 ?_
                refine r_iadd d_Mod_faultOf_104 ?_
                refine r_istore_n d_Mod_faultOf_105 (by decide) ?_
                refine r_iinc (v := i2 + 1) d_Mod_faultOf_106 rfl rfl (by decide) ?_
                refine r_goto d_Mod_faultOf_109 ?_
                refine r_weak (lv' := [.ref 516, .int (i1 + 1), .int (i2 + 1), .null, .null]) (by repeat (first | exact trivial | refine ⟨rfl, ?_⟩ | exact lle_nil)) ?_
                exact h9
            · have h9 := h9.2 (bI_p0 c_12)
              refine r_iload_n d_Mod_faultOf_80 rfl ?_
              exact r_iret ⟨d_Mod_faultOf_81, _, rfl, rfl⟩ ⟨_, _, rfl, h9⟩
    · have h9 := h9.2 (bI_p0 c_4)
      refine r_iload_n d_Mod_faultOf_30 rfl ?_
      refine r_sipush (v := 201) d_Mod_faultOf_31 (by decide) ?_
      refine r_sipush (v := 216) d_Mod_faultOf_34 (by decide) ?_
      refine x_callS (as := [.int (M 519 i2.toNatClampNeg), .int 201, .int 216]) (st := []) d_Mod_faultOf_37 ml_Mod_75 mc_Mod_in ms_Mod_in ⟨by decide, by decide⟩ rfl (Nat.le_of_ble_eq_true rfl) (Nat.le_of_ble_eq_true rfl) (Q1 := fun r M1 L1 => some (.int (bI ((201 : Int32) ≤ (M 519 i2.toNatClampNeg) ∧ (M 519 i2.toNatClampNeg) ≤ 216))) = r ∧ M = M1 ∧ L = L1) (s_Mod_in ⟨rfl, rfl, rfl⟩) ?_
      rintro _ _ _ ⟨rfl, rfl, rfl⟩
      refine r_if_ne d_Mod_faultOf_40 (fun c_15 => ?_) (fun c_15 => ?_)
      · have h9 := h9.1 (bI_p1 c_15)
        refine r_iconst (v := 1) d_Mod_faultOf_50 (by decide) ?_
        refine r_goto d_Mod_faultOf_51 ?_
        refine r_istore d_Mod_faultOf_55 (by decide) ?_
        refine r_iload_n d_Mod_faultOf_57 rfl ?_
        refine r_if_eq d_Mod_faultOf_58 (fun c_16 => ?_) (fun c_16 => ?_)
        · have h9 := h9.1 c_16
          refine r_iload_n d_Mod_faultOf_80 rfl ?_
          exact r_iret ⟨d_Mod_faultOf_81, _, rfl, rfl⟩ ⟨_, _, rfl, h9⟩
        · have h9 := h9.2 c_16
          refine r_iload d_Mod_faultOf_61 rfl ?_
          refine r_if_ne d_Mod_faultOf_63 (fun c_17 => ?_) (fun c_17 => ?_)
          · have h9 := h9.2 c_17
            refine r_iload_n d_Mod_faultOf_82 rfl ?_
            refine r_iload_n d_Mod_faultOf_83 rfl ?_
            refine r_sipush (v := 301) d_Mod_faultOf_84 (by decide) ?_
            refine r_ic_ne d_Mod_faultOf_87 (fun c_18 => ?_) (fun c_18 => ?_)
            · have h9 := h9.2 c_18
              refine r_iload d_Mod_faultOf_94 rfl ?_
              refine r_if_eq d_Mod_faultOf_96 (fun c_19 => ?_) (fun c_19 => ?_)
              · have h9 := h9.1 c_19
                refine r_iconst (v := (-1)) d_Mod_faultOf_103 (by decide) ?_
                refine r_iadd d_Mod_faultOf_104 ?_
                refine r_istore_n d_Mod_faultOf_105 (by decide) ?_
                refine r_iinc (v := i2 + 1) d_Mod_faultOf_106 rfl rfl (by decide) ?_
                refine r_goto d_Mod_faultOf_109 ?_
                refine r_weak (lv' := [.ref 516, .int (i1 + (-1)), .int (i2 + 1), .null, .null]) (by repeat (first | exact trivial | refine ⟨rfl, ?_⟩ | exact lle_nil)) ?_
                exact h9
              · have h9 := h9.2 c_19
                refine r_iconst (v := 0) d_Mod_faultOf_99 (by decide) ?_
                refine r_goto d_Mod_faultOf_100 ?_
                refine r_iadd d_Mod_faultOf_104 ?_
                refine r_istore_n d_Mod_faultOf_105 (by decide) ?_
                refine r_iinc (v := i2 + 1) d_Mod_faultOf_106 rfl rfl (by decide) ?_
                refine r_goto d_Mod_faultOf_109 ?_
                refine r_weak (lv' := [.ref 516, .int (i1 + 0), .int (i2 + 1), .null, .null]) (by repeat (first | exact trivial | refine ⟨rfl, ?_⟩ | exact lle_nil)) ?_
                exact h9
            · have h9 := h9.1 c_18
              refine r_iconst (v := 1) d_Mod_faultOf_90 (by decide) ?_
              refine r_goto d_Mod_faultOf_91 ?_
              refine r_iadd d_Mod_faultOf_104 ?_
              refine r_istore_n d_Mod_faultOf_105 (by decide) ?_
              refine r_iinc (v := i2 + 1) d_Mod_faultOf_106 rfl rfl (by decide) ?_
              refine r_goto d_Mod_faultOf_109 ?_
              refine r_weak (lv' := [.ref 516, .int (i1 + 1), .int (i2 + 1), .null, .null]) (by repeat (first | exact trivial | refine ⟨rfl, ?_⟩ | exact lle_nil)) ?_
              exact h9
          · have h9 := h9.1 c_17
            refine r_iload_n d_Mod_faultOf_66 rfl ?_
            refine r_sipush (v := 301) d_Mod_faultOf_67 (by decide) ?_
            refine r_ic_eq d_Mod_faultOf_70 (fun c_20 => ?_) (fun c_20 => ?_)
            · have h9 := h9.1 c_20
              refine r_iload_n d_Mod_faultOf_82 rfl ?_
              refine r_iload_n d_Mod_faultOf_83 rfl ?_
              refine r_sipush (v := 301) d_Mod_faultOf_84 (by decide) ?_
              refine r_ic_ne d_Mod_faultOf_87 (fun c_21 => ?_) (fun c_21 => ?_)
              · have h9 := h9.2 c_21
                refine r_iload d_Mod_faultOf_94 rfl ?_
                refine r_if_eq d_Mod_faultOf_96 (fun c_22 => ?_) (fun c_22 => ?_)
                · have h9 := h9.1 c_22
                  refine r_iconst (v := (-1)) d_Mod_faultOf_103 (by decide) ?_
                  refine r_iadd d_Mod_faultOf_104 ?_
                  refine r_istore_n d_Mod_faultOf_105 (by decide) ?_
                  refine r_iinc (v := i2 + 1) d_Mod_faultOf_106 rfl rfl (by decide) ?_
                  refine r_goto d_Mod_faultOf_109 ?_
                  refine r_weak (lv' := [.ref 516, .int (i1 + (-1)), .int (i2 + 1), .null, .null]) (by repeat (first | exact trivial | refine ⟨rfl, ?_⟩ | exact lle_nil)) ?_
                  exact h9
                · have h9 := h9.2 c_22
                  refine r_iconst (v := 0) d_Mod_faultOf_99 (by decide) ?_
                  refine r_goto d_Mod_faultOf_100 ?_
                  refine r_iadd d_Mod_faultOf_104 ?_
                  refine r_istore_n d_Mod_faultOf_105 (by decide) ?_
                  refine r_iinc (v := i2 + 1) d_Mod_faultOf_106 rfl rfl (by decide) ?_
                  refine r_goto d_Mod_faultOf_109 ?_
                  refine r_weak (lv' := [.ref 516, .int (i1 + 0), .int (i2 + 1), .null, .null]) (by repeat (first | exact trivial | refine ⟨rfl, ?_⟩ | exact lle_nil)) ?_
                  exact h9
              · have h9 := h9.1 c_21
                refine r_iconst (v := 1) d_Mod_faultOf_90 (by decide) ?_
                refine r_goto d_Mod_faultOf_91 ?_
                refine r_iadd d_Mod_faultOf_104 ?_
                refine r_istore_n d_Mod_faultOf_105 (by decide) ?_
                refine r_iinc (v := i2 + 1) d_Mod_faultOf_106 rfl rfl (by decide) ?_
                refine r_goto d_Mod_faultOf_109 ?_
                refine r_weak (lv' := [.ref 516, .int (i1 + 1), .int (i2 + 1), .null, .null]) (by repeat (first | exact trivial | refine ⟨rfl, ?_⟩ | exact lle_nil)) ?_
                exact h9
            · have h9 := h9.2 c_20
              refine r_iload_n d_Mod_faultOf_73 rfl ?_
              refine x_callS (as := [.int (M 519 i2.toNatClampNeg)]) (st := []) d_Mod_faultOf_74 ml_Mod_79 mc_Mod_isPoint ms_Mod_isPoint ⟨by decide, by decide⟩ rfl (Nat.le_of_ble_eq_true rfl) (Nat.le_of_ble_eq_true rfl) (Q1 := fun r M1 L1 => some (.int (bI (0 ≤ (M 519 i2.toNatClampNeg) ∧ (M 519 i2.toNatClampNeg) ≤ 31))) = r ∧ M = M1 ∧ L = L1) (L_Mod_isPoint_0 ⟨rfl, rfl, rfl⟩) ?_
              rintro _ _ _ ⟨rfl, rfl, rfl⟩
              refine r_if_ne d_Mod_faultOf_77 (fun c_23 => ?_) (fun c_23 => ?_)
              · have h9 := h9.1 (bI_p1 c_23)
                refine r_iload_n d_Mod_faultOf_82 rfl ?_
                refine r_iload_n d_Mod_faultOf_83 rfl ?_
                refine r_sipush (v := 301) d_Mod_faultOf_84 (by decide) ?_
                refine r_ic_ne d_Mod_faultOf_87 (fun c_24 => ?_) (fun c_24 => ?_)
                · have h9 := h9.2 c_24
                  refine r_iload d_Mod_faultOf_94 rfl ?_
                  refine r_if_eq d_Mod_faultOf_96 (fun c_25 => ?_) (fun c_25 => ?_)
                  · have h9 := h9.1 c_25
                    refine r_iconst (v := (-1)) d_Mod_faultOf_103 (by decide) ?_
                    refine r_iadd d_Mod_faultOf_104 ?_
                    refine r_istore_n d_Mod_faultOf_105 (by decide) ?_
                    refine r_iinc (v := i2 + 1) d_Mod_faultOf_106 rfl rfl (by decide) ?_
                    refine r_goto d_Mod_faultOf_109 ?_
                    refine r_weak (lv' := [.ref 516, .int (i1 + (-1)), .int (i2 + 1), .null, .null]) (by repeat (first | exact trivial | refine ⟨rfl, ?_⟩ | exact lle_nil)) ?_
                    exact h9
                  · have h9 := h9.2 c_25
                    refine r_iconst (v := 0) d_Mod_faultOf_99 (by decide) ?_
                    refine r_goto d_Mod_faultOf_100 ?_
                    refine r_iadd d_Mod_faultOf_104 ?_
                    refine r_istore_n d_Mod_faultOf_105 (by decide) ?_
                    refine r_iinc (v := i2 + 1) d_Mod_faultOf_106 rfl rfl (by decide) ?_
                    refine r_goto d_Mod_faultOf_109 ?_
                    refine r_weak (lv' := [.ref 516, .int (i1 + 0), .int (i2 + 1), .null, .null]) (by repeat (first | exact trivial | refine ⟨rfl, ?_⟩ | exact lle_nil)) ?_
                    exact h9
                · have h9 := h9.1 c_24
                  refine r_iconst (v := 1) d_Mod_faultOf_90 (by decide) ?_
                  refine r_goto d_Mod_faultOf_91 ?_
                  refine r_iadd d_Mod_faultOf_104 ?_
                  refine r_istore_n d_Mod_faultOf_105 (by decide) ?_
                  refine r_iinc (v := i2 + 1) d_Mod_faultOf_106 rfl rfl (by decide) ?_
                  refine r_goto d_Mod_faultOf_109 ?_
                  refine r_weak (lv' := [.ref 516, .int (i1 + 1), .int (i2 + 1), .null, .null]) (by repeat (first | exact trivial | refine ⟨rfl, ?_⟩ | exact lle_nil)) ?_
                  exact h9
              · have h9 := h9.2 (bI_p0 c_23)
                refine r_iload_n d_Mod_faultOf_80 rfl ?_
                exact r_iret ⟨d_Mod_faultOf_81, _, rfl, rfl⟩ ⟨_, _, rfl, h9⟩
      · have h9 := h9.2 (bI_p0 c_15)
        refine r_iload_n d_Mod_faultOf_43 rfl ?_
        refine r_sipush (v := 300) d_Mod_faultOf_44 (by decide) ?_
        refine r_ic_ne d_Mod_faultOf_47 (fun c_26 => ?_) (fun c_26 => ?_)
        · have h9 := h9.2 c_26
          refine r_iconst (v := 0) d_Mod_faultOf_54 (by decide) ?_
          refine r_istore d_Mod_faultOf_55 (by decide) ?_
          refine r_iload_n d_Mod_faultOf_57 rfl ?_
          refine r_if_eq d_Mod_faultOf_58 (fun c_27 => ?_) (fun c_27 => ?_)
          · have h9 := h9.1 c_27
            refine r_iload_n d_Mod_faultOf_80 rfl ?_
            exact r_iret ⟨d_Mod_faultOf_81, _, rfl, rfl⟩ ⟨_, _, rfl, h9⟩
          · have h9 := h9.2 c_27
            refine r_iload d_Mod_faultOf_61 rfl ?_
            refine r_if_ne d_Mod_faultOf_63 (fun c_28 => ?_) (fun c_28 => ?_)
            · have h9 := h9.2 c_28
              refine r_iload_n d_Mod_faultOf_82 rfl ?_
              refine r_iload_n d_Mod_faultOf_83 rfl ?_
              refine r_sipush (v := 301) d_Mod_faultOf_84 (by decide) ?_
              refine r_ic_ne d_Mod_faultOf_87 (fun c_29 => ?_) (fun c_29 => ?_)
              · have h9 := h9.2 c_29
                refine r_iload d_Mod_faultOf_94 rfl ?_
                refine r_if_eq d_Mod_faultOf_96 (fun c_30 => ?_) (fun c_30 => ?_)
                · have h9 := h9.1 c_30
                  refine r_iconst (v := (-1)) d_Mod_faultOf_103 (by decide) ?_
                  refine r_iadd d_Mod_faultOf_104 ?_
                  refine r_istore_n d_Mod_faultOf_105 (by decide) ?_
                  refine r_iinc (v := i2 + 1) d_Mod_faultOf_106 rfl rfl (by decide) ?_
                  refine r_goto d_Mod_faultOf_109 ?_
                  refine r_weak (lv' := [.ref 516, .int (i1 + (-1)), .int (i2 + 1), .null, .null]) (by repeat (first | exact trivial | refine ⟨rfl, ?_⟩ | exact lle_nil)) ?_
                  exact h9
                · have h9 := h9.2 c_30
                  refine r_iconst (v := 0) d_Mod_faultOf_99 (by decide) ?_
                  refine r_goto d_Mod_faultOf_100 ?_
                  refine r_iadd d_Mod_faultOf_104 ?_
                  refine r_istore_n d_Mod_faultOf_105 (by decide) ?_
                  refine r_iinc (v := i2 + 1) d_Mod_faultOf_106 rfl rfl (by decide) ?_
                  refine r_goto d_Mod_faultOf_109 ?_
                  refine r_weak (lv' := [.ref 516, .int (i1 + 0), .int (i2 + 1), .null, .null]) (by repeat (first | exact trivial | refine ⟨rfl, ?_⟩ | exact lle_nil)) ?_
                  exact h9
              · have h9 := h9.1 c_29
                refine r_iconst (v := 1) d_Mod_faultOf_90 (by decide) ?_
                refine r_goto d_Mod_faultOf_91 ?_
                refine r_iadd d_Mod_faultOf_104 ?_
                refine r_istore_n d_Mod_faultOf_105 (by decide) ?_
                refine r_iinc (v := i2 + 1) d_Mod_faultOf_106 rfl rfl (by decide) ?_
                refine r_goto d_Mod_faultOf_109 ?_
                refine r_weak (lv' := [.ref 516, .int (i1 + 1), .int (i2 + 1), .null, .null]) (by repeat (first | exact trivial | refine ⟨rfl, ?_⟩ | exact lle_nil)) ?_
                exact h9
            · have h9 := h9.1 c_28
              refine r_iload_n d_Mod_faultOf_66 rfl ?_
              refine r_sipush (v := 301) d_Mod_faultOf_67 (by decide) ?_
              refine r_ic_eq d_Mod_faultOf_70 (fun c_31 => ?_) (fun c_31 => ?_)
              · have h9 := h9.1 c_31
                refine r_iload_n d_Mod_faultOf_82 rfl ?_
                refine r_iload_n d_Mod_faultOf_83 rfl ?_
                refine r_sipush (v := 301) d_Mod_faultOf_84 (by decide) ?_
                refine r_ic_ne d_Mod_faultOf_87 (fun c_32 => ?_) (fun c_32 => ?_)
                · have h9 := h9.2 c_32
                  refine r_iload d_Mod_faultOf_94 rfl ?_
                  refine r_if_eq d_Mod_faultOf_96 (fun c_33 => ?_) (fun c_33 => ?_)
                  · have h9 := h9.1 c_33
                    refine r_iconst (v := (-1)) d_Mod_faultOf_103 (by decide) ?_
                    refine r_iadd d_Mod_faultOf_104 ?_
                    refine r_istore_n d_Mod_faultOf_105 (by decide) ?_
                    refine r_iinc (v := i2 + 1) d_Mod_faultOf_106 rfl rfl (by decide) ?_
                    refine r_goto d_Mod_faultOf_109 ?_
                    refine r_weak (lv' := [.ref 516, .int (i1 + (-1)), .int (i2 + 1), .null, .null]) (by repeat (first | exact trivial | refine ⟨rfl, ?_⟩ | exact lle_nil)) ?_
                    exact h9
                  · have h9 := h9.2 c_33
                    refine r_iconst (v := 0) d_Mod_faultOf_99 (by decide) ?_
                    refine r_goto d_Mod_faultOf_100 ?_
                    refine r_iadd d_Mod_faultOf_104 ?_
                    refine r_istore_n d_Mod_faultOf_105 (by decide) ?_
                    refine r_iinc (v := i2 + 1) d_Mod_faultOf_106 rfl rfl (by decide) ?_
                    refine r_goto d_Mod_faultOf_109 ?_
                    refine r_weak (lv' := [.ref 516, .int (i1 + 0), .int (i2 + 1), .null, .null]) (by repeat (first | exact trivial | refine ⟨rfl, ?_⟩ | exact lle_nil)) ?_
                    exact h9
                · have h9 := h9.1 c_32
                  refine r_iconst (v := 1) d_Mod_faultOf_90 (by decide) ?_
                  refine r_goto d_Mod_faultOf_91 ?_
                  refine r_iadd d_Mod_faultOf_104 ?_
                  refine r_istore_n d_Mod_faultOf_105 (by decide) ?_
                  refine r_iinc (v := i2 + 1) d_Mod_faultOf_106 rfl rfl (by decide) ?_
                  refine r_goto d_Mod_faultOf_109 ?_
                  refine r_weak (lv' := [.ref 516, .int (i1 + 1), .int (i2 + 1), .null, .null]) (by repeat (first | exact trivial | refine ⟨rfl, ?_⟩ | exact lle_nil)) ?_
                  exact h9
              · have h9 := h9.2 c_31
                refine r_iload_n d_Mod_faultOf_73 rfl ?_
                refine x_callS (as := [.int (M 519 i2.toNatClampNeg)]) (st := []) d_Mod_faultOf_74 ml_Mod_79 mc_Mod_isPoint ms_Mod_isPoint ⟨by decide, by decide⟩ rfl (Nat.le_of_ble_eq_true rfl) (Nat.le_of_ble_eq_true rfl) (Q1 := fun r M1 L1 => some (.int (bI (0 ≤ (M 519 i2.toNatClampNeg) ∧ (M 519 i2.toNatClampNeg) ≤ 31))) = r ∧ M = M1 ∧ L = L1) (L_Mod_isPoint_0 ⟨rfl, rfl, rfl⟩) ?_
                rintro _ _ _ ⟨rfl, rfl, rfl⟩
                refine r_if_ne d_Mod_faultOf_77 (fun c_34 => ?_) (fun c_34 => ?_)
                · have h9 := h9.1 (bI_p1 c_34)
                  refine r_iload_n d_Mod_faultOf_82 rfl ?_
                  refine r_iload_n d_Mod_faultOf_83 rfl ?_
                  refine r_sipush (v := 301) d_Mod_faultOf_84 (by decide) ?_
                  refine r_ic_ne d_Mod_faultOf_87 (fun c_35 => ?_) (fun c_35 => ?_)
                  · have h9 := h9.2 c_35
                    refine r_iload d_Mod_faultOf_94 rfl ?_
                    refine r_if_eq d_Mod_faultOf_96 (fun c_36 => ?_) (fun c_36 => ?_)
                    · have h9 := h9.1 c_36
                      refine r_iconst (v := (-1)) d_Mod_faultOf_103 (by decide) ?_
                      refine r_iadd d_Mod_faultOf_104 ?_
                      refine r_istore_n d_Mod_faultOf_105 (by decide) ?_
                      refine r_iinc (v := i2 + 1) d_Mod_faultOf_106 rfl rfl (by decide) ?_
                      refine r_goto d_Mod_faultOf_109 ?_
                      refine r_weak (lv' := [.ref 516, .int (i1 + (-1)), .int (i2 + 1), .null, .null]) (by repeat (first | exact trivial | refine ⟨rfl, ?_⟩ | exact lle_nil)) ?_
                      exact h9
                    · have h9 := h9.2 c_36
                      refine r_iconst (v := 0) d_Mod_faultOf_99 (by decide) ?_
                      refine r_goto d_Mod_faultOf_100 ?_
                      refine r_iadd d_Mod_faultOf_104 ?_
                      refine r_istore_n d_Mod_faultOf_105 (by decide) ?_
                      refine r_iinc (v := i2 + 1) d_Mod_faultOf_106 rfl rfl (by decide) ?_
                      refine r_goto d_Mod_faultOf_109 ?_
                      refine r_weak (lv' := [.ref 516, .int (i1 + 0), .int (i2 + 1), .null, .null]) (by repeat (first | exact trivial | refine ⟨rfl, ?_⟩ | exact lle_nil)) ?_
                      exact h9
                  · have h9 := h9.1 c_35
                    refine r_iconst (v := 1) d_Mod_faultOf_90 (by decide) ?_
                    refine r_goto d_Mod_faultOf_91 ?_
                    refine r_iadd d_Mod_faultOf_104 ?_
                    refine r_istore_n d_Mod_faultOf_105 (by decide) ?_
                    refine r_iinc (v := i2 + 1) d_Mod_faultOf_106 rfl rfl (by decide) ?_
                    refine r_goto d_Mod_faultOf_109 ?_
                    refine r_weak (lv' := [.ref 516, .int (i1 + 1), .int (i2 + 1), .null, .null]) (by repeat (first | exact trivial | refine ⟨rfl, ?_⟩ | exact lle_nil)) ?_
                    exact h9
                · have h9 := h9.2 (bI_p0 c_34)
                  refine r_iload_n d_Mod_faultOf_80 rfl ?_
                  exact r_iret ⟨d_Mod_faultOf_81, _, rfl, rfl⟩ ⟨_, _, rfl, h9⟩
        · have h9 := h9.1 c_26
          refine r_iconst (v := 1) d_Mod_faultOf_50 (by decide) ?_
          refine r_goto d_Mod_faultOf_51 ?_
          refine r_istore d_Mod_faultOf_55 (by decide) ?_
          refine r_iload_n d_Mod_faultOf_57 rfl ?_
          refine r_if_eq d_Mod_faultOf_58 (fun c_37 => ?_) (fun c_37 => ?_)
          · have h9 := h9.1 c_37
            refine r_iload_n d_Mod_faultOf_80 rfl ?_
            exact r_iret ⟨d_Mod_faultOf_81, _, rfl, rfl⟩ ⟨_, _, rfl, h9⟩
          · have h9 := h9.2 c_37
            refine r_iload d_Mod_faultOf_61 rfl ?_
            refine r_if_ne d_Mod_faultOf_63 (fun c_38 => ?_) (fun c_38 => ?_)
            · have h9 := h9.2 c_38
              refine r_iload_n d_Mod_faultOf_82 rfl ?_
              refine r_iload_n d_Mod_faultOf_83 rfl ?_
              refine r_sipush (v := 301) d_Mod_faultOf_84 (by decide) ?_
              refine r_ic_ne d_Mod_faultOf_87 (fun c_39 => ?_) (fun c_39 => ?_)
              · have h9 := h9.2 c_39
                refine r_iload d_Mod_faultOf_94 rfl ?_
                refine r_if_eq d_Mod_faultOf_96 (fun c_40 => ?_) (fun c_40 => ?_)
                · have h9 := h9.1 c_40
                  refine r_iconst (v := (-1)) d_Mod_faultOf_103 (by decide) ?_
                  refine r_iadd d_Mod_faultOf_104 ?_
                  refine r_istore_n d_Mod_faultOf_105 (by decide) ?_
                  refine r_iinc (v := i2 + 1) d_Mod_faultOf_106 rfl rfl (by decide) ?_
                  refine r_goto d_Mod_faultOf_109 ?_
                  refine r_weak (lv' := [.ref 516, .int (i1 + (-1)), .int (i2 + 1), .null, .null]) (by repeat (first | exact trivial | refine ⟨rfl, ?_⟩ | exact lle_nil)) ?_
                  exact h9
                · have h9 := h9.2 c_40
                  refine r_iconst (v := 0) d_Mod_faultOf_99 (by decide) ?_
                  refine r_goto d_Mod_faultOf_100 ?_
                  refine r_iadd d_Mod_faultOf_104 ?_
                  refine r_istore_n d_Mod_faultOf_105 (by decide) ?_
                  refine r_iinc (v := i2 + 1) d_Mod_faultOf_106 rfl rfl (by decide) ?_
                  refine r_goto d_Mod_faultOf_109 ?_
                  refine r_weak (lv' := [.ref 516, .int (i1 + 0), .int (i2 + 1), .null, .null]) (by repeat (first | exact trivial | refine ⟨rfl, ?_⟩ | exact lle_nil)) ?_
                  exact h9
              · have h9 := h9.1 c_39
                refine r_iconst (v := 1) d_Mod_faultOf_90 (by decide) ?_
                refine r_goto d_Mod_faultOf_91 ?_
                refine r_iadd d_Mod_faultOf_104 ?_
                refine r_istore_n d_Mod_faultOf_105 (by decide) ?_
                refine r_iinc (v := i2 + 1) d_Mod_faultOf_106 rfl rfl (by decide) ?_
                refine r_goto d_Mod_faultOf_109 ?_
                refine r_weak (lv' := [.ref 516, .int (i1 + 1), .int (i2 + 1), .null, .null]) (by repeat (first | exact trivial | refine ⟨rfl, ?_⟩ | exact lle_nil)) ?_
                exact h9
            · have h9 := h9.1 c_38
              refine r_iload_n d_Mod_faultOf_66 rfl ?_
              refine r_sipush (v := 301) d_Mod_faultOf_67 (by decide) ?_
              refine r_ic_eq d_Mod_faultOf_70 (fun c_41 => ?_) (fun c_41 => ?_)
              · have h9 := h9.1 c_41
                refine r_iload_n d_Mod_faultOf_82 rfl ?_
                refine r_iload_n d_Mod_faultOf_83 rfl ?_
                refine r_sipush (v := 301) d_Mod_faultOf_84 (by decide) ?_
                refine r_ic_ne d_Mod_faultOf_87 (fun c_42 => ?_) (fun c_42 => ?_)
                · have h9 := h9.2 c_42
                  refine r_iload d_Mod_faultOf_94 rfl ?_
                  refine r_if_eq d_Mod_faultOf_96 (fun c_43 => ?_) (fun c_43 => ?_)
                  · have h9 := h9.1 c_43
                    refine r_iconst (v := (-1)) d_Mod_faultOf_103 (by decide) ?_
                    refine r_iadd d_Mod_faultOf_104 ?_
                    refine r_istore_n d_Mod_faultOf_105 (by decide) ?_
                    refine r_iinc (v := i2 + 1) d_Mod_faultOf_106 rfl rfl (by decide) ?_
                    refine r_goto d_Mod_faultOf_109 ?_
                    refine r_weak (lv' := [.ref 516, .int (i1 + (-1)), .int (i2 + 1), .null, .null]) (by repeat (first | exact trivial | refine ⟨rfl, ?_⟩ | exact lle_nil)) ?_
                    exact h9
                  · have h9 := h9.2 c_43
                    refine r_iconst (v := 0) d_Mod_faultOf_99 (by decide) ?_
                    refine r_goto d_Mod_faultOf_100 ?_
                    refine r_iadd d_Mod_faultOf_104 ?_
                    refine r_istore_n d_Mod_faultOf_105 (by decide) ?_
                    refine r_iinc (v := i2 + 1) d_Mod_faultOf_106 rfl rfl (by decide) ?_
                    refine r_goto d_Mod_faultOf_109 ?_
                    refine r_weak (lv' := [.ref 516, .int (i1 + 0), .int (i2 + 1), .null, .null]) (by repeat (first | exact trivial | refine ⟨rfl, ?_⟩ | exact lle_nil)) ?_
                    exact h9
                · have h9 := h9.1 c_42
                  refine r_iconst (v := 1) d_Mod_faultOf_90 (by decide) ?_
                  refine r_goto d_Mod_faultOf_91 ?_
                  refine r_iadd d_Mod_faultOf_104 ?_
                  refine r_istore_n d_Mod_faultOf_105 (by decide) ?_
                  refine r_iinc (v := i2 + 1) d_Mod_faultOf_106 rfl rfl (by decide) ?_
                  refine r_goto d_Mod_faultOf_109 ?_
                  refine r_weak (lv' := [.ref 516, .int (i1 + 1), .int (i2 + 1), .null, .null]) (by repeat (first | exact trivial | refine ⟨rfl, ?_⟩ | exact lle_nil)) ?_
                  exact h9
              · have h9 := h9.2 c_41
                refine r_iload_n d_Mod_faultOf_73 rfl ?_
                refine x_callS (as := [.int (M 519 i2.toNatClampNeg)]) (st := []) d_Mod_faultOf_74 ml_Mod_79 mc_Mod_isPoint ms_Mod_isPoint ⟨by decide, by decide⟩ rfl (Nat.le_of_ble_eq_true rfl) (Nat.le_of_ble_eq_true rfl) (Q1 := fun r M1 L1 => some (.int (bI (0 ≤ (M 519 i2.toNatClampNeg) ∧ (M 519 i2.toNatClampNeg) ≤ 31))) = r ∧ M = M1 ∧ L = L1) (L_Mod_isPoint_0 ⟨rfl, rfl, rfl⟩) ?_
                rintro _ _ _ ⟨rfl, rfl, rfl⟩
                refine r_if_ne d_Mod_faultOf_77 (fun c_44 => ?_) (fun c_44 => ?_)
                · have h9 := h9.1 (bI_p1 c_44)
                  refine r_iload_n d_Mod_faultOf_82 rfl ?_
                  refine r_iload_n d_Mod_faultOf_83 rfl ?_
                  refine r_sipush (v := 301) d_Mod_faultOf_84 (by decide) ?_
                  refine r_ic_ne d_Mod_faultOf_87 (fun c_45 => ?_) (fun c_45 => ?_)
                  · have h9 := h9.2 c_45
                    refine r_iload d_Mod_faultOf_94 rfl ?_
                    refine r_if_eq d_Mod_faultOf_96 (fun c_46 => ?_) (fun c_46 => ?_)
                    · have h9 := h9.1 c_46
                      refine r_iconst (v := (-1)) d_Mod_faultOf_103 (by decide) ?_
                      refine r_iadd d_Mod_faultOf_104 ?_
                      refine r_istore_n d_Mod_faultOf_105 (by decide) ?_
                      refine r_iinc (v := i2 + 1) d_Mod_faultOf_106 rfl rfl (by decide) ?_
                      refine r_goto d_Mod_faultOf_109 ?_
                      refine r_weak (lv' := [.ref 516, .int (i1 + (-1)), .int (i2 + 1), .null, .null]) (by repeat (first | exact trivial | refine ⟨rfl, ?_⟩ | exact lle_nil)) ?_
                      exact h9
                    · have h9 := h9.2 c_46
                      refine r_iconst (v := 0) d_Mod_faultOf_99 (by decide) ?_
                      refine r_goto d_Mod_faultOf_100 ?_
                      refine r_iadd d_Mod_faultOf_104 ?_
                      refine r_istore_n d_Mod_faultOf_105 (by decide) ?_
                      refine r_iinc (v := i2 + 1) d_Mod_faultOf_106 rfl rfl (by decide) ?_
                      refine r_goto d_Mod_faultOf_109 ?_
                      refine r_weak (lv' := [.ref 516, .int (i1 + 0), .int (i2 + 1), .null, .null]) (by repeat (first | exact trivial | refine ⟨rfl, ?_⟩ | exact lle_nil)) ?_
                      exact h9
                  · have h9 := h9.1 c_45
                    refine r_iconst (v := 1) d_Mod_faultOf_90 (by decide) ?_
                    refine r_goto d_Mod_faultOf_91 ?_
                    refine r_iadd d_Mod_faultOf_104 ?_
                    refine r_istore_n d_Mod_faultOf_105 (by decide) ?_
                    refine r_iinc (v := i2 + 1) d_Mod_faultOf_106 rfl rfl (by decide) ?_
                    refine r_goto d_Mod_faultOf_109 ?_
                    refine r_weak (lv' := [.ref 516, .int (i1 + 1), .int (i2 + 1), .null, .null]) (by repeat (first | exact trivial | refine ⟨rfl, ?_⟩ | exact lle_nil)) ?_
                    exact h9
                · have h9 := h9.2 (bI_p0 c_44)
                  refine r_iload_n d_Mod_faultOf_80 rfl ?_
                  exact r_iret ⟨d_Mod_faultOf_81, _, rfl, rfl⟩ ⟨_, _, rfl, h9⟩
theorem L_Mod_told_0 {xs : List Int32}  {M : Mem} {L : Int64} {Q : Option Value → Mem → Int64 → Prop} 
    (h : RX xs shL md_Mod_faultOf 0 [.ref 516] [] M L (fun r M_1 L_2 => ∃ v_3 : Int32, r = some (.int v_3) ∧ ((v_3 = (-1) → RX xs shL md_Mod_told 20 [.ref 516, .int 0, .int ((M_1 516 2) - 1), .null, .null, .null] [] M_1 L_2 Q) ∧ (¬ (v_3 = (-1)) → Q (some (.int (-103))) M_1 L_2)))) : RX xs shL md_Mod_told 0 [.ref 516] [] M L Q := by
  refine r_weak (lv' := [.ref 516, .null, .null, .null, .null, .null]) (by repeat (first | exact trivial | refine ⟨rfl, ?_⟩ | exact lle_nil)) ?_
  refine r_aload_n d_Mod_told_0 rfl ?_
  refine x_callV (as := []) (st := []) d_Mod_told_1 ml_Mod_108 mc_Mod_faultOf mv_Mod_faultOf ⟨by decide, by decide⟩ gO_516 ⟨_, rfl, rfl⟩ rfl (Nat.le_of_ble_eq_true rfl) (Nat.le_of_ble_eq_true rfl) h ?_
  rintro _ M_1 L_2 ⟨v_3, rfl, h9⟩
  refine r_iconst (v := (-1)) d_Mod_told_4 (by decide) ?_
  refine r_ic_eq d_Mod_told_5 (fun c_4 => ?_) (fun c_4 => ?_)
  · have h9 := h9.1 c_4
    refine r_iconst (v := 0) d_Mod_told_11 (by decide) ?_
    refine r_istore_n d_Mod_told_12 (by decide) ?_
    refine r_aload_n d_Mod_told_13 rfl ?_
    refine x_getI d_Mod_told_14 fl_Mod_105 gI_516_2 ?_
    refine r_iconst (v := 1) d_Mod_told_17 (by decide) ?_
    refine r_isub d_Mod_told_18 ?_
    refine r_istore_n d_Mod_told_19 (by decide) ?_
    exact h9
  · have h9 := h9.2 c_4
    refine r_bipush (v := (-103)) d_Mod_told_8 (by decide) ?_
    exact r_iret ⟨d_Mod_told_10, _, rfl, rfl⟩ ⟨_, _, rfl, h9⟩
set_option maxHeartbeats 4000000 in
theorem L_Mod_told_20 {xs : List Int32} {i1 : Int32} {i2 : Int32} {M : Mem} {L : Int64} {Q : Option Value → Mem → Int64 → Prop} 
    (h : ((i2 < 0 → Q (some (.int (M 526 0))) M L) ∧ (¬ (i2 < 0) → (vp_in i2 24 ∧ (((0 ≤ (M 519 i2.toNatClampNeg) ∧ (M 519 i2.toNatClampNeg) ≤ 31) → (vp_in i1 24 ∧ RX xs shL md_Mod_told 20 [.ref 516, .int (i1 + 1), .int (i2 + (-1)), .null, .null, .null] [] (up M 526 i1.toNatClampNeg (M 519 i2.toNatClampNeg)) L Q)) ∧ (¬ (0 ≤ (M 519 i2.toNatClampNeg) ∧ (M 519 i2.toNatClampNeg) ≤ 31) → (((M 519 i2.toNatClampNeg) = 301 → (vp_in (i1 - 1) 24 ∧ (vp_in (i1 - 2) 24 ∧ (vp_in ((i1 + (-1)) - 1) 24 ∧ RX xs shL md_Mod_told 20 [.ref 516, .int (i1 + (-1)), .int (i2 + (-1)), .null, .null, .null] [] (up M 526 (((i1 + (-1)) - 1).toNatClampNeg) (((M 526 ((i1 - 1).toNatClampNeg)) + (((((M 526 ((i1 - 2).toNatClampNeg)) - (M 526 ((i1 - 1).toNatClampNeg))) + 32) - (((M 526 ((i1 - 2).toNatClampNeg)) - (M 526 ((i1 - 1).toNatClampNeg))) + 32) / 32 * 32) / 2)) - ((M 526 ((i1 - 1).toNatClampNeg)) + (((((M 526 ((i1 - 2).toNatClampNeg)) - (M 526 ((i1 - 1).toNatClampNeg))) + 32) - (((M 526 ((i1 - 2).toNatClampNeg)) - (M 526 ((i1 - 1).toNatClampNeg))) + 32) / 32 * 32) / 2)) / 32 * 32)) L Q)))) ∧ (¬ ((M 519 i2.toNatClampNeg) = 301) → (((M 519 i2.toNatClampNeg) = 300 → (vp_in (i1 - 1) 24 ∧ RX xs shL md_Mod_told 20 [.ref 516, .int i1, .int (i2 + (-1)), .null, .null, .null] [] (up M 526 ((i1 - 1).toNatClampNeg) ((((M 526 ((i1 - 1).toNatClampNeg)) + 16) + 32) - (((M 526 ((i1 - 1).toNatClampNeg)) + 16) + 32) / 32 * 32)) L Q)) ∧ (¬ ((M 519 i2.toNatClampNeg) = 300) → (((M 519 i2.toNatClampNeg) ≤ 200 → (vp_in (i1 - 1) 24 ∧ RX xs shL md_Mod_told 20 [.ref 516, .int i1, .int (i2 + (-1)), .null, .null, .null] [] (up M 526 ((i1 - 1).toNatClampNeg) ((((M 526 ((i1 - 1).toNatClampNeg)) + ((M 519 i2.toNatClampNeg) - 100)) + 32) - (((M 526 ((i1 - 1).toNatClampNeg)) + ((M 519 i2.toNatClampNeg) - 100)) + 32) / 32 * 32)) L Q)) ∧ (¬ ((M 519 i2.toNatClampNeg) ≤ 200) → (vp_in (i1 - 1) 24 ∧ RX xs shL md_Mod_told 20 [.ref 516, .int i1, .int (i2 + (-1)), .null, .null, .null] [] (up M 526 ((i1 - 1).toNatClampNeg) ((((M 526 ((i1 - 1).toNatClampNeg)) + (200 - (M 519 i2.toNatClampNeg))) + 32) - (((M 526 ((i1 - 1).toNatClampNeg)) + (200 - (M 519 i2.toNatClampNeg))) + 32) / 32 * 32)) L Q))))))))))))) : RX xs shL md_Mod_told 20 [.ref 516, .int i1, .int i2, .null, .null, .null] [] M L Q := by
  refine r_iload_n d_Mod_told_20 rfl ?_
  refine r_if_lt d_Mod_told_21 (fun c_5 => ?_) (fun c_5 => ?_)
  · have h9 := h.1 c_5
    refine r_aload_n d_Mod_told_171 rfl ?_
    refine x_getR d_Mod_told_172 fl_Mod_48 gR_516_25 ?_
    refine r_iconst (v := 0) d_Mod_told_175 (by decide) ?_
    refine x_iald d_Mod_told_176 aI_526 (by unfold vp_in; decide) ?_
    exact r_iret ⟨d_Mod_told_177, _, rfl, rfl⟩ ⟨_, _, rfl, h9⟩
  · have h9 := h.2 c_5
    refine r_aload_n d_Mod_told_24 rfl ?_
    refine x_getR d_Mod_told_25 fl_Mod_16 gR_516_3 ?_
    refine r_iload_n d_Mod_told_28 rfl ?_
    obtain ⟨o_6, h9⟩ := h9
    refine x_iald d_Mod_told_29 aI_519 o_6 ?_
    refine r_istore_n d_Mod_told_30 (by decide) ?_
    refine r_iload_n d_Mod_told_31 rfl ?_
    refine x_callS (as := [.int (M 519 i2.toNatClampNeg)]) (st := []) d_Mod_told_32 ml_Mod_79 mc_Mod_isPoint ms_Mod_isPoint ⟨by decide, by decide⟩ rfl (Nat.le_of_ble_eq_true rfl) (Nat.le_of_ble_eq_true rfl) (Q1 := fun r M1 L1 => some (.int (bI (0 ≤ (M 519 i2.toNatClampNeg) ∧ (M 519 i2.toNatClampNeg) ≤ 31))) = r ∧ M = M1 ∧ L = L1) (L_Mod_isPoint_0 ⟨rfl, rfl, rfl⟩) ?_
    rintro _ _ _ ⟨rfl, rfl, rfl⟩
    refine r_if_eq d_Mod_told_35 (fun c_7 => ?_) (fun c_7 => ?_)
    · have h9 := h9.2 (bI_p0 c_7)
      refine r_iload_n d_Mod_told_51 rfl ?_
      refine r_sipush (v := 301) d_Mod_told_52 (by decide) ?_
      refine r_ic_ne d_Mod_told_55 (fun c_8 => ?_) (fun c_8 => ?_)
      · have h9 := h9.2 c_8
        refine r_iload_n d_Mod_told_107 rfl ?_
        refine r_sipush (v := 300) d_Mod_told_108 (by decide) ?_
        refine r_ic_ne d_Mod_told_111 (fun c_9 => ?_) (fun c_9 => ?_)
        · have h9 := h9.2 c_9
          refine r_iload_n d_Mod_told_119 rfl ?_
          refine r_sipush (v := 200) d_Mod_told_120 (by decide) ?_
          refine r_ic_le d_Mod_told_123 (fun c_10 => ?_) (fun c_10 => ?_)
          · have h9 := h9.1 c_10
            refine r_iload_n d_Mod_told_134 rfl ?_
            refine r_bipush (v := 100) d_Mod_told_135 (by decide) ?_
            refine r_isub d_Mod_told_137 ?_
            refine r_istore d_Mod_told_138 (by decide) ?_
            refine r_aload_n d_Mod_told_140 rfl ?_
            refine x_getR d_Mod_told_141 fl_Mod_48 gR_516_25 ?_
            refine r_iload_n d_Mod_told_144 rfl ?_
            refine r_iconst (v := 1) d_Mod_told_145 (by decide) ?_
            refine r_isub d_Mod_told_146 ?_
            refine r_aload_n d_Mod_told_147 rfl ?_
            refine x_getR d_Mod_told_148 fl_Mod_48 gR_516_25 ?_
            refine r_iload_n d_Mod_told_151 rfl ?_
            refine r_iconst (v := 1) d_Mod_told_152 (by decide) ?_
            refine r_isub d_Mod_told_153 ?_
            obtain ⟨o_11, h9⟩ := h9
            refine x_iald d_Mod_told_154 aI_526 o_11 ?_
            refine r_iload d_Mod_told_155 rfl ?_
            refine r_iadd d_Mod_told_157 ?_
            refine r_bipush (v := 32) d_Mod_told_158 (by decide) ?_
            refine r_iadd d_Mod_told_160 ?_
            refine r_bipush (v := 32) d_Mod_told_161 (by decide) ?_
            refine r_irem d_Mod_told_163 (by decide) ?_
            refine x_iast d_Mod_told_164 aI_526 o_11 ?_
            refine r_iinc (v := i2 + (-1)) d_Mod_told_165 rfl rfl (by decide) ?_
            refine r_goto d_Mod_told_168 ?_
            refine r_weak (lv' := [.ref 516, .int i1, .int (i2 + (-1)), .null, .null, .null]) (by repeat (first | exact trivial | refine ⟨rfl, ?_⟩ | exact lle_nil)) ?_
            exact h9
          · have h9 := h9.2 c_10
            refine r_sipush (v := 200) d_Mod_told_126 (by decide) ?_
            refine r_iload_n d_Mod_told_129 rfl ?_
            refine r_isub d_Mod_told_130 ?_
            refine r_goto d_Mod_told_131 ?_
            refine r_istore d_Mod_told_138 (by decide) ?_
            refine r_aload_n d_Mod_told_140 rfl ?_
            refine x_getR d_Mod_told_141 fl_Mod_48 gR_516_25 ?_
            refine r_iload_n d_Mod_told_144 rfl ?_
            refine r_iconst (v := 1) d_Mod_told_145 (by decide) ?_
            refine r_isub d_Mod_told_146 ?_
            refine r_aload_n d_Mod_told_147 rfl ?_
            refine x_getR d_Mod_told_148 fl_Mod_48 gR_516_25 ?_
            refine r_iload_n d_Mod_told_151 rfl ?_
            refine r_iconst (v := 1) d_Mod_told_152 (by decide) ?_
            refine r_isub d_Mod_told_153 ?_
            obtain ⟨o_12, h9⟩ := h9
            refine x_iald d_Mod_told_154 aI_526 o_12 ?_
            refine r_iload d_Mod_told_155 rfl ?_
            refine r_iadd d_Mod_told_157 ?_
            refine r_bipush (v := 32) d_Mod_told_158 (by decide) ?_
            refine r_iadd d_Mod_told_160 ?_
            refine r_bipush (v := 32) d_Mod_told_161 (by decide) ?_
            refine r_irem d_Mod_told_163 (by decide) ?_
            refine x_iast d_Mod_told_164 aI_526 o_12 ?_
            refine r_iinc (v := i2 + (-1)) d_Mod_told_165 rfl rfl (by decide) ?_
            refine r_goto d_Mod_told_168 ?_
            refine r_weak (lv' := [.ref 516, .int i1, .int (i2 + (-1)), .null, .null, .null]) (by repeat (first | exact trivial | refine ⟨rfl, ?_⟩ | exact lle_nil)) ?_
            exact h9
        · have h9 := h9.1 c_9
          refine r_bipush (v := 16) d_Mod_told_114 (by decide) ?_
          refine r_goto d_Mod_told_116 ?_
          refine r_istore d_Mod_told_138 (by decide) ?_
          refine r_aload_n d_Mod_told_140 rfl ?_
          refine x_getR d_Mod_told_141 fl_Mod_48 gR_516_25 ?_
          refine r_iload_n d_Mod_told_144 rfl ?_
          refine r_iconst (v := 1) d_Mod_told_145 (by decide) ?_
          refine r_isub d_Mod_told_146 ?_
          refine r_aload_n d_Mod_told_147 rfl ?_
          refine x_getR d_Mod_told_148 fl_Mod_48 gR_516_25 ?_
          refine r_iload_n d_Mod_told_151 rfl ?_
          refine r_iconst (v := 1) d_Mod_told_152 (by decide) ?_
          refine r_isub d_Mod_told_153 ?_
          obtain ⟨o_13, h9⟩ := h9
          refine x_iald d_Mod_told_154 aI_526 o_13 ?_
          refine r_iload d_Mod_told_155 rfl ?_
          refine r_iadd d_Mod_told_157 ?_
          refine r_bipush (v := 32) d_Mod_told_158 (by decide) ?_
          refine r_iadd d_Mod_told_160 ?_
          refine r_bipush (v := 32) d_Mod_told_161 (by decide) ?_
          refine r_irem d_Mod_told_163 (by decide) ?_
          refine x_iast d_Mod_told_164 aI_526 o_13 ?_
          refine r_iinc (v := i2 + (-1)) d_Mod_told_165 rfl rfl (by decide) ?_
          refine r_goto d_Mod_told_168 ?_
          refine r_weak (lv' := [.ref 516, .int i1, .int (i2 + (-1)), .null, .null, .null]) (by repeat (first | exact trivial | refine ⟨rfl, ?_⟩ | exact lle_nil)) ?_
          exact h9
      · have h9 := h9.1 c_8
        refine r_aload_n d_Mod_told_58 rfl ?_
        refine x_getR d_Mod_told_59 fl_Mod_48 gR_516_25 ?_
        refine r_iload_n d_Mod_told_62 rfl ?_
        refine r_iconst (v := 1) d_Mod_told_63 (by decide) ?_
        refine r_isub d_Mod_told_64 ?_
        obtain ⟨o_14, h9⟩ := h9
        refine x_iald d_Mod_told_65 aI_526 o_14 ?_
        refine r_istore d_Mod_told_66 (by decide) ?_
        refine r_aload_n d_Mod_told_68 rfl ?_
        refine x_getR d_Mod_told_69 fl_Mod_48 gR_516_25 ?_
        refine r_iload_n d_Mod_told_72 rfl ?_
        refine r_iconst (v := 2) d_Mod_told_73 (by decide) ?_
        refine r_isub d_Mod_told_74 ?_
        obtain ⟨o_15, h9⟩ := h9
        refine x_iald d_Mod_told_75 aI_526 o_15 ?_
        refine r_istore d_Mod_told_76 (by decide) ?_
        refine r_iinc (v := i1 + (-1)) d_Mod_told_78 rfl rfl (by decide) ?_
        refine r_aload_n d_Mod_told_81 rfl ?_
        refine x_getR d_Mod_told_82 fl_Mod_48 gR_516_25 ?_
        refine r_iload_n d_Mod_told_85 rfl ?_
        refine r_iconst (v := 1) d_Mod_told_86 (by decide) ?_
        refine r_isub d_Mod_told_87 ?_
        refine r_iload d_Mod_told_88 rfl ?_
        refine r_iload d_Mod_told_90 rfl ?_
        refine r_iload d_Mod_told_92 rfl ?_
        refine x_callS (as := [.int (M 526 ((i1 - 1).toNatClampNeg)), .int (M 526 ((i1 - 2).toNatClampNeg))]) (st := [.int (M 526 ((i1 - 1).toNatClampNeg)), .int ((i1 + (-1)) - 1), .ref 526]) d_Mod_told_94 ml_Mod_94 mc_Mod_turnsOf ms_Mod_turnsOf ⟨by decide, by decide⟩ rfl (Nat.le_of_ble_eq_true rfl) (Nat.le_of_ble_eq_true rfl) (Q1 := fun r M1 L1 => some (.int ((((M 526 ((i1 - 2).toNatClampNeg)) - (M 526 ((i1 - 1).toNatClampNeg))) + 32) - (((M 526 ((i1 - 2).toNatClampNeg)) - (M 526 ((i1 - 1).toNatClampNeg))) + 32) / 32 * 32)) = r ∧ M = M1 ∧ L = L1) (s_Mod_turnsOf ⟨rfl, rfl, rfl⟩) ?_
        rintro _ _ _ ⟨rfl, rfl, rfl⟩
        refine r_iconst (v := 2) d_Mod_told_97 (by decide) ?_
        refine r_idiv d_Mod_told_98 (by decide) ?_
        refine r_iadd d_Mod_told_99 ?_
        refine r_bipush (v := 32) d_Mod_told_100 (by decide) ?_
        refine r_irem d_Mod_told_102 (by decide) ?_
        obtain ⟨o_16, h9⟩ := h9
        refine x_iast d_Mod_told_103 aI_526 o_16 ?_
        refine r_goto d_Mod_told_104 ?_
        refine r_iinc (v := i2 + (-1)) d_Mod_told_165 rfl rfl (by decide) ?_
        refine r_goto d_Mod_told_168 ?_
        refine r_weak (lv' := [.ref 516, .int (i1 + (-1)), .int (i2 + (-1)), .null, .null, .null]) (by repeat (first | exact trivial | refine ⟨rfl, ?_⟩ | exact lle_nil)) ?_
        exact h9
    · have h9 := h9.1 (bI_p1 c_7)
      refine r_aload_n d_Mod_told_38 rfl ?_
      refine x_getR d_Mod_told_39 fl_Mod_48 gR_516_25 ?_
      refine r_iload_n d_Mod_told_42 rfl ?_
      refine r_iload_n d_Mod_told_43 rfl ?_
      obtain ⟨o_17, h9⟩ := h9
      refine x_iast d_Mod_told_44 aI_526 o_17 ?_
      refine r_iinc (v := i1 + 1) d_Mod_told_45 rfl rfl (by decide) ?_
      refine r_goto d_Mod_told_48 ?_
      refine r_iinc (v := i2 + (-1)) d_Mod_told_165 rfl rfl (by decide) ?_
      refine r_goto d_Mod_told_168 ?_
      refine r_weak (lv' := [.ref 516, .int (i1 + 1), .int (i2 + (-1)), .null, .null, .null]) (by repeat (first | exact trivial | refine ⟨rfl, ?_⟩ | exact lle_nil)) ?_
      exact h9
theorem L_Mod_peg_0 {xs : List Int32} {i1 : Int32} {i2 : Int32} {i3 : Int32} {M : Mem} {L : Int64} {Q : Option Value → Mem → Int64 → Prop} 
    (h : (((0 ≤ i1 ∧ i1 ≤ (M 516 4) - 1) → ((((0 : Int32) ≤ i2 ∧ i2 ≤ 7) → ((i3 = (-1) → (vp_in ((8 * i1) + i2) 192 ∧ Q (some (.int (M 520 (((8 * i1) + i2).toNatClampNeg)))) (up M 520 (((8 * i1) + i2).toNatClampNeg) i3) L)) ∧ (¬ (i3 = (-1)) → (((0 ≤ i3 ∧ i3 ≤ 31) → (vp_in ((8 * i1) + i2) 192 ∧ Q (some (.int (M 520 (((8 * i1) + i2).toNatClampNeg)))) (up M 520 (((8 * i1) + i2).toNatClampNeg) i3) L)) ∧ (¬ (0 ≤ i3 ∧ i3 ≤ 31) → Q (some (.int (-102))) M L))))) ∧ (¬ ((0 : Int32) ≤ i2 ∧ i2 ≤ 7) → Q (some (.int (-101))) M L))) ∧ (¬ (0 ≤ i1 ∧ i1 ≤ (M 516 4) - 1) → Q (some (.int (-101))) M L))) : RX xs shL md_Mod_peg 0 [.ref 516, .int i1, .int i2, .int i3] [] M L Q := by
  refine r_weak (lv' := [.ref 516, .int i1, .int i2, .int i3, .null]) (by repeat (first | exact trivial | refine ⟨rfl, ?_⟩ | exact lle_nil)) ?_
  refine r_aload_n d_Mod_peg_0 rfl ?_
  refine r_iload_n d_Mod_peg_1 rfl ?_
  refine x_callV (as := [.int i1]) (st := []) d_Mod_peg_2 ml_Mod_115 mc_Mod_isWatch mv_Mod_isWatch ⟨by decide, by decide⟩ gO_516 ⟨_, rfl, rfl⟩ rfl (Nat.le_of_ble_eq_true rfl) (Nat.le_of_ble_eq_true rfl) (Q1 := fun r M1 L1 => some (.int (bI (0 ≤ i1 ∧ i1 ≤ (M 516 4) - 1))) = r ∧ M = M1 ∧ L = L1) (L_Mod_isWatch_0 ⟨rfl, rfl, rfl⟩) ?_
  rintro _ _ _ ⟨rfl, rfl, rfl⟩
  refine r_if_eq d_Mod_peg_5 (fun c_1 => ?_) (fun c_1 => ?_)
  · have h9 := h.2 (bI_p0 c_1)
    refine r_bipush (v := (-101)) d_Mod_peg_18 (by decide) ?_
    exact r_iret ⟨d_Mod_peg_20, _, rfl, rfl⟩ ⟨_, _, rfl, h9⟩
  · have h9 := h.1 (bI_p1 c_1)
    refine r_iload_n d_Mod_peg_8 rfl ?_
    refine r_iconst (v := 0) d_Mod_peg_9 (by decide) ?_
    refine r_bipush (v := 7) d_Mod_peg_10 (by decide) ?_
    refine x_callS (as := [.int i2, .int 0, .int 7]) (st := []) d_Mod_peg_12 ml_Mod_75 mc_Mod_in ms_Mod_in ⟨by decide, by decide⟩ rfl (Nat.le_of_ble_eq_true rfl) (Nat.le_of_ble_eq_true rfl) (Q1 := fun r M1 L1 => some (.int (bI ((0 : Int32) ≤ i2 ∧ i2 ≤ 7))) = r ∧ M = M1 ∧ L = L1) (s_Mod_in ⟨rfl, rfl, rfl⟩) ?_
    rintro _ _ _ ⟨rfl, rfl, rfl⟩
    refine r_if_ne d_Mod_peg_15 (fun c_2 => ?_) (fun c_2 => ?_)
    · have h9 := h9.1 (bI_p1 c_2)
      refine r_iload_n d_Mod_peg_21 rfl ?_
      refine r_iconst (v := (-1)) d_Mod_peg_22 (by decide) ?_
      refine r_ic_eq d_Mod_peg_23 (fun c_3 => ?_) (fun c_3 => ?_)
      · have h9 := h9.1 c_3
        refine r_aload_n d_Mod_peg_36 rfl ?_
        refine x_getR d_Mod_peg_37 fl_Mod_19 gR_516_5 ?_
        refine r_bipush (v := 8) d_Mod_peg_40 (by decide) ?_
        refine r_iload_n d_Mod_peg_42 rfl ?_
        refine r_imul d_Mod_peg_43 ?_
        refine r_iload_n d_Mod_peg_44 rfl ?_
        refine r_iadd d_Mod_peg_45 ?_
        obtain ⟨o_4, h9⟩ := h9
        refine x_iald d_Mod_peg_46 aI_520 o_4 ?_
        refine r_istore d_Mod_peg_47 (by decide) ?_
        refine r_aload_n d_Mod_peg_49 rfl ?_
        refine x_getR d_Mod_peg_50 fl_Mod_19 gR_516_5 ?_
        refine r_bipush (v := 8) d_Mod_peg_53 (by decide) ?_
        refine r_iload_n d_Mod_peg_55 rfl ?_
        refine r_imul d_Mod_peg_56 ?_
        refine r_iload_n d_Mod_peg_57 rfl ?_
        refine r_iadd d_Mod_peg_58 ?_
        refine r_iload_n d_Mod_peg_59 rfl ?_
        refine x_iast d_Mod_peg_60 aI_520 o_4 ?_
        refine r_iload d_Mod_peg_61 rfl ?_
        exact r_iret ⟨d_Mod_peg_63, _, rfl, rfl⟩ ⟨_, _, rfl, h9⟩
      · have h9 := h9.2 c_3
        refine r_iload_n d_Mod_peg_26 rfl ?_
        refine x_callS (as := [.int i3]) (st := []) d_Mod_peg_27 ml_Mod_79 mc_Mod_isPoint ms_Mod_isPoint ⟨by decide, by decide⟩ rfl (Nat.le_of_ble_eq_true rfl) (Nat.le_of_ble_eq_true rfl) (Q1 := fun r M1 L1 => some (.int (bI (0 ≤ i3 ∧ i3 ≤ 31))) = r ∧ M = M1 ∧ L = L1) (L_Mod_isPoint_0 ⟨rfl, rfl, rfl⟩) ?_
        rintro _ _ _ ⟨rfl, rfl, rfl⟩
        refine r_if_ne d_Mod_peg_30 (fun c_5 => ?_) (fun c_5 => ?_)
        · have h9 := h9.1 (bI_p1 c_5)
          refine r_aload_n d_Mod_peg_36 rfl ?_
          refine x_getR d_Mod_peg_37 fl_Mod_19 gR_516_5 ?_
          refine r_bipush (v := 8) d_Mod_peg_40 (by decide) ?_
          refine r_iload_n d_Mod_peg_42 rfl ?_
          refine r_imul d_Mod_peg_43 ?_
          refine r_iload_n d_Mod_peg_44 rfl ?_
          refine r_iadd d_Mod_peg_45 ?_
          obtain ⟨o_6, h9⟩ := h9
          refine x_iald d_Mod_peg_46 aI_520 o_6 ?_
          refine r_istore d_Mod_peg_47 (by decide) ?_
          refine r_aload_n d_Mod_peg_49 rfl ?_
          refine x_getR d_Mod_peg_50 fl_Mod_19 gR_516_5 ?_
          refine r_bipush (v := 8) d_Mod_peg_53 (by decide) ?_
          refine r_iload_n d_Mod_peg_55 rfl ?_
          refine r_imul d_Mod_peg_56 ?_
          refine r_iload_n d_Mod_peg_57 rfl ?_
          refine r_iadd d_Mod_peg_58 ?_
          refine r_iload_n d_Mod_peg_59 rfl ?_
          refine x_iast d_Mod_peg_60 aI_520 o_6 ?_
          refine r_iload d_Mod_peg_61 rfl ?_
          exact r_iret ⟨d_Mod_peg_63, _, rfl, rfl⟩ ⟨_, _, rfl, h9⟩
        · have h9 := h9.2 (bI_p0 c_5)
          refine r_bipush (v := (-102)) d_Mod_peg_33 (by decide) ?_
          exact r_iret ⟨d_Mod_peg_35, _, rfl, rfl⟩ ⟨_, _, rfl, h9⟩
    · have h9 := h9.2 (bI_p0 c_2)
      refine r_bipush (v := (-101)) d_Mod_peg_18 (by decide) ?_
      exact r_iret ⟨d_Mod_peg_20, _, rfl, rfl⟩ ⟨_, _, rfl, h9⟩
theorem L_Mod_knots_0 {xs : List Int32} {i1 : Int32} {i2 : Int32} {i3 : Int32} {M : Mem} {L : Int64} {Q : Option Value → Mem → Int64 → Prop} 
    (h : (((0 ≤ i1 ∧ i1 ≤ (M 516 4) - 1) → ((((0 : Int32) ≤ i2 ∧ i2 ≤ 3) → ((((0 : Int32) ≤ i3 ∧ i3 ≤ 12) → (vp_in ((4 * i1) + i2) 96 ∧ Q (some (.int (M 521 (((4 * i1) + i2).toNatClampNeg)))) (up M 521 (((4 * i1) + i2).toNatClampNeg) i3) L)) ∧ (¬ ((0 : Int32) ≤ i3 ∧ i3 ≤ 12) → Q (some (.int (-102))) M L))) ∧ (¬ ((0 : Int32) ≤ i2 ∧ i2 ≤ 3) → Q (some (.int (-101))) M L))) ∧ (¬ (0 ≤ i1 ∧ i1 ≤ (M 516 4) - 1) → Q (some (.int (-101))) M L))) : RX xs shL md_Mod_knots 0 [.ref 516, .int i1, .int i2, .int i3] [] M L Q := by
  refine r_weak (lv' := [.ref 516, .int i1, .int i2, .int i3, .null]) (by repeat (first | exact trivial | refine ⟨rfl, ?_⟩ | exact lle_nil)) ?_
  refine r_aload_n d_Mod_knots_0 rfl ?_
  refine r_iload_n d_Mod_knots_1 rfl ?_
  refine x_callV (as := [.int i1]) (st := []) d_Mod_knots_2 ml_Mod_115 mc_Mod_isWatch mv_Mod_isWatch ⟨by decide, by decide⟩ gO_516 ⟨_, rfl, rfl⟩ rfl (Nat.le_of_ble_eq_true rfl) (Nat.le_of_ble_eq_true rfl) (Q1 := fun r M1 L1 => some (.int (bI (0 ≤ i1 ∧ i1 ≤ (M 516 4) - 1))) = r ∧ M = M1 ∧ L = L1) (L_Mod_isWatch_0 ⟨rfl, rfl, rfl⟩) ?_
  rintro _ _ _ ⟨rfl, rfl, rfl⟩
  refine r_if_eq d_Mod_knots_5 (fun c_1 => ?_) (fun c_1 => ?_)
  · have h9 := h.2 (bI_p0 c_1)
    refine r_bipush (v := (-101)) d_Mod_knots_17 (by decide) ?_
    exact r_iret ⟨d_Mod_knots_19, _, rfl, rfl⟩ ⟨_, _, rfl, h9⟩
  · have h9 := h.1 (bI_p1 c_1)
    refine r_iload_n d_Mod_knots_8 rfl ?_
    refine r_iconst (v := 0) d_Mod_knots_9 (by decide) ?_
    refine r_iconst (v := 3) d_Mod_knots_10 (by decide) ?_
    refine x_callS (as := [.int i2, .int 0, .int 3]) (st := []) d_Mod_knots_11 ml_Mod_75 mc_Mod_in ms_Mod_in ⟨by decide, by decide⟩ rfl (Nat.le_of_ble_eq_true rfl) (Nat.le_of_ble_eq_true rfl) (Q1 := fun r M1 L1 => some (.int (bI ((0 : Int32) ≤ i2 ∧ i2 ≤ 3))) = r ∧ M = M1 ∧ L = L1) (s_Mod_in ⟨rfl, rfl, rfl⟩) ?_
    rintro _ _ _ ⟨rfl, rfl, rfl⟩
    refine r_if_ne d_Mod_knots_14 (fun c_2 => ?_) (fun c_2 => ?_)
    · have h9 := h9.1 (bI_p1 c_2)
      refine r_iload_n d_Mod_knots_20 rfl ?_
      refine r_iconst (v := 0) d_Mod_knots_21 (by decide) ?_
      refine r_bipush (v := 12) d_Mod_knots_22 (by decide) ?_
      refine x_callS (as := [.int i3, .int 0, .int 12]) (st := []) d_Mod_knots_24 ml_Mod_75 mc_Mod_in ms_Mod_in ⟨by decide, by decide⟩ rfl (Nat.le_of_ble_eq_true rfl) (Nat.le_of_ble_eq_true rfl) (Q1 := fun r M1 L1 => some (.int (bI ((0 : Int32) ≤ i3 ∧ i3 ≤ 12))) = r ∧ M = M1 ∧ L = L1) (s_Mod_in ⟨rfl, rfl, rfl⟩) ?_
      rintro _ _ _ ⟨rfl, rfl, rfl⟩
      refine r_if_ne d_Mod_knots_27 (fun c_3 => ?_) (fun c_3 => ?_)
      · have h9 := h9.1 (bI_p1 c_3)
        refine r_aload_n d_Mod_knots_33 rfl ?_
        refine x_getR d_Mod_knots_34 fl_Mod_22 gR_516_6 ?_
        refine r_iconst (v := 4) d_Mod_knots_37 (by decide) ?_
        refine r_iload_n d_Mod_knots_38 rfl ?_
        refine r_imul d_Mod_knots_39 ?_
        refine r_iload_n d_Mod_knots_40 rfl ?_
        refine r_iadd d_Mod_knots_41 ?_
        obtain ⟨o_4, h9⟩ := h9
        refine x_iald d_Mod_knots_42 aI_521 o_4 ?_
        refine r_istore d_Mod_knots_43 (by decide) ?_
        refine r_aload_n d_Mod_knots_45 rfl ?_
        refine x_getR d_Mod_knots_46 fl_Mod_22 gR_516_6 ?_
        refine r_iconst (v := 4) d_Mod_knots_49 (by decide) ?_
        refine r_iload_n d_Mod_knots_50 rfl ?_
        refine r_imul d_Mod_knots_51 ?_
        refine r_iload_n d_Mod_knots_52 rfl ?_
        refine r_iadd d_Mod_knots_53 ?_
        refine r_iload_n d_Mod_knots_54 rfl ?_
        refine x_iast d_Mod_knots_55 aI_521 o_4 ?_
        refine r_iload d_Mod_knots_56 rfl ?_
        exact r_iret ⟨d_Mod_knots_58, _, rfl, rfl⟩ ⟨_, _, rfl, h9⟩
      · have h9 := h9.2 (bI_p0 c_3)
        refine r_bipush (v := (-102)) d_Mod_knots_30 (by decide) ?_
        exact r_iret ⟨d_Mod_knots_32, _, rfl, rfl⟩ ⟨_, _, rfl, h9⟩
    · have h9 := h9.2 (bI_p0 c_2)
      refine r_bipush (v := (-101)) d_Mod_knots_17 (by decide) ?_
      exact r_iret ⟨d_Mod_knots_19, _, rfl, rfl⟩ ⟨_, _, rfl, h9⟩
set_option maxHeartbeats 4000000 in
theorem L_Mod_set_0 {xs : List Int32} {i1 : Int32} {i2 : Int32} {i3 : Int32} {M : Mem} {L : Int64} {Q : Option Value → Mem → Int64 → Prop} 
    (h : (((0 ≤ i1 ∧ i1 ≤ (M 516 4) - 1) → ((((0 : Int32) ≤ i2 ∧ i2 ≤ 2) → ((i2 = 0 → ((((0 : Int32) ≤ i3 ∧ i3 ≤ 5) → (vp_in ((3 * i1) + i2) 72 ∧ Q (some (.int (M 522 (((3 * i1) + i2).toNatClampNeg)))) (up M 522 (((3 * i1) + i2).toNatClampNeg) i3) L)) ∧ (¬ ((0 : Int32) ≤ i3 ∧ i3 ≤ 5) → Q (some (.int (-102))) M L))) ∧ (¬ (i2 = 0) → ((i2 = 1 → ((((0 : Int32) ≤ i3 ∧ i3 ≤ 31) → (vp_in ((3 * i1) + i2) 72 ∧ Q (some (.int (M 522 (((3 * i1) + i2).toNatClampNeg)))) (up M 522 (((3 * i1) + i2).toNatClampNeg) i3) L)) ∧ (¬ ((0 : Int32) ≤ i3 ∧ i3 ≤ 31) → Q (some (.int (-102))) M L))) ∧ (¬ (i2 = 1) → ((((0 : Int32) ≤ i3 ∧ i3 ≤ 2) → (vp_in ((3 * i1) + i2) 72 ∧ Q (some (.int (M 522 (((3 * i1) + i2).toNatClampNeg)))) (up M 522 (((3 * i1) + i2).toNatClampNeg) i3) L)) ∧ (¬ ((0 : Int32) ≤ i3 ∧ i3 ≤ 2) → Q (some (.int (-102))) M L))))))) ∧ (¬ ((0 : Int32) ≤ i2 ∧ i2 ≤ 2) → Q (some (.int (-101))) M L))) ∧ (¬ (0 ≤ i1 ∧ i1 ≤ (M 516 4) - 1) → Q (some (.int (-101))) M L))) : RX xs shL md_Mod_set 0 [.ref 516, .int i1, .int i2, .int i3] [] M L Q := by
  refine r_weak (lv' := [.ref 516, .int i1, .int i2, .int i3, .null]) (by repeat (first | exact trivial | refine ⟨rfl, ?_⟩ | exact lle_nil)) ?_
  refine r_aload_n d_Mod_set_0 rfl ?_
  refine r_iload_n d_Mod_set_1 rfl ?_
  refine x_callV (as := [.int i1]) (st := []) d_Mod_set_2 ml_Mod_115 mc_Mod_isWatch mv_Mod_isWatch ⟨by decide, by decide⟩ gO_516 ⟨_, rfl, rfl⟩ rfl (Nat.le_of_ble_eq_true rfl) (Nat.le_of_ble_eq_true rfl) (Q1 := fun r M1 L1 => some (.int (bI (0 ≤ i1 ∧ i1 ≤ (M 516 4) - 1))) = r ∧ M = M1 ∧ L = L1) (L_Mod_isWatch_0 ⟨rfl, rfl, rfl⟩) ?_
  rintro _ _ _ ⟨rfl, rfl, rfl⟩
  refine r_if_eq d_Mod_set_5 (fun c_1 => ?_) (fun c_1 => ?_)
  · have h9 := h.2 (bI_p0 c_1)
    refine r_bipush (v := (-101)) d_Mod_set_17 (by decide) ?_
    exact r_iret ⟨d_Mod_set_19, _, rfl, rfl⟩ ⟨_, _, rfl, h9⟩
  · have h9 := h.1 (bI_p1 c_1)
    refine r_iload_n d_Mod_set_8 rfl ?_
    refine r_iconst (v := 0) d_Mod_set_9 (by decide) ?_
    refine r_iconst (v := 2) d_Mod_set_10 (by decide) ?_
    refine x_callS (as := [.int i2, .int 0, .int 2]) (st := []) d_Mod_set_11 ml_Mod_75 mc_Mod_in ms_Mod_in ⟨by decide, by decide⟩ rfl (Nat.le_of_ble_eq_true rfl) (Nat.le_of_ble_eq_true rfl) (Q1 := fun r M1 L1 => some (.int (bI ((0 : Int32) ≤ i2 ∧ i2 ≤ 2))) = r ∧ M = M1 ∧ L = L1) (s_Mod_in ⟨rfl, rfl, rfl⟩) ?_
    rintro _ _ _ ⟨rfl, rfl, rfl⟩
    refine r_if_ne d_Mod_set_14 (fun c_2 => ?_) (fun c_2 => ?_)
    · have h9 := h9.1 (bI_p1 c_2)
      refine r_iload_n d_Mod_set_20 rfl ?_
      refine r_iconst (v := 0) d_Mod_set_21 (by decide) ?_
      refine r_iload_n d_Mod_set_22 rfl ?_
      refine r_if_ne d_Mod_set_23 (fun c_3 => ?_) (fun c_3 => ?_)
      · have h9 := h9.2 c_3
        refine r_iload_n d_Mod_set_30 rfl ?_
        refine r_iconst (v := 1) d_Mod_set_31 (by decide) ?_
        refine r_ic_ne d_Mod_set_32 (fun c_4 => ?_) (fun c_4 => ?_)
        · have h9 := h9.2 c_4
          refine r_iconst (v := 2) d_Mod_set_40 (by decide) ?_
          refine x_callS (as := [.int i3, .int 0, .int 2]) (st := []) d_Mod_set_41 ml_Mod_75 mc_Mod_in ms_Mod_in ⟨by decide, by decide⟩ rfl (Nat.le_of_ble_eq_true rfl) (Nat.le_of_ble_eq_true rfl) (Q1 := fun r M1 L1 => some (.int (bI ((0 : Int32) ≤ i3 ∧ i3 ≤ 2))) = r ∧ M = M1 ∧ L = L1) (s_Mod_in ⟨rfl, rfl, rfl⟩) ?_
          rintro _ _ _ ⟨rfl, rfl, rfl⟩
          refine r_if_ne d_Mod_set_44 (fun c_5 => ?_) (fun c_5 => ?_)
          · have h9 := h9.1 (bI_p1 c_5)
            refine r_aload_n d_Mod_set_50 rfl ?_
            refine x_getR d_Mod_set_51 fl_Mod_25 gR_516_7 ?_
            refine r_iconst (v := 3) d_Mod_set_54 (by decide) ?_
            refine r_iload_n d_Mod_set_55 rfl ?_
            refine r_imul d_Mod_set_56 ?_
            refine r_iload_n d_Mod_set_57 rfl ?_
            refine r_iadd d_Mod_set_58 ?_
            obtain ⟨o_6, h9⟩ := h9
            refine x_iald d_Mod_set_59 aI_522 o_6 ?_
            refine r_istore d_Mod_set_60 (by decide) ?_
            refine r_aload_n d_Mod_set_62 rfl ?_
            refine x_getR d_Mod_set_63 fl_Mod_25 gR_516_7 ?_
            refine r_iconst (v := 3) d_Mod_set_66 (by decide) ?_
            refine r_iload_n d_Mod_set_67 rfl ?_
            refine r_imul d_Mod_set_68 ?_
            refine r_iload_n d_Mod_set_69 rfl ?_
            refine r_iadd d_Mod_set_70 ?_
            refine r_iload_n d_Mod_set_71 rfl ?_
            refine x_iast d_Mod_set_72 aI_522 o_6 ?_
            refine r_iload d_Mod_set_73 rfl ?_
            exact r_iret ⟨d_Mod_set_75, _, rfl, rfl⟩ ⟨_, _, rfl, h9⟩
          · have h9 := h9.2 (bI_p0 c_5)
            refine r_bipush (v := (-102)) d_Mod_set_47 (by decide) ?_
            exact r_iret ⟨d_Mod_set_49, _, rfl, rfl⟩ ⟨_, _, rfl, h9⟩
        · have h9 := h9.1 c_4
          refine r_bipush (v := 31) d_Mod_set_35 (by decide) ?_
          refine r_goto d_Mod_set_37 ?_
          refine x_callS (as := [.int i3, .int 0, .int 31]) (st := []) d_Mod_set_41 ml_Mod_75 mc_Mod_in ms_Mod_in ⟨by decide, by decide⟩ rfl (Nat.le_of_ble_eq_true rfl) (Nat.le_of_ble_eq_true rfl) (Q1 := fun r M1 L1 => some (.int (bI ((0 : Int32) ≤ i3 ∧ i3 ≤ 31))) = r ∧ M = M1 ∧ L = L1) (s_Mod_in ⟨rfl, rfl, rfl⟩) ?_
          rintro _ _ _ ⟨rfl, rfl, rfl⟩
          refine r_if_ne d_Mod_set_44 (fun c_7 => ?_) (fun c_7 => ?_)
          · have h9 := h9.1 (bI_p1 c_7)
            refine r_aload_n d_Mod_set_50 rfl ?_
            refine x_getR d_Mod_set_51 fl_Mod_25 gR_516_7 ?_
            refine r_iconst (v := 3) d_Mod_set_54 (by decide) ?_
            refine r_iload_n d_Mod_set_55 rfl ?_
            refine r_imul d_Mod_set_56 ?_
            refine r_iload_n d_Mod_set_57 rfl ?_
            refine r_iadd d_Mod_set_58 ?_
            obtain ⟨o_8, h9⟩ := h9
            refine x_iald d_Mod_set_59 aI_522 o_8 ?_
            refine r_istore d_Mod_set_60 (by decide) ?_
            refine r_aload_n d_Mod_set_62 rfl ?_
            refine x_getR d_Mod_set_63 fl_Mod_25 gR_516_7 ?_
            refine r_iconst (v := 3) d_Mod_set_66 (by decide) ?_
            refine r_iload_n d_Mod_set_67 rfl ?_
            refine r_imul d_Mod_set_68 ?_
            refine r_iload_n d_Mod_set_69 rfl ?_
            refine r_iadd d_Mod_set_70 ?_
            refine r_iload_n d_Mod_set_71 rfl ?_
            refine x_iast d_Mod_set_72 aI_522 o_8 ?_
            refine r_iload d_Mod_set_73 rfl ?_
            exact r_iret ⟨d_Mod_set_75, _, rfl, rfl⟩ ⟨_, _, rfl, h9⟩
          · have h9 := h9.2 (bI_p0 c_7)
            refine r_bipush (v := (-102)) d_Mod_set_47 (by decide) ?_
            exact r_iret ⟨d_Mod_set_49, _, rfl, rfl⟩ ⟨_, _, rfl, h9⟩
      · have h9 := h9.1 c_3
        refine r_iconst (v := 5) d_Mod_set_26 (by decide) ?_
        refine r_goto d_Mod_set_27 ?_
        refine x_callS (as := [.int i3, .int 0, .int 5]) (st := []) d_Mod_set_41 ml_Mod_75 mc_Mod_in ms_Mod_in ⟨by decide, by decide⟩ rfl (Nat.le_of_ble_eq_true rfl) (Nat.le_of_ble_eq_true rfl) (Q1 := fun r M1 L1 => some (.int (bI ((0 : Int32) ≤ i3 ∧ i3 ≤ 5))) = r ∧ M = M1 ∧ L = L1) (s_Mod_in ⟨rfl, rfl, rfl⟩) ?_
        rintro _ _ _ ⟨rfl, rfl, rfl⟩
        refine r_if_ne d_Mod_set_44 (fun c_9 => ?_) (fun c_9 => ?_)
        · have h9 := h9.1 (bI_p1 c_9)
          refine r_aload_n d_Mod_set_50 rfl ?_
          refine x_getR d_Mod_set_51 fl_Mod_25 gR_516_7 ?_
          refine r_iconst (v := 3) d_Mod_set_54 (by decide) ?_
          refine r_iload_n d_Mod_set_55 rfl ?_
          refine r_imul d_Mod_set_56 ?_
          refine r_iload_n d_Mod_set_57 rfl ?_
          refine r_iadd d_Mod_set_58 ?_
          obtain ⟨o_10, h9⟩ := h9
          refine x_iald d_Mod_set_59 aI_522 o_10 ?_
          refine r_istore d_Mod_set_60 (by decide) ?_
          refine r_aload_n d_Mod_set_62 rfl ?_
          refine x_getR d_Mod_set_63 fl_Mod_25 gR_516_7 ?_
          refine r_iconst (v := 3) d_Mod_set_66 (by decide) ?_
          refine r_iload_n d_Mod_set_67 rfl ?_
          refine r_imul d_Mod_set_68 ?_
          refine r_iload_n d_Mod_set_69 rfl ?_
          refine r_iadd d_Mod_set_70 ?_
          refine r_iload_n d_Mod_set_71 rfl ?_
          refine x_iast d_Mod_set_72 aI_522 o_10 ?_
          refine r_iload d_Mod_set_73 rfl ?_
          exact r_iret ⟨d_Mod_set_75, _, rfl, rfl⟩ ⟨_, _, rfl, h9⟩
        · have h9 := h9.2 (bI_p0 c_9)
          refine r_bipush (v := (-102)) d_Mod_set_47 (by decide) ?_
          exact r_iret ⟨d_Mod_set_49, _, rfl, rfl⟩ ⟨_, _, rfl, h9⟩
    · have h9 := h9.2 (bI_p0 c_2)
      refine r_bipush (v := (-101)) d_Mod_set_17 (by decide) ?_
      exact r_iret ⟨d_Mod_set_19, _, rfl, rfl⟩ ⟨_, _, rfl, h9⟩
theorem L_Mod_leeway_0 {xs : List Int32} {i1 : Int32} {i2 : Int32} {i3 : Int32} {M : Mem} {L : Int64} {Q : Option Value → Mem → Int64 → Prop} 
    (h : (((0 ≤ i1 ∧ i1 ≤ 31) → (((0 ≤ i2 ∧ i2 ≤ 31) → ((((0 : Int32) ≤ i3 ∧ i3 ≤ 2) → Q (some (.int (lwA (angM i1 i2) i3))) M L) ∧ (¬ ((0 : Int32) ≤ i3 ∧ i3 ≤ 2) → Q (some (.int (-102))) M L))) ∧ (¬ (0 ≤ i2 ∧ i2 ≤ 31) → Q (some (.int (-101))) M L))) ∧ (¬ (0 ≤ i1 ∧ i1 ≤ 31) → Q (some (.int (-101))) M L))) : RX xs shL md_Mod_leeway 0 [.ref 516, .int i1, .int i2, .int i3] [] M L Q := by
  refine r_iload_n d_Mod_leeway_0 rfl ?_
  refine x_callS (as := [.int i1]) (st := []) d_Mod_leeway_1 ml_Mod_79 mc_Mod_isPoint ms_Mod_isPoint ⟨by decide, by decide⟩ rfl (Nat.le_of_ble_eq_true rfl) (Nat.le_of_ble_eq_true rfl) (Q1 := fun r M1 L1 => some (.int (bI (0 ≤ i1 ∧ i1 ≤ 31))) = r ∧ M = M1 ∧ L = L1) (L_Mod_isPoint_0 ⟨rfl, rfl, rfl⟩) ?_
  rintro _ _ _ ⟨rfl, rfl, rfl⟩
  refine r_if_eq d_Mod_leeway_4 (fun c_1 => ?_) (fun c_1 => ?_)
  · have h9 := h.2 (bI_p0 c_1)
    refine r_bipush (v := (-101)) d_Mod_leeway_14 (by decide) ?_
    exact r_iret ⟨d_Mod_leeway_16, _, rfl, rfl⟩ ⟨_, _, rfl, h9⟩
  · have h9 := h.1 (bI_p1 c_1)
    refine r_iload_n d_Mod_leeway_7 rfl ?_
    refine x_callS (as := [.int i2]) (st := []) d_Mod_leeway_8 ml_Mod_79 mc_Mod_isPoint ms_Mod_isPoint ⟨by decide, by decide⟩ rfl (Nat.le_of_ble_eq_true rfl) (Nat.le_of_ble_eq_true rfl) (Q1 := fun r M1 L1 => some (.int (bI (0 ≤ i2 ∧ i2 ≤ 31))) = r ∧ M = M1 ∧ L = L1) (L_Mod_isPoint_0 ⟨rfl, rfl, rfl⟩) ?_
    rintro _ _ _ ⟨rfl, rfl, rfl⟩
    refine r_if_ne d_Mod_leeway_11 (fun c_2 => ?_) (fun c_2 => ?_)
    · have h9 := h9.1 (bI_p1 c_2)
      refine r_iload_n d_Mod_leeway_17 rfl ?_
      refine r_iconst (v := 0) d_Mod_leeway_18 (by decide) ?_
      refine r_iconst (v := 2) d_Mod_leeway_19 (by decide) ?_
      refine x_callS (as := [.int i3, .int 0, .int 2]) (st := []) d_Mod_leeway_20 ml_Mod_75 mc_Mod_in ms_Mod_in ⟨by decide, by decide⟩ rfl (Nat.le_of_ble_eq_true rfl) (Nat.le_of_ble_eq_true rfl) (Q1 := fun r M1 L1 => some (.int (bI ((0 : Int32) ≤ i3 ∧ i3 ≤ 2))) = r ∧ M = M1 ∧ L = L1) (s_Mod_in ⟨rfl, rfl, rfl⟩) ?_
      rintro _ _ _ ⟨rfl, rfl, rfl⟩
      refine r_if_eq d_Mod_leeway_23 (fun c_3 => ?_) (fun c_3 => ?_)
      · have h9 := h9.2 (bI_p0 c_3)
        refine r_bipush (v := (-102)) d_Mod_leeway_35 (by decide) ?_
        exact r_iret ⟨d_Mod_leeway_37, _, rfl, rfl⟩ ⟨_, _, rfl, h9⟩
      · have h9 := h9.1 (bI_p1 c_3)
        refine r_iload_n d_Mod_leeway_26 rfl ?_
        refine r_iload_n d_Mod_leeway_27 rfl ?_
        refine r_iload_n d_Mod_leeway_28 rfl ?_
        refine x_callS (as := [.int i1, .int i2, .int i3]) (st := []) d_Mod_leeway_29 ml_Mod_118 mc_Mod_leewayOf ms_Mod_leewayOf ⟨by decide, by decide⟩ rfl (Nat.le_of_ble_eq_true rfl) (Nat.le_of_ble_eq_true rfl) (Q1 := fun r M1 L1 => some (.int (lwA (angM i1 i2) i3)) = r ∧ M = M1 ∧ L = L1) (s_Mod_leewayOf ⟨rfl, rfl, rfl⟩) ?_
        rintro _ _ _ ⟨rfl, rfl, rfl⟩
        refine r_goto d_Mod_leeway_32 ?_
        exact r_iret ⟨d_Mod_leeway_37, _, rfl, rfl⟩ ⟨_, _, rfl, h9⟩
    · have h9 := h9.2 (bI_p0 c_2)
      refine r_bipush (v := (-101)) d_Mod_leeway_14 (by decide) ?_
      exact r_iret ⟨d_Mod_leeway_16, _, rfl, rfl⟩ ⟨_, _, rfl, h9⟩
theorem L_Mod_way_0 {xs : List Int32} {i1 : Int32} {i2 : Int32} {i3 : Int32} {i4 : Int32} {M : Mem} {L : Int64} {Q : Option Value → Mem → Int64 → Prop} 
    (h : (((0 ≤ i1 ∧ i1 ≤ (M 516 4) - 1) → (((((-9) : Int32) ≤ i2 ∧ i2 ≤ 9) → (((((-2) : Int32) ≤ i3 ∧ i3 ≤ 2) → ((((0 : Int32) ≤ i4 ∧ i4 ≤ 2) → RX xs shL md_Mod_goWatch 0 [.ref 516, .int i1, .int i2, .int i3, .int 1] [] M L (fun r M_5 L_6 => r = none ∧ ((i4 = 0 → Q (some (.int (M_5 516 26))) M_5 L_6) ∧ (¬ (i4 = 0) → ((i4 = 1 → Q (some (.int (M_5 516 27))) M_5 L_6) ∧ (¬ (i4 = 1) → Q (some (.int (M_5 516 28))) M_5 L_6)))))) ∧ (¬ ((0 : Int32) ≤ i4 ∧ i4 ≤ 2) → Q (some (.int (-10000002))) M L))) ∧ (¬ (((-2) : Int32) ≤ i3 ∧ i3 ≤ 2) → Q (some (.int (-10000002))) M L))) ∧ (¬ (((-9) : Int32) ≤ i2 ∧ i2 ≤ 9) → Q (some (.int (-10000002))) M L))) ∧ (¬ (0 ≤ i1 ∧ i1 ≤ (M 516 4) - 1) → Q (some (.int (-10000001))) M L))) : RX xs shL md_Mod_way 0 [.ref 516, .int i1, .int i2, .int i3, .int i4] [] M L Q := by
  refine r_aload_n d_Mod_way_0 rfl ?_
  refine r_iload_n d_Mod_way_1 rfl ?_
  refine x_callV (as := [.int i1]) (st := []) d_Mod_way_2 ml_Mod_115 mc_Mod_isWatch mv_Mod_isWatch ⟨by decide, by decide⟩ gO_516 ⟨_, rfl, rfl⟩ rfl (Nat.le_of_ble_eq_true rfl) (Nat.le_of_ble_eq_true rfl) (Q1 := fun r M1 L1 => some (.int (bI (0 ≤ i1 ∧ i1 ≤ (M 516 4) - 1))) = r ∧ M = M1 ∧ L = L1) (L_Mod_isWatch_0 ⟨rfl, rfl, rfl⟩) ?_
  rintro _ _ _ ⟨rfl, rfl, rfl⟩
  refine r_if_ne d_Mod_way_5 (fun c_1 => ?_) (fun c_1 => ?_)
  · have h9 := h.1 (bI_p1 c_1)
    refine r_iload_n d_Mod_way_11 rfl ?_
    refine r_bipush (v := (-9)) d_Mod_way_12 (by decide) ?_
    refine r_bipush (v := 9) d_Mod_way_14 (by decide) ?_
    refine x_callS (as := [.int i2, .int (-9), .int 9]) (st := []) d_Mod_way_16 ml_Mod_75 mc_Mod_in ms_Mod_in ⟨by decide, by decide⟩ rfl (Nat.le_of_ble_eq_true rfl) (Nat.le_of_ble_eq_true rfl) (Q1 := fun r M1 L1 => some (.int (bI (((-9) : Int32) ≤ i2 ∧ i2 ≤ 9))) = r ∧ M = M1 ∧ L = L1) (s_Mod_in ⟨rfl, rfl, rfl⟩) ?_
    rintro _ _ _ ⟨rfl, rfl, rfl⟩
    refine r_if_eq d_Mod_way_19 (fun c_2 => ?_) (fun c_2 => ?_)
    · have h9 := h9.2 (bI_p0 c_2)
      refine r_ldc (v := (-10000002)) d_Mod_way_42 ck_Mod_135 ?_
      exact r_iret ⟨d_Mod_way_44, _, rfl, rfl⟩ ⟨_, _, rfl, h9⟩
    · have h9 := h9.1 (bI_p1 c_2)
      refine r_iload_n d_Mod_way_22 rfl ?_
      refine r_bipush (v := (-2)) d_Mod_way_23 (by decide) ?_
      refine r_iconst (v := 2) d_Mod_way_25 (by decide) ?_
      refine x_callS (as := [.int i3, .int (-2), .int 2]) (st := []) d_Mod_way_26 ml_Mod_75 mc_Mod_in ms_Mod_in ⟨by decide, by decide⟩ rfl (Nat.le_of_ble_eq_true rfl) (Nat.le_of_ble_eq_true rfl) (Q1 := fun r M1 L1 => some (.int (bI (((-2) : Int32) ≤ i3 ∧ i3 ≤ 2))) = r ∧ M = M1 ∧ L = L1) (s_Mod_in ⟨rfl, rfl, rfl⟩) ?_
      rintro _ _ _ ⟨rfl, rfl, rfl⟩
      refine r_if_eq d_Mod_way_29 (fun c_3 => ?_) (fun c_3 => ?_)
      · have h9 := h9.2 (bI_p0 c_3)
        refine r_ldc (v := (-10000002)) d_Mod_way_42 ck_Mod_135 ?_
        exact r_iret ⟨d_Mod_way_44, _, rfl, rfl⟩ ⟨_, _, rfl, h9⟩
      · have h9 := h9.1 (bI_p1 c_3)
        refine r_iload d_Mod_way_32 rfl ?_
        refine r_iconst (v := 0) d_Mod_way_34 (by decide) ?_
        refine r_iconst (v := 2) d_Mod_way_35 (by decide) ?_
        refine x_callS (as := [.int i4, .int 0, .int 2]) (st := []) d_Mod_way_36 ml_Mod_75 mc_Mod_in ms_Mod_in ⟨by decide, by decide⟩ rfl (Nat.le_of_ble_eq_true rfl) (Nat.le_of_ble_eq_true rfl) (Q1 := fun r M1 L1 => some (.int (bI ((0 : Int32) ≤ i4 ∧ i4 ≤ 2))) = r ∧ M = M1 ∧ L = L1) (s_Mod_in ⟨rfl, rfl, rfl⟩) ?_
        rintro _ _ _ ⟨rfl, rfl, rfl⟩
        refine r_if_ne d_Mod_way_39 (fun c_4 => ?_) (fun c_4 => ?_)
        · have h9 := h9.1 (bI_p1 c_4)
          refine r_aload_n d_Mod_way_45 rfl ?_
          refine r_iload_n d_Mod_way_46 rfl ?_
          refine r_iload_n d_Mod_way_47 rfl ?_
          refine r_iload_n d_Mod_way_48 rfl ?_
          refine r_iconst (v := 1) d_Mod_way_49 (by decide) ?_
          refine x_callV (as := [.int i1, .int i2, .int i3, .int 1]) (st := []) d_Mod_way_50 ml_Mod_136 mc_Mod_goWatch mv_Mod_goWatch ⟨by decide, by decide⟩ gO_516 ⟨_, rfl, rfl⟩ rfl (Nat.le_of_ble_eq_true rfl) (Nat.le_of_ble_eq_true rfl) h9 ?_
          rintro _ M_5 L_6 ⟨rfl, h9⟩
          refine r_iload d_Mod_way_53 rfl ?_
          refine r_if_ne d_Mod_way_55 (fun c_7 => ?_) (fun c_7 => ?_)
          · have h9 := h9.2 c_7
            refine r_iload d_Mod_way_65 rfl ?_
            refine r_iconst (v := 1) d_Mod_way_67 (by decide) ?_
            refine r_ic_ne d_Mod_way_68 (fun c_8 => ?_) (fun c_8 => ?_)
            · have h9 := h9.2 c_8
              refine r_aload_n d_Mod_way_78 rfl ?_
              refine x_getI d_Mod_way_79 fl_Mod_128 gI_516_28 ?_
              exact r_iret ⟨d_Mod_way_82, _, rfl, rfl⟩ ⟨_, _, rfl, h9⟩
            · have h9 := h9.1 c_8
              refine r_aload_n d_Mod_way_71 rfl ?_
              refine x_getI d_Mod_way_72 fl_Mod_125 gI_516_27 ?_
              refine r_goto d_Mod_way_75 ?_
              exact r_iret ⟨d_Mod_way_82, _, rfl, rfl⟩ ⟨_, _, rfl, h9⟩
          · have h9 := h9.1 c_7
            refine r_aload_n d_Mod_way_58 rfl ?_
            refine x_getI d_Mod_way_59 fl_Mod_122 gI_516_26 ?_
            refine r_goto d_Mod_way_62 ?_
            exact r_iret ⟨d_Mod_way_82, _, rfl, rfl⟩ ⟨_, _, rfl, h9⟩
        · have h9 := h9.2 (bI_p0 c_4)
          refine r_ldc (v := (-10000002)) d_Mod_way_42 ck_Mod_135 ?_
          exact r_iret ⟨d_Mod_way_44, _, rfl, rfl⟩ ⟨_, _, rfl, h9⟩
  · have h9 := h.2 (bI_p0 c_1)
    refine r_ldc (v := (-10000001)) d_Mod_way_8 ck_Mod_134 ?_
    exact r_iret ⟨d_Mod_way_10, _, rfl, rfl⟩ ⟨_, _, rfl, h9⟩
theorem L_Mod_sea_0 {xs : List Int32} {i1 : Int32} {i2 : Int32} {i3 : Int32} {i4 : Int32} {i5 : Int32} {M : Mem} {L : Int64} {Q : Option Value → Mem → Int64 → Prop} 
    (h : ((((0 ≤ i1 ∧ i1 ≤ (M 516 9) - 1) ∧ 0 ≤ i2 ∧ i2 ≤ (M 516 10) - 1) → ((((0 ≤ i3 ∧ i3 ≤ (M 516 9) - 1) ∧ 0 ≤ i4 ∧ i4 ≤ (M 516 10) - 1) → ((((0 : Int32) ≤ i5 ∧ i5 ≤ 99) → ((i3 < i1 → Q (some (.int (-102))) M L) ∧ (¬ (i3 < i1) → ((i2 ≤ i4 → RX xs shL md_Mod_sea 50 [.ref 516, .int i1, .int i2, .int i3, .int i4, .int i5, .int i2, .null] [] M L Q) ∧ (¬ (i2 ≤ i4) → Q (some (.int (-102))) M L))))) ∧ (¬ ((0 : Int32) ≤ i5 ∧ i5 ≤ 99) → Q (some (.int (-102))) M L))) ∧ (¬ ((0 ≤ i3 ∧ i3 ≤ (M 516 9) - 1) ∧ 0 ≤ i4 ∧ i4 ≤ (M 516 10) - 1) → Q (some (.int (-101))) M L))) ∧ (¬ ((0 ≤ i1 ∧ i1 ≤ (M 516 9) - 1) ∧ 0 ≤ i2 ∧ i2 ≤ (M 516 10) - 1) → Q (some (.int (-101))) M L))) : RX xs shL md_Mod_sea 0 [.ref 516, .int i1, .int i2, .int i3, .int i4, .int i5] [] M L Q := by
  refine r_weak (lv' := [.ref 516, .int i1, .int i2, .int i3, .int i4, .int i5, .null, .null]) (by repeat (first | exact trivial | refine ⟨rfl, ?_⟩ | exact lle_nil)) ?_
  refine r_aload_n d_Mod_sea_0 rfl ?_
  refine r_iload_n d_Mod_sea_1 rfl ?_
  refine r_iload_n d_Mod_sea_2 rfl ?_
  refine x_callV (as := [.int i1, .int i2]) (st := []) d_Mod_sea_3 ml_Mod_143 mc_Mod_isCell mv_Mod_isCell ⟨by decide, by decide⟩ gO_516 ⟨_, rfl, rfl⟩ rfl (Nat.le_of_ble_eq_true rfl) (Nat.le_of_ble_eq_true rfl) (Q1 := fun r M1 L1 => some (.int (bI ((0 ≤ i1 ∧ i1 ≤ (M 516 9) - 1) ∧ 0 ≤ i2 ∧ i2 ≤ (M 516 10) - 1))) = r ∧ M = M1 ∧ L = L1) (s_Mod_isCell ⟨rfl, rfl, rfl⟩) ?_
  rintro _ _ _ ⟨rfl, rfl, rfl⟩
  refine r_if_eq d_Mod_sea_6 (fun c_1 => ?_) (fun c_1 => ?_)
  · have h9 := h.2 (bI_p0 c_1)
    refine r_bipush (v := (-101)) d_Mod_sea_19 (by decide) ?_
    exact r_iret ⟨d_Mod_sea_21, _, rfl, rfl⟩ ⟨_, _, rfl, h9⟩
  · have h9 := h.1 (bI_p1 c_1)
    refine r_aload_n d_Mod_sea_9 rfl ?_
    refine r_iload_n d_Mod_sea_10 rfl ?_
    refine r_iload d_Mod_sea_11 rfl ?_
    refine x_callV (as := [.int i3, .int i4]) (st := []) d_Mod_sea_13 ml_Mod_143 mc_Mod_isCell mv_Mod_isCell ⟨by decide, by decide⟩ gO_516 ⟨_, rfl, rfl⟩ rfl (Nat.le_of_ble_eq_true rfl) (Nat.le_of_ble_eq_true rfl) (Q1 := fun r M1 L1 => some (.int (bI ((0 ≤ i3 ∧ i3 ≤ (M 516 9) - 1) ∧ 0 ≤ i4 ∧ i4 ≤ (M 516 10) - 1))) = r ∧ M = M1 ∧ L = L1) (s_Mod_isCell ⟨rfl, rfl, rfl⟩) ?_
    rintro _ _ _ ⟨rfl, rfl, rfl⟩
    refine r_if_ne d_Mod_sea_16 (fun c_2 => ?_) (fun c_2 => ?_)
    · have h9 := h9.1 (bI_p1 c_2)
      refine r_iload d_Mod_sea_22 rfl ?_
      refine r_iconst (v := 0) d_Mod_sea_24 (by decide) ?_
      refine r_bipush (v := 99) d_Mod_sea_25 (by decide) ?_
      refine x_callS (as := [.int i5, .int 0, .int 99]) (st := []) d_Mod_sea_27 ml_Mod_75 mc_Mod_in ms_Mod_in ⟨by decide, by decide⟩ rfl (Nat.le_of_ble_eq_true rfl) (Nat.le_of_ble_eq_true rfl) (Q1 := fun r M1 L1 => some (.int (bI ((0 : Int32) ≤ i5 ∧ i5 ≤ 99))) = r ∧ M = M1 ∧ L = L1) (s_Mod_in ⟨rfl, rfl, rfl⟩) ?_
      rintro _ _ _ ⟨rfl, rfl, rfl⟩
      refine r_if_eq d_Mod_sea_30 (fun c_3 => ?_) (fun c_3 => ?_)
      · have h9 := h9.2 (bI_p0 c_3)
        refine r_bipush (v := (-102)) d_Mod_sea_44 (by decide) ?_
        exact r_iret ⟨d_Mod_sea_46, _, rfl, rfl⟩ ⟨_, _, rfl, h9⟩
      · have h9 := h9.1 (bI_p1 c_3)
        refine r_iload_n d_Mod_sea_33 rfl ?_
        refine r_iload_n d_Mod_sea_34 rfl ?_
        refine r_ic_gt d_Mod_sea_35 (fun c_4 => ?_) (fun c_4 => ?_)
        · have h9 := h9.1 c_4
          refine r_bipush (v := (-102)) d_Mod_sea_44 (by decide) ?_
          exact r_iret ⟨d_Mod_sea_46, _, rfl, rfl⟩ ⟨_, _, rfl, h9⟩
        · have h9 := h9.2 c_4
          refine r_iload_n d_Mod_sea_38 rfl ?_
          refine r_iload d_Mod_sea_39 rfl ?_
          refine r_ic_le d_Mod_sea_41 (fun c_5 => ?_) (fun c_5 => ?_)
          · have h9 := h9.1 c_5
            refine r_iload_n d_Mod_sea_47 rfl ?_
            refine r_istore d_Mod_sea_48 (by decide) ?_
            exact h9
          · have h9 := h9.2 c_5
            refine r_bipush (v := (-102)) d_Mod_sea_44 (by decide) ?_
            exact r_iret ⟨d_Mod_sea_46, _, rfl, rfl⟩ ⟨_, _, rfl, h9⟩
    · have h9 := h9.2 (bI_p0 c_2)
      refine r_bipush (v := (-101)) d_Mod_sea_19 (by decide) ?_
      exact r_iret ⟨d_Mod_sea_21, _, rfl, rfl⟩ ⟨_, _, rfl, h9⟩
theorem L_Mod_sea_50 {xs : List Int32} {i1 : Int32} {i2 : Int32} {i3 : Int32} {i4 : Int32} {i5 : Int32} {i6 : Int32} {M : Mem} {L : Int64} {Q : Option Value → Mem → Int64 → Prop} 
    (h : ((i4 < i6 → Q (some (.int (((i3 - i1) + 1) * ((i4 - i2) + 1)))) M L) ∧ (¬ (i4 < i6) → RX xs shL md_Mod_sea 60 [.ref 516, .int i1, .int i2, .int i3, .int i4, .int i5, .int i6, .int i1] [] M L Q))) : RX xs shL md_Mod_sea 50 [.ref 516, .int i1, .int i2, .int i3, .int i4, .int i5, .int i6, .null] [] M L Q := by
  refine r_iload d_Mod_sea_50 rfl ?_
  refine r_iload d_Mod_sea_52 rfl ?_
  refine r_ic_gt d_Mod_sea_54 (fun c_6 => ?_) (fun c_6 => ?_)
  · have h9 := h.1 c_6
    refine r_iload_n d_Mod_sea_92 rfl ?_
    refine r_iload_n d_Mod_sea_93 rfl ?_
    refine r_isub d_Mod_sea_94 ?_
    refine r_iconst (v := 1) d_Mod_sea_95 (by decide) ?_
    refine r_iadd d_Mod_sea_96 ?_
    refine r_iload d_Mod_sea_97 rfl ?_
    refine r_iload_n d_Mod_sea_99 rfl ?_
    refine r_isub d_Mod_sea_100 ?_
    refine r_iconst (v := 1) d_Mod_sea_101 (by decide) ?_
    refine r_iadd d_Mod_sea_102 ?_
    refine r_imul d_Mod_sea_103 ?_
    exact r_iret ⟨d_Mod_sea_104, _, rfl, rfl⟩ ⟨_, _, rfl, h9⟩
  · have h9 := h.2 c_6
    refine r_iload_n d_Mod_sea_57 rfl ?_
    refine r_istore d_Mod_sea_58 (by decide) ?_
    exact h9
theorem L_Mod_sea_60 {xs : List Int32} {i1 : Int32} {i2 : Int32} {i3 : Int32} {i4 : Int32} {i5 : Int32} {i6 : Int32} {i7 : Int32} {M : Mem} {L : Int64} {Q : Option Value → Mem → Int64 → Prop} 
    (h : ((i3 < i7 → RX xs shL md_Mod_sea 50 [.ref 516, .int i1, .int i2, .int i3, .int i4, .int i5, .int (i6 + 1), .null] [] M L Q) ∧ (¬ (i3 < i7) → (vp_in (20 * i6 + i7) 400 ∧ RX xs shL md_Mod_sea 60 [.ref 516, .int i1, .int i2, .int i3, .int i4, .int i5, .int i6, .int (i7 + 1)] [] (up M 523 ((20 * i6 + i7).toNatClampNeg) i5) L Q)))) : RX xs shL md_Mod_sea 60 [.ref 516, .int i1, .int i2, .int i3, .int i4, .int i5, .int i6, .int i7] [] M L Q := by
  refine r_iload d_Mod_sea_60 rfl ?_
  refine r_iload_n d_Mod_sea_62 rfl ?_
  refine r_ic_gt d_Mod_sea_63 (fun c_7 => ?_) (fun c_7 => ?_)
  · have h9 := h.1 c_7
    refine r_iinc (v := i6 + 1) d_Mod_sea_86 rfl rfl (by decide) ?_
    refine r_goto d_Mod_sea_89 ?_
    refine r_weak (lv' := [.ref 516, .int i1, .int i2, .int i3, .int i4, .int i5, .int (i6 + 1), .null]) (by repeat (first | exact trivial | refine ⟨rfl, ?_⟩ | exact lle_nil)) ?_
    exact h9
  · have h9 := h.2 c_7
    refine r_aload_n d_Mod_sea_66 rfl ?_
    refine x_getR d_Mod_sea_67 fl_Mod_38 gR_516_11 ?_
    refine r_iload d_Mod_sea_70 rfl ?_
    refine r_iload d_Mod_sea_72 rfl ?_
    refine x_callS (as := [.int i7, .int i6]) (st := [.ref 523]) d_Mod_sea_74 ml_Mod_147 mc_Mod_at ms_Mod_at ⟨by decide, by decide⟩ rfl (Nat.le_of_ble_eq_true rfl) (Nat.le_of_ble_eq_true rfl) (Q1 := fun r M1 L1 => some (.int (20 * i6 + i7)) = r ∧ M = M1 ∧ L = L1) (s_Mod_at ⟨rfl, rfl, rfl⟩) ?_
    rintro _ _ _ ⟨rfl, rfl, rfl⟩
    refine r_iload d_Mod_sea_77 rfl ?_
    obtain ⟨o_8, h9⟩ := h9
    refine x_iast d_Mod_sea_79 aI_523 o_8 ?_
    refine r_iinc (v := i7 + 1) d_Mod_sea_80 rfl rfl (by decide) ?_
    refine r_goto d_Mod_sea_83 ?_
    exact h9
theorem L_Mod_weed_0 {xs : List Int32} {i1 : Int32} {i2 : Int32} {i3 : Int32} {i4 : Int32} {i5 : Int32} {M : Mem} {L : Int64} {Q : Option Value → Mem → Int64 → Prop} 
    (h : ((((0 ≤ i1 ∧ i1 ≤ (M 516 9) - 1) ∧ 0 ≤ i2 ∧ i2 ≤ (M 516 10) - 1) → ((((0 ≤ i3 ∧ i3 ≤ (M 516 9) - 1) ∧ 0 ≤ i4 ∧ i4 ≤ (M 516 10) - 1) → ((i3 < i1 → Q (some (.int (-102))) M L) ∧ (¬ (i3 < i1) → ((i2 ≤ i4 → RX xs shL md_Mod_weed 39 [.ref 516, .int i1, .int i2, .int i3, .int i4, .int i5, .int i2, .null] [] M L Q) ∧ (¬ (i2 ≤ i4) → Q (some (.int (-102))) M L))))) ∧ (¬ ((0 ≤ i3 ∧ i3 ≤ (M 516 9) - 1) ∧ 0 ≤ i4 ∧ i4 ≤ (M 516 10) - 1) → Q (some (.int (-101))) M L))) ∧ (¬ ((0 ≤ i1 ∧ i1 ≤ (M 516 9) - 1) ∧ 0 ≤ i2 ∧ i2 ≤ (M 516 10) - 1) → Q (some (.int (-101))) M L))) : RX xs shL md_Mod_weed 0 [.ref 516, .int i1, .int i2, .int i3, .int i4, .int i5] [] M L Q := by
  refine r_weak (lv' := [.ref 516, .int i1, .int i2, .int i3, .int i4, .int i5, .null, .null]) (by repeat (first | exact trivial | refine ⟨rfl, ?_⟩ | exact lle_nil)) ?_
  refine r_aload_n d_Mod_weed_0 rfl ?_
  refine r_iload_n d_Mod_weed_1 rfl ?_
  refine r_iload_n d_Mod_weed_2 rfl ?_
  refine x_callV (as := [.int i1, .int i2]) (st := []) d_Mod_weed_3 ml_Mod_143 mc_Mod_isCell mv_Mod_isCell ⟨by decide, by decide⟩ gO_516 ⟨_, rfl, rfl⟩ rfl (Nat.le_of_ble_eq_true rfl) (Nat.le_of_ble_eq_true rfl) (Q1 := fun r M1 L1 => some (.int (bI ((0 ≤ i1 ∧ i1 ≤ (M 516 9) - 1) ∧ 0 ≤ i2 ∧ i2 ≤ (M 516 10) - 1))) = r ∧ M = M1 ∧ L = L1) (s_Mod_isCell ⟨rfl, rfl, rfl⟩) ?_
  rintro _ _ _ ⟨rfl, rfl, rfl⟩
  refine r_if_eq d_Mod_weed_6 (fun c_1 => ?_) (fun c_1 => ?_)
  · have h9 := h.2 (bI_p0 c_1)
    refine r_bipush (v := (-101)) d_Mod_weed_19 (by decide) ?_
    exact r_iret ⟨d_Mod_weed_21, _, rfl, rfl⟩ ⟨_, _, rfl, h9⟩
  · have h9 := h.1 (bI_p1 c_1)
    refine r_aload_n d_Mod_weed_9 rfl ?_
    refine r_iload_n d_Mod_weed_10 rfl ?_
    refine r_iload d_Mod_weed_11 rfl ?_
    refine x_callV (as := [.int i3, .int i4]) (st := []) d_Mod_weed_13 ml_Mod_143 mc_Mod_isCell mv_Mod_isCell ⟨by decide, by decide⟩ gO_516 ⟨_, rfl, rfl⟩ rfl (Nat.le_of_ble_eq_true rfl) (Nat.le_of_ble_eq_true rfl) (Q1 := fun r M1 L1 => some (.int (bI ((0 ≤ i3 ∧ i3 ≤ (M 516 9) - 1) ∧ 0 ≤ i4 ∧ i4 ≤ (M 516 10) - 1))) = r ∧ M = M1 ∧ L = L1) (s_Mod_isCell ⟨rfl, rfl, rfl⟩) ?_
    rintro _ _ _ ⟨rfl, rfl, rfl⟩
    refine r_if_ne d_Mod_weed_16 (fun c_2 => ?_) (fun c_2 => ?_)
    · have h9 := h9.1 (bI_p1 c_2)
      refine r_iload_n d_Mod_weed_22 rfl ?_
      refine r_iload_n d_Mod_weed_23 rfl ?_
      refine r_ic_gt d_Mod_weed_24 (fun c_3 => ?_) (fun c_3 => ?_)
      · have h9 := h9.1 c_3
        refine r_bipush (v := (-102)) d_Mod_weed_33 (by decide) ?_
        exact r_iret ⟨d_Mod_weed_35, _, rfl, rfl⟩ ⟨_, _, rfl, h9⟩
      · have h9 := h9.2 c_3
        refine r_iload_n d_Mod_weed_27 rfl ?_
        refine r_iload d_Mod_weed_28 rfl ?_
        refine r_ic_le d_Mod_weed_30 (fun c_4 => ?_) (fun c_4 => ?_)
        · have h9 := h9.1 c_4
          refine r_iload_n d_Mod_weed_36 rfl ?_
          refine r_istore d_Mod_weed_37 (by decide) ?_
          exact h9
        · have h9 := h9.2 c_4
          refine r_bipush (v := (-102)) d_Mod_weed_33 (by decide) ?_
          exact r_iret ⟨d_Mod_weed_35, _, rfl, rfl⟩ ⟨_, _, rfl, h9⟩
    · have h9 := h9.2 (bI_p0 c_2)
      refine r_bipush (v := (-101)) d_Mod_weed_19 (by decide) ?_
      exact r_iret ⟨d_Mod_weed_21, _, rfl, rfl⟩ ⟨_, _, rfl, h9⟩
theorem L_Mod_weed_39 {xs : List Int32} {i1 : Int32} {i2 : Int32} {i3 : Int32} {i4 : Int32} {i5 : Int32} {i6 : Int32} {M : Mem} {L : Int64} {Q : Option Value → Mem → Int64 → Prop} 
    (h : ((i4 < i6 → Q (some (.int (((i3 - i1) + 1) * ((i4 - i2) + 1)))) M L) ∧ (¬ (i4 < i6) → RX xs shL md_Mod_weed 49 [.ref 516, .int i1, .int i2, .int i3, .int i4, .int i5, .int i6, .int i1] [] M L Q))) : RX xs shL md_Mod_weed 39 [.ref 516, .int i1, .int i2, .int i3, .int i4, .int i5, .int i6, .null] [] M L Q := by
  refine r_iload d_Mod_weed_39 rfl ?_
  refine r_iload d_Mod_weed_41 rfl ?_
  refine r_ic_gt d_Mod_weed_43 (fun c_5 => ?_) (fun c_5 => ?_)
  · have h9 := h.1 c_5
    refine r_iload_n d_Mod_weed_81 rfl ?_
    refine r_iload_n d_Mod_weed_82 rfl ?_
    refine r_isub d_Mod_weed_83 ?_
    refine r_iconst (v := 1) d_Mod_weed_84 (by decide) ?_
    refine r_iadd d_Mod_weed_85 ?_
    refine r_iload d_Mod_weed_86 rfl ?_
    refine r_iload_n d_Mod_weed_88 rfl ?_
    refine r_isub d_Mod_weed_89 ?_
    refine r_iconst (v := 1) d_Mod_weed_90 (by decide) ?_
    refine r_iadd d_Mod_weed_91 ?_
    refine r_imul d_Mod_weed_92 ?_
    exact r_iret ⟨d_Mod_weed_93, _, rfl, rfl⟩ ⟨_, _, rfl, h9⟩
  · have h9 := h.2 c_5
    refine r_iload_n d_Mod_weed_46 rfl ?_
    refine r_istore d_Mod_weed_47 (by decide) ?_
    exact h9
theorem L_Mod_weed_49 {xs : List Int32} {i1 : Int32} {i2 : Int32} {i3 : Int32} {i4 : Int32} {i5 : Int32} {i6 : Int32} {i7 : Int32} {M : Mem} {L : Int64} {Q : Option Value → Mem → Int64 → Prop} 
    (h : ((i3 < i7 → RX xs shL md_Mod_weed 39 [.ref 516, .int i1, .int i2, .int i3, .int i4, .int i5, .int (i6 + 1), .null] [] M L Q) ∧ (¬ (i3 < i7) → (vp_in (20 * i6 + i7) 400 ∧ RX xs shL md_Mod_weed 49 [.ref 516, .int i1, .int i2, .int i3, .int i4, .int i5, .int i6, .int (i7 + 1)] [] (up M 524 ((20 * i6 + i7).toNatClampNeg) (i5 &&& 1)) L Q)))) : RX xs shL md_Mod_weed 49 [.ref 516, .int i1, .int i2, .int i3, .int i4, .int i5, .int i6, .int i7] [] M L Q := by
  refine r_iload d_Mod_weed_49 rfl ?_
  refine r_iload_n d_Mod_weed_51 rfl ?_
  refine r_ic_gt d_Mod_weed_52 (fun c_6 => ?_) (fun c_6 => ?_)
  · have h9 := h.1 c_6
    refine r_iinc (v := i6 + 1) d_Mod_weed_75 rfl rfl (by decide) ?_
    refine r_goto d_Mod_weed_78 ?_
    refine r_weak (lv' := [.ref 516, .int i1, .int i2, .int i3, .int i4, .int i5, .int (i6 + 1), .null]) (by repeat (first | exact trivial | refine ⟨rfl, ?_⟩ | exact lle_nil)) ?_
    exact h9
  · have h9 := h.2 c_6
    refine r_aload_n d_Mod_weed_55 rfl ?_
    refine x_getR d_Mod_weed_56 fl_Mod_41 gR_516_12 ?_
    refine r_iload d_Mod_weed_59 rfl ?_
    refine r_iload d_Mod_weed_61 rfl ?_
    refine x_callS (as := [.int i7, .int i6]) (st := [.ref 524]) d_Mod_weed_63 ml_Mod_147 mc_Mod_at ms_Mod_at ⟨by decide, by decide⟩ rfl (Nat.le_of_ble_eq_true rfl) (Nat.le_of_ble_eq_true rfl) (Q1 := fun r M1 L1 => some (.int (20 * i6 + i7)) = r ∧ M = M1 ∧ L = L1) (s_Mod_at ⟨rfl, rfl, rfl⟩) ?_
    rintro _ _ _ ⟨rfl, rfl, rfl⟩
    refine r_iload d_Mod_weed_66 rfl ?_
    obtain ⟨o_7, h9⟩ := h9
    refine x_zast d_Mod_weed_68 aZ_524 o_7 ?_
    refine r_iinc (v := i7 + 1) d_Mod_weed_69 rfl rfl (by decide) ?_
    refine r_goto d_Mod_weed_72 ?_
    exact h9
theorem L_Mod_about_0 {xs : List Int32} {i1 : Int32} {i2 : Int32} {i3 : Int32} {M : Mem} {L : Int64} {Q : Option Value → Mem → Int64 → Prop} 
    (h : ((((0 ≤ i1 ∧ i1 ≤ (M 516 9) - 1) ∧ 0 ≤ i2 ∧ i2 ≤ (M 516 10) - 1) → ((i3 = 0 → (vp_in (20 * i2 + i1) 400 ∧ Q (some (.int (M 523 ((20 * i2 + i1).toNatClampNeg)))) M L)) ∧ (¬ (i3 = 0) → ((i3 = 1 → (vp_in (20 * i2 + i1) 400 ∧ (((M 524 ((20 * i2 + i1).toNatClampNeg)) = 0 → Q (some (.int 0)) M L) ∧ (¬ ((M 524 ((20 * i2 + i1).toNatClampNeg)) = 0) → Q (some (.int 1)) M L)))) ∧ (¬ (i3 = 1) → ((i3 = 2 → RX xs shL md_Mod_nearest 0 [.ref 516, .int i1, .int i2] [] M L (fun r M_5 L_6 => ∃ v_7 : Int32, r = some (.int v_7) ∧ Q (some (.int v_7)) M_5 L_6)) ∧ (¬ (i3 = 2) → Q (some (.int (-102))) M L))))))) ∧ (¬ ((0 ≤ i1 ∧ i1 ≤ (M 516 9) - 1) ∧ 0 ≤ i2 ∧ i2 ≤ (M 516 10) - 1) → Q (some (.int (-101))) M L))) : RX xs shL md_Mod_about 0 [.ref 516, .int i1, .int i2, .int i3] [] M L Q := by
  refine r_aload_n d_Mod_about_0 rfl ?_
  refine r_iload_n d_Mod_about_1 rfl ?_
  refine r_iload_n d_Mod_about_2 rfl ?_
  refine x_callV (as := [.int i1, .int i2]) (st := []) d_Mod_about_3 ml_Mod_143 mc_Mod_isCell mv_Mod_isCell ⟨by decide, by decide⟩ gO_516 ⟨_, rfl, rfl⟩ rfl (Nat.le_of_ble_eq_true rfl) (Nat.le_of_ble_eq_true rfl) (Q1 := fun r M1 L1 => some (.int (bI ((0 ≤ i1 ∧ i1 ≤ (M 516 9) - 1) ∧ 0 ≤ i2 ∧ i2 ≤ (M 516 10) - 1))) = r ∧ M = M1 ∧ L = L1) (s_Mod_isCell ⟨rfl, rfl, rfl⟩) ?_
  rintro _ _ _ ⟨rfl, rfl, rfl⟩
  refine r_if_ne d_Mod_about_6 (fun c_1 => ?_) (fun c_1 => ?_)
  · have h9 := h.1 (bI_p1 c_1)
    refine r_iload_n d_Mod_about_12 rfl ?_
    refine r_if_ne d_Mod_about_13 (fun c_2 => ?_) (fun c_2 => ?_)
    · have h9 := h9.2 c_2
      refine r_iload_n d_Mod_about_29 rfl ?_
      refine r_iconst (v := 1) d_Mod_about_30 (by decide) ?_
      refine r_ic_ne d_Mod_about_31 (fun c_3 => ?_) (fun c_3 => ?_)
      · have h9 := h9.2 c_3
        refine r_iload_n d_Mod_about_55 rfl ?_
        refine r_iconst (v := 2) d_Mod_about_56 (by decide) ?_
        refine r_ic_ne d_Mod_about_57 (fun c_4 => ?_) (fun c_4 => ?_)
        · have h9 := h9.2 c_4
          refine r_bipush (v := (-102)) d_Mod_about_69 (by decide) ?_
          exact r_iret ⟨d_Mod_about_71, _, rfl, rfl⟩ ⟨_, _, rfl, h9⟩
        · have h9 := h9.1 c_4
          refine r_aload_n d_Mod_about_60 rfl ?_
          refine r_iload_n d_Mod_about_61 rfl ?_
          refine r_iload_n d_Mod_about_62 rfl ?_
          refine x_callV (as := [.int i1, .int i2]) (st := []) d_Mod_about_63 ml_Mod_153 mc_Mod_nearest mv_Mod_nearest ⟨by decide, by decide⟩ gO_516 ⟨_, rfl, rfl⟩ rfl (Nat.le_of_ble_eq_true rfl) (Nat.le_of_ble_eq_true rfl) h9 ?_
          rintro _ M_5 L_6 ⟨v_7, rfl, h9⟩
          refine r_goto d_Mod_about_66 ?_
          exact r_iret ⟨d_Mod_about_71, _, rfl, rfl⟩ ⟨_, _, rfl, h9⟩
      · have h9 := h9.1 c_3
        refine r_aload_n d_Mod_about_34 rfl ?_
        refine x_getR d_Mod_about_35 fl_Mod_41 gR_516_12 ?_
        refine r_iload_n d_Mod_about_38 rfl ?_
        refine r_iload_n d_Mod_about_39 rfl ?_
        refine x_callS (as := [.int i1, .int i2]) (st := [.ref 524]) d_Mod_about_40 ml_Mod_147 mc_Mod_at ms_Mod_at ⟨by decide, by decide⟩ rfl (Nat.le_of_ble_eq_true rfl) (Nat.le_of_ble_eq_true rfl) (Q1 := fun r M1 L1 => some (.int (20 * i2 + i1)) = r ∧ M = M1 ∧ L = L1) (s_Mod_at ⟨rfl, rfl, rfl⟩) ?_
        rintro _ _ _ ⟨rfl, rfl, rfl⟩
        obtain ⟨o_8, h9⟩ := h9
        refine x_zald d_Mod_about_43 aZ_524 o_8 ?_
        refine r_if_eq d_Mod_about_44 (fun c_9 => ?_) (fun c_9 => ?_)
        · have h9 := h9.1 c_9
          refine r_iconst (v := 0) d_Mod_about_51 (by decide) ?_
          refine r_goto d_Mod_about_52 ?_
          exact r_iret ⟨d_Mod_about_71, _, rfl, rfl⟩ ⟨_, _, rfl, h9⟩
        · have h9 := h9.2 c_9
          refine r_iconst (v := 1) d_Mod_about_47 (by decide) ?_
          refine r_goto d_Mod_about_48 ?_
          exact r_iret ⟨d_Mod_about_71, _, rfl, rfl⟩ ⟨_, _, rfl, h9⟩
    · have h9 := h9.1 c_2
      refine r_aload_n d_Mod_about_16 rfl ?_
      refine x_getR d_Mod_about_17 fl_Mod_38 gR_516_11 ?_
      refine r_iload_n d_Mod_about_20 rfl ?_
      refine r_iload_n d_Mod_about_21 rfl ?_
      refine x_callS (as := [.int i1, .int i2]) (st := [.ref 523]) d_Mod_about_22 ml_Mod_147 mc_Mod_at ms_Mod_at ⟨by decide, by decide⟩ rfl (Nat.le_of_ble_eq_true rfl) (Nat.le_of_ble_eq_true rfl) (Q1 := fun r M1 L1 => some (.int (20 * i2 + i1)) = r ∧ M = M1 ∧ L = L1) (s_Mod_at ⟨rfl, rfl, rfl⟩) ?_
      rintro _ _ _ ⟨rfl, rfl, rfl⟩
      obtain ⟨o_10, h9⟩ := h9
      refine x_iald d_Mod_about_25 aI_523 o_10 ?_
      refine r_goto d_Mod_about_26 ?_
      exact r_iret ⟨d_Mod_about_71, _, rfl, rfl⟩ ⟨_, _, rfl, h9⟩
  · have h9 := h.2 (bI_p0 c_1)
    refine r_bipush (v := (-101)) d_Mod_about_9 (by decide) ?_
    exact r_iret ⟨d_Mod_about_11, _, rfl, rfl⟩ ⟨_, _, rfl, h9⟩
theorem L_Mod_run_0 {xs : List Int32} {i1 : Int32} {M : Mem} {L : Int64} {Q : Option Value → Mem → Int64 → Prop} 
    (h : (((0 ≤ i1 ∧ i1 ≤ (M 516 4) - 1) → RX xs shL md_Mod_run 13 [.ref 516, .int i1, .int 0] [] M L Q) ∧ (¬ (0 ≤ i1 ∧ i1 ≤ (M 516 4) - 1) → Q (some (.int (-101))) M L))) : RX xs shL md_Mod_run 0 [.ref 516, .int i1] [] M L Q := by
  refine r_weak (lv' := [.ref 516, .int i1, .null]) (by repeat (first | exact trivial | refine ⟨rfl, ?_⟩ | exact lle_nil)) ?_
  refine r_aload_n d_Mod_run_0 rfl ?_
  refine r_iload_n d_Mod_run_1 rfl ?_
  refine x_callV (as := [.int i1]) (st := []) d_Mod_run_2 ml_Mod_115 mc_Mod_isWatch mv_Mod_isWatch ⟨by decide, by decide⟩ gO_516 ⟨_, rfl, rfl⟩ rfl (Nat.le_of_ble_eq_true rfl) (Nat.le_of_ble_eq_true rfl) (Q1 := fun r M1 L1 => some (.int (bI (0 ≤ i1 ∧ i1 ≤ (M 516 4) - 1))) = r ∧ M = M1 ∧ L = L1) (L_Mod_isWatch_0 ⟨rfl, rfl, rfl⟩) ?_
  rintro _ _ _ ⟨rfl, rfl, rfl⟩
  refine r_if_ne d_Mod_run_5 (fun c_1 => ?_) (fun c_1 => ?_)
  · have h9 := h.1 (bI_p1 c_1)
    refine r_iconst (v := 0) d_Mod_run_11 (by decide) ?_
    refine r_istore_n d_Mod_run_12 (by decide) ?_
    exact h9
  · have h9 := h.2 (bI_p0 c_1)
    refine r_bipush (v := (-101)) d_Mod_run_8 (by decide) ?_
    exact r_iret ⟨d_Mod_run_10, _, rfl, rfl⟩ ⟨_, _, rfl, h9⟩
theorem L_Mod_run_13 {xs : List Int32} {i1 : Int32} {i2 : Int32} {M : Mem} {L : Int64} {Q : Option Value → Mem → Int64 → Prop} 
    (h : (((M 516 20) ≤ i2 → RX xs shL md_Mod_add 0 [.ref 516, .int i1, .int (-1), .int 0, .int 0] [] M L (fun r M_3 L_4 => ∃ v_5 : Int32, r = some (.int v_5) ∧ Q (some (.int v_5)) M_3 L_4)) ∧ (¬ ((M 516 20) ≤ i2) → (vp_in (5 * i2) 200 ∧ (((M 525 ((5 * i2).toNatClampNeg)) = i1 → Q (some (.int (-103))) M L) ∧ (¬ ((M 525 ((5 * i2).toNatClampNeg)) = i1) → RX xs shL md_Mod_run 13 [.ref 516, .int i1, .int (i2 + 1)] [] M L Q)))))) : RX xs shL md_Mod_run 13 [.ref 516, .int i1, .int i2] [] M L Q := by
  refine r_iload_n d_Mod_run_13 rfl ?_
  refine r_aload_n d_Mod_run_14 rfl ?_
  refine x_getI d_Mod_run_15 fl_Mod_140 gI_516_20 ?_
  refine r_ic_ge d_Mod_run_18 (fun c_2 => ?_) (fun c_2 => ?_)
  · have h9 := h.1 c_2
    refine r_aload_n d_Mod_run_42 rfl ?_
    refine r_iload_n d_Mod_run_43 rfl ?_
    refine r_iconst (v := (-1)) d_Mod_run_44 (by decide) ?_
    refine r_iconst (v := 0) d_Mod_run_45 (by decide) ?_
    refine r_iconst (v := 0) d_Mod_run_46 (by decide) ?_
    refine x_callV (as := [.int i1, .int (-1), .int 0, .int 0]) (st := []) d_Mod_run_47 ml_Mod_168 mc_Mod_add mv_Mod_add ⟨by decide, by decide⟩ gO_516 ⟨_, rfl, rfl⟩ rfl (Nat.le_of_ble_eq_true rfl) (Nat.le_of_ble_eq_true rfl) h9 ?_
    rintro _ M_3 L_4 ⟨v_5, rfl, h9⟩
    exact r_iret ⟨d_Mod_run_50, _, rfl, rfl⟩ ⟨_, _, rfl, h9⟩
  · have h9 := h.2 c_2
    refine r_aload_n d_Mod_run_21 rfl ?_
    refine x_getR d_Mod_run_22 fl_Mod_45 gR_516_21 ?_
    refine r_iconst (v := 5) d_Mod_run_25 (by decide) ?_
    refine r_iload_n d_Mod_run_26 rfl ?_
    refine r_imul d_Mod_run_27 ?_
    obtain ⟨o_6, h9⟩ := h9
    refine x_iald d_Mod_run_28 aI_525 o_6 ?_
    refine r_iload_n d_Mod_run_29 rfl ?_
    refine r_ic_ne d_Mod_run_30 (fun c_7 => ?_) (fun c_7 => ?_)
    · have h9 := h9.2 c_7
      refine r_iinc (v := i2 + 1) d_Mod_run_36 rfl rfl (by decide) ?_
      refine r_goto d_Mod_run_39 ?_
      exact h9
    · have h9 := h9.1 c_7
      refine r_bipush (v := (-103)) d_Mod_run_33 (by decide) ?_
      exact r_iret ⟨d_Mod_run_35, _, rfl, rfl⟩ ⟨_, _, rfl, h9⟩
theorem L_Mod_count_0 {xs : List Int32} {i1 : Int32} {i2 : Int32} {M : Mem} {L : Int64} {Q : Option Value → Mem → Int64 → Prop} 
    (h : (((0 ≤ i1 ∧ i1 ≤ (M 516 20) - 1) → (vp_in ((5 * i1) + 4) 200 ∧ ((i2 = 0 → Q (some (.int (M 525 (((5 * i1) + 4).toNatClampNeg)))) (up M 525 (((5 * i1) + 4).toNatClampNeg) 0) L) ∧ (¬ (i2 = 0) → Q (some (.int (M 525 (((5 * i1) + 4).toNatClampNeg)))) (up M 525 (((5 * i1) + 4).toNatClampNeg) 1) L)))) ∧ (¬ (0 ≤ i1 ∧ i1 ≤ (M 516 20) - 1) → Q (some (.int (-101))) M L))) : RX xs shL md_Mod_count 0 [.ref 516, .int i1, .int i2] [] M L Q := by
  refine r_weak (lv' := [.ref 516, .int i1, .int i2, .null]) (by repeat (first | exact trivial | refine ⟨rfl, ?_⟩ | exact lle_nil)) ?_
  refine r_aload_n d_Mod_count_0 rfl ?_
  refine r_iload_n d_Mod_count_1 rfl ?_
  refine x_callV (as := [.int i1]) (st := []) d_Mod_count_2 ml_Mod_172 mc_Mod_isRow mv_Mod_isRow ⟨by decide, by decide⟩ gO_516 ⟨_, rfl, rfl⟩ rfl (Nat.le_of_ble_eq_true rfl) (Nat.le_of_ble_eq_true rfl) (Q1 := fun r M1 L1 => some (.int (bI (0 ≤ i1 ∧ i1 ≤ (M 516 20) - 1))) = r ∧ M = M1 ∧ L = L1) (L_Mod_isRow_0 ⟨rfl, rfl, rfl⟩) ?_
  rintro _ _ _ ⟨rfl, rfl, rfl⟩
  refine r_if_ne d_Mod_count_5 (fun c_1 => ?_) (fun c_1 => ?_)
  · have h9 := h.1 (bI_p1 c_1)
    refine r_aload_n d_Mod_count_11 rfl ?_
    refine x_getR d_Mod_count_12 fl_Mod_45 gR_516_21 ?_
    refine r_iconst (v := 5) d_Mod_count_15 (by decide) ?_
    refine r_iload_n d_Mod_count_16 rfl ?_
    refine r_imul d_Mod_count_17 ?_
    refine r_iconst (v := 4) d_Mod_count_18 (by decide) ?_
    refine r_iadd d_Mod_count_19 ?_
    obtain ⟨o_2, h9⟩ := h9
    refine x_iald d_Mod_count_20 aI_525 o_2 ?_
    refine r_istore_n d_Mod_count_21 (by decide) ?_
    refine r_aload_n d_Mod_count_22 rfl ?_
    refine x_getR d_Mod_count_23 fl_Mod_45 gR_516_21 ?_
    refine r_iconst (v := 5) d_Mod_count_26 (by decide) ?_
    refine r_iload_n d_Mod_count_27 rfl ?_
    refine r_imul d_Mod_count_28 ?_
    refine r_iconst (v := 4) d_Mod_count_29 (by decide) ?_
    refine r_iadd d_Mod_count_30 ?_
    refine r_iload_n d_Mod_count_31 rfl ?_
    refine r_if_eq d_Mod_count_32 (fun c_3 => ?_) (fun c_3 => ?_)
    · have h9 := h9.1 c_3
      refine r_iconst (v := 0) d_Mod_count_39 (by decide) ?_
      refine x_iast d_Mod_count_40 aI_525 o_2 ?_
      refine r_iload_n d_Mod_count_41 rfl ?_
      exact r_iret ⟨d_Mod_count_42, _, rfl, rfl⟩ ⟨_, _, rfl, h9⟩
    · have h9 := h9.2 c_3
      refine r_iconst (v := 1) d_Mod_count_35 (by decide) ?_
      refine r_goto d_Mod_count_36 ?_
      refine x_iast d_Mod_count_40 aI_525 o_2 ?_
      refine r_iload_n d_Mod_count_41 rfl ?_
      exact r_iret ⟨d_Mod_count_42, _, rfl, rfl⟩ ⟨_, _, rfl, h9⟩
  · have h9 := h.2 (bI_p0 c_1)
    refine r_bipush (v := (-101)) d_Mod_count_8 (by decide) ?_
    exact r_iret ⟨d_Mod_count_10, _, rfl, rfl⟩ ⟨_, _, rfl, h9⟩
theorem L_Mod_row_0 {xs : List Int32} {i1 : Int32} {i2 : Int32} {M : Mem} {L : Int64} {Q : Option Value → Mem → Int64 → Prop} 
    (h : (((0 ≤ i1 ∧ i1 ≤ (M 516 20) - 1) → ((((0 : Int32) ≤ i2 ∧ i2 ≤ 4) → (vp_in ((5 * i1) + i2) 200 ∧ Q (some (.int (M 525 (((5 * i1) + i2).toNatClampNeg)))) M L)) ∧ (¬ ((0 : Int32) ≤ i2 ∧ i2 ≤ 4) → Q (some (.int (-102))) M L))) ∧ (¬ (0 ≤ i1 ∧ i1 ≤ (M 516 20) - 1) → Q (some (.int (-101))) M L))) : RX xs shL md_Mod_row 0 [.ref 516, .int i1, .int i2] [] M L Q := by
  refine r_aload_n d_Mod_row_0 rfl ?_
  refine r_iload_n d_Mod_row_1 rfl ?_
  refine x_callV (as := [.int i1]) (st := []) d_Mod_row_2 ml_Mod_172 mc_Mod_isRow mv_Mod_isRow ⟨by decide, by decide⟩ gO_516 ⟨_, rfl, rfl⟩ rfl (Nat.le_of_ble_eq_true rfl) (Nat.le_of_ble_eq_true rfl) (Q1 := fun r M1 L1 => some (.int (bI (0 ≤ i1 ∧ i1 ≤ (M 516 20) - 1))) = r ∧ M = M1 ∧ L = L1) (L_Mod_isRow_0 ⟨rfl, rfl, rfl⟩) ?_
  rintro _ _ _ ⟨rfl, rfl, rfl⟩
  refine r_if_ne d_Mod_row_5 (fun c_1 => ?_) (fun c_1 => ?_)
  · have h9 := h.1 (bI_p1 c_1)
    refine r_iload_n d_Mod_row_11 rfl ?_
    refine r_iconst (v := 0) d_Mod_row_12 (by decide) ?_
    refine r_iconst (v := 4) d_Mod_row_13 (by decide) ?_
    refine x_callS (as := [.int i2, .int 0, .int 4]) (st := []) d_Mod_row_14 ml_Mod_75 mc_Mod_in ms_Mod_in ⟨by decide, by decide⟩ rfl (Nat.le_of_ble_eq_true rfl) (Nat.le_of_ble_eq_true rfl) (Q1 := fun r M1 L1 => some (.int (bI ((0 : Int32) ≤ i2 ∧ i2 ≤ 4))) = r ∧ M = M1 ∧ L = L1) (s_Mod_in ⟨rfl, rfl, rfl⟩) ?_
    rintro _ _ _ ⟨rfl, rfl, rfl⟩
    refine r_if_eq d_Mod_row_17 (fun c_2 => ?_) (fun c_2 => ?_)
    · have h9 := h9.2 (bI_p0 c_2)
      refine r_bipush (v := (-102)) d_Mod_row_33 (by decide) ?_
      exact r_iret ⟨d_Mod_row_35, _, rfl, rfl⟩ ⟨_, _, rfl, h9⟩
    · have h9 := h9.1 (bI_p1 c_2)
      refine r_aload_n d_Mod_row_20 rfl ?_
      refine x_getR d_Mod_row_21 fl_Mod_45 gR_516_21 ?_
      refine r_iconst (v := 5) d_Mod_row_24 (by decide) ?_
      refine r_iload_n d_Mod_row_25 rfl ?_
      refine r_imul d_Mod_row_26 ?_
      refine r_iload_n d_Mod_row_27 rfl ?_
      refine r_iadd d_Mod_row_28 ?_
      obtain ⟨o_3, h9⟩ := h9
      refine x_iald d_Mod_row_29 aI_525 o_3 ?_
      refine r_goto d_Mod_row_30 ?_
      exact r_iret ⟨d_Mod_row_35, _, rfl, rfl⟩ ⟨_, _, rfl, h9⟩
  · have h9 := h.2 (bI_p0 c_1)
    refine r_bipush (v := (-101)) d_Mod_row_8 (by decide) ?_
    exact r_iret ⟨d_Mod_row_10, _, rfl, rfl⟩ ⟨_, _, rfl, h9⟩
theorem L_Mod_start_0 {xs : List Int32} {i1 : Int32} {i2 : Int32} {i3 : Int32} {M : Mem} {L : Int64} {Q : Option Value → Mem → Int64 → Prop} 
    (h : ((((0 ≤ i1 ∧ i1 ≤ (M 516 9) - 1) ∧ 0 ≤ i2 ∧ i2 ≤ (M 516 10) - 1) → ((((0 : Int32) ≤ i3 ∧ i3 ≤ 20) → RX xs shL md_Mod_begin 0 [.ref 516] [] (up (up (up M 516 17 i1) 516 18 i2) 516 19 i3) L (fun r M_3 L_4 => r = none ∧ RX xs shL md_Mod_cells 0 [.ref 516] [] M_3 L_4 (fun r M_5 L_6 => ∃ v_7 : Int32, r = some (.int v_7) ∧ Q (some (.int v_7)) M_5 L_6))) ∧ (¬ ((0 : Int32) ≤ i3 ∧ i3 ≤ 20) → Q (some (.int (-102))) M L))) ∧ (¬ ((0 ≤ i1 ∧ i1 ≤ (M 516 9) - 1) ∧ 0 ≤ i2 ∧ i2 ≤ (M 516 10) - 1) → Q (some (.int (-101))) M L))) : RX xs shL md_Mod_start 0 [.ref 516, .int i1, .int i2, .int i3] [] M L Q := by
  refine r_aload_n d_Mod_start_0 rfl ?_
  refine r_iload_n d_Mod_start_1 rfl ?_
  refine r_iload_n d_Mod_start_2 rfl ?_
  refine x_callV (as := [.int i1, .int i2]) (st := []) d_Mod_start_3 ml_Mod_143 mc_Mod_isCell mv_Mod_isCell ⟨by decide, by decide⟩ gO_516 ⟨_, rfl, rfl⟩ rfl (Nat.le_of_ble_eq_true rfl) (Nat.le_of_ble_eq_true rfl) (Q1 := fun r M1 L1 => some (.int (bI ((0 ≤ i1 ∧ i1 ≤ (M 516 9) - 1) ∧ 0 ≤ i2 ∧ i2 ≤ (M 516 10) - 1))) = r ∧ M = M1 ∧ L = L1) (s_Mod_isCell ⟨rfl, rfl, rfl⟩) ?_
  rintro _ _ _ ⟨rfl, rfl, rfl⟩
  refine r_if_ne d_Mod_start_6 (fun c_1 => ?_) (fun c_1 => ?_)
  · have h9 := h.1 (bI_p1 c_1)
    refine r_iload_n d_Mod_start_12 rfl ?_
    refine r_iconst (v := 0) d_Mod_start_13 (by decide) ?_
    refine r_bipush (v := 20) d_Mod_start_14 (by decide) ?_
    refine x_callS (as := [.int i3, .int 0, .int 20]) (st := []) d_Mod_start_16 ml_Mod_75 mc_Mod_in ms_Mod_in ⟨by decide, by decide⟩ rfl (Nat.le_of_ble_eq_true rfl) (Nat.le_of_ble_eq_true rfl) (Q1 := fun r M1 L1 => some (.int (bI ((0 : Int32) ≤ i3 ∧ i3 ≤ 20))) = r ∧ M = M1 ∧ L = L1) (s_Mod_in ⟨rfl, rfl, rfl⟩) ?_
    rintro _ _ _ ⟨rfl, rfl, rfl⟩
    refine r_if_ne d_Mod_start_19 (fun c_2 => ?_) (fun c_2 => ?_)
    · have h9 := h9.1 (bI_p1 c_2)
      refine r_aload_n d_Mod_start_25 rfl ?_
      refine r_iload_n d_Mod_start_26 rfl ?_
      refine x_putI d_Mod_start_27 fl_Mod_66 (fun r hr => by cases hr; rfl) gI_516_17 (VOk_int _) ?_
      refine r_aload_n d_Mod_start_30 rfl ?_
      refine r_iload_n d_Mod_start_31 rfl ?_
      refine x_putI d_Mod_start_32 fl_Mod_69 (fun r hr => by cases hr; rfl) gI_516_18 (VOk_int _) ?_
      refine r_aload_n d_Mod_start_35 rfl ?_
      refine r_iload_n d_Mod_start_36 rfl ?_
      refine x_putI d_Mod_start_37 fl_Mod_72 (fun r hr => by cases hr; rfl) gI_516_19 (VOk_int _) ?_
      refine r_aload_n d_Mod_start_40 rfl ?_
      refine x_callV (as := []) (st := []) d_Mod_start_41 ml_Mod_175 mc_Mod_begin mv_Mod_begin ⟨by decide, by decide⟩ gO_516 ⟨_, rfl, rfl⟩ rfl (Nat.le_of_ble_eq_true rfl) (Nat.le_of_ble_eq_true rfl) h9 ?_
      rintro _ M_3 L_4 ⟨rfl, h9⟩
      refine r_aload_n d_Mod_start_44 rfl ?_
      refine x_callV (as := []) (st := []) d_Mod_start_45 ml_Mod_178 mc_Mod_cells mv_Mod_cells ⟨by decide, by decide⟩ gO_516 ⟨_, rfl, rfl⟩ rfl (Nat.le_of_ble_eq_true rfl) (Nat.le_of_ble_eq_true rfl) h9 ?_
      rintro _ M_5 L_6 ⟨v_7, rfl, h9⟩
      exact r_iret ⟨d_Mod_start_48, _, rfl, rfl⟩ ⟨_, _, rfl, h9⟩
    · have h9 := h9.2 (bI_p0 c_2)
      refine r_bipush (v := (-102)) d_Mod_start_22 (by decide) ?_
      exact r_iret ⟨d_Mod_start_24, _, rfl, rfl⟩ ⟨_, _, rfl, h9⟩
  · have h9 := h.2 (bI_p0 c_1)
    refine r_bipush (v := (-101)) d_Mod_start_9 (by decide) ?_
    exact r_iret ⟨d_Mod_start_11, _, rfl, rfl⟩ ⟨_, _, rfl, h9⟩
theorem L_Mod_patch_0 {xs : List Int32} {i1 : Int32} {M : Mem} {L : Int64} {Q : Option Value → Mem → Int64 → Prop} 
    (h : ((((0 : Int32) ≤ i1 ∧ i1 ≤ (M 516 20)) → RX xs shL md_Mod_goPlain 0 [.ref 516] [] M L (fun r M_2 L_3 => r = none ∧ RX xs shL md_Mod_lay 0 [.ref 516, .int i1] [] M_2 L_3 (fun r M_4 L_5 => r = none ∧ RX xs shL md_Mod_cells 0 [.ref 516] [] M_4 L_5 (fun r M_6 L_7 => ∃ v_8 : Int32, r = some (.int v_8) ∧ Q (some (.int v_8)) M_6 L_7)))) ∧ (¬ ((0 : Int32) ≤ i1 ∧ i1 ≤ (M 516 20)) → Q (some (.int (-101))) M L))) : RX xs shL md_Mod_patch 0 [.ref 516, .int i1] [] M L Q := by
  refine r_iload_n d_Mod_patch_0 rfl ?_
  refine r_iconst (v := 0) d_Mod_patch_1 (by decide) ?_
  refine r_aload_n d_Mod_patch_2 rfl ?_
  refine x_getI d_Mod_patch_3 fl_Mod_140 gI_516_20 ?_
  refine x_callS (as := [.int i1, .int 0, .int (M 516 20)]) (st := []) d_Mod_patch_6 ml_Mod_75 mc_Mod_in ms_Mod_in ⟨by decide, by decide⟩ rfl (Nat.le_of_ble_eq_true rfl) (Nat.le_of_ble_eq_true rfl) (Q1 := fun r M1 L1 => some (.int (bI ((0 : Int32) ≤ i1 ∧ i1 ≤ (M 516 20)))) = r ∧ M = M1 ∧ L = L1) (s_Mod_in ⟨rfl, rfl, rfl⟩) ?_
  rintro _ _ _ ⟨rfl, rfl, rfl⟩
  refine r_if_ne d_Mod_patch_9 (fun c_1 => ?_) (fun c_1 => ?_)
  · have h9 := h.1 (bI_p1 c_1)
    refine r_aload_n d_Mod_patch_15 rfl ?_
    refine x_callV (as := []) (st := []) d_Mod_patch_16 ml_Mod_223 mc_Mod_goPlain mv_Mod_goPlain ⟨by decide, by decide⟩ gO_516 ⟨_, rfl, rfl⟩ rfl (Nat.le_of_ble_eq_true rfl) (Nat.le_of_ble_eq_true rfl) h9 ?_
    rintro _ M_2 L_3 ⟨rfl, h9⟩
    refine r_aload_n d_Mod_patch_19 rfl ?_
    refine r_iload_n d_Mod_patch_20 rfl ?_
    refine x_callV (as := [.int i1]) (st := []) d_Mod_patch_21 ml_Mod_226 mc_Mod_lay mv_Mod_lay ⟨by decide, by decide⟩ gO_516 ⟨_, rfl, rfl⟩ rfl (Nat.le_of_ble_eq_true rfl) (Nat.le_of_ble_eq_true rfl) h9 ?_
    rintro _ M_4 L_5 ⟨rfl, h9⟩
    refine r_aload_n d_Mod_patch_24 rfl ?_
    refine x_callV (as := []) (st := []) d_Mod_patch_25 ml_Mod_178 mc_Mod_cells mv_Mod_cells ⟨by decide, by decide⟩ gO_516 ⟨_, rfl, rfl⟩ rfl (Nat.le_of_ble_eq_true rfl) (Nat.le_of_ble_eq_true rfl) h9 ?_
    rintro _ M_6 L_7 ⟨v_8, rfl, h9⟩
    exact r_iret ⟨d_Mod_patch_28, _, rfl, rfl⟩ ⟨_, _, rfl, h9⟩
  · have h9 := h.2 (bI_p0 c_1)
    refine r_bipush (v := (-101)) d_Mod_patch_12 (by decide) ?_
    exact r_iret ⟨d_Mod_patch_14, _, rfl, rfl⟩ ⟨_, _, rfl, h9⟩
theorem L_Mod_has_0 {xs : List Int32} {i1 : Int32} {i2 : Int32} {i3 : Int32} {M : Mem} {L : Int64} {Q : Option Value → Mem → Int64 → Prop} 
    (h : ((((0 : Int32) ≤ i1 ∧ i1 ≤ (M 516 20)) → ((((0 ≤ i2 ∧ i2 ≤ (M 516 9) - 1) ∧ 0 ≤ i3 ∧ i3 ≤ (M 516 10) - 1) → RX xs shL md_Mod_goPlain 0 [.ref 516] [] M L (fun r M_3 L_4 => r = none ∧ (vp_in ((400 * i1) + (20 * i3 + i2)) 16400 ∧ (((M_3 529 (((400 * i1) + (20 * i3 + i2)).toNatClampNeg)) = 0 → Q (some (.int 0)) M_3 L_4) ∧ (¬ ((M_3 529 (((400 * i1) + (20 * i3 + i2)).toNatClampNeg)) = 0) → Q (some (.int 1)) M_3 L_4))))) ∧ (¬ ((0 ≤ i2 ∧ i2 ≤ (M 516 9) - 1) ∧ 0 ≤ i3 ∧ i3 ≤ (M 516 10) - 1) → Q (some (.int (-101))) M L))) ∧ (¬ ((0 : Int32) ≤ i1 ∧ i1 ≤ (M 516 20)) → Q (some (.int (-101))) M L))) : RX xs shL md_Mod_has 0 [.ref 516, .int i1, .int i2, .int i3] [] M L Q := by
  refine r_iload_n d_Mod_has_0 rfl ?_
  refine r_iconst (v := 0) d_Mod_has_1 (by decide) ?_
  refine r_aload_n d_Mod_has_2 rfl ?_
  refine x_getI d_Mod_has_3 fl_Mod_140 gI_516_20 ?_
  refine x_callS (as := [.int i1, .int 0, .int (M 516 20)]) (st := []) d_Mod_has_6 ml_Mod_75 mc_Mod_in ms_Mod_in ⟨by decide, by decide⟩ rfl (Nat.le_of_ble_eq_true rfl) (Nat.le_of_ble_eq_true rfl) (Q1 := fun r M1 L1 => some (.int (bI ((0 : Int32) ≤ i1 ∧ i1 ≤ (M 516 20)))) = r ∧ M = M1 ∧ L = L1) (s_Mod_in ⟨rfl, rfl, rfl⟩) ?_
  rintro _ _ _ ⟨rfl, rfl, rfl⟩
  refine r_if_eq d_Mod_has_9 (fun c_1 => ?_) (fun c_1 => ?_)
  · have h9 := h.2 (bI_p0 c_1)
    refine r_bipush (v := (-101)) d_Mod_has_21 (by decide) ?_
    exact r_iret ⟨d_Mod_has_23, _, rfl, rfl⟩ ⟨_, _, rfl, h9⟩
  · have h9 := h.1 (bI_p1 c_1)
    refine r_aload_n d_Mod_has_12 rfl ?_
    refine r_iload_n d_Mod_has_13 rfl ?_
    refine r_iload_n d_Mod_has_14 rfl ?_
    refine x_callV (as := [.int i2, .int i3]) (st := []) d_Mod_has_15 ml_Mod_143 mc_Mod_isCell mv_Mod_isCell ⟨by decide, by decide⟩ gO_516 ⟨_, rfl, rfl⟩ rfl (Nat.le_of_ble_eq_true rfl) (Nat.le_of_ble_eq_true rfl) (Q1 := fun r M1 L1 => some (.int (bI ((0 ≤ i2 ∧ i2 ≤ (M 516 9) - 1) ∧ 0 ≤ i3 ∧ i3 ≤ (M 516 10) - 1))) = r ∧ M = M1 ∧ L = L1) (s_Mod_isCell ⟨rfl, rfl, rfl⟩) ?_
    rintro _ _ _ ⟨rfl, rfl, rfl⟩
    refine r_if_ne d_Mod_has_18 (fun c_2 => ?_) (fun c_2 => ?_)
    · have h9 := h9.1 (bI_p1 c_2)
      refine r_aload_n d_Mod_has_24 rfl ?_
      refine x_callV (as := []) (st := []) d_Mod_has_25 ml_Mod_223 mc_Mod_goPlain mv_Mod_goPlain ⟨by decide, by decide⟩ gO_516 ⟨_, rfl, rfl⟩ rfl (Nat.le_of_ble_eq_true rfl) (Nat.le_of_ble_eq_true rfl) h9 ?_
      rintro _ M_3 L_4 ⟨rfl, h9⟩
      refine r_aload_n d_Mod_has_28 rfl ?_
      refine x_getR d_Mod_has_29 fl_Mod_57 gR_516_31 ?_
      refine r_sipush (v := 400) d_Mod_has_32 (by decide) ?_
      refine r_iload_n d_Mod_has_35 rfl ?_
      refine r_imul d_Mod_has_36 ?_
      refine r_iload_n d_Mod_has_37 rfl ?_
      refine r_iload_n d_Mod_has_38 rfl ?_
      refine x_callS (as := [.int i2, .int i3]) (st := [.int (400 * i1), .ref 529]) d_Mod_has_39 ml_Mod_147 mc_Mod_at ms_Mod_at ⟨by decide, by decide⟩ rfl (Nat.le_of_ble_eq_true rfl) (Nat.le_of_ble_eq_true rfl) (Q1 := fun r M1 L1 => some (.int (20 * i3 + i2)) = r ∧ M_3 = M1 ∧ L_4 = L1) (s_Mod_at ⟨rfl, rfl, rfl⟩) ?_
      rintro _ _ _ ⟨rfl, rfl, rfl⟩
      refine r_iadd d_Mod_has_42 ?_
      obtain ⟨o_5, h9⟩ := h9
      refine x_zald d_Mod_has_43 aZ_529 o_5 ?_
      refine r_if_eq d_Mod_has_44 (fun c_6 => ?_) (fun c_6 => ?_)
      · have h9 := h9.1 c_6
        refine r_iconst (v := 0) d_Mod_has_51 (by decide) ?_
        exact r_iret ⟨d_Mod_has_52, _, rfl, rfl⟩ ⟨_, _, rfl, h9⟩
      · have h9 := h9.2 c_6
        refine r_iconst (v := 1) d_Mod_has_47 (by decide) ?_
        refine r_goto d_Mod_has_48 ?_
        exact r_iret ⟨d_Mod_has_52, _, rfl, rfl⟩ ⟨_, _, rfl, h9⟩
    · have h9 := h9.2 (bI_p0 c_2)
      refine r_bipush (v := (-101)) d_Mod_has_21 (by decide) ?_
      exact r_iret ⟨d_Mod_has_23, _, rfl, rfl⟩ ⟨_, _, rfl, h9⟩
theorem L_Mod_here_0 {xs : List Int32} {i1 : Int32} {M : Mem} {L : Int64} {Q : Option Value → Mem → Int64 → Prop} 
    (h : ((((0 : Int32) ≤ i1 ∧ i1 ≤ (M 516 20)) → RX xs shL md_Mod_goBack 0 [.ref 516, .int i1] [] M L (fun r M_2 L_3 => r = none ∧ RX xs shL md_Mod_cells 0 [.ref 516] [] M_2 L_3 (fun r M_4 L_5 => ∃ v_6 : Int32, r = some (.int v_6) ∧ Q (some (.int v_6)) M_4 L_5))) ∧ (¬ ((0 : Int32) ≤ i1 ∧ i1 ≤ (M 516 20)) → Q (some (.int (-101))) M L))) : RX xs shL md_Mod_here 0 [.ref 516, .int i1] [] M L Q := by
  refine r_iload_n d_Mod_here_0 rfl ?_
  refine r_iconst (v := 0) d_Mod_here_1 (by decide) ?_
  refine r_aload_n d_Mod_here_2 rfl ?_
  refine x_getI d_Mod_here_3 fl_Mod_140 gI_516_20 ?_
  refine x_callS (as := [.int i1, .int 0, .int (M 516 20)]) (st := []) d_Mod_here_6 ml_Mod_75 mc_Mod_in ms_Mod_in ⟨by decide, by decide⟩ rfl (Nat.le_of_ble_eq_true rfl) (Nat.le_of_ble_eq_true rfl) (Q1 := fun r M1 L1 => some (.int (bI ((0 : Int32) ≤ i1 ∧ i1 ≤ (M 516 20)))) = r ∧ M = M1 ∧ L = L1) (s_Mod_in ⟨rfl, rfl, rfl⟩) ?_
  rintro _ _ _ ⟨rfl, rfl, rfl⟩
  refine r_if_ne d_Mod_here_9 (fun c_1 => ?_) (fun c_1 => ?_)
  · have h9 := h.1 (bI_p1 c_1)
    refine r_aload_n d_Mod_here_15 rfl ?_
    refine r_iload_n d_Mod_here_16 rfl ?_
    refine x_callV (as := [.int i1]) (st := []) d_Mod_here_17 ml_Mod_229 mc_Mod_goBack mv_Mod_goBack ⟨by decide, by decide⟩ gO_516 ⟨_, rfl, rfl⟩ rfl (Nat.le_of_ble_eq_true rfl) (Nat.le_of_ble_eq_true rfl) h9 ?_
    rintro _ M_2 L_3 ⟨rfl, h9⟩
    refine r_aload_n d_Mod_here_20 rfl ?_
    refine x_callV (as := []) (st := []) d_Mod_here_21 ml_Mod_178 mc_Mod_cells mv_Mod_cells ⟨by decide, by decide⟩ gO_516 ⟨_, rfl, rfl⟩ rfl (Nat.le_of_ble_eq_true rfl) (Nat.le_of_ble_eq_true rfl) h9 ?_
    rintro _ M_4 L_5 ⟨v_6, rfl, h9⟩
    exact r_iret ⟨d_Mod_here_24, _, rfl, rfl⟩ ⟨_, _, rfl, h9⟩
  · have h9 := h.2 (bI_p0 c_1)
    refine r_bipush (v := (-101)) d_Mod_here_12 (by decide) ?_
    exact r_iret ⟨d_Mod_here_14, _, rfl, rfl⟩ ⟨_, _, rfl, h9⟩
theorem L_Mod_was_0 {xs : List Int32} {i1 : Int32} {i2 : Int32} {i3 : Int32} {M : Mem} {L : Int64} {Q : Option Value → Mem → Int64 → Prop} 
    (h : ((((0 : Int32) ≤ i1 ∧ i1 ≤ (M 516 20)) → ((((0 ≤ i2 ∧ i2 ≤ (M 516 9) - 1) ∧ 0 ≤ i3 ∧ i3 ≤ (M 516 10) - 1) → RX xs shL md_Mod_goBack 0 [.ref 516, .int i1] [] M L (fun r M_3 L_4 => r = none ∧ (vp_in (20 * i3 + i2) 400 ∧ (((M_3 527 ((20 * i3 + i2).toNatClampNeg)) = 0 → Q (some (.int 0)) M_3 L_4) ∧ (¬ ((M_3 527 ((20 * i3 + i2).toNatClampNeg)) = 0) → Q (some (.int 1)) M_3 L_4))))) ∧ (¬ ((0 ≤ i2 ∧ i2 ≤ (M 516 9) - 1) ∧ 0 ≤ i3 ∧ i3 ≤ (M 516 10) - 1) → Q (some (.int (-101))) M L))) ∧ (¬ ((0 : Int32) ≤ i1 ∧ i1 ≤ (M 516 20)) → Q (some (.int (-101))) M L))) : RX xs shL md_Mod_was 0 [.ref 516, .int i1, .int i2, .int i3] [] M L Q := by
  refine r_iload_n d_Mod_was_0 rfl ?_
  refine r_iconst (v := 0) d_Mod_was_1 (by decide) ?_
  refine r_aload_n d_Mod_was_2 rfl ?_
  refine x_getI d_Mod_was_3 fl_Mod_140 gI_516_20 ?_
  refine x_callS (as := [.int i1, .int 0, .int (M 516 20)]) (st := []) d_Mod_was_6 ml_Mod_75 mc_Mod_in ms_Mod_in ⟨by decide, by decide⟩ rfl (Nat.le_of_ble_eq_true rfl) (Nat.le_of_ble_eq_true rfl) (Q1 := fun r M1 L1 => some (.int (bI ((0 : Int32) ≤ i1 ∧ i1 ≤ (M 516 20)))) = r ∧ M = M1 ∧ L = L1) (s_Mod_in ⟨rfl, rfl, rfl⟩) ?_
  rintro _ _ _ ⟨rfl, rfl, rfl⟩
  refine r_if_eq d_Mod_was_9 (fun c_1 => ?_) (fun c_1 => ?_)
  · have h9 := h.2 (bI_p0 c_1)
    refine r_bipush (v := (-101)) d_Mod_was_21 (by decide) ?_
    exact r_iret ⟨d_Mod_was_23, _, rfl, rfl⟩ ⟨_, _, rfl, h9⟩
  · have h9 := h.1 (bI_p1 c_1)
    refine r_aload_n d_Mod_was_12 rfl ?_
    refine r_iload_n d_Mod_was_13 rfl ?_
    refine r_iload_n d_Mod_was_14 rfl ?_
    refine x_callV (as := [.int i2, .int i3]) (st := []) d_Mod_was_15 ml_Mod_143 mc_Mod_isCell mv_Mod_isCell ⟨by decide, by decide⟩ gO_516 ⟨_, rfl, rfl⟩ rfl (Nat.le_of_ble_eq_true rfl) (Nat.le_of_ble_eq_true rfl) (Q1 := fun r M1 L1 => some (.int (bI ((0 ≤ i2 ∧ i2 ≤ (M 516 9) - 1) ∧ 0 ≤ i3 ∧ i3 ≤ (M 516 10) - 1))) = r ∧ M = M1 ∧ L = L1) (s_Mod_isCell ⟨rfl, rfl, rfl⟩) ?_
    rintro _ _ _ ⟨rfl, rfl, rfl⟩
    refine r_if_ne d_Mod_was_18 (fun c_2 => ?_) (fun c_2 => ?_)
    · have h9 := h9.1 (bI_p1 c_2)
      refine r_aload_n d_Mod_was_24 rfl ?_
      refine r_iload_n d_Mod_was_25 rfl ?_
      refine x_callV (as := [.int i1]) (st := []) d_Mod_was_26 ml_Mod_229 mc_Mod_goBack mv_Mod_goBack ⟨by decide, by decide⟩ gO_516 ⟨_, rfl, rfl⟩ rfl (Nat.le_of_ble_eq_true rfl) (Nat.le_of_ble_eq_true rfl) h9 ?_
      rintro _ M_3 L_4 ⟨rfl, h9⟩
      refine r_aload_n d_Mod_was_29 rfl ?_
      refine x_getR d_Mod_was_30 fl_Mod_51 gR_516_29 ?_
      refine r_iload_n d_Mod_was_33 rfl ?_
      refine r_iload_n d_Mod_was_34 rfl ?_
      refine x_callS (as := [.int i2, .int i3]) (st := [.ref 527]) d_Mod_was_35 ml_Mod_147 mc_Mod_at ms_Mod_at ⟨by decide, by decide⟩ rfl (Nat.le_of_ble_eq_true rfl) (Nat.le_of_ble_eq_true rfl) (Q1 := fun r M1 L1 => some (.int (20 * i3 + i2)) = r ∧ M_3 = M1 ∧ L_4 = L1) (s_Mod_at ⟨rfl, rfl, rfl⟩) ?_
      rintro _ _ _ ⟨rfl, rfl, rfl⟩
      obtain ⟨o_5, h9⟩ := h9
      refine x_zald d_Mod_was_38 aZ_527 o_5 ?_
      refine r_if_eq d_Mod_was_39 (fun c_6 => ?_) (fun c_6 => ?_)
      · have h9 := h9.1 c_6
        refine r_iconst (v := 0) d_Mod_was_46 (by decide) ?_
        exact r_iret ⟨d_Mod_was_47, _, rfl, rfl⟩ ⟨_, _, rfl, h9⟩
      · have h9 := h9.2 c_6
        refine r_iconst (v := 1) d_Mod_was_42 (by decide) ?_
        refine r_goto d_Mod_was_43 ?_
        exact r_iret ⟨d_Mod_was_47, _, rfl, rfl⟩ ⟨_, _, rfl, h9⟩
    · have h9 := h9.2 (bI_p0 c_2)
      refine r_bipush (v := (-101)) d_Mod_was_21 (by decide) ?_
      exact r_iret ⟨d_Mod_was_23, _, rfl, rfl⟩ ⟨_, _, rfl, h9⟩
theorem L_Mod_blamed_0 {xs : List Int32}  {M : Mem} {L : Int64} {Q : Option Value → Mem → Int64 → Prop} 
    (h : RX xs shL md_Mod_isBlaming 0 [.ref 516] [] M L (fun r M_1 L_2 => ∃ v_3 : Int32, r = some (.int v_3) ∧ ((v_3 = 0 → Q (some (.int (-103))) M_1 L_2) ∧ (¬ (v_3 = 0) → RX xs shL md_Mod_seek 0 [.ref 516, .int (-1)] [] (up M_1 516 24 ((M_1 516 24) + 1)) L_2 (fun r M_5 L_6 => ∃ v_7 : Int32, r = some (.int v_7) ∧ Q (some (.int v_7)) M_5 L_6))))) : RX xs shL md_Mod_blamed 0 [.ref 516] [] M L Q := by
  refine r_aload_n d_Mod_blamed_0 rfl ?_
  refine x_callV (as := []) (st := []) d_Mod_blamed_1 ml_Mod_248 mc_Mod_isBlaming mv_Mod_isBlaming ⟨by decide, by decide⟩ gO_516 ⟨_, rfl, rfl⟩ rfl (Nat.le_of_ble_eq_true rfl) (Nat.le_of_ble_eq_true rfl) h ?_
  rintro _ M_1 L_2 ⟨v_3, rfl, h9⟩
  refine r_if_ne d_Mod_blamed_4 (fun c_4 => ?_) (fun c_4 => ?_)
  · have h9 := h9.2 c_4
    refine r_aload_n d_Mod_blamed_10 rfl ?_
    refine r_dup d_Mod_blamed_11 rfl ?_
    refine x_getI d_Mod_blamed_12 fl_Mod_245 gI_516_24 ?_
    refine r_iconst (v := 1) d_Mod_blamed_15 (by decide) ?_
    refine r_iadd d_Mod_blamed_16 ?_
    refine x_putI d_Mod_blamed_17 fl_Mod_245 (fun r hr => by cases hr; rfl) gI_516_24 (VOk_int _) ?_
    refine r_aload_n d_Mod_blamed_20 rfl ?_
    refine r_iconst (v := (-1)) d_Mod_blamed_21 (by decide) ?_
    refine x_callV (as := [.int (-1)]) (st := []) d_Mod_blamed_22 ml_Mod_251 mc_Mod_seek mv_Mod_seek ⟨by decide, by decide⟩ gO_516 ⟨_, rfl, rfl⟩ rfl (Nat.le_of_ble_eq_true rfl) (Nat.le_of_ble_eq_true rfl) h9 ?_
    rintro _ M_5 L_6 ⟨v_7, rfl, h9⟩
    exact r_iret ⟨d_Mod_blamed_25, _, rfl, rfl⟩ ⟨_, _, rfl, h9⟩
  · have h9 := h9.1 c_4
    refine r_bipush (v := (-103)) d_Mod_blamed_7 (by decide) ?_
    exact r_iret ⟨d_Mod_blamed_9, _, rfl, rfl⟩ ⟨_, _, rfl, h9⟩
theorem L_Mod_blame_0 {xs : List Int32} {i1 : Int32} {M : Mem} {L : Int64} {Q : Option Value → Mem → Int64 → Prop} 
    (h : RX xs shL md_Mod_isBlaming 0 [.ref 516] [] M L (fun r M_1 L_2 => ∃ v_3 : Int32, r = some (.int v_3) ∧ ((v_3 = 0 → Q (some (.int (-103))) M_1 L_2) ∧ (¬ (v_3 = 0) → RX xs shL md_Mod_seek 0 [.ref 516, .int i1] [] (up M_1 516 24 ((M_1 516 24) + 1)) L_2 (fun r M_5 L_6 => ∃ v_7 : Int32, r = some (.int v_7) ∧ ((0 ≤ i1 → Q (some (.int (M_5 516 33))) M_5 L_6) ∧ (¬ (0 ≤ i1) → Q (some (.int (-1))) M_5 L_6))))))) : RX xs shL md_Mod_blame 0 [.ref 516, .int i1] [] M L Q := by
  refine r_aload_n d_Mod_blame_0 rfl ?_
  refine x_callV (as := []) (st := []) d_Mod_blame_1 ml_Mod_248 mc_Mod_isBlaming mv_Mod_isBlaming ⟨by decide, by decide⟩ gO_516 ⟨_, rfl, rfl⟩ rfl (Nat.le_of_ble_eq_true rfl) (Nat.le_of_ble_eq_true rfl) h ?_
  rintro _ M_1 L_2 ⟨v_3, rfl, h9⟩
  refine r_if_ne d_Mod_blame_4 (fun c_4 => ?_) (fun c_4 => ?_)
  · have h9 := h9.2 c_4
    refine r_aload_n d_Mod_blame_10 rfl ?_
    refine r_dup d_Mod_blame_11 rfl ?_
    refine x_getI d_Mod_blame_12 fl_Mod_245 gI_516_24 ?_
    refine r_iconst (v := 1) d_Mod_blame_15 (by decide) ?_
    refine r_iadd d_Mod_blame_16 ?_
    refine x_putI d_Mod_blame_17 fl_Mod_245 (fun r hr => by cases hr; rfl) gI_516_24 (VOk_int _) ?_
    refine r_aload_n d_Mod_blame_20 rfl ?_
    refine r_iload_n d_Mod_blame_21 rfl ?_
    refine x_callV (as := [.int i1]) (st := []) d_Mod_blame_22 ml_Mod_251 mc_Mod_seek mv_Mod_seek ⟨by decide, by decide⟩ gO_516 ⟨_, rfl, rfl⟩ rfl (Nat.le_of_ble_eq_true rfl) (Nat.le_of_ble_eq_true rfl) h9 ?_
    rintro _ M_5 L_6 ⟨v_7, rfl, h9⟩
    refine r_pop d_Mod_blame_25 rfl ?_
    refine r_iload_n d_Mod_blame_26 rfl ?_
    refine r_if_ge d_Mod_blame_27 (fun c_8 => ?_) (fun c_8 => ?_)
    · have h9 := h9.1 c_8
      refine r_aload_n d_Mod_blame_34 rfl ?_
      refine x_getI d_Mod_blame_35 fl_Mod_236 gI_516_33 ?_
      exact r_iret ⟨d_Mod_blame_38, _, rfl, rfl⟩ ⟨_, _, rfl, h9⟩
    · have h9 := h9.2 c_8
      refine r_iconst (v := (-1)) d_Mod_blame_30 (by decide) ?_
      refine r_goto d_Mod_blame_31 ?_
      exact r_iret ⟨d_Mod_blame_38, _, rfl, rfl⟩ ⟨_, _, rfl, h9⟩
  · have h9 := h9.1 c_4
    refine r_bipush (v := (-103)) d_Mod_blame_7 (by decide) ?_
    exact r_iret ⟨d_Mod_blame_9, _, rfl, rfl⟩ ⟨_, _, rfl, h9⟩
theorem L_Mod_fits_0 {xs : List Int32} {i1 : Int32} {i2 : Int32} {M : Mem} {L : Int64} {Q : Option Value → Mem → Int64 → Prop} 
    (h : ((((0 ≤ i1 ∧ i1 ≤ (M 516 9) - 1) ∧ 0 ≤ i2 ∧ i2 ≤ (M 516 10) - 1) → (((M 516 22) = 20 → Q (some (.int (-103))) M L) ∧ (¬ ((M 516 22) = 20) → RX xs shL md_Mod_seekFits 0 [.ref 516, .int i1, .int i2, .int (-1)] [] (up M 516 22 ((M 516 22) + 1)) L (fun r M_3 L_4 => ∃ v_5 : Int32, r = some (.int v_5) ∧ Q (some (.int v_5)) M_3 L_4)))) ∧ (¬ ((0 ≤ i1 ∧ i1 ≤ (M 516 9) - 1) ∧ 0 ≤ i2 ∧ i2 ≤ (M 516 10) - 1) → Q (some (.int (-101))) M L))) : RX xs shL md_Mod_fits 0 [.ref 516, .int i1, .int i2] [] M L Q := by
  refine r_aload_n d_Mod_fits_0 rfl ?_
  refine r_iload_n d_Mod_fits_1 rfl ?_
  refine r_iload_n d_Mod_fits_2 rfl ?_
  refine x_callV (as := [.int i1, .int i2]) (st := []) d_Mod_fits_3 ml_Mod_143 mc_Mod_isCell mv_Mod_isCell ⟨by decide, by decide⟩ gO_516 ⟨_, rfl, rfl⟩ rfl (Nat.le_of_ble_eq_true rfl) (Nat.le_of_ble_eq_true rfl) (Q1 := fun r M1 L1 => some (.int (bI ((0 ≤ i1 ∧ i1 ≤ (M 516 9) - 1) ∧ 0 ≤ i2 ∧ i2 ≤ (M 516 10) - 1))) = r ∧ M = M1 ∧ L = L1) (s_Mod_isCell ⟨rfl, rfl, rfl⟩) ?_
  rintro _ _ _ ⟨rfl, rfl, rfl⟩
  refine r_if_ne d_Mod_fits_6 (fun c_1 => ?_) (fun c_1 => ?_)
  · have h9 := h.1 (bI_p1 c_1)
    refine r_aload_n d_Mod_fits_12 rfl ?_
    refine x_getI d_Mod_fits_13 fl_Mod_254 gI_516_22 ?_
    refine r_bipush (v := 20) d_Mod_fits_16 (by decide) ?_
    refine r_ic_ne d_Mod_fits_18 (fun c_2 => ?_) (fun c_2 => ?_)
    · have h9 := h9.2 c_2
      refine r_aload_n d_Mod_fits_24 rfl ?_
      refine r_dup d_Mod_fits_25 rfl ?_
      refine x_getI d_Mod_fits_26 fl_Mod_254 gI_516_22 ?_
      refine r_iconst (v := 1) d_Mod_fits_29 (by decide) ?_
      refine r_iadd d_Mod_fits_30 ?_
      refine x_putI d_Mod_fits_31 fl_Mod_254 (fun r hr => by cases hr; rfl) gI_516_22 (VOk_int _) ?_
      refine r_aload_n d_Mod_fits_34 rfl ?_
      refine r_iload_n d_Mod_fits_35 rfl ?_
      refine r_iload_n d_Mod_fits_36 rfl ?_
      refine r_iconst (v := (-1)) d_Mod_fits_37 (by decide) ?_
      refine x_callV (as := [.int i1, .int i2, .int (-1)]) (st := []) d_Mod_fits_38 ml_Mod_257 mc_Mod_seekFits mv_Mod_seekFits ⟨by decide, by decide⟩ gO_516 ⟨_, rfl, rfl⟩ rfl (Nat.le_of_ble_eq_true rfl) (Nat.le_of_ble_eq_true rfl) h9 ?_
      rintro _ M_3 L_4 ⟨v_5, rfl, h9⟩
      exact r_iret ⟨d_Mod_fits_41, _, rfl, rfl⟩ ⟨_, _, rfl, h9⟩
    · have h9 := h9.1 c_2
      refine r_bipush (v := (-103)) d_Mod_fits_21 (by decide) ?_
      exact r_iret ⟨d_Mod_fits_23, _, rfl, rfl⟩ ⟨_, _, rfl, h9⟩
  · have h9 := h.2 (bI_p0 c_1)
    refine r_bipush (v := (-101)) d_Mod_fits_9 (by decide) ?_
    exact r_iret ⟨d_Mod_fits_11, _, rfl, rfl⟩ ⟨_, _, rfl, h9⟩
theorem L_Mod_fit_0 {xs : List Int32} {i1 : Int32} {i2 : Int32} {i3 : Int32} {M : Mem} {L : Int64} {Q : Option Value → Mem → Int64 → Prop} 
    (h : ((((0 ≤ i1 ∧ i1 ≤ (M 516 9) - 1) ∧ 0 ≤ i2 ∧ i2 ≤ (M 516 10) - 1) → (((M 516 22) = 20 → Q (some (.int (-103))) M L) ∧ (¬ ((M 516 22) = 20) → ((0 ≤ i3 → RX xs shL md_Mod_seekFits 0 [.ref 516, .int i1, .int i2, .int i3] [] (up M 516 22 ((M 516 22) + 1)) L (fun r M_4 L_5 => ∃ v_6 : Int32, r = some (.int v_6) ∧ Q (some (.int v_6)) M_4 L_5)) ∧ (¬ (0 ≤ i3) → Q (some (.int (-1))) (up M 516 22 ((M 516 22) + 1)) L))))) ∧ (¬ ((0 ≤ i1 ∧ i1 ≤ (M 516 9) - 1) ∧ 0 ≤ i2 ∧ i2 ≤ (M 516 10) - 1) → Q (some (.int (-101))) M L))) : RX xs shL md_Mod_fit 0 [.ref 516, .int i1, .int i2, .int i3] [] M L Q := by
  refine r_aload_n d_Mod_fit_0 rfl ?_
  refine r_iload_n d_Mod_fit_1 rfl ?_
  refine r_iload_n d_Mod_fit_2 rfl ?_
  refine x_callV (as := [.int i1, .int i2]) (st := []) d_Mod_fit_3 ml_Mod_143 mc_Mod_isCell mv_Mod_isCell ⟨by decide, by decide⟩ gO_516 ⟨_, rfl, rfl⟩ rfl (Nat.le_of_ble_eq_true rfl) (Nat.le_of_ble_eq_true rfl) (Q1 := fun r M1 L1 => some (.int (bI ((0 ≤ i1 ∧ i1 ≤ (M 516 9) - 1) ∧ 0 ≤ i2 ∧ i2 ≤ (M 516 10) - 1))) = r ∧ M = M1 ∧ L = L1) (s_Mod_isCell ⟨rfl, rfl, rfl⟩) ?_
  rintro _ _ _ ⟨rfl, rfl, rfl⟩
  refine r_if_ne d_Mod_fit_6 (fun c_1 => ?_) (fun c_1 => ?_)
  · have h9 := h.1 (bI_p1 c_1)
    refine r_aload_n d_Mod_fit_12 rfl ?_
    refine x_getI d_Mod_fit_13 fl_Mod_254 gI_516_22 ?_
    refine r_bipush (v := 20) d_Mod_fit_16 (by decide) ?_
    refine r_ic_ne d_Mod_fit_18 (fun c_2 => ?_) (fun c_2 => ?_)
    · have h9 := h9.2 c_2
      refine r_aload_n d_Mod_fit_24 rfl ?_
      refine r_dup d_Mod_fit_25 rfl ?_
      refine x_getI d_Mod_fit_26 fl_Mod_254 gI_516_22 ?_
      refine r_iconst (v := 1) d_Mod_fit_29 (by decide) ?_
      refine r_iadd d_Mod_fit_30 ?_
      refine x_putI d_Mod_fit_31 fl_Mod_254 (fun r hr => by cases hr; rfl) gI_516_22 (VOk_int _) ?_
      refine r_iload_n d_Mod_fit_34 rfl ?_
      refine r_if_ge d_Mod_fit_35 (fun c_3 => ?_) (fun c_3 => ?_)
      · have h9 := h9.1 c_3
        refine r_aload_n d_Mod_fit_42 rfl ?_
        refine r_iload_n d_Mod_fit_43 rfl ?_
        refine r_iload_n d_Mod_fit_44 rfl ?_
        refine r_iload_n d_Mod_fit_45 rfl ?_
        refine x_callV (as := [.int i1, .int i2, .int i3]) (st := []) d_Mod_fit_46 ml_Mod_257 mc_Mod_seekFits mv_Mod_seekFits ⟨by decide, by decide⟩ gO_516 ⟨_, rfl, rfl⟩ rfl (Nat.le_of_ble_eq_true rfl) (Nat.le_of_ble_eq_true rfl) h9 ?_
        rintro _ M_4 L_5 ⟨v_6, rfl, h9⟩
        exact r_iret ⟨d_Mod_fit_49, _, rfl, rfl⟩ ⟨_, _, rfl, h9⟩
      · have h9 := h9.2 c_3
        refine r_iconst (v := (-1)) d_Mod_fit_38 (by decide) ?_
        refine r_goto d_Mod_fit_39 ?_
        exact r_iret ⟨d_Mod_fit_49, _, rfl, rfl⟩ ⟨_, _, rfl, h9⟩
    · have h9 := h9.1 c_2
      refine r_bipush (v := (-103)) d_Mod_fit_21 (by decide) ?_
      exact r_iret ⟨d_Mod_fit_23, _, rfl, rfl⟩ ⟨_, _, rfl, h9⟩
  · have h9 := h.2 (bI_p0 c_1)
    refine r_bipush (v := (-101)) d_Mod_fit_9 (by decide) ?_
    exact r_iret ⟨d_Mod_fit_11, _, rfl, rfl⟩ ⟨_, _, rfl, h9⟩
theorem L_Mod_sights_0 {xs : List Int32} {i1 : Int32} {i2 : Int32} {i3 : Int32} {i4 : Int32} {i5 : Int32} {i6 : Int32} {i7 : Int32} {M : Mem} {L : Int64} {Q : Option Value → Mem → Int64 → Prop} 
    (h : ((((0 ≤ i1 ∧ i1 ≤ (M 516 9) - 1) ∧ 0 ≤ i2 ∧ i2 ≤ (M 516 10) - 1) → (((0 ≤ i3 ∧ i3 ≤ 31) → (((isVo i4 i5 i6 i7) → RX xs shL md_Mod_goPlain 0 [.ref 516] [] M L (fun r M_4 L_5 => r = none ∧ (vp_in (20 * i2 + i1) 400 ∧ (((M_4 527 ((20 * i2 + i1).toNatClampNeg)) = 0 → Q (some (.int (-103))) M_4 L_5) ∧ (¬ ((M_4 527 ((20 * i2 + i1).toNatClampNeg)) = 0) → RX xs shL md_Mod_seesAt 0 [.ref 516, .int i1, .int i2, .int i3, .int i4, .int i5, .int i6, .int i7] [] M_4 L_5 (fun r M_8 L_9 => ∃ v_10 : Int32, r = some (.int v_10) ∧ Q (some (.int v_10)) M_8 L_9)))))) ∧ (¬ (isVo i4 i5 i6 i7) → Q (some (.int (-102))) M L))) ∧ (¬ (0 ≤ i3 ∧ i3 ≤ 31) → Q (some (.int (-102))) M L))) ∧ (¬ ((0 ≤ i1 ∧ i1 ≤ (M 516 9) - 1) ∧ 0 ≤ i2 ∧ i2 ≤ (M 516 10) - 1) → Q (some (.int (-101))) M L))) : RX xs shL md_Mod_sights 0 [.ref 516, .int i1, .int i2, .int i3, .int i4, .int i5, .int i6, .int i7] [] M L Q := by
  refine r_aload_n d_Mod_sights_0 rfl ?_
  refine r_iload_n d_Mod_sights_1 rfl ?_
  refine r_iload_n d_Mod_sights_2 rfl ?_
  refine x_callV (as := [.int i1, .int i2]) (st := []) d_Mod_sights_3 ml_Mod_143 mc_Mod_isCell mv_Mod_isCell ⟨by decide, by decide⟩ gO_516 ⟨_, rfl, rfl⟩ rfl (Nat.le_of_ble_eq_true rfl) (Nat.le_of_ble_eq_true rfl) (Q1 := fun r M1 L1 => some (.int (bI ((0 ≤ i1 ∧ i1 ≤ (M 516 9) - 1) ∧ 0 ≤ i2 ∧ i2 ≤ (M 516 10) - 1))) = r ∧ M = M1 ∧ L = L1) (s_Mod_isCell ⟨rfl, rfl, rfl⟩) ?_
  rintro _ _ _ ⟨rfl, rfl, rfl⟩
  refine r_if_ne d_Mod_sights_6 (fun c_1 => ?_) (fun c_1 => ?_)
  · have h9 := h.1 (bI_p1 c_1)
    refine r_iload_n d_Mod_sights_12 rfl ?_
    refine x_callS (as := [.int i3]) (st := []) d_Mod_sights_13 ml_Mod_79 mc_Mod_isPoint ms_Mod_isPoint ⟨by decide, by decide⟩ rfl (Nat.le_of_ble_eq_true rfl) (Nat.le_of_ble_eq_true rfl) (Q1 := fun r M1 L1 => some (.int (bI (0 ≤ i3 ∧ i3 ≤ 31))) = r ∧ M = M1 ∧ L = L1) (L_Mod_isPoint_0 ⟨rfl, rfl, rfl⟩) ?_
    rintro _ _ _ ⟨rfl, rfl, rfl⟩
    refine r_if_eq d_Mod_sights_16 (fun c_2 => ?_) (fun c_2 => ?_)
    · have h9 := h9.2 (bI_p0 c_2)
      refine r_bipush (v := (-102)) d_Mod_sights_33 (by decide) ?_
      exact r_iret ⟨d_Mod_sights_35, _, rfl, rfl⟩ ⟨_, _, rfl, h9⟩
    · have h9 := h9.1 (bI_p1 c_2)
      refine r_iload d_Mod_sights_19 rfl ?_
      refine r_iload d_Mod_sights_21 rfl ?_
      refine r_iload d_Mod_sights_23 rfl ?_
      refine r_iload d_Mod_sights_25 rfl ?_
      refine x_callS (as := [.int i4, .int i5, .int i6, .int i7]) (st := []) d_Mod_sights_27 ml_Mod_263 mc_Mod_isCourse ms_Mod_isCourse ⟨by decide, by decide⟩ rfl (Nat.le_of_ble_eq_true rfl) (Nat.le_of_ble_eq_true rfl) (Q1 := fun r M1 L1 => some (.int (bI (isVo i4 i5 i6 i7))) = r ∧ M = M1 ∧ L = L1) (s_Mod_isCourse ⟨rfl, rfl, rfl⟩) ?_
      rintro _ _ _ ⟨rfl, rfl, rfl⟩
      refine r_if_ne d_Mod_sights_30 (fun c_3 => ?_) (fun c_3 => ?_)
      · have h9 := h9.1 (bI_p1 c_3)
        refine r_aload_n d_Mod_sights_36 rfl ?_
        refine x_callV (as := []) (st := []) d_Mod_sights_37 ml_Mod_223 mc_Mod_goPlain mv_Mod_goPlain ⟨by decide, by decide⟩ gO_516 ⟨_, rfl, rfl⟩ rfl (Nat.le_of_ble_eq_true rfl) (Nat.le_of_ble_eq_true rfl) h9 ?_
        rintro _ M_4 L_5 ⟨rfl, h9⟩
        refine r_aload_n d_Mod_sights_40 rfl ?_
        refine x_getR d_Mod_sights_41 fl_Mod_51 gR_516_29 ?_
        refine r_iload_n d_Mod_sights_44 rfl ?_
        refine r_iload_n d_Mod_sights_45 rfl ?_
        refine x_callS (as := [.int i1, .int i2]) (st := [.ref 527]) d_Mod_sights_46 ml_Mod_147 mc_Mod_at ms_Mod_at ⟨by decide, by decide⟩ rfl (Nat.le_of_ble_eq_true rfl) (Nat.le_of_ble_eq_true rfl) (Q1 := fun r M1 L1 => some (.int (20 * i2 + i1)) = r ∧ M_4 = M1 ∧ L_5 = L1) (s_Mod_at ⟨rfl, rfl, rfl⟩) ?_
        rintro _ _ _ ⟨rfl, rfl, rfl⟩
        obtain ⟨o_6, h9⟩ := h9
        refine x_zald d_Mod_sights_49 aZ_527 o_6 ?_
        refine r_if_eq d_Mod_sights_50 (fun c_7 => ?_) (fun c_7 => ?_)
        · have h9 := h9.1 c_7
          refine r_bipush (v := (-103)) d_Mod_sights_71 (by decide) ?_
          exact r_iret ⟨d_Mod_sights_73, _, rfl, rfl⟩ ⟨_, _, rfl, h9⟩
        · have h9 := h9.2 c_7
          refine r_aload_n d_Mod_sights_53 rfl ?_
          refine r_iload_n d_Mod_sights_54 rfl ?_
          refine r_iload_n d_Mod_sights_55 rfl ?_
          refine r_iload_n d_Mod_sights_56 rfl ?_
          refine r_iload d_Mod_sights_57 rfl ?_
          refine r_iload d_Mod_sights_59 rfl ?_
          refine r_iload d_Mod_sights_61 rfl ?_
          refine r_iload d_Mod_sights_63 rfl ?_
          refine x_callV (as := [.int i1, .int i2, .int i3, .int i4, .int i5, .int i6, .int i7]) (st := []) d_Mod_sights_65 ml_Mod_267 mc_Mod_seesAt mv_Mod_seesAt ⟨by decide, by decide⟩ gO_516 ⟨_, rfl, rfl⟩ rfl (Nat.le_of_ble_eq_true rfl) (Nat.le_of_ble_eq_true rfl) h9 ?_
          rintro _ M_8 L_9 ⟨v_10, rfl, h9⟩
          refine r_goto d_Mod_sights_68 ?_
          exact r_iret ⟨d_Mod_sights_73, _, rfl, rfl⟩ ⟨_, _, rfl, h9⟩
      · have h9 := h9.2 (bI_p0 c_3)
        refine r_bipush (v := (-102)) d_Mod_sights_33 (by decide) ?_
        exact r_iret ⟨d_Mod_sights_35, _, rfl, rfl⟩ ⟨_, _, rfl, h9⟩
  · have h9 := h.2 (bI_p0 c_1)
    refine r_bipush (v := (-101)) d_Mod_sights_9 (by decide) ?_
    exact r_iret ⟨d_Mod_sights_11, _, rfl, rfl⟩ ⟨_, _, rfl, h9⟩
theorem L_Mod_sure_0 {xs : List Int32} {i1 : Int32} {i2 : Int32} {i3 : Int32} {i4 : Int32} {i5 : Int32} {M : Mem} {L : Int64} {Q : Option Value → Mem → Int64 → Prop} 
    (h : (((0 ≤ i1 ∧ i1 ≤ 31) → (((isVo i2 i3 i4 i5) → RX xs shL md_Mod_goPlain 0 [.ref 516] [] M L (fun r M_3 L_4 => r = none ∧ RX xs shL md_Mod_cells 0 [.ref 516] [] M_3 L_4 (fun r M_5 L_6 => ∃ v_7 : Int32, r = some (.int v_7) ∧ ((v_7 = 0 → Q (some (.int (-103))) M_5 L_6) ∧ (¬ (v_7 = 0) → RX xs shL md_Mod_sureBy 0 [.ref 516, .int i1, .int i2, .int i3, .int i4, .int i5] [] M_5 L_6 (fun r M_9 L_10 => ∃ v_11 : Int32, r = some (.int v_11) ∧ Q (some (.int v_11)) M_9 L_10)))))) ∧ (¬ (isVo i2 i3 i4 i5) → Q (some (.int (-102))) M L))) ∧ (¬ (0 ≤ i1 ∧ i1 ≤ 31) → Q (some (.int (-102))) M L))) : RX xs shL md_Mod_sure 0 [.ref 516, .int i1, .int i2, .int i3, .int i4, .int i5] [] M L Q := by
  refine r_iload_n d_Mod_sure_0 rfl ?_
  refine x_callS (as := [.int i1]) (st := []) d_Mod_sure_1 ml_Mod_79 mc_Mod_isPoint ms_Mod_isPoint ⟨by decide, by decide⟩ rfl (Nat.le_of_ble_eq_true rfl) (Nat.le_of_ble_eq_true rfl) (Q1 := fun r M1 L1 => some (.int (bI (0 ≤ i1 ∧ i1 ≤ 31))) = r ∧ M = M1 ∧ L = L1) (L_Mod_isPoint_0 ⟨rfl, rfl, rfl⟩) ?_
  rintro _ _ _ ⟨rfl, rfl, rfl⟩
  refine r_if_eq d_Mod_sure_4 (fun c_1 => ?_) (fun c_1 => ?_)
  · have h9 := h.2 (bI_p0 c_1)
    refine r_bipush (v := (-102)) d_Mod_sure_19 (by decide) ?_
    exact r_iret ⟨d_Mod_sure_21, _, rfl, rfl⟩ ⟨_, _, rfl, h9⟩
  · have h9 := h.1 (bI_p1 c_1)
    refine r_iload_n d_Mod_sure_7 rfl ?_
    refine r_iload_n d_Mod_sure_8 rfl ?_
    refine r_iload d_Mod_sure_9 rfl ?_
    refine r_iload d_Mod_sure_11 rfl ?_
    refine x_callS (as := [.int i2, .int i3, .int i4, .int i5]) (st := []) d_Mod_sure_13 ml_Mod_263 mc_Mod_isCourse ms_Mod_isCourse ⟨by decide, by decide⟩ rfl (Nat.le_of_ble_eq_true rfl) (Nat.le_of_ble_eq_true rfl) (Q1 := fun r M1 L1 => some (.int (bI (isVo i2 i3 i4 i5))) = r ∧ M = M1 ∧ L = L1) (s_Mod_isCourse ⟨rfl, rfl, rfl⟩) ?_
    rintro _ _ _ ⟨rfl, rfl, rfl⟩
    refine r_if_ne d_Mod_sure_16 (fun c_2 => ?_) (fun c_2 => ?_)
    · have h9 := h9.1 (bI_p1 c_2)
      refine r_aload_n d_Mod_sure_22 rfl ?_
      refine x_callV (as := []) (st := []) d_Mod_sure_23 ml_Mod_223 mc_Mod_goPlain mv_Mod_goPlain ⟨by decide, by decide⟩ gO_516 ⟨_, rfl, rfl⟩ rfl (Nat.le_of_ble_eq_true rfl) (Nat.le_of_ble_eq_true rfl) h9 ?_
      rintro _ M_3 L_4 ⟨rfl, h9⟩
      refine r_aload_n d_Mod_sure_26 rfl ?_
      refine x_callV (as := []) (st := []) d_Mod_sure_27 ml_Mod_178 mc_Mod_cells mv_Mod_cells ⟨by decide, by decide⟩ gO_516 ⟨_, rfl, rfl⟩ rfl (Nat.le_of_ble_eq_true rfl) (Nat.le_of_ble_eq_true rfl) h9 ?_
      rintro _ M_5 L_6 ⟨v_7, rfl, h9⟩
      refine r_if_ne d_Mod_sure_30 (fun c_8 => ?_) (fun c_8 => ?_)
      · have h9 := h9.2 c_8
        refine r_aload_n d_Mod_sure_38 rfl ?_
        refine r_iload_n d_Mod_sure_39 rfl ?_
        refine r_iload_n d_Mod_sure_40 rfl ?_
        refine r_iload_n d_Mod_sure_41 rfl ?_
        refine r_iload d_Mod_sure_42 rfl ?_
        refine r_iload d_Mod_sure_44 rfl ?_
        refine x_callV (as := [.int i1, .int i2, .int i3, .int i4, .int i5]) (st := []) d_Mod_sure_46 ml_Mod_271 mc_Mod_sureBy mv_Mod_sureBy ⟨by decide, by decide⟩ gO_516 ⟨_, rfl, rfl⟩ rfl (Nat.le_of_ble_eq_true rfl) (Nat.le_of_ble_eq_true rfl) h9 ?_
        rintro _ M_9 L_10 ⟨v_11, rfl, h9⟩
        exact r_iret ⟨d_Mod_sure_49, _, rfl, rfl⟩ ⟨_, _, rfl, h9⟩
      · have h9 := h9.1 c_8
        refine r_bipush (v := (-103)) d_Mod_sure_33 (by decide) ?_
        refine r_goto d_Mod_sure_35 ?_
        exact r_iret ⟨d_Mod_sure_49, _, rfl, rfl⟩ ⟨_, _, rfl, h9⟩
    · have h9 := h9.2 (bI_p0 c_2)
      refine r_bipush (v := (-102)) d_Mod_sure_19 (by decide) ?_
      exact r_iret ⟨d_Mod_sure_21, _, rfl, rfl⟩ ⟨_, _, rfl, h9⟩
theorem L_Mod_course_0 {xs : List Int32} {i1 : Int32} {i2 : Int32} {i3 : Int32} {i4 : Int32} {M : Mem} {L : Int64} {Q : Option Value → Mem → Int64 → Prop} 
    (h : (((isVo i1 i2 i3 i4) → RX xs shL md_Mod_goPlain 0 [.ref 516] [] M L (fun r M_2 L_3 => r = none ∧ RX xs shL md_Mod_cells 0 [.ref 516] [] M_2 L_3 (fun r M_4 L_5 => ∃ v_6 : Int32, r = some (.int v_6) ∧ ((v_6 = 0 → Q (some (.int (-103))) M_4 L_5) ∧ (¬ (v_6 = 0) → (((M_4 516 23) = 20 → Q (some (.int (-103))) M_4 L_5) ∧ (¬ ((M_4 516 23) = 20) → RX xs shL md_Mod_course 56 [.ref 516, .int i1, .int i2, .int i3, .int i4, .int (-1), .int 0, .int 0, .null] [] (up M_4 516 23 ((M_4 516 23) + 1)) L_5 Q))))))) ∧ (¬ (isVo i1 i2 i3 i4) → Q (some (.int (-102))) M L))) : RX xs shL md_Mod_course 0 [.ref 516, .int i1, .int i2, .int i3, .int i4] [] M L Q := by
  refine r_weak (lv' := [.ref 516, .int i1, .int i2, .int i3, .int i4, .null, .null, .null, .null]) (by repeat (first | exact trivial | refine ⟨rfl, ?_⟩ | exact lle_nil)) ?_
  refine r_iload_n d_Mod_course_0 rfl ?_
  refine r_iload_n d_Mod_course_1 rfl ?_
  refine r_iload_n d_Mod_course_2 rfl ?_
  refine r_iload d_Mod_course_3 rfl ?_
  refine x_callS (as := [.int i1, .int i2, .int i3, .int i4]) (st := []) d_Mod_course_5 ml_Mod_263 mc_Mod_isCourse ms_Mod_isCourse ⟨by decide, by decide⟩ rfl (Nat.le_of_ble_eq_true rfl) (Nat.le_of_ble_eq_true rfl) (Q1 := fun r M1 L1 => some (.int (bI (isVo i1 i2 i3 i4))) = r ∧ M = M1 ∧ L = L1) (s_Mod_isCourse ⟨rfl, rfl, rfl⟩) ?_
  rintro _ _ _ ⟨rfl, rfl, rfl⟩
  refine r_if_ne d_Mod_course_8 (fun c_1 => ?_) (fun c_1 => ?_)
  · have h9 := h.1 (bI_p1 c_1)
    refine r_aload_n d_Mod_course_14 rfl ?_
    refine x_callV (as := []) (st := []) d_Mod_course_15 ml_Mod_223 mc_Mod_goPlain mv_Mod_goPlain ⟨by decide, by decide⟩ gO_516 ⟨_, rfl, rfl⟩ rfl (Nat.le_of_ble_eq_true rfl) (Nat.le_of_ble_eq_true rfl) h9 ?_
    rintro _ M_2 L_3 ⟨rfl, h9⟩
    refine r_aload_n d_Mod_course_18 rfl ?_
    refine x_callV (as := []) (st := []) d_Mod_course_19 ml_Mod_178 mc_Mod_cells mv_Mod_cells ⟨by decide, by decide⟩ gO_516 ⟨_, rfl, rfl⟩ rfl (Nat.le_of_ble_eq_true rfl) (Nat.le_of_ble_eq_true rfl) h9 ?_
    rintro _ M_4 L_5 ⟨v_6, rfl, h9⟩
    refine r_if_eq d_Mod_course_22 (fun c_7 => ?_) (fun c_7 => ?_)
    · have h9 := h9.1 c_7
      refine r_bipush (v := (-103)) d_Mod_course_34 (by decide) ?_
      exact r_iret ⟨d_Mod_course_36, _, rfl, rfl⟩ ⟨_, _, rfl, h9⟩
    · have h9 := h9.2 c_7
      refine r_aload_n d_Mod_course_25 rfl ?_
      refine x_getI d_Mod_course_26 fl_Mod_275 gI_516_23 ?_
      refine r_bipush (v := 20) d_Mod_course_29 (by decide) ?_
      refine r_ic_ne d_Mod_course_31 (fun c_8 => ?_) (fun c_8 => ?_)
      · have h9 := h9.2 c_8
        refine r_aload_n d_Mod_course_37 rfl ?_
        refine r_dup d_Mod_course_38 rfl ?_
        refine x_getI d_Mod_course_39 fl_Mod_275 gI_516_23 ?_
        refine r_iconst (v := 1) d_Mod_course_42 (by decide) ?_
        refine r_iadd d_Mod_course_43 ?_
        refine x_putI d_Mod_course_44 fl_Mod_275 (fun r hr => by cases hr; rfl) gI_516_23 (VOk_int _) ?_
        refine r_iconst (v := (-1)) d_Mod_course_47 (by decide) ?_
        refine r_istore d_Mod_course_48 (by decide) ?_
        refine r_iconst (v := 0) d_Mod_course_50 (by decide) ?_
        refine r_istore d_Mod_course_51 (by decide) ?_
        refine r_iconst (v := 0) d_Mod_course_53 (by decide) ?_
        refine r_istore d_Mod_course_54 (by decide) ?_
        exact h9
      · have h9 := h9.1 c_8
        refine r_bipush (v := (-103)) d_Mod_course_34 (by decide) ?_
        exact r_iret ⟨d_Mod_course_36, _, rfl, rfl⟩ ⟨_, _, rfl, h9⟩
  · have h9 := h.2 (bI_p0 c_1)
    refine r_bipush (v := (-102)) d_Mod_course_11 (by decide) ?_
    exact r_iret ⟨d_Mod_course_13, _, rfl, rfl⟩ ⟨_, _, rfl, h9⟩
theorem L_Mod_course_56 {xs : List Int32} {i1 : Int32} {i2 : Int32} {i3 : Int32} {i4 : Int32} {i5 : Int32} {i6 : Int32} {i7 : Int32} {M : Mem} {L : Int64} {Q : Option Value → Mem → Int64 → Prop} 
    (h : ((32 ≤ i7 → Q (some (.int i5)) M L) ∧ (¬ (32 ≤ i7) → RX xs shL md_Mod_sureBy 0 [.ref 516, .int i7, .int i1, .int i2, .int i3, .int i4] [] M L (fun r M_10 L_11 => ∃ v_12 : Int32, r = some (.int v_12) ∧ ((v_12 ≤ 0 → RX xs shL md_Mod_course 56 [.ref 516, .int i1, .int i2, .int i3, .int i4, .int i5, .int i6, .int (i7 + 1), .null] [] M_10 L_11 Q) ∧ (¬ (v_12 ≤ 0) → ((i5 = (-1) → RX xs shL md_Mod_course 56 [.ref 516, .int i1, .int i2, .int i3, .int i4, .int i7, .int v_12, .int (i7 + 1), .null] [] M_10 L_11 Q) ∧ (¬ (i5 = (-1)) → ((i6 ≤ v_12 → RX xs shL md_Mod_course 56 [.ref 516, .int i1, .int i2, .int i3, .int i4, .int i5, .int i6, .int (i7 + 1), .null] [] M_10 L_11 Q) ∧ (¬ (i6 ≤ v_12) → RX xs shL md_Mod_course 56 [.ref 516, .int i1, .int i2, .int i3, .int i4, .int i7, .int v_12, .int (i7 + 1), .null] [] M_10 L_11 Q)))))))))) : RX xs shL md_Mod_course 56 [.ref 516, .int i1, .int i2, .int i3, .int i4, .int i5, .int i6, .int i7, .null] [] M L Q := by
  refine r_iload d_Mod_course_56 rfl ?_
  refine r_bipush (v := 32) d_Mod_course_58 (by decide) ?_
  refine r_ic_ge d_Mod_course_60 (fun c_9 => ?_) (fun c_9 => ?_)
  · have h9 := h.1 c_9
    refine r_iload d_Mod_course_108 rfl ?_
    exact r_iret ⟨d_Mod_course_110, _, rfl, rfl⟩ ⟨_, _, rfl, h9⟩
  · have h9 := h.2 c_9
    refine r_aload_n d_Mod_course_63 rfl ?_
    refine r_iload d_Mod_course_64 rfl ?_
    refine r_iload_n d_Mod_course_66 rfl ?_
    refine r_iload_n d_Mod_course_67 rfl ?_
    refine r_iload_n d_Mod_course_68 rfl ?_
    refine r_iload d_Mod_course_69 rfl ?_
    refine x_callV (as := [.int i7, .int i1, .int i2, .int i3, .int i4]) (st := []) d_Mod_course_71 ml_Mod_271 mc_Mod_sureBy mv_Mod_sureBy ⟨by decide, by decide⟩ gO_516 ⟨_, rfl, rfl⟩ rfl (Nat.le_of_ble_eq_true rfl) (Nat.le_of_ble_eq_true rfl) h9 ?_
    rintro _ M_10 L_11 ⟨v_12, rfl, h9⟩
    refine r_istore d_Mod_course_74 (by decide) ?_
    refine r_iload d_Mod_course_76 rfl ?_
    refine r_if_le d_Mod_course_78 (fun c_13 => ?_) (fun c_13 => ?_)
    · have h9 := h9.1 c_13
      refine r_iinc (v := i7 + 1) d_Mod_course_102 rfl rfl (by decide) ?_
      refine r_goto d_Mod_course_105 ?_
      refine r_weak (lv' := [.ref 516, .int i1, .int i2, .int i3, .int i4, .int i5, .int i6, .int (i7 + 1), .null]) (by repeat (first | exact trivial | refine ⟨rfl, ?_⟩ | exact lle_nil)) ?_
      exact h9
    · have h9 := h9.2 c_13
      refine r_iload d_Mod_course_81 rfl ?_
      refine r_iconst (v := (-1)) d_Mod_course_83 (by decide) ?_
      refine r_ic_eq d_Mod_course_84 (fun c_14 => ?_) (fun c_14 => ?_)
      · have h9 := h9.1 c_14
        refine r_iload d_Mod_course_94 rfl ?_
        refine r_istore d_Mod_course_96 (by decide) ?_
        refine r_iload d_Mod_course_98 rfl ?_
        refine r_istore d_Mod_course_100 (by decide) ?_
        refine r_iinc (v := i7 + 1) d_Mod_course_102 rfl rfl (by decide) ?_
        refine r_goto d_Mod_course_105 ?_
        refine r_weak (lv' := [.ref 516, .int i1, .int i2, .int i3, .int i4, .int i7, .int v_12, .int (i7 + 1), .null]) (by repeat (first | exact trivial | refine ⟨rfl, ?_⟩ | exact lle_nil)) ?_
        exact h9
      · have h9 := h9.2 c_14
        refine r_iload d_Mod_course_87 rfl ?_
        refine r_iload d_Mod_course_89 rfl ?_
        refine r_ic_ge d_Mod_course_91 (fun c_15 => ?_) (fun c_15 => ?_)
        · have h9 := h9.1 c_15
          refine r_iinc (v := i7 + 1) d_Mod_course_102 rfl rfl (by decide) ?_
          refine r_goto d_Mod_course_105 ?_
          refine r_weak (lv' := [.ref 516, .int i1, .int i2, .int i3, .int i4, .int i5, .int i6, .int (i7 + 1), .null]) (by repeat (first | exact trivial | refine ⟨rfl, ?_⟩ | exact lle_nil)) ?_
          exact h9
        · have h9 := h9.2 c_15
          refine r_iload d_Mod_course_94 rfl ?_
          refine r_istore d_Mod_course_96 (by decide) ?_
          refine r_iload d_Mod_course_98 rfl ?_
          refine r_istore d_Mod_course_100 (by decide) ?_
          refine r_iinc (v := i7 + 1) d_Mod_course_102 rfl rfl (by decide) ?_
          refine r_goto d_Mod_course_105 ?_
          refine r_weak (lv' := [.ref 516, .int i1, .int i2, .int i3, .int i4, .int i7, .int v_12, .int (i7 + 1), .null]) (by repeat (first | exact trivial | refine ⟨rfl, ?_⟩ | exact lle_nil)) ?_
          exact h9
theorem L_Mod_many_0 {xs : List Int32} {i1 : Int32} {M : Mem} {L : Int64} {Q : Option Value → Mem → Int64 → Prop} 
    (h : ((i1 = 0 ∧ Q (some (.int (M 516 4))) M L) ∨ (i1 = 1 ∧ Q (some (.int (M 516 20))) M L) ∨ (i1 = 2 ∧ RX xs shL md_Mod_landMany 0 [.ref 516] [] M L (fun r M_1 L_2 => ∃ v_3 : Int32, r = some (.int v_3) ∧ Q (some (.int v_3)) M_1 L_2)) ∨ (i1 = 3 ∧ Q (some (.int (M 516 2))) M L) ∨ (i1 = 4 ∧ Q (some (.int (M 516 22))) M L) ∨ (i1 = 5 ∧ Q (some (.int (M 516 23))) M L) ∨ (i1 = 6 ∧ Q (some (.int (M 516 9))) M L) ∨ (i1 = 7 ∧ Q (some (.int (M 516 10))) M L) ∨ (i1 = 8 ∧ Q (some (.int (M 516 8))) M L) ∨ (i1 = 9 ∧ Q (some (.int (M 516 24))) M L) ∨ ((i1 < 0 ∨ 9 < i1) ∧ Q (some (.int (-102))) M L))) : RX xs shL md_Mod_many 0 [.ref 516, .int i1] [] M L Q := by
  refine r_iload_n d_Mod_many_0 rfl ?_
  rcases h with h9 | h9 | h9 | h9 | h9 | h9 | h9 | h9 | h9 | h9 | h9
  · obtain ⟨c9, h9⟩ := h9
    refine r_switch (tgt := 56) ⟨_, _, _, _, _, d_Mod_many_1, Or.inr ⟨by rw [c9]; decide, by rw [c9]; decide, 55, by rw [c9]; rfl, by decide⟩⟩ ?_
    refine r_aload_n d_Mod_many_56 rfl ?_
    refine x_getI d_Mod_many_57 fl_Mod_112 gI_516_4 ?_
    exact r_iret ⟨d_Mod_many_60, _, rfl, rfl⟩ ⟨_, _, rfl, h9⟩
  · obtain ⟨c9, h9⟩ := h9
    refine r_switch (tgt := 61) ⟨_, _, _, _, _, d_Mod_many_1, Or.inr ⟨by rw [c9]; decide, by rw [c9]; decide, 60, by rw [c9]; rfl, by decide⟩⟩ ?_
    refine r_aload_n d_Mod_many_61 rfl ?_
    refine x_getI d_Mod_many_62 fl_Mod_140 gI_516_20 ?_
    exact r_iret ⟨d_Mod_many_65, _, rfl, rfl⟩ ⟨_, _, rfl, h9⟩
  · obtain ⟨c9, h9⟩ := h9
    refine r_switch (tgt := 66) ⟨_, _, _, _, _, d_Mod_many_1, Or.inr ⟨by rw [c9]; decide, by rw [c9]; decide, 65, by rw [c9]; rfl, by decide⟩⟩ ?_
    refine r_aload_n d_Mod_many_66 rfl ?_
    refine x_callV (as := []) (st := []) d_Mod_many_67 ml_Mod_278 mc_Mod_landMany mv_Mod_landMany ⟨by decide, by decide⟩ gO_516 ⟨_, rfl, rfl⟩ rfl (Nat.le_of_ble_eq_true rfl) (Nat.le_of_ble_eq_true rfl) h9 ?_
    rintro _ M_1 L_2 ⟨v_3, rfl, h9⟩
    exact r_iret ⟨d_Mod_many_70, _, rfl, rfl⟩ ⟨_, _, rfl, h9⟩
  · obtain ⟨c9, h9⟩ := h9
    refine r_switch (tgt := 71) ⟨_, _, _, _, _, d_Mod_many_1, Or.inr ⟨by rw [c9]; decide, by rw [c9]; decide, 70, by rw [c9]; rfl, by decide⟩⟩ ?_
    refine r_aload_n d_Mod_many_71 rfl ?_
    refine x_getI d_Mod_many_72 fl_Mod_105 gI_516_2 ?_
    exact r_iret ⟨d_Mod_many_75, _, rfl, rfl⟩ ⟨_, _, rfl, h9⟩
  · obtain ⟨c9, h9⟩ := h9
    refine r_switch (tgt := 76) ⟨_, _, _, _, _, d_Mod_many_1, Or.inr ⟨by rw [c9]; decide, by rw [c9]; decide, 75, by rw [c9]; rfl, by decide⟩⟩ ?_
    refine r_aload_n d_Mod_many_76 rfl ?_
    refine x_getI d_Mod_many_77 fl_Mod_254 gI_516_22 ?_
    exact r_iret ⟨d_Mod_many_80, _, rfl, rfl⟩ ⟨_, _, rfl, h9⟩
  · obtain ⟨c9, h9⟩ := h9
    refine r_switch (tgt := 81) ⟨_, _, _, _, _, d_Mod_many_1, Or.inr ⟨by rw [c9]; decide, by rw [c9]; decide, 80, by rw [c9]; rfl, by decide⟩⟩ ?_
    refine r_aload_n d_Mod_many_81 rfl ?_
    refine x_getI d_Mod_many_82 fl_Mod_275 gI_516_23 ?_
    exact r_iret ⟨d_Mod_many_85, _, rfl, rfl⟩ ⟨_, _, rfl, h9⟩
  · obtain ⟨c9, h9⟩ := h9
    refine r_switch (tgt := 86) ⟨_, _, _, _, _, d_Mod_many_1, Or.inr ⟨by rw [c9]; decide, by rw [c9]; decide, 85, by rw [c9]; rfl, by decide⟩⟩ ?_
    refine r_aload_n d_Mod_many_86 rfl ?_
    refine x_getI d_Mod_many_87 fl_Mod_32 gI_516_9 ?_
    exact r_iret ⟨d_Mod_many_90, _, rfl, rfl⟩ ⟨_, _, rfl, h9⟩
  · obtain ⟨c9, h9⟩ := h9
    refine r_switch (tgt := 91) ⟨_, _, _, _, _, d_Mod_many_1, Or.inr ⟨by rw [c9]; decide, by rw [c9]; decide, 90, by rw [c9]; rfl, by decide⟩⟩ ?_
    refine r_aload_n d_Mod_many_91 rfl ?_
    refine x_getI d_Mod_many_92 fl_Mod_35 gI_516_10 ?_
    exact r_iret ⟨d_Mod_many_95, _, rfl, rfl⟩ ⟨_, _, rfl, h9⟩
  · obtain ⟨c9, h9⟩ := h9
    refine r_switch (tgt := 96) ⟨_, _, _, _, _, d_Mod_many_1, Or.inr ⟨by rw [c9]; decide, by rw [c9]; decide, 95, by rw [c9]; rfl, by decide⟩⟩ ?_
    refine r_aload_n d_Mod_many_96 rfl ?_
    refine x_getI d_Mod_many_97 fl_Mod_28 gI_516_8 ?_
    exact r_iret ⟨d_Mod_many_100, _, rfl, rfl⟩ ⟨_, _, rfl, h9⟩
  · obtain ⟨c9, h9⟩ := h9
    refine r_switch (tgt := 101) ⟨_, _, _, _, _, d_Mod_many_1, Or.inr ⟨by rw [c9]; decide, by rw [c9]; decide, 100, by rw [c9]; rfl, by decide⟩⟩ ?_
    refine r_aload_n d_Mod_many_101 rfl ?_
    refine x_getI d_Mod_many_102 fl_Mod_245 gI_516_24 ?_
    exact r_iret ⟨d_Mod_many_105, _, rfl, rfl⟩ ⟨_, _, rfl, h9⟩
  · obtain ⟨c9, h9⟩ := h9
    refine r_switch (tgt := 106) ⟨_, _, _, _, _, d_Mod_many_1, Or.inl ⟨sw_out c9 (by decide) (by decide), by decide⟩⟩ ?_
    refine r_bipush (v := (-102)) d_Mod_many_106 (by decide) ?_
    exact r_iret ⟨d_Mod_many_108, _, rfl, rfl⟩ ⟨_, _, rfl, h9⟩
theorem L_Mod_digest_0 {xs : List Int32}  {M : Mem} {L : Int64} {Q : Option Value → Mem → Int64 → Prop} 
    (h : RX xs shL md_Mod_digest 9 [.ref 516, .int 0, .null] [] M 199 Q) : RX xs shL md_Mod_digest 0 [.ref 516] [] M L Q := by
  refine r_weak (lv' := [.ref 516, .null, .null]) (by repeat (first | exact trivial | refine ⟨rfl, ?_⟩ | exact lle_nil)) ?_
  refine r_aload_n d_Mod_digest_0 rfl ?_
  refine r_ldc2 (v := 199) d_Mod_digest_1 ck_Mod_291 ?_
  refine x_putL d_Mod_digest_4 fl_Mod_283 (by decide +kernel) oneL_shL ?_
  refine r_iconst (v := 0) d_Mod_digest_7 (by decide) ?_
  refine r_istore_n d_Mod_digest_8 (by decide) ?_
  exact h
theorem L_Mod_digest_9 {xs : List Int32} {i1 : Int32} {M : Mem} {L : Int64} {Q : Option Value → Mem → Int64 → Prop} 
    (h : (((M 516 2) ≤ i1 → RX xs shL md_Mod_digest 36 [.ref 516, .int 0, .null] [] M L Q) ∧ (¬ ((M 516 2) ≤ i1) → (vp_in i1 24 ∧ RX xs shL md_Mod_digest 9 [.ref 516, .int (i1 + 1), .null] [] M (31 * L + ((M 519 i1.toNatClampNeg : Int32).toInt64)) Q)))) : RX xs shL md_Mod_digest 9 [.ref 516, .int i1, .null] [] M L Q := by
  refine r_iload_n d_Mod_digest_9 rfl ?_
  refine r_aload_n d_Mod_digest_10 rfl ?_
  refine x_getI d_Mod_digest_11 fl_Mod_105 gI_516_2 ?_
  refine r_ic_ge d_Mod_digest_14 (fun c_1 => ?_) (fun c_1 => ?_)
  · have h9 := h.1 c_1
    refine r_iconst (v := 0) d_Mod_digest_34 (by decide) ?_
    refine r_istore_n d_Mod_digest_35 (by decide) ?_
    exact h9
  · have h9 := h.2 c_1
    refine r_aload_n d_Mod_digest_17 rfl ?_
    refine r_aload_n d_Mod_digest_18 rfl ?_
    refine x_getR d_Mod_digest_19 fl_Mod_16 gR_516_3 ?_
    refine r_iload_n d_Mod_digest_22 rfl ?_
    obtain ⟨o_2, h9⟩ := h9
    refine x_iald d_Mod_digest_23 aI_519 o_2 ?_
    refine r_i2l d_Mod_digest_24 ?_
    refine x_callV (as := [.long ((M 519 i1.toNatClampNeg : Int32).toInt64)]) (st := []) d_Mod_digest_25 ml_Mod_287 mc_Mod_mix mv_Mod_mix ⟨by decide, by decide⟩ gO_516 ⟨_, rfl, rfl⟩ rfl (Nat.le_of_ble_eq_true rfl) (Nat.le_of_ble_eq_true rfl) (Q1 := fun r M1 L1 => none = r ∧ M = M1 ∧ 31 * L + ((M 519 i1.toNatClampNeg : Int32).toInt64) = L1) (L_Mod_mix_0 ⟨rfl, rfl, rfl⟩) ?_
    rintro _ _ _ ⟨rfl, rfl, rfl⟩
    refine r_iinc (v := i1 + 1) d_Mod_digest_28 rfl rfl (by decide) ?_
    refine r_goto d_Mod_digest_31 ?_
    exact h9
theorem L_Mod_digest_36 {xs : List Int32} {i1 : Int32} {M : Mem} {L : Int64} {Q : Option Value → Mem → Int64 → Prop} 
    (h : (((M 516 4) ≤ i1 → RX xs shL md_Mod_mixChart 0 [.ref 516] [] M L (fun r M_4 L_5 => r = none ∧ RX xs shL md_Mod_digest 61 [.ref 516, .int 0, .null] [] M_4 L_5 Q)) ∧ (¬ ((M 516 4) ≤ i1) → RX xs shL md_Mod_mixWatch 0 [.ref 516, .int i1] [] M L (fun r M_6 L_7 => r = none ∧ RX xs shL md_Mod_digest 36 [.ref 516, .int (i1 + 1), .null] [] M_6 L_7 Q)))) : RX xs shL md_Mod_digest 36 [.ref 516, .int i1, .null] [] M L Q := by
  refine r_iload_n d_Mod_digest_36 rfl ?_
  refine r_aload_n d_Mod_digest_37 rfl ?_
  refine x_getI d_Mod_digest_38 fl_Mod_112 gI_516_4 ?_
  refine r_ic_ge d_Mod_digest_41 (fun c_3 => ?_) (fun c_3 => ?_)
  · have h9 := h.1 c_3
    refine r_aload_n d_Mod_digest_55 rfl ?_
    refine x_callV (as := []) (st := []) d_Mod_digest_56 ml_Mod_296 mc_Mod_mixChart mv_Mod_mixChart ⟨by decide, by decide⟩ gO_516 ⟨_, rfl, rfl⟩ rfl (Nat.le_of_ble_eq_true rfl) (Nat.le_of_ble_eq_true rfl) h9 ?_
    rintro _ M_4 L_5 ⟨rfl, h9⟩
    refine r_iconst (v := 0) d_Mod_digest_59 (by decide) ?_
    refine r_istore_n d_Mod_digest_60 (by decide) ?_
    exact h9
  · have h9 := h.2 c_3
    refine r_aload_n d_Mod_digest_44 rfl ?_
    refine r_iload_n d_Mod_digest_45 rfl ?_
    refine x_callV (as := [.int i1]) (st := []) d_Mod_digest_46 ml_Mod_293 mc_Mod_mixWatch mv_Mod_mixWatch ⟨by decide, by decide⟩ gO_516 ⟨_, rfl, rfl⟩ rfl (Nat.le_of_ble_eq_true rfl) (Nat.le_of_ble_eq_true rfl) h9 ?_
    rintro _ M_6 L_7 ⟨rfl, h9⟩
    refine r_iinc (v := i1 + 1) d_Mod_digest_49 rfl rfl (by decide) ?_
    refine r_goto d_Mod_digest_52 ?_
    exact h9
theorem L_Mod_digest_61 {xs : List Int32} {i1 : Int32} {M : Mem} {L : Int64} {Q : Option Value → Mem → Int64 → Prop} 
    (h : (((M 516 20) ≤ i1 → RX xs shL md_Mod_patch 0 [.ref 516, .int (M 516 20)] [] M L (fun r M_9 L_10 => ∃ v_11 : Int32, r = some (.int v_11) ∧ Q (some (.long (31 * (31 * (31 * (31 * L_10 + ((v_11 : Int32).toInt64)) + ((M_9 516 22 : Int32).toInt64)) + ((M_9 516 23 : Int32).toInt64)) + ((M_9 516 24 : Int32).toInt64)))) M_9 (31 * (31 * (31 * (31 * L_10 + ((v_11 : Int32).toInt64)) + ((M_9 516 22 : Int32).toInt64)) + ((M_9 516 23 : Int32).toInt64)) + ((M_9 516 24 : Int32).toInt64)))) ∧ (¬ ((M 516 20) ≤ i1) → RX xs shL md_Mod_digest 71 [.ref 516, .int i1, .int 0] [] M L Q))) : RX xs shL md_Mod_digest 61 [.ref 516, .int i1, .null] [] M L Q := by
  refine r_iload_n d_Mod_digest_61 rfl ?_
  refine r_aload_n d_Mod_digest_62 rfl ?_
  refine x_getI d_Mod_digest_63 fl_Mod_140 gI_516_20 ?_
  refine r_ic_ge d_Mod_digest_66 (fun c_8 => ?_) (fun c_8 => ?_)
  · have h9 := h.1 c_8
    refine r_aload_n d_Mod_digest_103 rfl ?_
    refine r_aload_n d_Mod_digest_104 rfl ?_
    refine r_aload_n d_Mod_digest_105 rfl ?_
    refine x_getI d_Mod_digest_106 fl_Mod_140 gI_516_20 ?_
    refine x_callV (as := [.int (M 516 20)]) (st := [.ref 516]) d_Mod_digest_109 ml_Mod_299 mc_Mod_patch mv_Mod_patch ⟨by decide, by decide⟩ gO_516 ⟨_, rfl, rfl⟩ rfl (Nat.le_of_ble_eq_true rfl) (Nat.le_of_ble_eq_true rfl) h9 ?_
    rintro _ M_9 L_10 ⟨v_11, rfl, h9⟩
    refine r_i2l d_Mod_digest_112 ?_
    refine x_callV (as := [.long ((v_11 : Int32).toInt64)]) (st := []) d_Mod_digest_113 ml_Mod_287 mc_Mod_mix mv_Mod_mix ⟨by decide, by decide⟩ gO_516 ⟨_, rfl, rfl⟩ rfl (Nat.le_of_ble_eq_true rfl) (Nat.le_of_ble_eq_true rfl) (Q1 := fun r M1 L1 => none = r ∧ M_9 = M1 ∧ 31 * L_10 + ((v_11 : Int32).toInt64) = L1) (L_Mod_mix_0 ⟨rfl, rfl, rfl⟩) ?_
    rintro _ _ _ ⟨rfl, rfl, rfl⟩
    refine r_aload_n d_Mod_digest_116 rfl ?_
    refine r_aload_n d_Mod_digest_117 rfl ?_
    refine x_getI d_Mod_digest_118 fl_Mod_254 gI_516_22 ?_
    refine r_i2l d_Mod_digest_121 ?_
    refine x_callV (as := [.long ((M_9 516 22 : Int32).toInt64)]) (st := []) d_Mod_digest_122 ml_Mod_287 mc_Mod_mix mv_Mod_mix ⟨by decide, by decide⟩ gO_516 ⟨_, rfl, rfl⟩ rfl (Nat.le_of_ble_eq_true rfl) (Nat.le_of_ble_eq_true rfl) (Q1 := fun r M1 L1 => none = r ∧ M_9 = M1 ∧ 31 * (31 * L_10 + ((v_11 : Int32).toInt64)) + ((M_9 516 22 : Int32).toInt64) = L1) (L_Mod_mix_0 ⟨rfl, rfl, rfl⟩) ?_
    rintro _ _ _ ⟨rfl, rfl, rfl⟩
    refine r_aload_n d_Mod_digest_125 rfl ?_
    refine r_aload_n d_Mod_digest_126 rfl ?_
    refine x_getI d_Mod_digest_127 fl_Mod_275 gI_516_23 ?_
    refine r_i2l d_Mod_digest_130 ?_
    refine x_callV (as := [.long ((M_9 516 23 : Int32).toInt64)]) (st := []) d_Mod_digest_131 ml_Mod_287 mc_Mod_mix mv_Mod_mix ⟨by decide, by decide⟩ gO_516 ⟨_, rfl, rfl⟩ rfl (Nat.le_of_ble_eq_true rfl) (Nat.le_of_ble_eq_true rfl) (Q1 := fun r M1 L1 => none = r ∧ M_9 = M1 ∧ 31 * (31 * (31 * L_10 + ((v_11 : Int32).toInt64)) + ((M_9 516 22 : Int32).toInt64)) + ((M_9 516 23 : Int32).toInt64) = L1) (L_Mod_mix_0 ⟨rfl, rfl, rfl⟩) ?_
    rintro _ _ _ ⟨rfl, rfl, rfl⟩
    refine r_aload_n d_Mod_digest_134 rfl ?_
    refine r_aload_n d_Mod_digest_135 rfl ?_
    refine x_getI d_Mod_digest_136 fl_Mod_245 gI_516_24 ?_
    refine r_i2l d_Mod_digest_139 ?_
    refine x_callV (as := [.long ((M_9 516 24 : Int32).toInt64)]) (st := []) d_Mod_digest_140 ml_Mod_287 mc_Mod_mix mv_Mod_mix ⟨by decide, by decide⟩ gO_516 ⟨_, rfl, rfl⟩ rfl (Nat.le_of_ble_eq_true rfl) (Nat.le_of_ble_eq_true rfl) (Q1 := fun r M1 L1 => none = r ∧ M_9 = M1 ∧ 31 * (31 * (31 * (31 * L_10 + ((v_11 : Int32).toInt64)) + ((M_9 516 22 : Int32).toInt64)) + ((M_9 516 23 : Int32).toInt64)) + ((M_9 516 24 : Int32).toInt64) = L1) (L_Mod_mix_0 ⟨rfl, rfl, rfl⟩) ?_
    rintro _ _ _ ⟨rfl, rfl, rfl⟩
    refine r_aload_n d_Mod_digest_143 rfl ?_
    refine x_getL d_Mod_digest_144 fl_Mod_283 gL_516_34 ?_
    exact r_lret ⟨d_Mod_digest_147, rfl⟩ ⟨_, _, rfl, h9⟩
  · have h9 := h.2 c_8
    refine r_iconst (v := 0) d_Mod_digest_69 (by decide) ?_
    refine r_istore_n d_Mod_digest_70 (by decide) ?_
    exact h9
theorem L_Mod_digest_71 {xs : List Int32} {i1 : Int32} {i2 : Int32} {M : Mem} {L : Int64} {Q : Option Value → Mem → Int64 → Prop} 
    (h : ((5 ≤ i2 → RX xs shL md_Mod_digest 61 [.ref 516, .int (i1 + 1), .null] [] M L Q) ∧ (¬ (5 ≤ i2) → (vp_in ((5 * i1) + i2) 200 ∧ RX xs shL md_Mod_digest 71 [.ref 516, .int i1, .int (i2 + 1)] [] M (31 * L + ((M 525 (((5 * i1) + i2).toNatClampNeg) : Int32).toInt64)) Q)))) : RX xs shL md_Mod_digest 71 [.ref 516, .int i1, .int i2] [] M L Q := by
  refine r_iload_n d_Mod_digest_71 rfl ?_
  refine r_iconst (v := 5) d_Mod_digest_72 (by decide) ?_
  refine r_ic_ge d_Mod_digest_73 (fun c_12 => ?_) (fun c_12 => ?_)
  · have h9 := h.1 c_12
    refine r_iinc (v := i1 + 1) d_Mod_digest_97 rfl rfl (by decide) ?_
    refine r_goto d_Mod_digest_100 ?_
    refine r_weak (lv' := [.ref 516, .int (i1 + 1), .null]) (by repeat (first | exact trivial | refine ⟨rfl, ?_⟩ | exact lle_nil)) ?_
    exact h9
  · have h9 := h.2 c_12
    refine r_aload_n d_Mod_digest_76 rfl ?_
    refine r_aload_n d_Mod_digest_77 rfl ?_
    refine x_getR d_Mod_digest_78 fl_Mod_45 gR_516_21 ?_
    refine r_iconst (v := 5) d_Mod_digest_81 (by decide) ?_
    refine r_iload_n d_Mod_digest_82 rfl ?_
    refine r_imul d_Mod_digest_83 ?_
    refine r_iload_n d_Mod_digest_84 rfl ?_
    refine r_iadd d_Mod_digest_85 ?_
    obtain ⟨o_13, h9⟩ := h9
    refine x_iald d_Mod_digest_86 aI_525 o_13 ?_
    refine r_i2l d_Mod_digest_87 ?_
    refine x_callV (as := [.long ((M 525 (((5 * i1) + i2).toNatClampNeg) : Int32).toInt64)]) (st := []) d_Mod_digest_88 ml_Mod_287 mc_Mod_mix mv_Mod_mix ⟨by decide, by decide⟩ gO_516 ⟨_, rfl, rfl⟩ rfl (Nat.le_of_ble_eq_true rfl) (Nat.le_of_ble_eq_true rfl) (Q1 := fun r M1 L1 => none = r ∧ M = M1 ∧ 31 * L + ((M 525 (((5 * i1) + i2).toNatClampNeg) : Int32).toInt64) = L1) (L_Mod_mix_0 ⟨rfl, rfl, rfl⟩) ?_
    rintro _ _ _ ⟨rfl, rfl, rfl⟩
    refine r_iinc (v := i2 + 1) d_Mod_digest_91 rfl rfl (by decide) ?_
    refine r_goto d_Mod_digest_94 ?_
    exact h9

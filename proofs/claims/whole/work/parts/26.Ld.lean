set_option maxHeartbeats 4000000 in
theorem L_Watch_madeGood_0 {xs : List Int32} {t0 : Nat} {i1 : Int32} {i2 : Int32} {M : Mem} {L : Int64} {Q : Option Value → Mem → Int64 → Prop} (ht0 : t0 < 24)
    (h : ((i1 = (-1) → Q (some (.int (-1))) M L) ∧ (¬ (i1 = (-1)) → (((lwA (angC ((i1 + i2) &&& 31) (M (6 + 5 * t0) 7)) (M (6 + 5 * t0) 8)) = (-1) → Q (some (.int (-1))) M L) ∧ (¬ ((lwA (angC ((i1 + i2) &&& 31) (M (6 + 5 * t0) 7)) (M (6 + 5 * t0) 8)) = (-1)) → ((16 ≤ ((((i1 + i2) &&& 31) - (M (6 + 5 * t0) 7)) &&& 31) → (((0 : Int32) = 0 → Q (some (.int ((((i1 + i2) &&& 31) + (-(lwA (angC ((i1 + i2) &&& 31) (M (6 + 5 * t0) 7)) (M (6 + 5 * t0) 8)))) &&& 31))) M L) ∧ (¬ ((0 : Int32) = 0) → Q (some (.int ((((i1 + i2) &&& 31) + (lwA (angC ((i1 + i2) &&& 31) (M (6 + 5 * t0) 7)) (M (6 + 5 * t0) 8))) &&& 31))) M L))) ∧ (¬ (16 ≤ ((((i1 + i2) &&& 31) - (M (6 + 5 * t0) 7)) &&& 31)) → (((1 : Int32) = 0 → Q (some (.int ((((i1 + i2) &&& 31) + (-(lwA (angC ((i1 + i2) &&& 31) (M (6 + 5 * t0) 7)) (M (6 + 5 * t0) 8)))) &&& 31))) M L) ∧ (¬ ((1 : Int32) = 0) → Q (some (.int ((((i1 + i2) &&& 31) + (lwA (angC ((i1 + i2) &&& 31) (M (6 + 5 * t0) 7)) (M (6 + 5 * t0) 8))) &&& 31))) M L))))))))) : RX xs shL md_Watch_madeGood 0 [.ref (6 + 5 * t0), .int i1, .int i2] [] M L Q := by
  refine r_weak (lv' := [.ref (6 + 5 * t0), .int i1, .int i2, .null, .null, .null]) (by repeat (first | exact trivial | refine ⟨rfl, ?_⟩ | exact lle_nil)) ?_
  refine r_iload_n d_Watch_madeGood_0 rfl ?_
  refine r_iconst (v := (-1)) d_Watch_madeGood_1 (by decide) ?_
  refine r_ic_ne d_Watch_madeGood_2 (fun c_1 => ?_) (fun c_1 => ?_)
  · have h9 := h.2 c_1
    refine r_iload_n d_Watch_madeGood_7 rfl ?_
    refine r_iload_n d_Watch_madeGood_8 rfl ?_
    refine x_callS (as := [.int i1, .int i2]) (st := []) d_Watch_madeGood_9 ml_Watch_84 mc_Compass_turned ms_Compass_turned ⟨by decide, by decide⟩ rfl (Nat.le_of_ble_eq_true rfl) (Nat.le_of_ble_eq_true rfl) (Q1 := fun r M1 L1 => some (.int ((i1 + i2) &&& 31)) = r ∧ M = M1 ∧ L = L1) (s_Compass_turned ⟨rfl, rfl, rfl⟩) ?_
    rintro _ _ _ ⟨rfl, rfl, rfl⟩
    refine r_istore_n d_Watch_madeGood_12 (by decide) ?_
    refine r_iload_n d_Watch_madeGood_13 rfl ?_
    refine r_aload_n d_Watch_madeGood_14 rfl ?_
    refine x_getI d_Watch_madeGood_15 fl_Watch_40 (wt_I ht0 7 (by decide) (by decide)) ?_
    refine r_aload_n d_Watch_madeGood_18 rfl ?_
    refine x_getI d_Watch_madeGood_19 fl_Watch_43 (wt_I ht0 8 (by decide) (by decide)) ?_
    refine x_callS (as := [.int ((i1 + i2) &&& 31), .int (M (6 + 5 * t0) 7), .int (M (6 + 5 * t0) 8)]) (st := []) d_Watch_madeGood_22 ml_Watch_87 mc_Compass_pointsFarther ms_Compass_pointsFarther ⟨by decide, by decide⟩ rfl (Nat.le_of_ble_eq_true rfl) (Nat.le_of_ble_eq_true rfl) (Q1 := fun r M1 L1 => some (.int (lwA (angC ((i1 + i2) &&& 31) (M (6 + 5 * t0) 7)) (M (6 + 5 * t0) 8))) = r ∧ M = M1 ∧ L = L1) (s_Compass_pointsFarther ⟨rfl, rfl, rfl⟩) ?_
    rintro _ _ _ ⟨rfl, rfl, rfl⟩
    refine r_istore d_Watch_madeGood_25 (by decide) ?_
    refine r_iload d_Watch_madeGood_27 rfl ?_
    refine r_iconst (v := (-1)) d_Watch_madeGood_29 (by decide) ?_
    refine r_ic_ne d_Watch_madeGood_30 (fun c_2 => ?_) (fun c_2 => ?_)
    · have h9 := h9.2 c_2
      refine r_aload_n d_Watch_madeGood_35 rfl ?_
      refine x_getI d_Watch_madeGood_36 fl_Watch_40 (wt_I ht0 7 (by decide) (by decide)) ?_
      refine r_iload_n d_Watch_madeGood_39 rfl ?_
      refine x_callS (as := [.int (M (6 + 5 * t0) 7), .int ((i1 + i2) &&& 31)]) (st := []) d_Watch_madeGood_40 ml_Watch_91 mc_Compass_turnsBetween ms_Compass_turnsBetween ⟨by decide, by decide⟩ rfl (Nat.le_of_ble_eq_true rfl) (Nat.le_of_ble_eq_true rfl) (Q1 := fun r M1 L1 => some (.int ((((i1 + i2) &&& 31) - (M (6 + 5 * t0) 7)) &&& 31)) = r ∧ M = M1 ∧ L = L1) (s_Compass_turnsBetween ⟨rfl, rfl, rfl⟩) ?_
      rintro _ _ _ ⟨rfl, rfl, rfl⟩
      refine r_bipush (v := 16) d_Watch_madeGood_43 (by decide) ?_
      refine r_ic_ge d_Watch_madeGood_45 (fun c_3 => ?_) (fun c_3 => ?_)
      · have h9 := h9.1 c_3
        refine r_iconst (v := 0) d_Watch_madeGood_52 (by decide) ?_
        refine r_istore d_Watch_madeGood_53 (by decide) ?_
        refine r_iload_n d_Watch_madeGood_55 rfl ?_
        refine r_iload d_Watch_madeGood_56 rfl ?_
        refine r_if_eq d_Watch_madeGood_58 (fun c_4 => ?_) (fun c_4 => ?_)
        · have h9 := h9.1 c_4
          refine r_iload d_Watch_madeGood_66 rfl ?_
          refine r_ineg d_Watch_madeGood_68 ?_
          refine x_callS (as := [.int ((i1 + i2) &&& 31), .int (-(lwA (angC ((i1 + i2) &&& 31) (M (6 + 5 * t0) 7)) (M (6 + 5 * t0) 8)))]) (st := []) d_Watch_madeGood_69 ml_Watch_84 mc_Compass_turned ms_Compass_turned ⟨by decide, by decide⟩ rfl (Nat.le_of_ble_eq_true rfl) (Nat.le_of_ble_eq_true rfl) (Q1 := fun r M1 L1 => some (.int ((((i1 + i2) &&& 31) + (-(lwA (angC ((i1 + i2) &&& 31) (M (6 + 5 * t0) 7)) (M (6 + 5 * t0) 8)))) &&& 31)) = r ∧ M = M1 ∧ L = L1) (s_Compass_turned ⟨rfl, rfl, rfl⟩) ?_
          rintro _ _ _ ⟨rfl, rfl, rfl⟩
          exact r_iret ⟨d_Watch_madeGood_72, _, rfl, rfl⟩ ⟨_, _, rfl, h9⟩
        · have h9 := h9.2 c_4
          refine r_iload d_Watch_madeGood_61 rfl ?_
          refine r_goto d_Watch_madeGood_63 ?_
          refine x_callS (as := [.int ((i1 + i2) &&& 31), .int (lwA (angC ((i1 + i2) &&& 31) (M (6 + 5 * t0) 7)) (M (6 + 5 * t0) 8))]) (st := []) d_Watch_madeGood_69 ml_Watch_84 mc_Compass_turned ms_Compass_turned ⟨by decide, by decide⟩ rfl (Nat.le_of_ble_eq_true rfl) (Nat.le_of_ble_eq_true rfl) (Q1 := fun r M1 L1 => some (.int ((((i1 + i2) &&& 31) + (lwA (angC ((i1 + i2) &&& 31) (M (6 + 5 * t0) 7)) (M (6 + 5 * t0) 8))) &&& 31)) = r ∧ M = M1 ∧ L = L1) (s_Compass_turned ⟨rfl, rfl, rfl⟩) ?_
          rintro _ _ _ ⟨rfl, rfl, rfl⟩
          exact r_iret ⟨d_Watch_madeGood_72, _, rfl, rfl⟩ ⟨_, _, rfl, h9⟩
      · have h9 := h9.2 c_3
        refine r_iconst (v := 1) d_Watch_madeGood_48 (by decide) ?_
        refine r_goto d_Watch_madeGood_49 ?_
        refine r_istore d_Watch_madeGood_53 (by decide) ?_
        refine r_iload_n d_Watch_madeGood_55 rfl ?_
        refine r_iload d_Watch_madeGood_56 rfl ?_
        refine r_if_eq d_Watch_madeGood_58 (fun c_5 => ?_) (fun c_5 => ?_)
        · have h9 := h9.1 c_5
          refine r_iload d_Watch_madeGood_66 rfl ?_
          refine r_ineg d_Watch_madeGood_68 ?_
          refine x_callS (as := [.int ((i1 + i2) &&& 31), .int (-(lwA (angC ((i1 + i2) &&& 31) (M (6 + 5 * t0) 7)) (M (6 + 5 * t0) 8)))]) (st := []) d_Watch_madeGood_69 ml_Watch_84 mc_Compass_turned ms_Compass_turned ⟨by decide, by decide⟩ rfl (Nat.le_of_ble_eq_true rfl) (Nat.le_of_ble_eq_true rfl) (Q1 := fun r M1 L1 => some (.int ((((i1 + i2) &&& 31) + (-(lwA (angC ((i1 + i2) &&& 31) (M (6 + 5 * t0) 7)) (M (6 + 5 * t0) 8)))) &&& 31)) = r ∧ M = M1 ∧ L = L1) (s_Compass_turned ⟨rfl, rfl, rfl⟩) ?_
          rintro _ _ _ ⟨rfl, rfl, rfl⟩
          exact r_iret ⟨d_Watch_madeGood_72, _, rfl, rfl⟩ ⟨_, _, rfl, h9⟩
        · have h9 := h9.2 c_5
          refine r_iload d_Watch_madeGood_61 rfl ?_
          refine r_goto d_Watch_madeGood_63 ?_
          refine x_callS (as := [.int ((i1 + i2) &&& 31), .int (lwA (angC ((i1 + i2) &&& 31) (M (6 + 5 * t0) 7)) (M (6 + 5 * t0) 8))]) (st := []) d_Watch_madeGood_69 ml_Watch_84 mc_Compass_turned ms_Compass_turned ⟨by decide, by decide⟩ rfl (Nat.le_of_ble_eq_true rfl) (Nat.le_of_ble_eq_true rfl) (Q1 := fun r M1 L1 => some (.int ((((i1 + i2) &&& 31) + (lwA (angC ((i1 + i2) &&& 31) (M (6 + 5 * t0) 7)) (M (6 + 5 * t0) 8))) &&& 31)) = r ∧ M = M1 ∧ L = L1) (s_Compass_turned ⟨rfl, rfl, rfl⟩) ?_
          rintro _ _ _ ⟨rfl, rfl, rfl⟩
          exact r_iret ⟨d_Watch_madeGood_72, _, rfl, rfl⟩ ⟨_, _, rfl, h9⟩
    · have h9 := h9.1 c_2
      refine r_iconst (v := (-1)) d_Watch_madeGood_33 (by decide) ?_
      exact r_iret ⟨d_Watch_madeGood_34, _, rfl, rfl⟩ ⟨_, _, rfl, h9⟩
  · have h9 := h.1 c_1
    refine r_iconst (v := (-1)) d_Watch_madeGood_5 (by decide) ?_
    exact r_iret ⟨d_Watch_madeGood_6, _, rfl, rfl⟩ ⟨_, _, rfl, h9⟩
theorem L_Watch_sumParts_0 {xs : List Int32} {t0 : Nat} {i1 : Int32} {M : Mem} {L : Int64} {Q : Option Value → Mem → Int64 → Prop} (ht0 : t0 < 24)
    (h : RX xs shL md_Watch_sumParts 7 [.ref (6 + 5 * t0), .int i1, .int 0, .int 0, .int 0, .null] [] M L Q) : RX xs shL md_Watch_sumParts 0 [.ref (6 + 5 * t0), .int i1] [] M L Q := by
  refine r_weak (lv' := [.ref (6 + 5 * t0), .int i1, .null, .null, .null, .null]) (by repeat (first | exact trivial | refine ⟨rfl, ?_⟩ | exact lle_nil)) ?_
  refine r_iconst (v := 0) d_Watch_sumParts_0 (by decide) ?_
  refine r_istore_n d_Watch_sumParts_1 (by decide) ?_
  refine r_iconst (v := 0) d_Watch_sumParts_2 (by decide) ?_
  refine r_istore_n d_Watch_sumParts_3 (by decide) ?_
  refine r_iconst (v := 0) d_Watch_sumParts_4 (by decide) ?_
  refine r_istore d_Watch_sumParts_5 (by decide) ?_
  exact h
set_option maxHeartbeats 4000000 in
theorem L_Watch_sumParts_7 {xs : List Int32} {t0 : Nat} {i1 : Int32} {i2 : Int32} {i3 : Int32} {i4 : Int32} {M : Mem} {L : Int64} {Q : Option Value → Mem → Int64 → Prop} (ht0 : t0 < 24)
    (h : ((8 ≤ i4 → (vp_in (i1 + 2) 5 ∧ Q none (up (up M (6 + 5 * t0 + 3) ((i1 + 2).toNatClampNeg) i2) (6 + 5 * t0 + 4) ((i1 + 2).toNatClampNeg) i3) L)) ∧ (¬ (8 ≤ i4) → (vp_in i4 8 ∧ RX xs shL md_Watch_madeGood 0 [.ref (6 + 5 * t0), .int (M (6 + 5 * t0 + 1) i4.toNatClampNeg), .int i1] [] M L (fun r M_4 L_5 => ∃ v_6 : Int32, r = some (.int v_6) ∧ ((v_6 = (-1) → RX xs shL md_Watch_sumParts 7 [.ref (6 + 5 * t0), .int i1, .int i2, .int i3, .int (i4 + 1), .null] [] M_4 L_5 Q) ∧ (¬ (v_6 = (-1)) → RX xs shL md_Watch_knotsOfPeg 0 [.ref (6 + 5 * t0), .int i4] [] M_4 L_5 (fun r M_8 L_9 => ∃ v_10 : Int32, r = some (.int v_10) ∧ ((0 ≤ v_6 ∧ v_6 ≤ 31) ∧ RX xs shL md_Watch_knotsOfPeg 0 [.ref (6 + 5 * t0), .int i4] [] M_8 L_9 (fun r M_12 L_13 => ∃ v_14 : Int32, r = some (.int v_14) ∧ RX xs shL md_Watch_sumParts 7 [.ref (6 + 5 * t0), .int i1, .int (i2 + (v_10 * (nrt ((v_6 + 24) &&& 31)))), .int (i3 + (v_14 * (nrt v_6))), .int (i4 + 1), .null] [] M_12 L_13 Q)))))))))) : RX xs shL md_Watch_sumParts 7 [.ref (6 + 5 * t0), .int i1, .int i2, .int i3, .int i4, .null] [] M L Q := by
  refine r_iload d_Watch_sumParts_7 rfl ?_
  refine r_bipush (v := 8) d_Watch_sumParts_9 (by decide) ?_
  refine r_ic_ge d_Watch_sumParts_11 (fun c_1 => ?_) (fun c_1 => ?_)
  · have h9 := h.1 c_1
    refine r_aload_n d_Watch_sumParts_70 rfl ?_
    refine x_getR d_Watch_sumParts_71 fl_Watch_24 (wt_R2 ht0) ?_
    refine r_iload_n d_Watch_sumParts_74 rfl ?_
    refine r_iconst (v := 2) d_Watch_sumParts_75 (by decide) ?_
    refine r_iadd d_Watch_sumParts_76 ?_
    refine r_iload_n d_Watch_sumParts_77 rfl ?_
    obtain ⟨o_2, h9⟩ := h9
    refine x_iast d_Watch_sumParts_78 (wt_A2 ht0) o_2 ?_
    refine r_aload_n d_Watch_sumParts_79 rfl ?_
    refine x_getR d_Watch_sumParts_80 fl_Watch_27 (wt_R3 ht0) ?_
    refine r_iload_n d_Watch_sumParts_83 rfl ?_
    refine r_iconst (v := 2) d_Watch_sumParts_84 (by decide) ?_
    refine r_iadd d_Watch_sumParts_85 ?_
    refine r_iload_n d_Watch_sumParts_86 rfl ?_
    refine x_iast d_Watch_sumParts_87 (wt_A3 ht0) o_2 ?_
    exact r_vret ⟨d_Watch_sumParts_88, rfl⟩ ⟨up (up M (6 + 5 * t0 + 3) ((i1 + 2).toNatClampNeg) i2) (6 + 5 * t0 + 4) ((i1 + 2).toNatClampNeg) i3, L, rfl, h9⟩
  · have h9 := h.2 c_1
    refine r_aload_n d_Watch_sumParts_14 rfl ?_
    refine r_aload_n d_Watch_sumParts_15 rfl ?_
    refine x_getR d_Watch_sumParts_16 fl_Watch_11 (wt_R0 ht0) ?_
    refine r_iload d_Watch_sumParts_19 rfl ?_
    obtain ⟨o_3, h9⟩ := h9
    refine x_iald d_Watch_sumParts_21 (wt_A0 ht0) o_3 ?_
    refine r_iload_n d_Watch_sumParts_22 rfl ?_
    refine x_callV (as := [.int (M (6 + 5 * t0 + 1) i4.toNatClampNeg), .int i1]) (st := []) d_Watch_sumParts_23 ml_Watch_75 mc_Watch_madeGood mv_Watch_madeGood ⟨by decide, by decide⟩ (wt_O ht0) ⟨_, rfl, rfl⟩ rfl (Nat.le_of_ble_eq_true rfl) (Nat.le_of_ble_eq_true rfl) h9 ?_
    rintro _ M_4 L_5 ⟨v_6, rfl, h9⟩
    refine r_istore d_Watch_sumParts_26 (by decide) ?_
    refine r_iload d_Watch_sumParts_28 rfl ?_
    refine r_iconst (v := (-1)) d_Watch_sumParts_30 (by decide) ?_
    refine r_ic_eq d_Watch_sumParts_31 (fun c_7 => ?_) (fun c_7 => ?_)
    · have h9 := h9.1 c_7
      refine r_iinc (v := i4 + 1) d_Watch_sumParts_64 rfl rfl (by decide) ?_
      refine r_goto d_Watch_sumParts_67 ?_
      refine r_weak (lv' := [.ref (6 + 5 * t0), .int i1, .int i2, .int i3, .int (i4 + 1), .null]) (by repeat (first | exact trivial | refine ⟨rfl, ?_⟩ | exact lle_nil)) ?_
      exact h9
    · have h9 := h9.2 c_7
      refine r_iload_n d_Watch_sumParts_34 rfl ?_
      refine r_aload_n d_Watch_sumParts_35 rfl ?_
      refine r_iload d_Watch_sumParts_36 rfl ?_
      refine x_callV (as := [.int i4]) (st := [.int i2]) d_Watch_sumParts_38 ml_Watch_71 mc_Watch_knotsOfPeg mv_Watch_knotsOfPeg ⟨by decide, by decide⟩ (wt_O ht0) ⟨_, rfl, rfl⟩ rfl (Nat.le_of_ble_eq_true rfl) (Nat.le_of_ble_eq_true rfl) h9 ?_
      rintro _ M_8 L_9 ⟨v_10, rfl, h9⟩
      refine r_iload d_Watch_sumParts_41 rfl ?_
      obtain ⟨o_11, h9⟩ := h9
      refine x_callS (as := [.int v_6]) (st := [.int v_10, .int i2]) d_Watch_sumParts_43 ml_Watch_78 mc_Compass_eastOf ms_Compass_eastOf ⟨by decide, by decide⟩ rfl (Nat.le_of_ble_eq_true rfl) (Nat.le_of_ble_eq_true rfl) (Q1 := fun r M1 L1 => some (.int (nrt ((v_6 + 24) &&& 31))) = r ∧ M_8 = M1 ∧ L_9 = L1) (s_Compass_eastOf o_11 ⟨rfl, rfl, rfl⟩) ?_
      rintro _ _ _ ⟨rfl, rfl, rfl⟩
      refine r_imul d_Watch_sumParts_46 ?_
      refine r_iadd d_Watch_sumParts_47 ?_
      refine r_istore_n d_Watch_sumParts_48 (by decide) ?_
      refine r_iload_n d_Watch_sumParts_49 rfl ?_
      refine r_aload_n d_Watch_sumParts_50 rfl ?_
      refine r_iload d_Watch_sumParts_51 rfl ?_
      refine x_callV (as := [.int i4]) (st := [.int i3]) d_Watch_sumParts_53 ml_Watch_71 mc_Watch_knotsOfPeg mv_Watch_knotsOfPeg ⟨by decide, by decide⟩ (wt_O ht0) ⟨_, rfl, rfl⟩ rfl (Nat.le_of_ble_eq_true rfl) (Nat.le_of_ble_eq_true rfl) h9 ?_
      rintro _ M_12 L_13 ⟨v_14, rfl, h9⟩
      refine r_iload d_Watch_sumParts_56 rfl ?_
      refine x_callS (as := [.int v_6]) (st := [.int v_14, .int i3]) d_Watch_sumParts_58 ml_Watch_81 mc_Compass_northOf ms_Compass_northOf ⟨by decide, by decide⟩ rfl (Nat.le_of_ble_eq_true rfl) (Nat.le_of_ble_eq_true rfl) (Q1 := fun r M1 L1 => some (.int (nrt v_6)) = r ∧ M_12 = M1 ∧ L_13 = L1) (s_Compass_northOf o_11 ⟨rfl, rfl, rfl⟩) ?_
      rintro _ _ _ ⟨rfl, rfl, rfl⟩
      refine r_imul d_Watch_sumParts_61 ?_
      refine r_iadd d_Watch_sumParts_62 ?_
      refine r_istore_n d_Watch_sumParts_63 (by decide) ?_
      refine r_iinc (v := i4 + 1) d_Watch_sumParts_64 rfl rfl (by decide) ?_
      refine r_goto d_Watch_sumParts_67 ?_
      refine r_weak (lv' := [.ref (6 + 5 * t0), .int i1, .int (i2 + (v_10 * (nrt ((v_6 + 24) &&& 31)))), .int (i3 + (v_14 * (nrt v_6))), .int (i4 + 1), .null]) (by repeat (first | exact trivial | refine ⟨rfl, ?_⟩ | exact lle_nil)) ?_
      exact h9
theorem L_Watch_sumUp_0 {xs : List Int32} {t0 : Nat} {M : Mem} {L : Int64} {Q : Option Value → Mem → Int64 → Prop} (ht0 : t0 < 24)
    (h : RX xs shL md_Watch_sumSpreads 0 [.ref (6 + 5 * t0)] [] M L (fun r M_1 L_2 => r = none ∧ RX xs shL md_Watch_sumUp 7 [.ref (6 + 5 * t0), .int (-2)] [] M_1 L_2 Q)) : RX xs shL md_Watch_sumUp 0 [.ref (6 + 5 * t0)] [] M L Q := by
  refine r_weak (lv' := [.ref (6 + 5 * t0), .null]) (by repeat (first | exact trivial | refine ⟨rfl, ?_⟩ | exact lle_nil)) ?_
  refine r_aload_n d_Watch_sumUp_0 rfl ?_
  refine x_callV (as := []) (st := []) d_Watch_sumUp_1 ml_Watch_64 mc_Watch_sumSpreads mv_Watch_sumSpreads ⟨by decide, by decide⟩ (wt_O ht0) ⟨_, rfl, rfl⟩ rfl (Nat.le_of_ble_eq_true rfl) (Nat.le_of_ble_eq_true rfl) h ?_
  rintro _ M_1 L_2 ⟨rfl, h9⟩
  refine r_bipush (v := (-2)) d_Watch_sumUp_4 (by decide) ?_
  refine r_istore_n d_Watch_sumUp_6 (by decide) ?_
  exact h9
theorem L_Watch_sumUp_7 {xs : List Int32} {t0 : Nat} {i1 : Int32} {M : Mem} {L : Int64} {Q : Option Value → Mem → Int64 → Prop} (ht0 : t0 < 24)
    (h : ((2 < i1 → Q none M L) ∧ (¬ (2 < i1) → RX xs shL md_Watch_sumParts 0 [.ref (6 + 5 * t0), .int i1] [] M L (fun r M_4 L_5 => r = none ∧ RX xs shL md_Watch_sumUp 7 [.ref (6 + 5 * t0), .int (i1 + 1)] [] M_4 L_5 Q)))) : RX xs shL md_Watch_sumUp 7 [.ref (6 + 5 * t0), .int i1] [] M L Q := by
  refine r_iload_n d_Watch_sumUp_7 rfl ?_
  refine r_iconst (v := 2) d_Watch_sumUp_8 (by decide) ?_
  refine r_ic_gt d_Watch_sumUp_9 (fun c_3 => ?_) (fun c_3 => ?_)
  · have h9 := h.1 c_3
    exact r_vret ⟨d_Watch_sumUp_23, rfl⟩ ⟨M, L, rfl, h9⟩
  · have h9 := h.2 c_3
    refine r_aload_n d_Watch_sumUp_12 rfl ?_
    refine r_iload_n d_Watch_sumUp_13 rfl ?_
    refine x_callV (as := [.int i1]) (st := []) d_Watch_sumUp_14 ml_Watch_67 mc_Watch_sumParts mv_Watch_sumParts ⟨by decide, by decide⟩ (wt_O ht0) ⟨_, rfl, rfl⟩ rfl (Nat.le_of_ble_eq_true rfl) (Nat.le_of_ble_eq_true rfl) h9 ?_
    rintro _ M_4 L_5 ⟨rfl, h9⟩
    refine r_iinc (v := i1 + 1) d_Watch_sumUp_17 rfl rfl (by decide) ?_
    refine r_goto d_Watch_sumUp_20 ?_
    exact h9
theorem L_Watch_putPeg_0 {xs : List Int32} {t0 : Nat} {i1 : Int32} {i2 : Int32} {M : Mem} {L : Int64} {Q : Option Value → Mem → Int64 → Prop} (ht0 : t0 < 24)
    (h : (vp_in i1 8 ∧ RX xs shL md_Watch_sumUp 0 [.ref (6 + 5 * t0)] [] (up M (6 + 5 * t0 + 1) i1.toNatClampNeg i2) L (fun r M_2 L_3 => r = none ∧ Q (some (.int (M (6 + 5 * t0 + 1) i1.toNatClampNeg))) M_2 L_3))) : RX xs shL md_Watch_putPeg 0 [.ref (6 + 5 * t0), .int i1, .int i2] [] M L Q := by
  refine r_weak (lv' := [.ref (6 + 5 * t0), .int i1, .int i2, .null]) (by repeat (first | exact trivial | refine ⟨rfl, ?_⟩ | exact lle_nil)) ?_
  refine r_aload_n d_Watch_putPeg_0 rfl ?_
  refine x_getR d_Watch_putPeg_1 fl_Watch_11 (wt_R0 ht0) ?_
  refine r_iload_n d_Watch_putPeg_4 rfl ?_
  obtain ⟨o_1, h9⟩ := h
  refine x_iald d_Watch_putPeg_5 (wt_A0 ht0) o_1 ?_
  refine r_istore_n d_Watch_putPeg_6 (by decide) ?_
  refine r_aload_n d_Watch_putPeg_7 rfl ?_
  refine x_getR d_Watch_putPeg_8 fl_Watch_11 (wt_R0 ht0) ?_
  refine r_iload_n d_Watch_putPeg_11 rfl ?_
  refine r_iload_n d_Watch_putPeg_12 rfl ?_
  refine x_iast d_Watch_putPeg_13 (wt_A0 ht0) o_1 ?_
  refine r_aload_n d_Watch_putPeg_14 rfl ?_
  refine x_callV (as := []) (st := []) d_Watch_putPeg_15 ml_Watch_48 mc_Watch_sumUp mv_Watch_sumUp ⟨by decide, by decide⟩ (wt_O ht0) ⟨_, rfl, rfl⟩ rfl (Nat.le_of_ble_eq_true rfl) (Nat.le_of_ble_eq_true rfl) h9 ?_
  rintro _ M_2 L_3 ⟨rfl, h9⟩
  refine r_iload_n d_Watch_putPeg_18 rfl ?_
  exact r_iret ⟨d_Watch_putPeg_19, _, rfl, rfl⟩ ⟨_, _, rfl, h9⟩
theorem L_Watch_putKnots_0 {xs : List Int32} {t0 : Nat} {i1 : Int32} {i2 : Int32} {M : Mem} {L : Int64} {Q : Option Value → Mem → Int64 → Prop} (ht0 : t0 < 24)
    (h : (vp_in i1 4 ∧ RX xs shL md_Watch_sumUp 0 [.ref (6 + 5 * t0)] [] (up M (6 + 5 * t0 + 2) i1.toNatClampNeg i2) L (fun r M_2 L_3 => r = none ∧ Q (some (.int (M (6 + 5 * t0 + 2) i1.toNatClampNeg))) M_2 L_3))) : RX xs shL md_Watch_putKnots 0 [.ref (6 + 5 * t0), .int i1, .int i2] [] M L Q := by
  refine r_weak (lv' := [.ref (6 + 5 * t0), .int i1, .int i2, .null]) (by repeat (first | exact trivial | refine ⟨rfl, ?_⟩ | exact lle_nil)) ?_
  refine r_aload_n d_Watch_putKnots_0 rfl ?_
  refine x_getR d_Watch_putKnots_1 fl_Watch_21 (wt_R1 ht0) ?_
  refine r_iload_n d_Watch_putKnots_4 rfl ?_
  obtain ⟨o_1, h9⟩ := h
  refine x_iald d_Watch_putKnots_5 (wt_A1 ht0) o_1 ?_
  refine r_istore_n d_Watch_putKnots_6 (by decide) ?_
  refine r_aload_n d_Watch_putKnots_7 rfl ?_
  refine x_getR d_Watch_putKnots_8 fl_Watch_21 (wt_R1 ht0) ?_
  refine r_iload_n d_Watch_putKnots_11 rfl ?_
  refine r_iload_n d_Watch_putKnots_12 rfl ?_
  refine x_iast d_Watch_putKnots_13 (wt_A1 ht0) o_1 ?_
  refine r_aload_n d_Watch_putKnots_14 rfl ?_
  refine x_callV (as := []) (st := []) d_Watch_putKnots_15 ml_Watch_48 mc_Watch_sumUp mv_Watch_sumUp ⟨by decide, by decide⟩ (wt_O ht0) ⟨_, rfl, rfl⟩ rfl (Nat.le_of_ble_eq_true rfl) (Nat.le_of_ble_eq_true rfl) h9 ?_
  rintro _ M_2 L_3 ⟨rfl, h9⟩
  refine r_iload_n d_Watch_putKnots_18 rfl ?_
  exact r_iret ⟨d_Watch_putKnots_19, _, rfl, rfl⟩ ⟨_, _, rfl, h9⟩
theorem L_Watch_putTrait_0 {xs : List Int32} {t0 : Nat} {i1 : Int32} {i2 : Int32} {M : Mem} {L : Int64} {Q : Option Value → Mem → Int64 → Prop} (ht0 : t0 < 24)
    (h : ((i1 = 0 → RX xs shL md_Watch_sumUp 0 [.ref (6 + 5 * t0)] [] (up M (6 + 5 * t0) 6 i2) L (fun r M_7 L_8 => r = none ∧ Q (some (.int (M (6 + 5 * t0) 6))) M_7 L_8)) ∧ (¬ (i1 = 0) → ((i1 = 1 → RX xs shL md_Watch_sumUp 0 [.ref (6 + 5 * t0)] [] (up M (6 + 5 * t0) 7 i2) L (fun r M_5 L_6 => r = none ∧ Q (some (.int (M (6 + 5 * t0) 7))) M_5 L_6)) ∧ (¬ (i1 = 1) → RX xs shL md_Watch_sumUp 0 [.ref (6 + 5 * t0)] [] (up M (6 + 5 * t0) 8 i2) L (fun r M_3 L_4 => r = none ∧ Q (some (.int (M (6 + 5 * t0) 8))) M_3 L_4)))))) : RX xs shL md_Watch_putTrait 0 [.ref (6 + 5 * t0), .int i1, .int i2] [] M L Q := by
  refine r_weak (lv' := [.ref (6 + 5 * t0), .int i1, .int i2, .null]) (by repeat (first | exact trivial | refine ⟨rfl, ?_⟩ | exact lle_nil)) ?_
  refine r_iload_n d_Watch_putTrait_0 rfl ?_
  refine r_if_ne d_Watch_putTrait_1 (fun c_1 => ?_) (fun c_1 => ?_)
  · have h9 := h.2 c_1
    refine r_iload_n d_Watch_putTrait_17 rfl ?_
    refine r_iconst (v := 1) d_Watch_putTrait_18 (by decide) ?_
    refine r_ic_ne d_Watch_putTrait_19 (fun c_2 => ?_) (fun c_2 => ?_)
    · have h9 := h9.2 c_2
      refine r_aload_n d_Watch_putTrait_35 rfl ?_
      refine x_getI d_Watch_putTrait_36 fl_Watch_43 (wt_I ht0 8 (by decide) (by decide)) ?_
      refine r_istore_n d_Watch_putTrait_39 (by decide) ?_
      refine r_aload_n d_Watch_putTrait_40 rfl ?_
      refine r_iload_n d_Watch_putTrait_41 rfl ?_
      refine x_putI d_Watch_putTrait_42 fl_Watch_43 (fun r hr => by cases hr; rfl) (wt_I ht0 8 (by decide) (by decide)) (VOk_int _) ?_
      refine r_aload_n d_Watch_putTrait_45 rfl ?_
      refine x_callV (as := []) (st := []) d_Watch_putTrait_46 ml_Watch_48 mc_Watch_sumUp mv_Watch_sumUp ⟨by decide, by decide⟩ (wt_O ht0) ⟨_, rfl, rfl⟩ rfl (Nat.le_of_ble_eq_true rfl) (Nat.le_of_ble_eq_true rfl) h9 ?_
      rintro _ M_3 L_4 ⟨rfl, h9⟩
      refine r_iload_n d_Watch_putTrait_49 rfl ?_
      exact r_iret ⟨d_Watch_putTrait_50, _, rfl, rfl⟩ ⟨_, _, rfl, h9⟩
    · have h9 := h9.1 c_2
      refine r_aload_n d_Watch_putTrait_22 rfl ?_
      refine x_getI d_Watch_putTrait_23 fl_Watch_40 (wt_I ht0 7 (by decide) (by decide)) ?_
      refine r_istore_n d_Watch_putTrait_26 (by decide) ?_
      refine r_aload_n d_Watch_putTrait_27 rfl ?_
      refine r_iload_n d_Watch_putTrait_28 rfl ?_
      refine x_putI d_Watch_putTrait_29 fl_Watch_40 (fun r hr => by cases hr; rfl) (wt_I ht0 7 (by decide) (by decide)) (VOk_int _) ?_
      refine r_goto d_Watch_putTrait_32 ?_
      refine r_aload_n d_Watch_putTrait_45 rfl ?_
      refine x_callV (as := []) (st := []) d_Watch_putTrait_46 ml_Watch_48 mc_Watch_sumUp mv_Watch_sumUp ⟨by decide, by decide⟩ (wt_O ht0) ⟨_, rfl, rfl⟩ rfl (Nat.le_of_ble_eq_true rfl) (Nat.le_of_ble_eq_true rfl) h9 ?_
      rintro _ M_5 L_6 ⟨rfl, h9⟩
      refine r_iload_n d_Watch_putTrait_49 rfl ?_
      exact r_iret ⟨d_Watch_putTrait_50, _, rfl, rfl⟩ ⟨_, _, rfl, h9⟩
  · have h9 := h.1 c_1
    refine r_aload_n d_Watch_putTrait_4 rfl ?_
    refine x_getI d_Watch_putTrait_5 fl_Watch_37 (wt_I ht0 6 (by decide) (by decide)) ?_
    refine r_istore_n d_Watch_putTrait_8 (by decide) ?_
    refine r_aload_n d_Watch_putTrait_9 rfl ?_
    refine r_iload_n d_Watch_putTrait_10 rfl ?_
    refine x_putI d_Watch_putTrait_11 fl_Watch_37 (fun r hr => by cases hr; rfl) (wt_I ht0 6 (by decide) (by decide)) (VOk_int _) ?_
    refine r_goto d_Watch_putTrait_14 ?_
    refine r_aload_n d_Watch_putTrait_45 rfl ?_
    refine x_callV (as := []) (st := []) d_Watch_putTrait_46 ml_Watch_48 mc_Watch_sumUp mv_Watch_sumUp ⟨by decide, by decide⟩ (wt_O ht0) ⟨_, rfl, rfl⟩ rfl (Nat.le_of_ble_eq_true rfl) (Nat.le_of_ble_eq_true rfl) h9 ?_
    rintro _ M_7 L_8 ⟨rfl, h9⟩
    refine r_iload_n d_Watch_putTrait_49 rfl ?_
    exact r_iret ⟨d_Watch_putTrait_50, _, rfl, rfl⟩ ⟨_, _, rfl, h9⟩
theorem L_Watch_wayEast_0 {xs : List Int32} {t0 : Nat} {i1 : Int32} {i2 : Int32} {M : Mem} {L : Int64} {Q : Option Value → Mem → Int64 → Prop} (ht0 : t0 < 24)
    (h : (vp_in (i2 + 2) 5 ∧ Q (some (.int (fdv ((M (6 + 5 * t0 + 3) ((i2 + 2).toNatClampNeg)) * (100 + i1)) 100))) M L)) : RX xs shL md_Watch_wayEast 0 [.ref (6 + 5 * t0), .int i1, .int i2] [] M L Q := by
  refine r_aload_n d_Watch_wayEast_0 rfl ?_
  refine x_getR d_Watch_wayEast_1 fl_Watch_24 (wt_R2 ht0) ?_
  refine r_iload_n d_Watch_wayEast_4 rfl ?_
  refine r_iconst (v := 2) d_Watch_wayEast_5 (by decide) ?_
  refine r_iadd d_Watch_wayEast_6 ?_
  obtain ⟨o_1, h9⟩ := h
  refine x_iald d_Watch_wayEast_7 (wt_A2 ht0) o_1 ?_
  refine r_iload_n d_Watch_wayEast_8 rfl ?_
  refine x_callS (as := [.int (M (6 + 5 * t0 + 3) ((i2 + 2).toNatClampNeg)), .int i1]) (st := []) d_Watch_wayEast_9 ml_Watch_51 mc_Watch_byGlass ms_Watch_byGlass ⟨by decide, by decide⟩ rfl (Nat.le_of_ble_eq_true rfl) (Nat.le_of_ble_eq_true rfl) (Q1 := fun r M1 L1 => some (.int (fdv ((M (6 + 5 * t0 + 3) ((i2 + 2).toNatClampNeg)) * (100 + i1)) 100)) = r ∧ M = M1 ∧ L = L1) (L_Watch_byGlass_0 ⟨rfl, rfl, rfl⟩) ?_
  rintro _ _ _ ⟨rfl, rfl, rfl⟩
  exact r_iret ⟨d_Watch_wayEast_12, _, rfl, rfl⟩ ⟨_, _, rfl, h9⟩
theorem L_Watch_wayNorth_0 {xs : List Int32} {t0 : Nat} {i1 : Int32} {i2 : Int32} {M : Mem} {L : Int64} {Q : Option Value → Mem → Int64 → Prop} (ht0 : t0 < 24)
    (h : (vp_in (i2 + 2) 5 ∧ Q (some (.int (fdv ((M (6 + 5 * t0 + 4) ((i2 + 2).toNatClampNeg)) * (100 + i1)) 100))) M L)) : RX xs shL md_Watch_wayNorth 0 [.ref (6 + 5 * t0), .int i1, .int i2] [] M L Q := by
  refine r_aload_n d_Watch_wayNorth_0 rfl ?_
  refine x_getR d_Watch_wayNorth_1 fl_Watch_27 (wt_R3 ht0) ?_
  refine r_iload_n d_Watch_wayNorth_4 rfl ?_
  refine r_iconst (v := 2) d_Watch_wayNorth_5 (by decide) ?_
  refine r_iadd d_Watch_wayNorth_6 ?_
  obtain ⟨o_1, h9⟩ := h
  refine x_iald d_Watch_wayNorth_7 (wt_A3 ht0) o_1 ?_
  refine r_iload_n d_Watch_wayNorth_8 rfl ?_
  refine x_callS (as := [.int (M (6 + 5 * t0 + 4) ((i2 + 2).toNatClampNeg)), .int i1]) (st := []) d_Watch_wayNorth_9 ml_Watch_51 mc_Watch_byGlass ms_Watch_byGlass ⟨by decide, by decide⟩ rfl (Nat.le_of_ble_eq_true rfl) (Nat.le_of_ble_eq_true rfl) (Q1 := fun r M1 L1 => some (.int (fdv ((M (6 + 5 * t0 + 4) ((i2 + 2).toNatClampNeg)) * (100 + i1)) 100)) = r ∧ M = M1 ∧ L = L1) (L_Watch_byGlass_0 ⟨rfl, rfl, rfl⟩) ?_
  rintro _ _ _ ⟨rfl, rfl, rfl⟩
  exact r_iret ⟨d_Watch_wayNorth_12, _, rfl, rfl⟩ ⟨_, _, rfl, h9⟩
theorem L_Mod_goWatch_0 {xs : List Int32} {i1 : Int32} {i2 : Int32} {i3 : Int32} {i4 : Int32} {M : Mem} {L : Int64} {Q : Option Value → Mem → Int64 → Prop} 
    (h : (vp_in ((3 * i1) + 1) 72 ∧ RX xs shL md_Mod_goWatch 33 [.ref 516, .int i1, .int i2, .int i3, .int i4, .int (M 522 (((3 * i1) + 1).toNatClampNeg)), .int 0, .null, .null, .null, .null] [] (up (up (up M 516 26 0) 516 27 0) 516 28 (M 516 8)) L Q)) : RX xs shL md_Mod_goWatch 0 [.ref 516, .int i1, .int i2, .int i3, .int i4] [] M L Q := by
  refine r_weak (lv' := [.ref 516, .int i1, .int i2, .int i3, .int i4, .null, .null, .null, .null, .null, .null]) (by repeat (first | exact trivial | refine ⟨rfl, ?_⟩ | exact lle_nil)) ?_
  refine r_aload_n d_Mod_goWatch_0 rfl ?_
  refine r_iconst (v := 0) d_Mod_goWatch_1 (by decide) ?_
  refine x_putI d_Mod_goWatch_2 fl_Mod_122 (fun r hr => by cases hr; rfl) gI_516_26 (VOk_int _) ?_
  refine r_aload_n d_Mod_goWatch_5 rfl ?_
  refine r_iconst (v := 0) d_Mod_goWatch_6 (by decide) ?_
  refine x_putI d_Mod_goWatch_7 fl_Mod_125 (fun r hr => by cases hr; rfl) gI_516_27 (VOk_int _) ?_
  refine r_aload_n d_Mod_goWatch_10 rfl ?_
  refine r_aload_n d_Mod_goWatch_11 rfl ?_
  refine x_getI d_Mod_goWatch_12 fl_Mod_28 gI_516_8 ?_
  refine x_putI d_Mod_goWatch_15 fl_Mod_128 (fun r hr => by cases hr; rfl) gI_516_28 (VOk_int _) ?_
  refine r_aload_n d_Mod_goWatch_18 rfl ?_
  refine x_getR d_Mod_goWatch_19 fl_Mod_25 gR_516_7 ?_
  refine r_iconst (v := 3) d_Mod_goWatch_22 (by decide) ?_
  refine r_iload_n d_Mod_goWatch_23 rfl ?_
  refine r_imul d_Mod_goWatch_24 ?_
  refine r_iconst (v := 1) d_Mod_goWatch_25 (by decide) ?_
  refine r_iadd d_Mod_goWatch_26 ?_
  obtain ⟨o_1, h9⟩ := h
  refine x_iald d_Mod_goWatch_27 aI_522 o_1 ?_
  refine r_istore d_Mod_goWatch_28 (by decide) ?_
  refine r_iconst (v := 0) d_Mod_goWatch_30 (by decide) ?_
  refine r_istore d_Mod_goWatch_31 (by decide) ?_
  exact h9
set_option maxHeartbeats 4000000 in
theorem L_Mod_goWatch_33 {xs : List Int32} {i1 : Int32} {i2 : Int32} {i3 : Int32} {i4 : Int32} {i5 : Int32} {i6 : Int32} {M : Mem} {L : Int64} {Q : Option Value → Mem → Int64 → Prop} 
    (h : ((8 ≤ i6 → Q none (up (up M 516 26 (dwn ((M 516 26) * (100 + i2)) 100)) 516 27 (dwn ((M 516 27) * (100 + i2)) 100)) L) ∧ (¬ (8 ≤ i6) → (vp_in ((4 * i1) + (i6 / 2)) 96 ∧ ((i4 = 0 → RX xs shL md_Mod_goWatch 33 [.ref 516, .int i1, .int i2, .int i3, .int i4, .int i5, .int (i6 + 1), .null, .null, .null, .null] [] (up M 516 28 ((M 516 28) + (1000 * (M 521 (((4 * i1) + (i6 / 2)).toNatClampNeg))))) L Q) ∧ (¬ (i4 = 0) → (vp_in ((8 * i1) + i6) 192 ∧ (((M 520 (((8 * i1) + i6).toNatClampNeg)) = (-1) → RX xs shL md_Mod_goWatch 33 [.ref 516, .int i1, .int i2, .int i3, .int i4, .int i5, .int (i6 + 1), .null, .null, .null, .null] [] (up M 516 28 ((M 516 28) + (1000 * (M 521 (((4 * i1) + (i6 / 2)).toNatClampNeg))))) L Q) ∧ (¬ ((M 520 (((8 * i1) + i6).toNatClampNeg)) = (-1)) → (vp_in ((3 * i1) + 2) 72 ∧ (((lwA (angM ((((M 520 (((8 * i1) + i6).toNatClampNeg)) + i3) + 32) - (((M 520 (((8 * i1) + i6).toNatClampNeg)) + i3) + 32) / 32 * 32) i5) (M 522 (((3 * i1) + 2).toNatClampNeg))) = (-1) → RX xs shL md_Mod_goWatch 33 [.ref 516, .int i1, .int i2, .int i3, .int i4, .int i5, .int (i6 + 1), .null, .null, .null, .null] [] M L Q) ∧ (¬ ((lwA (angM ((((M 520 (((8 * i1) + i6).toNatClampNeg)) + i3) + 32) - (((M 520 (((8 * i1) + i6).toNatClampNeg)) + i3) + 32) / 32 * 32) i5) (M 522 (((3 * i1) + 2).toNatClampNeg))) = (-1)) → ((16 ≤ (((((((M 520 (((8 * i1) + i6).toNatClampNeg)) + i3) + 32) - (((M 520 (((8 * i1) + i6).toNatClampNeg)) + i3) + 32) / 32 * 32) - i5) + 32) - ((((((M 520 (((8 * i1) + i6).toNatClampNeg)) + i3) + 32) - (((M 520 (((8 * i1) + i6).toNatClampNeg)) + i3) + 32) / 32 * 32) - i5) + 32) / 32 * 32) → ((0 ≤ (((((((M 520 (((8 * i1) + i6).toNatClampNeg)) + i3) + 32) - (((M 520 (((8 * i1) + i6).toNatClampNeg)) + i3) + 32) / 32 * 32) - (lwA (angM ((((M 520 (((8 * i1) + i6).toNatClampNeg)) + i3) + 32) - (((M 520 (((8 * i1) + i6).toNatClampNeg)) + i3) + 32) / 32 * 32) i5) (M 522 (((3 * i1) + 2).toNatClampNeg)))) + 32) - ((((((M 520 (((8 * i1) + i6).toNatClampNeg)) + i3) + 32) - (((M 520 (((8 * i1) + i6).toNatClampNeg)) + i3) + 32) / 32 * 32) - (lwA (angM ((((M 520 (((8 * i1) + i6).toNatClampNeg)) + i3) + 32) - (((M 520 (((8 * i1) + i6).toNatClampNeg)) + i3) + 32) / 32 * 32) i5) (M 522 (((3 * i1) + 2).toNatClampNeg)))) + 32) / 32 * 32) ∧ (((((((M 520 (((8 * i1) + i6).toNatClampNeg)) + i3) + 32) - (((M 520 (((8 * i1) + i6).toNatClampNeg)) + i3) + 32) / 32 * 32) - (lwA (angM ((((M 520 (((8 * i1) + i6).toNatClampNeg)) + i3) + 32) - (((M 520 (((8 * i1) + i6).toNatClampNeg)) + i3) + 32) / 32 * 32) i5) (M 522 (((3 * i1) + 2).toNatClampNeg)))) + 32) - ((((((M 520 (((8 * i1) + i6).toNatClampNeg)) + i3) + 32) - (((M 520 (((8 * i1) + i6).toNatClampNeg)) + i3) + 32) / 32 * 32) - (lwA (angM ((((M 520 (((8 * i1) + i6).toNatClampNeg)) + i3) + 32) - (((M 520 (((8 * i1) + i6).toNatClampNeg)) + i3) + 32) / 32 * 32) i5) (M 522 (((3 * i1) + 2).toNatClampNeg)))) + 32) / 32 * 32) ≤ 31) ∧ (tabT M ∧ (tabT (up M 516 26 ((M 516 26) + ((M 521 (((4 * i1) + (i6 / 2)).toNatClampNeg)) * (nrt (((((((((M 520 (((8 * i1) + i6).toNatClampNeg)) + i3) + 32) - (((M 520 (((8 * i1) + i6).toNatClampNeg)) + i3) + 32) / 32 * 32) - (lwA (angM ((((M 520 (((8 * i1) + i6).toNatClampNeg)) + i3) + 32) - (((M 520 (((8 * i1) + i6).toNatClampNeg)) + i3) + 32) / 32 * 32) i5) (M 522 (((3 * i1) + 2).toNatClampNeg)))) + 32) - ((((((M 520 (((8 * i1) + i6).toNatClampNeg)) + i3) + 32) - (((M 520 (((8 * i1) + i6).toNatClampNeg)) + i3) + 32) / 32 * 32) - (lwA (angM ((((M 520 (((8 * i1) + i6).toNatClampNeg)) + i3) + 32) - (((M 520 (((8 * i1) + i6).toNatClampNeg)) + i3) + 32) / 32 * 32) i5) (M 522 (((3 * i1) + 2).toNatClampNeg)))) + 32) / 32 * 32) + 24) &&& 31))))) ∧ RX xs shL md_Mod_goWatch 33 [.ref 516, .int i1, .int i2, .int i3, .int i4, .int i5, .int (i6 + 1), .null, .null, .null, .null] [] (up (up M 516 26 ((M 516 26) + ((M 521 (((4 * i1) + (i6 / 2)).toNatClampNeg)) * (nrt (((((((((M 520 (((8 * i1) + i6).toNatClampNeg)) + i3) + 32) - (((M 520 (((8 * i1) + i6).toNatClampNeg)) + i3) + 32) / 32 * 32) - (lwA (angM ((((M 520 (((8 * i1) + i6).toNatClampNeg)) + i3) + 32) - (((M 520 (((8 * i1) + i6).toNatClampNeg)) + i3) + 32) / 32 * 32) i5) (M 522 (((3 * i1) + 2).toNatClampNeg)))) + 32) - ((((((M 520 (((8 * i1) + i6).toNatClampNeg)) + i3) + 32) - (((M 520 (((8 * i1) + i6).toNatClampNeg)) + i3) + 32) / 32 * 32) - (lwA (angM ((((M 520 (((8 * i1) + i6).toNatClampNeg)) + i3) + 32) - (((M 520 (((8 * i1) + i6).toNatClampNeg)) + i3) + 32) / 32 * 32) i5) (M 522 (((3 * i1) + 2).toNatClampNeg)))) + 32) / 32 * 32) + 24) &&& 31))))) 516 27 ((M 516 27) + ((M 521 (((4 * i1) + (i6 / 2)).toNatClampNeg)) * (nrt (((((((M 520 (((8 * i1) + i6).toNatClampNeg)) + i3) + 32) - (((M 520 (((8 * i1) + i6).toNatClampNeg)) + i3) + 32) / 32 * 32) - (lwA (angM ((((M 520 (((8 * i1) + i6).toNatClampNeg)) + i3) + 32) - (((M 520 (((8 * i1) + i6).toNatClampNeg)) + i3) + 32) / 32 * 32) i5) (M 522 (((3 * i1) + 2).toNatClampNeg)))) + 32) - ((((((M 520 (((8 * i1) + i6).toNatClampNeg)) + i3) + 32) - (((M 520 (((8 * i1) + i6).toNatClampNeg)) + i3) + 32) / 32 * 32) - (lwA (angM ((((M 520 (((8 * i1) + i6).toNatClampNeg)) + i3) + 32) - (((M 520 (((8 * i1) + i6).toNatClampNeg)) + i3) + 32) / 32 * 32) i5) (M 522 (((3 * i1) + 2).toNatClampNeg)))) + 32) / 32 * 32))))) L Q)))) ∧ (¬ (16 ≤ (((((((M 520 (((8 * i1) + i6).toNatClampNeg)) + i3) + 32) - (((M 520 (((8 * i1) + i6).toNatClampNeg)) + i3) + 32) / 32 * 32) - i5) + 32) - ((((((M 520 (((8 * i1) + i6).toNatClampNeg)) + i3) + 32) - (((M 520 (((8 * i1) + i6).toNatClampNeg)) + i3) + 32) / 32 * 32) - i5) + 32) / 32 * 32)) → ((0 ≤ ((((((M 520 (((8 * i1) + i6).toNatClampNeg)) + i3) + 32) - (((M 520 (((8 * i1) + i6).toNatClampNeg)) + i3) + 32) / 32 * 32) + (lwA (angM ((((M 520 (((8 * i1) + i6).toNatClampNeg)) + i3) + 32) - (((M 520 (((8 * i1) + i6).toNatClampNeg)) + i3) + 32) / 32 * 32) i5) (M 522 (((3 * i1) + 2).toNatClampNeg)))) - (((((M 520 (((8 * i1) + i6).toNatClampNeg)) + i3) + 32) - (((M 520 (((8 * i1) + i6).toNatClampNeg)) + i3) + 32) / 32 * 32) + (lwA (angM ((((M 520 (((8 * i1) + i6).toNatClampNeg)) + i3) + 32) - (((M 520 (((8 * i1) + i6).toNatClampNeg)) + i3) + 32) / 32 * 32) i5) (M 522 (((3 * i1) + 2).toNatClampNeg)))) / 32 * 32) ∧ ((((((M 520 (((8 * i1) + i6).toNatClampNeg)) + i3) + 32) - (((M 520 (((8 * i1) + i6).toNatClampNeg)) + i3) + 32) / 32 * 32) + (lwA (angM ((((M 520 (((8 * i1) + i6).toNatClampNeg)) + i3) + 32) - (((M 520 (((8 * i1) + i6).toNatClampNeg)) + i3) + 32) / 32 * 32) i5) (M 522 (((3 * i1) + 2).toNatClampNeg)))) - (((((M 520 (((8 * i1) + i6).toNatClampNeg)) + i3) + 32) - (((M 520 (((8 * i1) + i6).toNatClampNeg)) + i3) + 32) / 32 * 32) + (lwA (angM ((((M 520 (((8 * i1) + i6).toNatClampNeg)) + i3) + 32) - (((M 520 (((8 * i1) + i6).toNatClampNeg)) + i3) + 32) / 32 * 32) i5) (M 522 (((3 * i1) + 2).toNatClampNeg)))) / 32 * 32) ≤ 31) ∧ (tabT M ∧ (tabT (up M 516 26 ((M 516 26) + ((M 521 (((4 * i1) + (i6 / 2)).toNatClampNeg)) * (nrt ((((((((M 520 (((8 * i1) + i6).toNatClampNeg)) + i3) + 32) - (((M 520 (((8 * i1) + i6).toNatClampNeg)) + i3) + 32) / 32 * 32) + (lwA (angM ((((M 520 (((8 * i1) + i6).toNatClampNeg)) + i3) + 32) - (((M 520 (((8 * i1) + i6).toNatClampNeg)) + i3) + 32) / 32 * 32) i5) (M 522 (((3 * i1) + 2).toNatClampNeg)))) - (((((M 520 (((8 * i1) + i6).toNatClampNeg)) + i3) + 32) - (((M 520 (((8 * i1) + i6).toNatClampNeg)) + i3) + 32) / 32 * 32) + (lwA (angM ((((M 520 (((8 * i1) + i6).toNatClampNeg)) + i3) + 32) - (((M 520 (((8 * i1) + i6).toNatClampNeg)) + i3) + 32) / 32 * 32) i5) (M 522 (((3 * i1) + 2).toNatClampNeg)))) / 32 * 32) + 24) &&& 31))))) ∧ RX xs shL md_Mod_goWatch 33 [.ref 516, .int i1, .int i2, .int i3, .int i4, .int i5, .int (i6 + 1), .null, .null, .null, .null] [] (up (up M 516 26 ((M 516 26) + ((M 521 (((4 * i1) + (i6 / 2)).toNatClampNeg)) * (nrt ((((((((M 520 (((8 * i1) + i6).toNatClampNeg)) + i3) + 32) - (((M 520 (((8 * i1) + i6).toNatClampNeg)) + i3) + 32) / 32 * 32) + (lwA (angM ((((M 520 (((8 * i1) + i6).toNatClampNeg)) + i3) + 32) - (((M 520 (((8 * i1) + i6).toNatClampNeg)) + i3) + 32) / 32 * 32) i5) (M 522 (((3 * i1) + 2).toNatClampNeg)))) - (((((M 520 (((8 * i1) + i6).toNatClampNeg)) + i3) + 32) - (((M 520 (((8 * i1) + i6).toNatClampNeg)) + i3) + 32) / 32 * 32) + (lwA (angM ((((M 520 (((8 * i1) + i6).toNatClampNeg)) + i3) + 32) - (((M 520 (((8 * i1) + i6).toNatClampNeg)) + i3) + 32) / 32 * 32) i5) (M 522 (((3 * i1) + 2).toNatClampNeg)))) / 32 * 32) + 24) &&& 31))))) 516 27 ((M 516 27) + ((M 521 (((4 * i1) + (i6 / 2)).toNatClampNeg)) * (nrt ((((((M 520 (((8 * i1) + i6).toNatClampNeg)) + i3) + 32) - (((M 520 (((8 * i1) + i6).toNatClampNeg)) + i3) + 32) / 32 * 32) + (lwA (angM ((((M 520 (((8 * i1) + i6).toNatClampNeg)) + i3) + 32) - (((M 520 (((8 * i1) + i6).toNatClampNeg)) + i3) + 32) / 32 * 32) i5) (M 522 (((3 * i1) + 2).toNatClampNeg)))) - (((((M 520 (((8 * i1) + i6).toNatClampNeg)) + i3) + 32) - (((M 520 (((8 * i1) + i6).toNatClampNeg)) + i3) + 32) / 32 * 32) + (lwA (angM ((((M 520 (((8 * i1) + i6).toNatClampNeg)) + i3) + 32) - (((M 520 (((8 * i1) + i6).toNatClampNeg)) + i3) + 32) / 32 * 32) i5) (M 522 (((3 * i1) + 2).toNatClampNeg)))) / 32 * 32))))) L Q))))))))))))))))) : RX xs shL md_Mod_goWatch 33 [.ref 516, .int i1, .int i2, .int i3, .int i4, .int i5, .int i6, .null, .null, .null, .null] [] M L Q := by
  refine r_iload d_Mod_goWatch_33 rfl ?_
  refine r_bipush (v := 8) d_Mod_goWatch_35 (by decide) ?_
  refine r_ic_ge d_Mod_goWatch_37 (fun c_2 => ?_) (fun c_2 => ?_)
  · have h9 := h.1 c_2
    refine r_aload_n d_Mod_goWatch_216 rfl ?_
    refine r_aload_n d_Mod_goWatch_217 rfl ?_
    refine x_getI d_Mod_goWatch_218 fl_Mod_122 gI_516_26 ?_
    refine r_bipush (v := 100) d_Mod_goWatch_221 (by decide) ?_
    refine r_iload_n d_Mod_goWatch_223 rfl ?_
    refine r_iadd d_Mod_goWatch_224 ?_
    refine r_imul d_Mod_goWatch_225 ?_
    refine r_bipush (v := 100) d_Mod_goWatch_226 (by decide) ?_
    refine x_callS (as := [.int ((M 516 26) * (100 + i2)), .int 100]) (st := [.ref 516]) d_Mod_goWatch_228 ml_Mod_131 mc_Mod_down ms_Mod_down ⟨by decide, by decide⟩ rfl (Nat.le_of_ble_eq_true rfl) (Nat.le_of_ble_eq_true rfl) (Q1 := fun r M1 L1 => some (.int (dwn ((M 516 26) * (100 + i2)) 100)) = r ∧ M = M1 ∧ L = L1) (s_Mod_down (by decide) ⟨rfl, rfl, rfl⟩) ?_
    rintro _ _ _ ⟨rfl, rfl, rfl⟩
    refine x_putI d_Mod_goWatch_231 fl_Mod_122 (fun r hr => by cases hr; rfl) gI_516_26 (VOk_int _) ?_
    refine r_aload_n d_Mod_goWatch_234 rfl ?_
    refine r_aload_n d_Mod_goWatch_235 rfl ?_
    refine x_getI d_Mod_goWatch_236 fl_Mod_125 gI_516_27 ?_
    refine r_bipush (v := 100) d_Mod_goWatch_239 (by decide) ?_
    refine r_iload_n d_Mod_goWatch_241 rfl ?_
    refine r_iadd d_Mod_goWatch_242 ?_
    refine r_imul d_Mod_goWatch_243 ?_
    refine r_bipush (v := 100) d_Mod_goWatch_244 (by decide) ?_
    refine x_callS (as := [.int ((M 516 27) * (100 + i2)), .int 100]) (st := [.ref 516]) d_Mod_goWatch_246 ml_Mod_131 mc_Mod_down ms_Mod_down ⟨by decide, by decide⟩ rfl (Nat.le_of_ble_eq_true rfl) (Nat.le_of_ble_eq_true rfl) (Q1 := fun r M1 L1 => some (.int (dwn ((M 516 27) * (100 + i2)) 100)) = r ∧ up M 516 26 (dwn ((M 516 26) * (100 + i2)) 100) = M1 ∧ L = L1) (s_Mod_down (by decide) ⟨rfl, rfl, rfl⟩) ?_
    rintro _ _ _ ⟨rfl, rfl, rfl⟩
    refine x_putI d_Mod_goWatch_249 fl_Mod_125 (fun r hr => by cases hr; rfl) gI_516_27 (VOk_int _) ?_
    exact r_vret ⟨d_Mod_goWatch_252, rfl⟩ ⟨up (up M 516 26 (dwn ((M 516 26) * (100 + i2)) 100)) 516 27 (dwn ((M 516 27) * (100 + i2)) 100), L, rfl, h9⟩
  · have h9 := h.2 c_2
    refine r_aload_n d_Mod_goWatch_40 rfl ?_
    refine x_getR d_Mod_goWatch_41 fl_Mod_22 gR_516_6 ?_
    refine r_iconst (v := 4) d_Mod_goWatch_44 (by decide) ?_
    refine r_iload_n d_Mod_goWatch_45 rfl ?_
    refine r_imul d_Mod_goWatch_46 ?_
    refine r_iload d_Mod_goWatch_47 rfl ?_
    refine r_iconst (v := 2) d_Mod_goWatch_49 (by decide) ?_
    refine r_idiv d_Mod_goWatch_50 (by decide) ?_
    refine r_iadd d_Mod_goWatch_51 ?_
    obtain ⟨o_3, h9⟩ := h9
    refine x_iald d_Mod_goWatch_52 aI_521 o_3 ?_
    refine r_istore d_Mod_goWatch_53 (by decide) ?_
    refine r_iload d_Mod_goWatch_55 rfl ?_
    refine r_if_eq d_Mod_goWatch_57 (fun c_4 => ?_) (fun c_4 => ?_)
    · have h9 := h9.1 c_4
      refine r_aload_n d_Mod_goWatch_76 rfl ?_
      refine r_dup d_Mod_goWatch_77 rfl ?_
      refine x_getI d_Mod_goWatch_78 fl_Mod_128 gI_516_28 ?_
      refine r_sipush (v := 1000) d_Mod_goWatch_81 (by decide) ?_
      refine r_iload d_Mod_goWatch_84 rfl ?_
      refine r_imul d_Mod_goWatch_86 ?_
      refine r_iadd d_Mod_goWatch_87 ?_
      refine x_putI d_Mod_goWatch_88 fl_Mod_128 (fun r hr => by cases hr; rfl) gI_516_28 (VOk_int _) ?_
      refine r_goto d_Mod_goWatch_91 ?_
      refine r_iinc (v := i6 + 1) d_Mod_goWatch_210 rfl rfl (by decide) ?_
      refine r_goto d_Mod_goWatch_213 ?_
      refine r_weak (lv' := [.ref 516, .int i1, .int i2, .int i3, .int i4, .int i5, .int (i6 + 1), .null, .null, .null, .null]) (by repeat (first | exact trivial | refine ⟨rfl, ?_⟩ | exact lle_nil)) ?_
      exact h9
    · have h9 := h9.2 c_4
      refine r_aload_n d_Mod_goWatch_60 rfl ?_
      refine x_getR d_Mod_goWatch_61 fl_Mod_19 gR_516_5 ?_
      refine r_bipush (v := 8) d_Mod_goWatch_64 (by decide) ?_
      refine r_iload_n d_Mod_goWatch_66 rfl ?_
      refine r_imul d_Mod_goWatch_67 ?_
      refine r_iload d_Mod_goWatch_68 rfl ?_
      refine r_iadd d_Mod_goWatch_70 ?_
      obtain ⟨o_5, h9⟩ := h9
      refine x_iald d_Mod_goWatch_71 aI_520 o_5 ?_
      refine r_iconst (v := (-1)) d_Mod_goWatch_72 (by decide) ?_
      refine r_ic_ne d_Mod_goWatch_73 (fun c_6 => ?_) (fun c_6 => ?_)
      · have h9 := h9.2 c_6
        refine r_aload_n d_Mod_goWatch_94 rfl ?_
        refine x_getR d_Mod_goWatch_95 fl_Mod_19 gR_516_5 ?_
        refine r_bipush (v := 8) d_Mod_goWatch_98 (by decide) ?_
        refine r_iload_n d_Mod_goWatch_100 rfl ?_
        refine r_imul d_Mod_goWatch_101 ?_
        refine r_iload d_Mod_goWatch_102 rfl ?_
        refine r_iadd d_Mod_goWatch_104 ?_
        refine x_iald d_Mod_goWatch_105 aI_520 o_5 ?_
        refine r_iload_n d_Mod_goWatch_106 rfl ?_
        refine r_iadd d_Mod_goWatch_107 ?_
        refine r_bipush (v := 32) d_Mod_goWatch_108 (by decide) ?_
        refine r_iadd d_Mod_goWatch_110 ?_
        refine r_bipush (v := 32) d_Mod_goWatch_111 (by decide) ?_
        refine r_irem d_Mod_goWatch_113 (by decide) ?_
        refine r_istore d_Mod_goWatch_114 (by decide) ?_
        refine r_iload d_Mod_goWatch_116 rfl ?_
        refine r_iload d_Mod_goWatch_118 rfl ?_
        refine r_aload_n d_Mod_goWatch_120 rfl ?_
        refine x_getR d_Mod_goWatch_121 fl_Mod_25 gR_516_7 ?_
        refine r_iconst (v := 3) d_Mod_goWatch_124 (by decide) ?_
        refine r_iload_n d_Mod_goWatch_125 rfl ?_
        refine r_imul d_Mod_goWatch_126 ?_
        refine r_iconst (v := 2) d_Mod_goWatch_127 (by decide) ?_
        refine r_iadd d_Mod_goWatch_128 ?_
        obtain ⟨o_7, h9⟩ := h9
        refine x_iald d_Mod_goWatch_129 aI_522 o_7 ?_
        refine x_callS (as := [.int ((((M 520 (((8 * i1) + i6).toNatClampNeg)) + i3) + 32) - (((M 520 (((8 * i1) + i6).toNatClampNeg)) + i3) + 32) / 32 * 32), .int i5, .int (M 522 (((3 * i1) + 2).toNatClampNeg))]) (st := []) d_Mod_goWatch_130 ml_Mod_118 mc_Mod_leewayOf ms_Mod_leewayOf ⟨by decide, by decide⟩ rfl (Nat.le_of_ble_eq_true rfl) (Nat.le_of_ble_eq_true rfl) (Q1 := fun r M1 L1 => some (.int (lwA (angM ((((M 520 (((8 * i1) + i6).toNatClampNeg)) + i3) + 32) - (((M 520 (((8 * i1) + i6).toNatClampNeg)) + i3) + 32) / 32 * 32) i5) (M 522 (((3 * i1) + 2).toNatClampNeg)))) = r ∧ M = M1 ∧ L = L1) (s_Mod_leewayOf ⟨rfl, rfl, rfl⟩) ?_
        rintro _ _ _ ⟨rfl, rfl, rfl⟩
        refine r_istore d_Mod_goWatch_133 (by decide) ?_
        refine r_iload d_Mod_goWatch_135 rfl ?_
        refine r_iconst (v := (-1)) d_Mod_goWatch_137 (by decide) ?_
        refine r_ic_eq d_Mod_goWatch_138 (fun c_8 => ?_) (fun c_8 => ?_)
        · have h9 := h9.1 c_8
          refine r_iinc (v := i6 + 1) d_Mod_goWatch_210 rfl rfl (by decide) ?_
          refine r_goto d_Mod_goWatch_213 ?_
          refine r_weak (lv' := [.ref 516, .int i1, .int i2, .int i3, .int i4, .int i5, .int (i6 + 1), .null, .null, .null, .null]) (by repeat (first | exact trivial | refine ⟨rfl, ?_⟩ | exact lle_nil)) ?_
          exact h9
        · have h9 := h9.2 c_8
          refine r_iload d_Mod_goWatch_141 rfl ?_
          refine r_iload d_Mod_goWatch_143 rfl ?_
          refine x_callS (as := [.int i5, .int ((((M 520 (((8 * i1) + i6).toNatClampNeg)) + i3) + 32) - (((M 520 (((8 * i1) + i6).toNatClampNeg)) + i3) + 32) / 32 * 32)]) (st := []) d_Mod_goWatch_145 ml_Mod_94 mc_Mod_turnsOf ms_Mod_turnsOf ⟨by decide, by decide⟩ rfl (Nat.le_of_ble_eq_true rfl) (Nat.le_of_ble_eq_true rfl) (Q1 := fun r M1 L1 => some (.int (((((((M 520 (((8 * i1) + i6).toNatClampNeg)) + i3) + 32) - (((M 520 (((8 * i1) + i6).toNatClampNeg)) + i3) + 32) / 32 * 32) - i5) + 32) - ((((((M 520 (((8 * i1) + i6).toNatClampNeg)) + i3) + 32) - (((M 520 (((8 * i1) + i6).toNatClampNeg)) + i3) + 32) / 32 * 32) - i5) + 32) / 32 * 32)) = r ∧ M = M1 ∧ L = L1) (s_Mod_turnsOf ⟨rfl, rfl, rfl⟩) ?_
          rintro _ _ _ ⟨rfl, rfl, rfl⟩
          refine r_bipush (v := 16) d_Mod_goWatch_148 (by decide) ?_
          refine r_ic_ge d_Mod_goWatch_150 (fun c_9 => ?_) (fun c_9 => ?_)
          · have h9 := h9.1 c_9
            refine r_iload d_Mod_goWatch_161 rfl ?_
            refine r_iload d_Mod_goWatch_163 rfl ?_
            refine r_isub d_Mod_goWatch_165 ?_
            refine r_bipush (v := 32) d_Mod_goWatch_166 (by decide) ?_
            refine r_iadd d_Mod_goWatch_168 ?_
            refine r_bipush (v := 32) d_Mod_goWatch_169 (by decide) ?_
            refine r_irem d_Mod_goWatch_171 (by decide) ?_
            refine r_istore d_Mod_goWatch_172 (by decide) ?_
            refine r_aload_n d_Mod_goWatch_174 rfl ?_
            refine r_dup d_Mod_goWatch_175 rfl ?_
            refine x_getI d_Mod_goWatch_176 fl_Mod_122 gI_516_26 ?_
            refine r_iload d_Mod_goWatch_179 rfl ?_
            refine r_aload_n d_Mod_goWatch_181 rfl ?_
            refine r_iload d_Mod_goWatch_182 rfl ?_
            obtain ⟨o_10, h9⟩ := h9
            obtain ⟨o_11, h9⟩ := h9
            refine x_callV (as := [.int (((((((M 520 (((8 * i1) + i6).toNatClampNeg)) + i3) + 32) - (((M 520 (((8 * i1) + i6).toNatClampNeg)) + i3) + 32) / 32 * 32) - (lwA (angM ((((M 520 (((8 * i1) + i6).toNatClampNeg)) + i3) + 32) - (((M 520 (((8 * i1) + i6).toNatClampNeg)) + i3) + 32) / 32 * 32) i5) (M 522 (((3 * i1) + 2).toNatClampNeg)))) + 32) - ((((((M 520 (((8 * i1) + i6).toNatClampNeg)) + i3) + 32) - (((M 520 (((8 * i1) + i6).toNatClampNeg)) + i3) + 32) / 32 * 32) - (lwA (angM ((((M 520 (((8 * i1) + i6).toNatClampNeg)) + i3) + 32) - (((M 520 (((8 * i1) + i6).toNatClampNeg)) + i3) + 32) / 32 * 32) i5) (M 522 (((3 * i1) + 2).toNatClampNeg)))) + 32) / 32 * 32)]) (st := [.int (M 521 (((4 * i1) + (i6 / 2)).toNatClampNeg)), .int (M 516 26), .ref 516]) d_Mod_goWatch_184 ml_Mod_101 mc_Mod_eastOf mv_Mod_eastOf ⟨by decide, by decide⟩ gO_516 ⟨_, rfl, rfl⟩ rfl (Nat.le_of_ble_eq_true rfl) (Nat.le_of_ble_eq_true rfl) (Q1 := fun r M1 L1 => some (.int (nrt (((((((((M 520 (((8 * i1) + i6).toNatClampNeg)) + i3) + 32) - (((M 520 (((8 * i1) + i6).toNatClampNeg)) + i3) + 32) / 32 * 32) - (lwA (angM ((((M 520 (((8 * i1) + i6).toNatClampNeg)) + i3) + 32) - (((M 520 (((8 * i1) + i6).toNatClampNeg)) + i3) + 32) / 32 * 32) i5) (M 522 (((3 * i1) + 2).toNatClampNeg)))) + 32) - ((((((M 520 (((8 * i1) + i6).toNatClampNeg)) + i3) + 32) - (((M 520 (((8 * i1) + i6).toNatClampNeg)) + i3) + 32) / 32 * 32) - (lwA (angM ((((M 520 (((8 * i1) + i6).toNatClampNeg)) + i3) + 32) - (((M 520 (((8 * i1) + i6).toNatClampNeg)) + i3) + 32) / 32 * 32) i5) (M 522 (((3 * i1) + 2).toNatClampNeg)))) + 32) / 32 * 32) + 24) &&& 31))) = r ∧ M = M1 ∧ L = L1) (s_Mod_eastOf o_10 o_11 ⟨rfl, rfl, rfl⟩) ?_
            rintro _ _ _ ⟨rfl, rfl, rfl⟩
            refine r_imul d_Mod_goWatch_187 ?_
            refine r_iadd d_Mod_goWatch_188 ?_
            refine x_putI d_Mod_goWatch_189 fl_Mod_122 (fun r hr => by cases hr; rfl) gI_516_26 (VOk_int _) ?_
            refine r_aload_n d_Mod_goWatch_192 rfl ?_
            refine r_dup d_Mod_goWatch_193 rfl ?_
            refine x_getI d_Mod_goWatch_194 fl_Mod_125 gI_516_27 ?_
            refine r_iload d_Mod_goWatch_197 rfl ?_
            refine r_aload_n d_Mod_goWatch_199 rfl ?_
            refine r_iload d_Mod_goWatch_200 rfl ?_
            obtain ⟨o_12, h9⟩ := h9
            refine x_callV (as := [.int (((((((M 520 (((8 * i1) + i6).toNatClampNeg)) + i3) + 32) - (((M 520 (((8 * i1) + i6).toNatClampNeg)) + i3) + 32) / 32 * 32) - (lwA (angM ((((M 520 (((8 * i1) + i6).toNatClampNeg)) + i3) + 32) - (((M 520 (((8 * i1) + i6).toNatClampNeg)) + i3) + 32) / 32 * 32) i5) (M 522 (((3 * i1) + 2).toNatClampNeg)))) + 32) - ((((((M 520 (((8 * i1) + i6).toNatClampNeg)) + i3) + 32) - (((M 520 (((8 * i1) + i6).toNatClampNeg)) + i3) + 32) / 32 * 32) - (lwA (angM ((((M 520 (((8 * i1) + i6).toNatClampNeg)) + i3) + 32) - (((M 520 (((8 * i1) + i6).toNatClampNeg)) + i3) + 32) / 32 * 32) i5) (M 522 (((3 * i1) + 2).toNatClampNeg)))) + 32) / 32 * 32)]) (st := [.int (M 521 (((4 * i1) + (i6 / 2)).toNatClampNeg)), .int (M 516 27), .ref 516]) d_Mod_goWatch_202 ml_Mod_97 mc_Mod_northOf mv_Mod_northOf ⟨by decide, by decide⟩ gO_516 ⟨_, rfl, rfl⟩ rfl (Nat.le_of_ble_eq_true rfl) (Nat.le_of_ble_eq_true rfl) (Q1 := fun r M1 L1 => some (.int (nrt (((((((M 520 (((8 * i1) + i6).toNatClampNeg)) + i3) + 32) - (((M 520 (((8 * i1) + i6).toNatClampNeg)) + i3) + 32) / 32 * 32) - (lwA (angM ((((M 520 (((8 * i1) + i6).toNatClampNeg)) + i3) + 32) - (((M 520 (((8 * i1) + i6).toNatClampNeg)) + i3) + 32) / 32 * 32) i5) (M 522 (((3 * i1) + 2).toNatClampNeg)))) + 32) - ((((((M 520 (((8 * i1) + i6).toNatClampNeg)) + i3) + 32) - (((M 520 (((8 * i1) + i6).toNatClampNeg)) + i3) + 32) / 32 * 32) - (lwA (angM ((((M 520 (((8 * i1) + i6).toNatClampNeg)) + i3) + 32) - (((M 520 (((8 * i1) + i6).toNatClampNeg)) + i3) + 32) / 32 * 32) i5) (M 522 (((3 * i1) + 2).toNatClampNeg)))) + 32) / 32 * 32))) = r ∧ up M 516 26 ((M 516 26) + ((M 521 (((4 * i1) + (i6 / 2)).toNatClampNeg)) * (nrt (((((((((M 520 (((8 * i1) + i6).toNatClampNeg)) + i3) + 32) - (((M 520 (((8 * i1) + i6).toNatClampNeg)) + i3) + 32) / 32 * 32) - (lwA (angM ((((M 520 (((8 * i1) + i6).toNatClampNeg)) + i3) + 32) - (((M 520 (((8 * i1) + i6).toNatClampNeg)) + i3) + 32) / 32 * 32) i5) (M 522 (((3 * i1) + 2).toNatClampNeg)))) + 32) - ((((((M 520 (((8 * i1) + i6).toNatClampNeg)) + i3) + 32) - (((M 520 (((8 * i1) + i6).toNatClampNeg)) + i3) + 32) / 32 * 32) - (lwA (angM ((((M 520 (((8 * i1) + i6).toNatClampNeg)) + i3) + 32) - (((M 520 (((8 * i1) + i6).toNatClampNeg)) + i3) + 32) / 32 * 32) i5) (M 522 (((3 * i1) + 2).toNatClampNeg)))) + 32) / 32 * 32) + 24) &&& 31)))) = M1 ∧ L = L1) (s_Mod_northOf o_10 o_12 ⟨rfl, rfl, rfl⟩) ?_
            rintro _ _ _ ⟨rfl, rfl, rfl⟩
            refine r_imul d_Mod_goWatch_205 ?_
            refine r_iadd d_Mod_goWatch_206 ?_
            refine x_putI d_Mod_goWatch_207 fl_Mod_125 (fun r hr => by cases hr; rfl) gI_516_27 (VOk_int _) ?_
            refine r_iinc (v := i6 + 1) d_Mod_goWatch_210 rfl rfl (by decide) ?_
            refine r_goto d_Mod_goWatch_213 ?_
            refine r_weak (lv' := [.ref 516, .int i1, .int i2, .int i3, .int i4, .int i5, .int (i6 + 1), .null, .null, .null, .null]) (by repeat (first | exact trivial | refine ⟨rfl, ?_⟩ | exact lle_nil)) ?_
            exact h9
          · have h9 := h9.2 c_9
            refine r_iload d_Mod_goWatch_153 rfl ?_
            refine r_iload d_Mod_goWatch_155 rfl ?_
            refine r_iadd d_Mod_goWatch_157 ?_
            refine r_goto d_Mod_goWatch_158 ?_
            refine r_bipush (v := 32) d_Mod_goWatch_169 (by decide) ?_
            refine r_irem d_Mod_goWatch_171 (by decide) ?_
            refine r_istore d_Mod_goWatch_172 (by decide) ?_
            refine r_aload_n d_Mod_goWatch_174 rfl ?_
            refine r_dup d_Mod_goWatch_175 rfl ?_
            refine x_getI d_Mod_goWatch_176 fl_Mod_122 gI_516_26 ?_
            refine r_iload d_Mod_goWatch_179 rfl ?_
            refine r_aload_n d_Mod_goWatch_181 rfl ?_
            refine r_iload d_Mod_goWatch_182 rfl ?_
            obtain ⟨o_13, h9⟩ := h9
            obtain ⟨o_14, h9⟩ := h9
            refine x_callV (as := [.int ((((((M 520 (((8 * i1) + i6).toNatClampNeg)) + i3) + 32) - (((M 520 (((8 * i1) + i6).toNatClampNeg)) + i3) + 32) / 32 * 32) + (lwA (angM ((((M 520 (((8 * i1) + i6).toNatClampNeg)) + i3) + 32) - (((M 520 (((8 * i1) + i6).toNatClampNeg)) + i3) + 32) / 32 * 32) i5) (M 522 (((3 * i1) + 2).toNatClampNeg)))) - (((((M 520 (((8 * i1) + i6).toNatClampNeg)) + i3) + 32) - (((M 520 (((8 * i1) + i6).toNatClampNeg)) + i3) + 32) / 32 * 32) + (lwA (angM ((((M 520 (((8 * i1) + i6).toNatClampNeg)) + i3) + 32) - (((M 520 (((8 * i1) + i6).toNatClampNeg)) + i3) + 32) / 32 * 32) i5) (M 522 (((3 * i1) + 2).toNatClampNeg)))) / 32 * 32)]) (st := [.int (M 521 (((4 * i1) + (i6 / 2)).toNatClampNeg)), .int (M 516 26), .ref 516]) d_Mod_goWatch_184 ml_Mod_101 mc_Mod_eastOf mv_Mod_eastOf ⟨by decide, by decide⟩ gO_516 ⟨_, rfl, rfl⟩ rfl (Nat.le_of_ble_eq_true rfl) (Nat.le_of_ble_eq_true rfl) (Q1 := fun r M1 L1 => some (.int (nrt ((((((((M 520 (((8 * i1) + i6).toNatClampNeg)) + i3) + 32) - (((M 520 (((8 * i1) + i6).toNatClampNeg)) + i3) + 32) / 32 * 32) + (lwA (angM ((((M 520 (((8 * i1) + i6).toNatClampNeg)) + i3) + 32) - (((M 520 (((8 * i1) + i6).toNatClampNeg)) + i3) + 32) / 32 * 32) i5) (M 522 (((3 * i1) + 2).toNatClampNeg)))) - (((((M 520 (((8 * i1) + i6).toNatClampNeg)) + i3) + 32) - (((M 520 (((8 * i1) + i6).toNatClampNeg)) + i3) + 32) / 32 * 32) + (lwA (angM ((((M 520 (((8 * i1) + i6).toNatClampNeg)) + i3) + 32) - (((M 520 (((8 * i1) + i6).toNatClampNeg)) + i3) + 32) / 32 * 32) i5) (M 522 (((3 * i1) + 2).toNatClampNeg)))) / 32 * 32) + 24) &&& 31))) = r ∧ M = M1 ∧ L = L1) (s_Mod_eastOf o_13 o_14 ⟨rfl, rfl, rfl⟩) ?_
            rintro _ _ _ ⟨rfl, rfl, rfl⟩
            refine r_imul d_Mod_goWatch_187 ?_
            refine r_iadd d_Mod_goWatch_188 ?_
            refine x_putI d_Mod_goWatch_189 fl_Mod_122 (fun r hr => by cases hr; rfl) gI_516_26 (VOk_int _) ?_
            refine r_aload_n d_Mod_goWatch_192 rfl ?_
            refine r_dup d_Mod_goWatch_193 rfl ?_
            refine x_getI d_Mod_goWatch_194 fl_Mod_125 gI_516_27 ?_
            refine r_iload d_Mod_goWatch_197 rfl ?_
            refine r_aload_n d_Mod_goWatch_199 rfl ?_
            refine r_iload d_Mod_goWatch_200 rfl ?_
            obtain ⟨o_15, h9⟩ := h9
            refine x_callV (as := [.int ((((((M 520 (((8 * i1) + i6).toNatClampNeg)) + i3) + 32) - (((M 520 (((8 * i1) + i6).toNatClampNeg)) + i3) + 32) / 32 * 32) + (lwA (angM ((((M 520 (((8 * i1) + i6).toNatClampNeg)) + i3) + 32) - (((M 520 (((8 * i1) + i6).toNatClampNeg)) + i3) + 32) / 32 * 32) i5) (M 522 (((3 * i1) + 2).toNatClampNeg)))) - (((((M 520 (((8 * i1) + i6).toNatClampNeg)) + i3) + 32) - (((M 520 (((8 * i1) + i6).toNatClampNeg)) + i3) + 32) / 32 * 32) + (lwA (angM ((((M 520 (((8 * i1) + i6).toNatClampNeg)) + i3) + 32) - (((M 520 (((8 * i1) + i6).toNatClampNeg)) + i3) + 32) / 32 * 32) i5) (M 522 (((3 * i1) + 2).toNatClampNeg)))) / 32 * 32)]) (st := [.int (M 521 (((4 * i1) + (i6 / 2)).toNatClampNeg)), .int (M 516 27), .ref 516]) d_Mod_goWatch_202 ml_Mod_97 mc_Mod_northOf mv_Mod_northOf ⟨by decide, by decide⟩ gO_516 ⟨_, rfl, rfl⟩ rfl (Nat.le_of_ble_eq_true rfl) (Nat.le_of_ble_eq_true rfl) (Q1 := fun r M1 L1 => some (.int (nrt ((((((M 520 (((8 * i1) + i6).toNatClampNeg)) + i3) + 32) - (((M 520 (((8 * i1) + i6).toNatClampNeg)) + i3) + 32) / 32 * 32) + (lwA (angM ((((M 520 (((8 * i1) + i6).toNatClampNeg)) + i3) + 32) - (((M 520 (((8 * i1) + i6).toNatClampNeg)) + i3) + 32) / 32 * 32) i5) (M 522 (((3 * i1) + 2).toNatClampNeg)))) - (((((M 520 (((8 * i1) + i6).toNatClampNeg)) + i3) + 32) - (((M 520 (((8 * i1) + i6).toNatClampNeg)) + i3) + 32) / 32 * 32) + (lwA (angM ((((M 520 (((8 * i1) + i6).toNatClampNeg)) + i3) + 32) - (((M 520 (((8 * i1) + i6).toNatClampNeg)) + i3) + 32) / 32 * 32) i5) (M 522 (((3 * i1) + 2).toNatClampNeg)))) / 32 * 32))) = r ∧ up M 516 26 ((M 516 26) + ((M 521 (((4 * i1) + (i6 / 2)).toNatClampNeg)) * (nrt ((((((((M 520 (((8 * i1) + i6).toNatClampNeg)) + i3) + 32) - (((M 520 (((8 * i1) + i6).toNatClampNeg)) + i3) + 32) / 32 * 32) + (lwA (angM ((((M 520 (((8 * i1) + i6).toNatClampNeg)) + i3) + 32) - (((M 520 (((8 * i1) + i6).toNatClampNeg)) + i3) + 32) / 32 * 32) i5) (M 522 (((3 * i1) + 2).toNatClampNeg)))) - (((((M 520 (((8 * i1) + i6).toNatClampNeg)) + i3) + 32) - (((M 520 (((8 * i1) + i6).toNatClampNeg)) + i3) + 32) / 32 * 32) + (lwA (angM ((((M 520 (((8 * i1) + i6).toNatClampNeg)) + i3) + 32) - (((M 520 (((8 * i1) + i6).toNatClampNeg)) + i3) + 32) / 32 * 32) i5) (M 522 (((3 * i1) + 2).toNatClampNeg)))) / 32 * 32) + 24) &&& 31)))) = M1 ∧ L = L1) (s_Mod_northOf o_13 o_15 ⟨rfl, rfl, rfl⟩) ?_
            rintro _ _ _ ⟨rfl, rfl, rfl⟩
            refine r_imul d_Mod_goWatch_205 ?_
            refine r_iadd d_Mod_goWatch_206 ?_
            refine x_putI d_Mod_goWatch_207 fl_Mod_125 (fun r hr => by cases hr; rfl) gI_516_27 (VOk_int _) ?_
            refine r_iinc (v := i6 + 1) d_Mod_goWatch_210 rfl rfl (by decide) ?_
            refine r_goto d_Mod_goWatch_213 ?_
            refine r_weak (lv' := [.ref 516, .int i1, .int i2, .int i3, .int i4, .int i5, .int (i6 + 1), .null, .null, .null, .null]) (by repeat (first | exact trivial | refine ⟨rfl, ?_⟩ | exact lle_nil)) ?_
            exact h9
      · have h9 := h9.1 c_6
        refine r_aload_n d_Mod_goWatch_76 rfl ?_
        refine r_dup d_Mod_goWatch_77 rfl ?_
        refine x_getI d_Mod_goWatch_78 fl_Mod_128 gI_516_28 ?_
        refine r_sipush (v := 1000) d_Mod_goWatch_81 (by decide) ?_
        refine r_iload d_Mod_goWatch_84 rfl ?_
        refine r_imul d_Mod_goWatch_86 ?_
        refine r_iadd d_Mod_goWatch_87 ?_
        refine x_putI d_Mod_goWatch_88 fl_Mod_128 (fun r hr => by cases hr; rfl) gI_516_28 (VOk_int _) ?_
        refine r_goto d_Mod_goWatch_91 ?_
        refine r_iinc (v := i6 + 1) d_Mod_goWatch_210 rfl rfl (by decide) ?_
        refine r_goto d_Mod_goWatch_213 ?_
        refine r_weak (lv' := [.ref 516, .int i1, .int i2, .int i3, .int i4, .int i5, .int (i6 + 1), .null, .null, .null, .null]) (by repeat (first | exact trivial | refine ⟨rfl, ?_⟩ | exact lle_nil)) ?_
        exact h9
set_option maxHeartbeats 4000000 in
theorem L_Mod_wayOf_0 {xs : List Int32} {i1 : Int32} {i2 : Int32} {i3 : Int32} {i4 : Int32} {M : Mem} {L : Int64} {Q : Option Value → Mem → Int64 → Prop} 
    (h : (vp_in (5 * i1) 200 ∧ (vp_in ((5 * i1) + 4) 200 ∧ (((M 525 (((5 * i1) + 4).toNatClampNeg)) = 1 → (((1 : Int32) = 0 → (vp_in (3 * (M 525 ((5 * i1).toNatClampNeg))) 72 ∧ (((M 522 ((3 * (M 525 ((5 * i1).toNatClampNeg))).toNatClampNeg)) = i3 → RX xs shL md_Mod_goWatch 0 [.ref 516, .int (M 525 ((5 * i1).toNatClampNeg)), .int 0, .int i4, .int 1] [] M L (fun r M_22 L_23 => r = none ∧ Q none M_22 L_23)) ∧ (¬ ((M 522 ((3 * (M 525 ((5 * i1).toNatClampNeg))).toNatClampNeg)) = i3) → RX xs shL md_Mod_goWatch 0 [.ref 516, .int (M 525 ((5 * i1).toNatClampNeg)), .int 0, .int 0, .int 1] [] M L (fun r M_20 L_21 => r = none ∧ Q none M_20 L_21))))) ∧ (¬ ((1 : Int32) = 0) → (vp_in (3 * (M 525 ((5 * i1).toNatClampNeg))) 72 ∧ (((M 522 ((3 * (M 525 ((5 * i1).toNatClampNeg))).toNatClampNeg)) = i3 → RX xs shL md_Mod_goWatch 0 [.ref 516, .int (M 525 ((5 * i1).toNatClampNeg)), .int i2, .int i4, .int 1] [] M L (fun r M_28 L_29 => r = none ∧ Q none M_28 L_29)) ∧ (¬ ((M 522 ((3 * (M 525 ((5 * i1).toNatClampNeg))).toNatClampNeg)) = i3) → RX xs shL md_Mod_goWatch 0 [.ref 516, .int (M 525 ((5 * i1).toNatClampNeg)), .int i2, .int 0, .int 1] [] M L (fun r M_26 L_27 => r = none ∧ Q none M_26 L_27))))))) ∧ (¬ ((M 525 (((5 * i1) + 4).toNatClampNeg)) = 1) → (((0 : Int32) = 0 → (vp_in (3 * (M 525 ((5 * i1).toNatClampNeg))) 72 ∧ (((M 522 ((3 * (M 525 ((5 * i1).toNatClampNeg))).toNatClampNeg)) = i3 → RX xs shL md_Mod_goWatch 0 [.ref 516, .int (M 525 ((5 * i1).toNatClampNeg)), .int 0, .int i4, .int 0] [] M L (fun r M_9 L_10 => r = none ∧ Q none M_9 L_10)) ∧ (¬ ((M 522 ((3 * (M 525 ((5 * i1).toNatClampNeg))).toNatClampNeg)) = i3) → RX xs shL md_Mod_goWatch 0 [.ref 516, .int (M 525 ((5 * i1).toNatClampNeg)), .int 0, .int 0, .int 0] [] M L (fun r M_7 L_8 => r = none ∧ Q none M_7 L_8))))) ∧ (¬ ((0 : Int32) = 0) → (vp_in (3 * (M 525 ((5 * i1).toNatClampNeg))) 72 ∧ (((M 522 ((3 * (M 525 ((5 * i1).toNatClampNeg))).toNatClampNeg)) = i3 → RX xs shL md_Mod_goWatch 0 [.ref 516, .int (M 525 ((5 * i1).toNatClampNeg)), .int i2, .int i4, .int 0] [] M L (fun r M_15 L_16 => r = none ∧ Q none M_15 L_16)) ∧ (¬ ((M 522 ((3 * (M 525 ((5 * i1).toNatClampNeg))).toNatClampNeg)) = i3) → RX xs shL md_Mod_goWatch 0 [.ref 516, .int (M 525 ((5 * i1).toNatClampNeg)), .int i2, .int 0, .int 0] [] M L (fun r M_13 L_14 => r = none ∧ Q none M_13 L_14))))))))))) : RX xs shL md_Mod_wayOf 0 [.ref 516, .int i1, .int i2, .int i3, .int i4] [] M L Q := by
  refine r_weak (lv' := [.ref 516, .int i1, .int i2, .int i3, .int i4, .null, .null]) (by repeat (first | exact trivial | refine ⟨rfl, ?_⟩ | exact lle_nil)) ?_
  refine r_aload_n d_Mod_wayOf_0 rfl ?_
  refine x_getR d_Mod_wayOf_1 fl_Mod_45 gR_516_21 ?_
  refine r_iconst (v := 5) d_Mod_wayOf_4 (by decide) ?_
  refine r_iload_n d_Mod_wayOf_5 rfl ?_
  refine r_imul d_Mod_wayOf_6 ?_
  obtain ⟨o_1, h9⟩ := h
  refine x_iald d_Mod_wayOf_7 aI_525 o_1 ?_
  refine r_istore d_Mod_wayOf_8 (by decide) ?_
  refine r_aload_n d_Mod_wayOf_10 rfl ?_
  refine x_getR d_Mod_wayOf_11 fl_Mod_45 gR_516_21 ?_
  refine r_iconst (v := 5) d_Mod_wayOf_14 (by decide) ?_
  refine r_iload_n d_Mod_wayOf_15 rfl ?_
  refine r_imul d_Mod_wayOf_16 ?_
  refine r_iconst (v := 4) d_Mod_wayOf_17 (by decide) ?_
  refine r_iadd d_Mod_wayOf_18 ?_
  obtain ⟨o_2, h9⟩ := h9
  refine x_iald d_Mod_wayOf_19 aI_525 o_2 ?_
  refine r_iconst (v := 1) d_Mod_wayOf_20 (by decide) ?_
  refine r_ic_ne d_Mod_wayOf_21 (fun c_3 => ?_) (fun c_3 => ?_)
  · have h9 := h9.2 c_3
    refine r_iconst (v := 0) d_Mod_wayOf_28 (by decide) ?_
    refine r_istore d_Mod_wayOf_29 (by decide) ?_
    refine r_aload_n d_Mod_wayOf_31 rfl ?_
    refine r_iload d_Mod_wayOf_32 rfl ?_
    refine r_iload d_Mod_wayOf_34 rfl ?_
    refine r_if_eq d_Mod_wayOf_36 (fun c_4 => ?_) (fun c_4 => ?_)
    · have h9 := h9.1 c_4
      refine r_iconst (v := 0) d_Mod_wayOf_43 (by decide) ?_
      refine r_aload_n d_Mod_wayOf_44 rfl ?_
      refine x_getR d_Mod_wayOf_45 fl_Mod_25 gR_516_7 ?_
      refine r_iconst (v := 3) d_Mod_wayOf_48 (by decide) ?_
      refine r_iload d_Mod_wayOf_49 rfl ?_
      refine r_imul d_Mod_wayOf_51 ?_
      obtain ⟨o_5, h9⟩ := h9
      refine x_iald d_Mod_wayOf_52 aI_522 o_5 ?_
      refine r_iload_n d_Mod_wayOf_53 rfl ?_
      refine r_ic_ne d_Mod_wayOf_54 (fun c_6 => ?_) (fun c_6 => ?_)
      · have h9 := h9.2 c_6
        refine r_iconst (v := 0) d_Mod_wayOf_62 (by decide) ?_
        refine r_iload d_Mod_wayOf_63 rfl ?_
        refine x_callV (as := [.int (M 525 ((5 * i1).toNatClampNeg)), .int 0, .int 0, .int 0]) (st := []) d_Mod_wayOf_65 ml_Mod_136 mc_Mod_goWatch mv_Mod_goWatch ⟨by decide, by decide⟩ gO_516 ⟨_, rfl, rfl⟩ rfl (Nat.le_of_ble_eq_true rfl) (Nat.le_of_ble_eq_true rfl) h9 ?_
        rintro _ M_7 L_8 ⟨rfl, h9⟩
        exact r_vret ⟨d_Mod_wayOf_68, rfl⟩ ⟨M_7, L_8, rfl, h9⟩
      · have h9 := h9.1 c_6
        refine r_iload d_Mod_wayOf_57 rfl ?_
        refine r_goto d_Mod_wayOf_59 ?_
        refine r_iload d_Mod_wayOf_63 rfl ?_
        refine x_callV (as := [.int (M 525 ((5 * i1).toNatClampNeg)), .int 0, .int i4, .int 0]) (st := []) d_Mod_wayOf_65 ml_Mod_136 mc_Mod_goWatch mv_Mod_goWatch ⟨by decide, by decide⟩ gO_516 ⟨_, rfl, rfl⟩ rfl (Nat.le_of_ble_eq_true rfl) (Nat.le_of_ble_eq_true rfl) h9 ?_
        rintro _ M_9 L_10 ⟨rfl, h9⟩
        exact r_vret ⟨d_Mod_wayOf_68, rfl⟩ ⟨M_9, L_10, rfl, h9⟩
    · have h9 := h9.2 c_4
      refine r_iload_n d_Mod_wayOf_39 rfl ?_
      refine r_goto d_Mod_wayOf_40 ?_
      refine r_aload_n d_Mod_wayOf_44 rfl ?_
      refine x_getR d_Mod_wayOf_45 fl_Mod_25 gR_516_7 ?_
      refine r_iconst (v := 3) d_Mod_wayOf_48 (by decide) ?_
      refine r_iload d_Mod_wayOf_49 rfl ?_
      refine r_imul d_Mod_wayOf_51 ?_
      obtain ⟨o_11, h9⟩ := h9
      refine x_iald d_Mod_wayOf_52 aI_522 o_11 ?_
      refine r_iload_n d_Mod_wayOf_53 rfl ?_
      refine r_ic_ne d_Mod_wayOf_54 (fun c_12 => ?_) (fun c_12 => ?_)
      · have h9 := h9.2 c_12
        refine r_iconst (v := 0) d_Mod_wayOf_62 (by decide) ?_
        refine r_iload d_Mod_wayOf_63 rfl ?_
        refine x_callV (as := [.int (M 525 ((5 * i1).toNatClampNeg)), .int i2, .int 0, .int 0]) (st := []) d_Mod_wayOf_65 ml_Mod_136 mc_Mod_goWatch mv_Mod_goWatch ⟨by decide, by decide⟩ gO_516 ⟨_, rfl, rfl⟩ rfl (Nat.le_of_ble_eq_true rfl) (Nat.le_of_ble_eq_true rfl) h9 ?_
        rintro _ M_13 L_14 ⟨rfl, h9⟩
        exact r_vret ⟨d_Mod_wayOf_68, rfl⟩ ⟨M_13, L_14, rfl, h9⟩
      · have h9 := h9.1 c_12
        refine r_iload d_Mod_wayOf_57 rfl ?_
        refine r_goto d_Mod_wayOf_59 ?_
        refine r_iload d_Mod_wayOf_63 rfl ?_
        refine x_callV (as := [.int (M 525 ((5 * i1).toNatClampNeg)), .int i2, .int i4, .int 0]) (st := []) d_Mod_wayOf_65 ml_Mod_136 mc_Mod_goWatch mv_Mod_goWatch ⟨by decide, by decide⟩ gO_516 ⟨_, rfl, rfl⟩ rfl (Nat.le_of_ble_eq_true rfl) (Nat.le_of_ble_eq_true rfl) h9 ?_
        rintro _ M_15 L_16 ⟨rfl, h9⟩
        exact r_vret ⟨d_Mod_wayOf_68, rfl⟩ ⟨M_15, L_16, rfl, h9⟩
  · have h9 := h9.1 c_3
    refine r_iconst (v := 1) d_Mod_wayOf_24 (by decide) ?_
    refine r_goto d_Mod_wayOf_25 ?_
    refine r_istore d_Mod_wayOf_29 (by decide) ?_
    refine r_aload_n d_Mod_wayOf_31 rfl ?_
    refine r_iload d_Mod_wayOf_32 rfl ?_
    refine r_iload d_Mod_wayOf_34 rfl ?_
    refine r_if_eq d_Mod_wayOf_36 (fun c_17 => ?_) (fun c_17 => ?_)
    · have h9 := h9.1 c_17
      refine r_iconst (v := 0) d_Mod_wayOf_43 (by decide) ?_
      refine r_aload_n d_Mod_wayOf_44 rfl ?_
      refine x_getR d_Mod_wayOf_45 fl_Mod_25 gR_516_7 ?_
      refine r_iconst (v := 3) d_Mod_wayOf_48 (by decide) ?_
      refine r_iload d_Mod_wayOf_49 rfl ?_
      refine r_imul d_Mod_wayOf_51 ?_
      obtain ⟨o_18, h9⟩ := h9
      refine x_iald d_Mod_wayOf_52 aI_522 o_18 ?_
      refine r_iload_n d_Mod_wayOf_53 rfl ?_
      refine r_ic_ne d_Mod_wayOf_54 (fun c_19 => ?_) (fun c_19 => ?_)
      · have h9 := h9.2 c_19
        refine r_iconst (v := 0) d_Mod_wayOf_62 (by decide) ?_
        refine r_iload d_Mod_wayOf_63 rfl ?_
        refine x_callV (as := [.int (M 525 ((5 * i1).toNatClampNeg)), .int 0, .int 0, .int 1]) (st := []) d_Mod_wayOf_65 ml_Mod_136 mc_Mod_goWatch mv_Mod_goWatch ⟨by decide, by decide⟩ gO_516 ⟨_, rfl, rfl⟩ rfl (Nat.le_of_ble_eq_true rfl) (Nat.le_of_ble_eq_true rfl) h9 ?_
        rintro _ M_20 L_21 ⟨rfl, h9⟩
        exact r_vret ⟨d_Mod_wayOf_68, rfl⟩ ⟨M_20, L_21, rfl, h9⟩
      · have h9 := h9.1 c_19
        refine r_iload d_Mod_wayOf_57 rfl ?_
        refine r_goto d_Mod_wayOf_59 ?_
        refine r_iload d_Mod_wayOf_63 rfl ?_
        refine x_callV (as := [.int (M 525 ((5 * i1).toNatClampNeg)), .int 0, .int i4, .int 1]) (st := []) d_Mod_wayOf_65 ml_Mod_136 mc_Mod_goWatch mv_Mod_goWatch ⟨by decide, by decide⟩ gO_516 ⟨_, rfl, rfl⟩ rfl (Nat.le_of_ble_eq_true rfl) (Nat.le_of_ble_eq_true rfl) h9 ?_
        rintro _ M_22 L_23 ⟨rfl, h9⟩
        exact r_vret ⟨d_Mod_wayOf_68, rfl⟩ ⟨M_22, L_23, rfl, h9⟩
    · have h9 := h9.2 c_17
      refine r_iload_n d_Mod_wayOf_39 rfl ?_
      refine r_goto d_Mod_wayOf_40 ?_
      refine r_aload_n d_Mod_wayOf_44 rfl ?_
      refine x_getR d_Mod_wayOf_45 fl_Mod_25 gR_516_7 ?_
      refine r_iconst (v := 3) d_Mod_wayOf_48 (by decide) ?_
      refine r_iload d_Mod_wayOf_49 rfl ?_
      refine r_imul d_Mod_wayOf_51 ?_
      obtain ⟨o_24, h9⟩ := h9
      refine x_iald d_Mod_wayOf_52 aI_522 o_24 ?_
      refine r_iload_n d_Mod_wayOf_53 rfl ?_
      refine r_ic_ne d_Mod_wayOf_54 (fun c_25 => ?_) (fun c_25 => ?_)
      · have h9 := h9.2 c_25
        refine r_iconst (v := 0) d_Mod_wayOf_62 (by decide) ?_
        refine r_iload d_Mod_wayOf_63 rfl ?_
        refine x_callV (as := [.int (M 525 ((5 * i1).toNatClampNeg)), .int i2, .int 0, .int 1]) (st := []) d_Mod_wayOf_65 ml_Mod_136 mc_Mod_goWatch mv_Mod_goWatch ⟨by decide, by decide⟩ gO_516 ⟨_, rfl, rfl⟩ rfl (Nat.le_of_ble_eq_true rfl) (Nat.le_of_ble_eq_true rfl) h9 ?_
        rintro _ M_26 L_27 ⟨rfl, h9⟩
        exact r_vret ⟨d_Mod_wayOf_68, rfl⟩ ⟨M_26, L_27, rfl, h9⟩
      · have h9 := h9.1 c_25
        refine r_iload d_Mod_wayOf_57 rfl ?_
        refine r_goto d_Mod_wayOf_59 ?_
        refine r_iload d_Mod_wayOf_63 rfl ?_
        refine x_callV (as := [.int (M 525 ((5 * i1).toNatClampNeg)), .int i2, .int i4, .int 1]) (st := []) d_Mod_wayOf_65 ml_Mod_136 mc_Mod_goWatch mv_Mod_goWatch ⟨by decide, by decide⟩ gO_516 ⟨_, rfl, rfl⟩ rfl (Nat.le_of_ble_eq_true rfl) (Nat.le_of_ble_eq_true rfl) h9 ?_
        rintro _ M_28 L_29 ⟨rfl, h9⟩
        exact r_vret ⟨d_Mod_wayOf_68, rfl⟩ ⟨M_28, L_29, rfl, h9⟩
theorem L_Reckoning_stretch_0 {xs : List Int32} {p1 : Nat} {i2 : Int32} {i3 : Int32} {i4 : Int32} {M : Mem} {L : Int64} {Q : Option Value → Mem → Int64 → Prop} (hp1 : isRe shL p1)
    (h : RX xs shL md_Reach_become 0 [.ref p1, .int (fdv ((i2 + (M 126 6)) - (i4 + (M 4 2))) 8000), .int (-(fdv (-((i2 + (M 126 7)) + (i4 + (M 4 2)))) 8000)), .int (fdv ((i3 + (M 126 8)) - (i4 + (M 4 2))) 8000), .int (-(fdv (-((i3 + (M 126 9)) + (i4 + (M 4 2)))) 8000))] [] M L (fun r M_1 L_2 => ∃ v_3 : Int32, r = some (.int v_3) ∧ ((v_3 = 0 ∨ v_3 = 1) ∧ Q (some (.int v_3)) M_1 L_2))) : RX xs shL md_Reckoning_stretch 0 [.ref 336, .ref p1, .int i2, .int i3, .int i4] [] M L Q := by
  refine r_weak (lv' := [.ref 336, .ref p1, .int i2, .int i3, .int i4, .null]) (by repeat (first | exact trivial | refine ⟨rfl, ?_⟩ | exact lle_nil)) ?_
  refine r_iload d_Reckoning_stretch_0 rfl ?_
  refine r_aload_n d_Reckoning_stretch_2 rfl ?_
  refine x_getR d_Reckoning_stretch_3 fl_Reckoning_17 gR_336_1 ?_
  refine x_getI d_Reckoning_stretch_6 fl_Reckoning_180 gI_4_2 ?_
  refine r_iadd d_Reckoning_stretch_9 ?_
  refine r_istore d_Reckoning_stretch_10 (by decide) ?_
  refine r_aload_n d_Reckoning_stretch_12 rfl ?_
  refine r_iload_n d_Reckoning_stretch_13 rfl ?_
  refine r_aload_n d_Reckoning_stretch_14 rfl ?_
  refine x_getR d_Reckoning_stretch_15 fl_Reckoning_11 gR_336_0 ?_
  refine x_getI d_Reckoning_stretch_18 fl_Reckoning_183 gI_126_6 ?_
  refine r_iadd d_Reckoning_stretch_21 ?_
  refine r_iload d_Reckoning_stretch_22 rfl ?_
  refine r_isub d_Reckoning_stretch_24 ?_
  refine x_callS (as := [.int ((i2 + (M 126 6)) - (i4 + (M 4 2)))]) (st := [.ref p1]) d_Reckoning_stretch_25 ml_Reckoning_186 mc_Reach_cellsDown ms_Reach_cellsDown ⟨by decide, by decide⟩ rfl (Nat.le_of_ble_eq_true rfl) (Nat.le_of_ble_eq_true rfl) (Q1 := fun r M1 L1 => some (.int (fdv ((i2 + (M 126 6)) - (i4 + (M 4 2))) 8000)) = r ∧ M = M1 ∧ L = L1) (L_Reach_cellsDown_0 ⟨rfl, rfl, rfl⟩) ?_
  rintro _ _ _ ⟨rfl, rfl, rfl⟩
  refine r_iload_n d_Reckoning_stretch_28 rfl ?_
  refine r_aload_n d_Reckoning_stretch_29 rfl ?_
  refine x_getR d_Reckoning_stretch_30 fl_Reckoning_11 gR_336_0 ?_
  refine x_getI d_Reckoning_stretch_33 fl_Reckoning_192 gI_126_7 ?_
  refine r_iadd d_Reckoning_stretch_36 ?_
  refine r_iload d_Reckoning_stretch_37 rfl ?_
  refine r_iadd d_Reckoning_stretch_39 ?_
  refine x_callS (as := [.int ((i2 + (M 126 7)) + (i4 + (M 4 2)))]) (st := [.int (fdv ((i2 + (M 126 6)) - (i4 + (M 4 2))) 8000), .ref p1]) d_Reckoning_stretch_40 ml_Reckoning_195 mc_Reach_cellsUp ms_Reach_cellsUp ⟨by decide, by decide⟩ rfl (Nat.le_of_ble_eq_true rfl) (Nat.le_of_ble_eq_true rfl) (Q1 := fun r M1 L1 => some (.int (-(fdv (-((i2 + (M 126 7)) + (i4 + (M 4 2)))) 8000))) = r ∧ M = M1 ∧ L = L1) (L_Reach_cellsUp_0 ⟨rfl, rfl, rfl⟩) ?_
  rintro _ _ _ ⟨rfl, rfl, rfl⟩
  refine r_iload_n d_Reckoning_stretch_43 rfl ?_
  refine r_aload_n d_Reckoning_stretch_44 rfl ?_
  refine x_getR d_Reckoning_stretch_45 fl_Reckoning_11 gR_336_0 ?_
  refine x_getI d_Reckoning_stretch_48 fl_Reckoning_198 gI_126_8 ?_
  refine r_iadd d_Reckoning_stretch_51 ?_
  refine r_iload d_Reckoning_stretch_52 rfl ?_
  refine r_isub d_Reckoning_stretch_54 ?_
  refine x_callS (as := [.int ((i3 + (M 126 8)) - (i4 + (M 4 2)))]) (st := [.int (-(fdv (-((i2 + (M 126 7)) + (i4 + (M 4 2)))) 8000)), .int (fdv ((i2 + (M 126 6)) - (i4 + (M 4 2))) 8000), .ref p1]) d_Reckoning_stretch_55 ml_Reckoning_186 mc_Reach_cellsDown ms_Reach_cellsDown ⟨by decide, by decide⟩ rfl (Nat.le_of_ble_eq_true rfl) (Nat.le_of_ble_eq_true rfl) (Q1 := fun r M1 L1 => some (.int (fdv ((i3 + (M 126 8)) - (i4 + (M 4 2))) 8000)) = r ∧ M = M1 ∧ L = L1) (L_Reach_cellsDown_0 ⟨rfl, rfl, rfl⟩) ?_
  rintro _ _ _ ⟨rfl, rfl, rfl⟩
  refine r_iload_n d_Reckoning_stretch_58 rfl ?_
  refine r_aload_n d_Reckoning_stretch_59 rfl ?_
  refine x_getR d_Reckoning_stretch_60 fl_Reckoning_11 gR_336_0 ?_
  refine x_getI d_Reckoning_stretch_63 fl_Reckoning_201 gI_126_9 ?_
  refine r_iadd d_Reckoning_stretch_66 ?_
  refine r_iload d_Reckoning_stretch_67 rfl ?_
  refine r_iadd d_Reckoning_stretch_69 ?_
  refine x_callS (as := [.int ((i3 + (M 126 9)) + (i4 + (M 4 2)))]) (st := [.int (fdv ((i3 + (M 126 8)) - (i4 + (M 4 2))) 8000), .int (-(fdv (-((i2 + (M 126 7)) + (i4 + (M 4 2)))) 8000)), .int (fdv ((i2 + (M 126 6)) - (i4 + (M 4 2))) 8000), .ref p1]) d_Reckoning_stretch_70 ml_Reckoning_195 mc_Reach_cellsUp ms_Reach_cellsUp ⟨by decide, by decide⟩ rfl (Nat.le_of_ble_eq_true rfl) (Nat.le_of_ble_eq_true rfl) (Q1 := fun r M1 L1 => some (.int (-(fdv (-((i3 + (M 126 9)) + (i4 + (M 4 2)))) 8000))) = r ∧ M = M1 ∧ L = L1) (L_Reach_cellsUp_0 ⟨rfl, rfl, rfl⟩) ?_
  rintro _ _ _ ⟨rfl, rfl, rfl⟩
  refine x_callV (as := [.int (fdv ((i2 + (M 126 6)) - (i4 + (M 4 2))) 8000), .int (-(fdv (-((i2 + (M 126 7)) + (i4 + (M 4 2)))) 8000)), .int (fdv ((i3 + (M 126 8)) - (i4 + (M 4 2))) 8000), .int (-(fdv (-((i3 + (M 126 9)) + (i4 + (M 4 2)))) 8000))]) (st := []) d_Reckoning_stretch_73 ml_Reckoning_204 mc_Reach_become mv_Reach_become ⟨by decide, by decide⟩ (isRe_O hp1) ⟨_, rfl, rfl⟩ rfl (Nat.le_of_ble_eq_true rfl) (Nat.le_of_ble_eq_true rfl) h ?_
  rintro _ M_1 L_2 ⟨v_3, rfl, h9⟩
  obtain ⟨o_4, h9⟩ := h9
  exact r_iret ⟨d_Reckoning_stretch_76, _, rfl, nar_b o_4⟩ ⟨_, _, rfl, h9⟩
theorem L_Reckoning_stretchCounted_0 {xs : List Int32} {t1 : Nat} {i2 : Int32} {i3 : Int32} {M : Mem} {L : Int64} {Q : Option Value → Mem → Int64 → Prop} (ht1 : t1 < 40)
    (h : (vp_in (M (136 + 5 * t1) 3) 24 ∧ RX xs shL md_Watch_wayEast 0 [.ref (6 + 5 * (M (136 + 5 * t1) 3).toNatClampNeg), .int i2, .int i3] [] M L (fun r M_2 L_3 => ∃ v_4 : Int32, r = some (.int v_4) ∧ RX xs shL md_Watch_wayNorth 0 [.ref (6 + 5 * (M (136 + 5 * t1) 3).toNatClampNeg), .int i2, .int i3] [] M_2 L_3 (fun r M_5 L_6 => ∃ v_7 : Int32, r = some (.int v_7) ∧ RX xs shL md_Reckoning_stretch 0 [.ref 336, .ref (136 + 5 * t1 + 1), .int v_4, .int v_7, .int (M_5 (6 + 5 * (M (136 + 5 * t1) 3).toNatClampNeg) 4)] [] M_5 L_6 (fun r M_8 L_9 => ∃ v_10 : Int32, r = some (.int v_10) ∧ ((v_10 = 0 ∨ v_10 = 1) ∧ Q (some (.int v_10)) M_8 L_9)))))) : RX xs shL md_Reckoning_stretchCounted 0 [.ref 336, .ref (136 + 5 * t1), .int i2, .int i3] [] M L Q := by
  refine r_weak (lv' := [.ref 336, .ref (136 + 5 * t1), .int i2, .int i3, .null]) (by repeat (first | exact trivial | refine ⟨rfl, ?_⟩ | exact lle_nil)) ?_
  refine r_aload_n d_Reckoning_stretchCounted_0 rfl ?_
  refine x_getR d_Reckoning_stretchCounted_1 fl_Reckoning_17 gR_336_1 ?_
  refine x_getR d_Reckoning_stretchCounted_4 fl_Reckoning_147 gR_4_0 ?_
  refine r_aload_n d_Reckoning_stretchCounted_7 rfl ?_
  refine x_getI d_Reckoning_stretchCounted_8 fl_Reckoning_153 (rw_I ht1 3 (by decide) (by decide)) ?_
  obtain ⟨o_1, h9⟩ := h
  refine x_aald d_Reckoning_stretchCounted_11 aR_5 o_1 ?_
  refine r_astore d_Reckoning_stretchCounted_12 (by decide) ?_
  refine r_aload_n d_Reckoning_stretchCounted_14 rfl ?_
  refine r_aload_n d_Reckoning_stretchCounted_15 rfl ?_
  refine x_getR d_Reckoning_stretchCounted_16 fl_Reckoning_167 (rw_R0 ht1) ?_
  refine r_aload d_Reckoning_stretchCounted_19 rfl ?_
  refine r_iload_n d_Reckoning_stretchCounted_21 rfl ?_
  refine r_iload_n d_Reckoning_stretchCounted_22 rfl ?_
  refine x_callV (as := [.int i2, .int i3]) (st := [.ref (136 + 5 * t1 + 1), .ref 336]) d_Reckoning_stretchCounted_23 ml_Reckoning_170 mc_Watch_wayEast mv_Watch_wayEast ⟨by decide, by decide⟩ (wt_O (vp_lt o_1)) ⟨_, rfl, rfl⟩ rfl (Nat.le_of_ble_eq_true rfl) (Nat.le_of_ble_eq_true rfl) h9 ?_
  rintro _ M_2 L_3 ⟨v_4, rfl, h9⟩
  refine r_aload d_Reckoning_stretchCounted_26 rfl ?_
  refine r_iload_n d_Reckoning_stretchCounted_28 rfl ?_
  refine r_iload_n d_Reckoning_stretchCounted_29 rfl ?_
  refine x_callV (as := [.int i2, .int i3]) (st := [.int v_4, .ref (136 + 5 * t1 + 1), .ref 336]) d_Reckoning_stretchCounted_30 ml_Reckoning_174 mc_Watch_wayNorth mv_Watch_wayNorth ⟨by decide, by decide⟩ (wt_O (vp_lt o_1)) ⟨_, rfl, rfl⟩ rfl (Nat.le_of_ble_eq_true rfl) (Nat.le_of_ble_eq_true rfl) h9 ?_
  rintro _ M_5 L_6 ⟨v_7, rfl, h9⟩
  refine r_aload d_Reckoning_stretchCounted_33 rfl ?_
  refine x_getI d_Reckoning_stretchCounted_35 fl_Reckoning_177 (wt_I (vp_lt o_1) 4 (by decide) (by decide)) ?_
  refine x_callV (as := [.ref (136 + 5 * t1 + 1), .int v_4, .int v_7, .int (M_5 (6 + 5 * (M (136 + 5 * t1) 3).toNatClampNeg) 4)]) (st := []) d_Reckoning_stretchCounted_38 ml_Reckoning_159 mc_Reckoning_stretch mv_Reckoning_stretch ⟨by decide, by decide⟩ gO_336 ⟨_, rfl, rfl⟩ rfl (Nat.le_of_ble_eq_true rfl) (Nat.le_of_ble_eq_true rfl) h9 ?_
  rintro _ M_8 L_9 ⟨v_10, rfl, h9⟩
  obtain ⟨o_11, h9⟩ := h9
  exact r_iret ⟨d_Reckoning_stretchCounted_41, _, rfl, nar_b o_11⟩ ⟨_, _, rfl, h9⟩
theorem L_Reckoning_makeReady_0 {xs : List Int32} {t1 : Nat} {M : Mem} {L : Int64} {Q : Option Value → Mem → Int64 → Prop} (ht1 : t1 < 40)
    (h : (((¬ M (136 + 5 * t1) 3 = -1) → RX xs shL md_Reckoning_stretchCounted 0 [.ref 336, .ref (136 + 5 * t1), .int 0, .int 0] [] M L (fun r M_4 L_5 => ∃ v_6 : Int32, r = some (.int v_6) ∧ (vp_in (M_4 (136 + 5 * t1) 3) 24 ∧ RX xs shL md_Reckoning_stretch 0 [.ref 336, .ref (136 + 5 * t1 + 2), .int 0, .int 0, .int (M_4 (6 + 5 * (M_4 (136 + 5 * t1) 3).toNatClampNeg) 5)] [] M_4 L_5 (fun r M_8 L_9 => ∃ v_10 : Int32, r = some (.int v_10) ∧ Q none M_8 L_9)))) ∧ (¬ (¬ M (136 + 5 * t1) 3 = -1) → RX xs shL md_Row_findStaying 0 [.ref (136 + 5 * t1), .ref 126] [] M L (fun r M_2 L_3 => r = none ∧ Q none M_2 L_3)))) : RX xs shL md_Reckoning_makeReady 0 [.ref 336, .ref (136 + 5 * t1)] [] M L Q := by
  refine r_aload_n d_Reckoning_makeReady_0 rfl ?_
  refine x_callV (as := []) (st := []) d_Reckoning_makeReady_1 ml_Reckoning_135 mc_Row_isWatch mv_Row_isWatch ⟨by decide, by decide⟩ (rw_O ht1) ⟨_, rfl, rfl⟩ rfl (Nat.le_of_ble_eq_true rfl) (Nat.le_of_ble_eq_true rfl) (Q1 := fun r M1 L1 => some (.int (bI (¬ M (136 + 5 * t1) 3 = -1))) = r ∧ M = M1 ∧ L = L1) (s_Row_isWatch ht1 ⟨rfl, rfl, rfl⟩) ?_
  rintro _ _ _ ⟨rfl, rfl, rfl⟩
  refine r_if_eq d_Reckoning_makeReady_4 (fun c_1 => ?_) (fun c_1 => ?_)
  · have h9 := h.2 (bI_p0 c_1)
    refine r_aload_n d_Reckoning_makeReady_44 rfl ?_
    refine r_aload_n d_Reckoning_makeReady_45 rfl ?_
    refine x_getR d_Reckoning_makeReady_46 fl_Reckoning_11 gR_336_0 ?_
    refine x_callV (as := [.ref 126]) (st := []) d_Reckoning_makeReady_49 ml_Reckoning_163 mc_Row_findStaying mv_Row_findStaying ⟨by decide, by decide⟩ (rw_O ht1) ⟨_, rfl, rfl⟩ rfl (Nat.le_of_ble_eq_true rfl) (Nat.le_of_ble_eq_true rfl) h9 ?_
    rintro _ M_2 L_3 ⟨rfl, h9⟩
    exact r_vret ⟨d_Reckoning_makeReady_52, rfl⟩ ⟨M_2, L_3, rfl, h9⟩
  · have h9 := h.1 (bI_p1 c_1)
    refine r_aload_n d_Reckoning_makeReady_7 rfl ?_
    refine r_aload_n d_Reckoning_makeReady_8 rfl ?_
    refine r_iconst (v := 0) d_Reckoning_makeReady_9 (by decide) ?_
    refine r_iconst (v := 0) d_Reckoning_makeReady_10 (by decide) ?_
    refine x_callV (as := [.ref (136 + 5 * t1), .int 0, .int 0]) (st := []) d_Reckoning_makeReady_11 ml_Reckoning_139 mc_Reckoning_stretchCounted mv_Reckoning_stretchCounted ⟨by decide, by decide⟩ gO_336 ⟨_, rfl, rfl⟩ rfl (Nat.le_of_ble_eq_true rfl) (Nat.le_of_ble_eq_true rfl) h9 ?_
    rintro _ M_4 L_5 ⟨v_6, rfl, h9⟩
    refine r_pop d_Reckoning_makeReady_14 rfl ?_
    refine r_aload_n d_Reckoning_makeReady_15 rfl ?_
    refine r_aload_n d_Reckoning_makeReady_16 rfl ?_
    refine x_getR d_Reckoning_makeReady_17 fl_Reckoning_143 (rw_R1 ht1) ?_
    refine r_iconst (v := 0) d_Reckoning_makeReady_20 (by decide) ?_
    refine r_iconst (v := 0) d_Reckoning_makeReady_21 (by decide) ?_
    refine r_aload_n d_Reckoning_makeReady_22 rfl ?_
    refine x_getR d_Reckoning_makeReady_23 fl_Reckoning_17 gR_336_1 ?_
    refine x_getR d_Reckoning_makeReady_26 fl_Reckoning_147 gR_4_0 ?_
    refine r_aload_n d_Reckoning_makeReady_29 rfl ?_
    refine x_getI d_Reckoning_makeReady_30 fl_Reckoning_153 (rw_I ht1 3 (by decide) (by decide)) ?_
    obtain ⟨o_7, h9⟩ := h9
    refine x_aald d_Reckoning_makeReady_33 aR_5 o_7 ?_
    refine x_getI d_Reckoning_makeReady_34 fl_Reckoning_156 (wt_I (vp_lt o_7) 5 (by decide) (by decide)) ?_
    refine x_callV (as := [.ref (136 + 5 * t1 + 2), .int 0, .int 0, .int (M_4 (6 + 5 * (M_4 (136 + 5 * t1) 3).toNatClampNeg) 5)]) (st := []) d_Reckoning_makeReady_37 ml_Reckoning_159 mc_Reckoning_stretch mv_Reckoning_stretch ⟨by decide, by decide⟩ gO_336 ⟨_, rfl, rfl⟩ rfl (Nat.le_of_ble_eq_true rfl) (Nat.le_of_ble_eq_true rfl) h9 ?_
    rintro _ M_8 L_9 ⟨v_10, rfl, h9⟩
    refine r_pop d_Reckoning_makeReady_40 rfl ?_
    refine r_goto d_Reckoning_makeReady_41 ?_
    exact r_vret ⟨d_Reckoning_makeReady_52, rfl⟩ ⟨M_8, L_9, rfl, h9⟩
set_option maxHeartbeats 4000000 in
theorem L_Reckoning_findStart_0 {xs : List Int32}  {M : Mem} {L : Int64} {Q : Option Value → Mem → Int64 → Prop} 
    (h : Q none (setP (setP (setP M (339 + 4 * 0) (fun _ _ => false)) (339 + 4 * 0) (rcF (((setP M (339 + 4 * 0) (fun _ _ => false)) 134 2) - ((setP M (339 + 4 * 0) (fun _ _ => false)) 134 4)).toInt (((setP M (339 + 4 * 0) (fun _ _ => false)) 134 3) - ((setP M (339 + 4 * 0) (fun _ _ => false)) 134 4)).toInt (((setP M (339 + 4 * 0) (fun _ _ => false)) 134 2) + ((setP M (339 + 4 * 0) (fun _ _ => false)) 134 4)).toInt (((setP M (339 + 4 * 0) (fun _ _ => false)) 134 3) + ((setP M (339 + 4 * 0) (fun _ _ => false)) 134 4)).toInt (bB (¬ (1 : Int32) = 0)) (gp (setP M (339 + 4 * 0) (fun _ _ => false)) (339 + 4 * 0)))) (339 + 4 * 0) (fun x y => gp (setP (setP M (339 + 4 * 0) (fun _ _ => false)) (339 + 4 * 0) (rcF (((setP M (339 + 4 * 0) (fun _ _ => false)) 134 2) - ((setP M (339 + 4 * 0) (fun _ _ => false)) 134 4)).toInt (((setP M (339 + 4 * 0) (fun _ _ => false)) 134 3) - ((setP M (339 + 4 * 0) (fun _ _ => false)) 134 4)).toInt (((setP M (339 + 4 * 0) (fun _ _ => false)) 134 2) + ((setP M (339 + 4 * 0) (fun _ _ => false)) 134 4)).toInt (((setP M (339 + 4 * 0) (fun _ _ => false)) 134 3) + ((setP M (339 + 4 * 0) (fun _ _ => false)) 134 4)).toInt (bB (¬ (1 : Int32) = 0)) (gp (setP M (339 + 4 * 0) (fun _ _ => false)) (339 + 4 * 0)))) (339 + 4 * 0) x y && gp (setP (setP M (339 + 4 * 0) (fun _ _ => false)) (339 + 4 * 0) (rcF (((setP M (339 + 4 * 0) (fun _ _ => false)) 134 2) - ((setP M (339 + 4 * 0) (fun _ _ => false)) 134 4)).toInt (((setP M (339 + 4 * 0) (fun _ _ => false)) 134 3) - ((setP M (339 + 4 * 0) (fun _ _ => false)) 134 4)).toInt (((setP M (339 + 4 * 0) (fun _ _ => false)) 134 2) + ((setP M (339 + 4 * 0) (fun _ _ => false)) 134 4)).toInt (((setP M (339 + 4 * 0) (fun _ _ => false)) 134 3) + ((setP M (339 + 4 * 0) (fun _ _ => false)) 134 4)).toInt (bB (¬ (1 : Int32) = 0)) (gp (setP M (339 + 4 * 0) (fun _ _ => false)) (339 + 4 * 0)))) 128 x y)) L) : RX xs shL md_Reckoning_findStart 0 [.ref 336] [] M L Q := by
  refine r_weak (lv' := [.ref 336, .null]) (by repeat (first | exact trivial | refine ⟨rfl, ?_⟩ | exact lle_nil)) ?_
  refine r_aload_n d_Reckoning_findStart_0 rfl ?_
  refine x_getR d_Reckoning_findStart_1 fl_Reckoning_27 gR_336_3 ?_
  refine r_iconst (v := 0) d_Reckoning_findStart_4 (by decide) ?_
  refine x_aald d_Reckoning_findStart_5 aR_337 (by unfold vp_in; decide) ?_
  refine r_astore_n d_Reckoning_findStart_6 (by decide) ?_
  refine r_aload_n d_Reckoning_findStart_7 rfl ?_
  refine x_callV (as := []) (st := []) d_Reckoning_findStart_8 ml_Reckoning_114 mc_Patch_clear mv_Patch_clear ⟨by decide, by decide⟩ (isP_O (isP_ahead (vp_lt (by unfold vp_in; decide)))) ⟨_, rfl, rfl⟩ rfl (Nat.le_of_ble_eq_true rfl) (Nat.le_of_ble_eq_true rfl) (Q1 := fun r M1 L1 => none = r ∧ setP M (339 + 4 * 0) (fun _ _ => false) = M1 ∧ L = L1) (t_clear (isP_ahead (vp_lt (by unfold vp_in; decide))) ⟨rfl, rfl, rfl⟩) ?_
  rintro _ _ _ ⟨rfl, rfl, rfl⟩
  refine r_aload_n d_Reckoning_findStart_11 rfl ?_
  refine r_aload_n d_Reckoning_findStart_12 rfl ?_
  refine x_getR d_Reckoning_findStart_13 fl_Reckoning_21 gR_336_2 ?_
  refine x_getI d_Reckoning_findStart_16 fl_Reckoning_117 gI_134_2 ?_
  refine r_aload_n d_Reckoning_findStart_19 rfl ?_
  refine x_getR d_Reckoning_findStart_20 fl_Reckoning_21 gR_336_2 ?_
  refine x_getI d_Reckoning_findStart_23 fl_Reckoning_120 gI_134_4 ?_
  refine r_isub d_Reckoning_findStart_26 ?_
  refine r_aload_n d_Reckoning_findStart_27 rfl ?_
  refine x_getR d_Reckoning_findStart_28 fl_Reckoning_21 gR_336_2 ?_
  refine x_getI d_Reckoning_findStart_31 fl_Reckoning_123 gI_134_3 ?_
  refine r_aload_n d_Reckoning_findStart_34 rfl ?_
  refine x_getR d_Reckoning_findStart_35 fl_Reckoning_21 gR_336_2 ?_
  refine x_getI d_Reckoning_findStart_38 fl_Reckoning_120 gI_134_4 ?_
  refine r_isub d_Reckoning_findStart_41 ?_
  refine r_aload_n d_Reckoning_findStart_42 rfl ?_
  refine x_getR d_Reckoning_findStart_43 fl_Reckoning_21 gR_336_2 ?_
  refine x_getI d_Reckoning_findStart_46 fl_Reckoning_117 gI_134_2 ?_
  refine r_aload_n d_Reckoning_findStart_49 rfl ?_
  refine x_getR d_Reckoning_findStart_50 fl_Reckoning_21 gR_336_2 ?_
  refine x_getI d_Reckoning_findStart_53 fl_Reckoning_120 gI_134_4 ?_
  refine r_iadd d_Reckoning_findStart_56 ?_
  refine r_aload_n d_Reckoning_findStart_57 rfl ?_
  refine x_getR d_Reckoning_findStart_58 fl_Reckoning_21 gR_336_2 ?_
  refine x_getI d_Reckoning_findStart_61 fl_Reckoning_123 gI_134_3 ?_
  refine r_aload_n d_Reckoning_findStart_64 rfl ?_
  refine x_getR d_Reckoning_findStart_65 fl_Reckoning_21 gR_336_2 ?_
  refine x_getI d_Reckoning_findStart_68 fl_Reckoning_120 gI_134_4 ?_
  refine r_iadd d_Reckoning_findStart_71 ?_
  refine r_iconst (v := 1) d_Reckoning_findStart_72 (by decide) ?_
  refine x_callV (as := [.int (((setP M (339 + 4 * 0) (fun _ _ => false)) 134 2) - ((setP M (339 + 4 * 0) (fun _ _ => false)) 134 4)), .int (((setP M (339 + 4 * 0) (fun _ _ => false)) 134 3) - ((setP M (339 + 4 * 0) (fun _ _ => false)) 134 4)), .int (((setP M (339 + 4 * 0) (fun _ _ => false)) 134 2) + ((setP M (339 + 4 * 0) (fun _ _ => false)) 134 4)), .int (((setP M (339 + 4 * 0) (fun _ _ => false)) 134 3) + ((setP M (339 + 4 * 0) (fun _ _ => false)) 134 4)), .int 1]) (st := []) d_Reckoning_findStart_73 ml_Reckoning_126 mc_Patch_put mv_Patch_put ⟨by decide, by decide⟩ (isP_O (isP_ahead (vp_lt (by unfold vp_in; decide)))) ⟨_, rfl, rfl⟩ rfl (Nat.le_of_ble_eq_true rfl) (Nat.le_of_ble_eq_true rfl) (Q1 := fun r M1 L1 => none = r ∧ setP (setP M (339 + 4 * 0) (fun _ _ => false)) (339 + 4 * 0) (rcF (((setP M (339 + 4 * 0) (fun _ _ => false)) 134 2) - ((setP M (339 + 4 * 0) (fun _ _ => false)) 134 4)).toInt (((setP M (339 + 4 * 0) (fun _ _ => false)) 134 3) - ((setP M (339 + 4 * 0) (fun _ _ => false)) 134 4)).toInt (((setP M (339 + 4 * 0) (fun _ _ => false)) 134 2) + ((setP M (339 + 4 * 0) (fun _ _ => false)) 134 4)).toInt (((setP M (339 + 4 * 0) (fun _ _ => false)) 134 3) + ((setP M (339 + 4 * 0) (fun _ _ => false)) 134 4)).toInt (bB (¬ (1 : Int32) = 0)) (gp (setP M (339 + 4 * 0) (fun _ _ => false)) (339 + 4 * 0))) = M1 ∧ L = L1) (t_put (isP_ahead (vp_lt (by unfold vp_in; decide))) ⟨rfl, rfl, rfl⟩) ?_
  rintro _ _ _ ⟨rfl, rfl, rfl⟩
  refine r_aload_n d_Reckoning_findStart_76 rfl ?_
  refine r_aload_n d_Reckoning_findStart_77 rfl ?_
  refine x_getR d_Reckoning_findStart_78 fl_Reckoning_11 gR_336_0 ?_
  refine x_getR d_Reckoning_findStart_81 fl_Reckoning_130 gR_126_1 ?_
  refine x_callV (as := [.ref 128]) (st := []) d_Reckoning_findStart_84 ml_Reckoning_85 mc_Patch_cutTo mv_Patch_cutTo ⟨by decide, by decide⟩ (isP_O (isP_ahead (vp_lt (by unfold vp_in; decide)))) ⟨_, rfl, rfl⟩ rfl (Nat.le_of_ble_eq_true rfl) (Nat.le_of_ble_eq_true rfl) (Q1 := fun r M1 L1 => none = r ∧ setP (setP (setP M (339 + 4 * 0) (fun _ _ => false)) (339 + 4 * 0) (rcF (((setP M (339 + 4 * 0) (fun _ _ => false)) 134 2) - ((setP M (339 + 4 * 0) (fun _ _ => false)) 134 4)).toInt (((setP M (339 + 4 * 0) (fun _ _ => false)) 134 3) - ((setP M (339 + 4 * 0) (fun _ _ => false)) 134 4)).toInt (((setP M (339 + 4 * 0) (fun _ _ => false)) 134 2) + ((setP M (339 + 4 * 0) (fun _ _ => false)) 134 4)).toInt (((setP M (339 + 4 * 0) (fun _ _ => false)) 134 3) + ((setP M (339 + 4 * 0) (fun _ _ => false)) 134 4)).toInt (bB (¬ (1 : Int32) = 0)) (gp (setP M (339 + 4 * 0) (fun _ _ => false)) (339 + 4 * 0)))) (339 + 4 * 0) (fun x y => gp (setP (setP M (339 + 4 * 0) (fun _ _ => false)) (339 + 4 * 0) (rcF (((setP M (339 + 4 * 0) (fun _ _ => false)) 134 2) - ((setP M (339 + 4 * 0) (fun _ _ => false)) 134 4)).toInt (((setP M (339 + 4 * 0) (fun _ _ => false)) 134 3) - ((setP M (339 + 4 * 0) (fun _ _ => false)) 134 4)).toInt (((setP M (339 + 4 * 0) (fun _ _ => false)) 134 2) + ((setP M (339 + 4 * 0) (fun _ _ => false)) 134 4)).toInt (((setP M (339 + 4 * 0) (fun _ _ => false)) 134 3) + ((setP M (339 + 4 * 0) (fun _ _ => false)) 134 4)).toInt (bB (¬ (1 : Int32) = 0)) (gp (setP M (339 + 4 * 0) (fun _ _ => false)) (339 + 4 * 0)))) (339 + 4 * 0) x y && gp (setP (setP M (339 + 4 * 0) (fun _ _ => false)) (339 + 4 * 0) (rcF (((setP M (339 + 4 * 0) (fun _ _ => false)) 134 2) - ((setP M (339 + 4 * 0) (fun _ _ => false)) 134 4)).toInt (((setP M (339 + 4 * 0) (fun _ _ => false)) 134 3) - ((setP M (339 + 4 * 0) (fun _ _ => false)) 134 4)).toInt (((setP M (339 + 4 * 0) (fun _ _ => false)) 134 2) + ((setP M (339 + 4 * 0) (fun _ _ => false)) 134 4)).toInt (((setP M (339 + 4 * 0) (fun _ _ => false)) 134 3) + ((setP M (339 + 4 * 0) (fun _ _ => false)) 134 4)).toInt (bB (¬ (1 : Int32) = 0)) (gp (setP M (339 + 4 * 0) (fun _ _ => false)) (339 + 4 * 0)))) 128 x y) = M1 ∧ L = L1) (t_cutTo (isP_ahead (vp_lt (by unfold vp_in; decide))) isP_128 ⟨rfl, rfl, rfl⟩) ?_
  rintro _ _ _ ⟨rfl, rfl, rfl⟩
  exact r_vret ⟨d_Reckoning_findStart_87, rfl⟩ ⟨setP (setP (setP M (339 + 4 * 0) (fun _ _ => false)) (339 + 4 * 0) (rcF (((setP M (339 + 4 * 0) (fun _ _ => false)) 134 2) - ((setP M (339 + 4 * 0) (fun _ _ => false)) 134 4)).toInt (((setP M (339 + 4 * 0) (fun _ _ => false)) 134 3) - ((setP M (339 + 4 * 0) (fun _ _ => false)) 134 4)).toInt (((setP M (339 + 4 * 0) (fun _ _ => false)) 134 2) + ((setP M (339 + 4 * 0) (fun _ _ => false)) 134 4)).toInt (((setP M (339 + 4 * 0) (fun _ _ => false)) 134 3) + ((setP M (339 + 4 * 0) (fun _ _ => false)) 134 4)).toInt (bB (¬ (1 : Int32) = 0)) (gp (setP M (339 + 4 * 0) (fun _ _ => false)) (339 + 4 * 0)))) (339 + 4 * 0) (fun x y => gp (setP (setP M (339 + 4 * 0) (fun _ _ => false)) (339 + 4 * 0) (rcF (((setP M (339 + 4 * 0) (fun _ _ => false)) 134 2) - ((setP M (339 + 4 * 0) (fun _ _ => false)) 134 4)).toInt (((setP M (339 + 4 * 0) (fun _ _ => false)) 134 3) - ((setP M (339 + 4 * 0) (fun _ _ => false)) 134 4)).toInt (((setP M (339 + 4 * 0) (fun _ _ => false)) 134 2) + ((setP M (339 + 4 * 0) (fun _ _ => false)) 134 4)).toInt (((setP M (339 + 4 * 0) (fun _ _ => false)) 134 3) + ((setP M (339 + 4 * 0) (fun _ _ => false)) 134 4)).toInt (bB (¬ (1 : Int32) = 0)) (gp (setP M (339 + 4 * 0) (fun _ _ => false)) (339 + 4 * 0)))) (339 + 4 * 0) x y && gp (setP (setP M (339 + 4 * 0) (fun _ _ => false)) (339 + 4 * 0) (rcF (((setP M (339 + 4 * 0) (fun _ _ => false)) 134 2) - ((setP M (339 + 4 * 0) (fun _ _ => false)) 134 4)).toInt (((setP M (339 + 4 * 0) (fun _ _ => false)) 134 3) - ((setP M (339 + 4 * 0) (fun _ _ => false)) 134 4)).toInt (((setP M (339 + 4 * 0) (fun _ _ => false)) 134 2) + ((setP M (339 + 4 * 0) (fun _ _ => false)) 134 4)).toInt (((setP M (339 + 4 * 0) (fun _ _ => false)) 134 3) + ((setP M (339 + 4 * 0) (fun _ _ => false)) 134 4)).toInt (bB (¬ (1 : Int32) = 0)) (gp (setP M (339 + 4 * 0) (fun _ _ => false)) (339 + 4 * 0)))) 128 x y), L, rfl, h⟩
theorem L_Reckoning_takeOnFrom_0 {xs : List Int32} {i1 : Int32} {M : Mem} {L : Int64} {Q : Option Value → Mem → Int64 → Prop} 
    (h : RX xs shL md_Reckoning_takeOnFrom 2 [.ref 336, .null, .int i1] [] M L Q) : RX xs shL md_Reckoning_takeOnFrom 0 [.ref 336, .int i1] [] M L Q := by
  refine r_weak (lv' := [.ref 336, .int i1, .null]) (by repeat (first | exact trivial | refine ⟨rfl, ?_⟩ | exact lle_nil)) ?_
  refine r_iload_n d_Reckoning_takeOnFrom_0 rfl ?_
  refine r_istore_n d_Reckoning_takeOnFrom_1 (by decide) ?_
  refine r_weak (lv' := [.ref 336, .null, .int i1]) (by repeat (first | exact trivial | refine ⟨rfl, ?_⟩ | exact lle_nil)) ?_
  exact h
theorem L_Reckoning_takeOnFrom_2 {xs : List Int32} {i2 : Int32} {M : Mem} {L : Int64} {Q : Option Value → Mem → Int64 → Prop} 
    (h : (((M 134 1) ≤ i2 → Q none M L) ∧ (¬ ((M 134 1) ≤ i2) → (vp_in i2 40 ∧ (vp_in i2 41 ∧ (vp_in (i2 + 1) 41 ∧ RX xs shL md_Row_takeOn 0 [.ref (136 + 5 * i2.toNatClampNeg), .int (M (136 + 5 * i2.toNatClampNeg) 7), .ref (339 + 4 * i2.toNatClampNeg), .ref (339 + 4 * (i2 + 1).toNatClampNeg), .ref 126] [] M L (fun r M_5 L_6 => r = none ∧ RX xs shL md_Reckoning_takeOnFrom 2 [.ref 336, .null, .int (i2 + 1)] [] M_5 L_6 Q))))))) : RX xs shL md_Reckoning_takeOnFrom 2 [.ref 336, .null, .int i2] [] M L Q := by
  refine r_iload_n d_Reckoning_takeOnFrom_2 rfl ?_
  refine r_aload_n d_Reckoning_takeOnFrom_3 rfl ?_
  refine x_getR d_Reckoning_takeOnFrom_4 fl_Reckoning_21 gR_336_2 ?_
  refine x_getI d_Reckoning_takeOnFrom_7 fl_Reckoning_60 gI_134_1 ?_
  refine r_ic_ge d_Reckoning_takeOnFrom_10 (fun c_1 => ?_) (fun c_1 => ?_)
  · have h9 := h.1 c_1
    exact r_vret ⟨d_Reckoning_takeOnFrom_61, rfl⟩ ⟨M, L, rfl, h9⟩
  · have h9 := h.2 c_1
    refine r_aload_n d_Reckoning_takeOnFrom_13 rfl ?_
    refine x_getR d_Reckoning_takeOnFrom_14 fl_Reckoning_21 gR_336_2 ?_
    refine x_getR d_Reckoning_takeOnFrom_17 fl_Reckoning_62 gR_134_0 ?_
    refine r_iload_n d_Reckoning_takeOnFrom_20 rfl ?_
    obtain ⟨o_2, h9⟩ := h9
    refine x_aald d_Reckoning_takeOnFrom_21 aR_135 o_2 ?_
    refine r_aload_n d_Reckoning_takeOnFrom_22 rfl ?_
    refine x_getR d_Reckoning_takeOnFrom_23 fl_Reckoning_21 gR_336_2 ?_
    refine x_getR d_Reckoning_takeOnFrom_26 fl_Reckoning_62 gR_134_0 ?_
    refine r_iload_n d_Reckoning_takeOnFrom_29 rfl ?_
    refine x_aald d_Reckoning_takeOnFrom_30 aR_135 o_2 ?_
    refine x_getI d_Reckoning_takeOnFrom_31 fl_Reckoning_88 (rw_I (vp_lt o_2) 7 (by decide) (by decide)) ?_
    refine r_aload_n d_Reckoning_takeOnFrom_34 rfl ?_
    refine x_getR d_Reckoning_takeOnFrom_35 fl_Reckoning_27 gR_336_3 ?_
    refine r_iload_n d_Reckoning_takeOnFrom_38 rfl ?_
    obtain ⟨o_3, h9⟩ := h9
    refine x_aald d_Reckoning_takeOnFrom_39 aR_337 o_3 ?_
    refine r_aload_n d_Reckoning_takeOnFrom_40 rfl ?_
    refine x_getR d_Reckoning_takeOnFrom_41 fl_Reckoning_27 gR_336_3 ?_
    refine r_iload_n d_Reckoning_takeOnFrom_44 rfl ?_
    refine r_iconst (v := 1) d_Reckoning_takeOnFrom_45 (by decide) ?_
    refine r_iadd d_Reckoning_takeOnFrom_46 ?_
    obtain ⟨o_4, h9⟩ := h9
    refine x_aald d_Reckoning_takeOnFrom_47 aR_337 o_4 ?_
    refine r_aload_n d_Reckoning_takeOnFrom_48 rfl ?_
    refine x_getR d_Reckoning_takeOnFrom_49 fl_Reckoning_11 gR_336_0 ?_
    refine x_callV (as := [.int (M (136 + 5 * i2.toNatClampNeg) 7), .ref (339 + 4 * i2.toNatClampNeg), .ref (339 + 4 * (i2 + 1).toNatClampNeg), .ref 126]) (st := []) d_Reckoning_takeOnFrom_52 ml_Reckoning_211 mc_Row_takeOn mv_Row_takeOn ⟨by decide, by decide⟩ (rw_O (vp_lt o_2)) ⟨_, rfl, rfl⟩ rfl (Nat.le_of_ble_eq_true rfl) (Nat.le_of_ble_eq_true rfl) h9 ?_
    rintro _ M_5 L_6 ⟨rfl, h9⟩
    refine r_iinc (v := i2 + 1) d_Reckoning_takeOnFrom_55 rfl rfl (by decide) ?_
    refine r_goto d_Reckoning_takeOnFrom_58 ?_
    exact h9
theorem L_Reckoning_lookAhead_0 {xs : List Int32}  {M : Mem} {L : Int64} {Q : Option Value → Mem → Int64 → Prop} 
    (h : RX xs shL md_Reckoning_findStart 0 [.ref 336] [] M L (fun r M_1 L_2 => r = none ∧ RX xs shL md_Reckoning_lookAhead 6 [.ref 336, .int 0] [] M_1 L_2 Q)) : RX xs shL md_Reckoning_lookAhead 0 [.ref 336] [] M L Q := by
  refine r_weak (lv' := [.ref 336, .null]) (by repeat (first | exact trivial | refine ⟨rfl, ?_⟩ | exact lle_nil)) ?_
  refine r_aload_n d_Reckoning_lookAhead_0 rfl ?_
  refine x_callV (as := []) (st := []) d_Reckoning_lookAhead_1 ml_Reckoning_53 mc_Reckoning_findStart mv_Reckoning_findStart ⟨by decide, by decide⟩ gO_336 ⟨_, rfl, rfl⟩ rfl (Nat.le_of_ble_eq_true rfl) (Nat.le_of_ble_eq_true rfl) h ?_
  rintro _ M_1 L_2 ⟨rfl, h9⟩
  refine r_iconst (v := 0) d_Reckoning_lookAhead_4 (by decide) ?_
  refine r_istore_n d_Reckoning_lookAhead_5 (by decide) ?_
  exact h9
theorem L_Reckoning_lookAhead_6 {xs : List Int32} {i1 : Int32} {M : Mem} {L : Int64} {Q : Option Value → Mem → Int64 → Prop} 
    (h : (((M 134 1) ≤ i1 → RX xs shL md_Reckoning_takeOnFrom 0 [.ref 336, .int 0] [] M L (fun r M_4 L_5 => r = none ∧ (vp_in (M_4 134 1) 41 ∧ Q (some (.ref (339 + 4 * (M_4 134 1).toNatClampNeg))) M_4 L_5))) ∧ (¬ ((M 134 1) ≤ i1) → (vp_in i1 40 ∧ RX xs shL md_Reckoning_makeReady 0 [.ref 336, .ref (136 + 5 * i1.toNatClampNeg)] [] M L (fun r M_8 L_9 => r = none ∧ RX xs shL md_Reckoning_lookAhead 6 [.ref 336, .int (i1 + 1)] [] M_8 L_9 Q))))) : RX xs shL md_Reckoning_lookAhead 6 [.ref 336, .int i1] [] M L Q := by
  refine r_iload_n d_Reckoning_lookAhead_6 rfl ?_
  refine r_aload_n d_Reckoning_lookAhead_7 rfl ?_
  refine x_getR d_Reckoning_lookAhead_8 fl_Reckoning_21 gR_336_2 ?_
  refine x_getI d_Reckoning_lookAhead_11 fl_Reckoning_60 gI_134_1 ?_
  refine r_ic_ge d_Reckoning_lookAhead_14 (fun c_3 => ?_) (fun c_3 => ?_)
  · have h9 := h.1 c_3
    refine r_aload_n d_Reckoning_lookAhead_36 rfl ?_
    refine r_iconst (v := 0) d_Reckoning_lookAhead_37 (by decide) ?_
    refine x_callV (as := [.int 0]) (st := []) d_Reckoning_lookAhead_38 ml_Reckoning_70 mc_Reckoning_takeOnFrom mv_Reckoning_takeOnFrom ⟨by decide, by decide⟩ gO_336 ⟨_, rfl, rfl⟩ rfl (Nat.le_of_ble_eq_true rfl) (Nat.le_of_ble_eq_true rfl) h9 ?_
    rintro _ M_4 L_5 ⟨rfl, h9⟩
    refine r_aload_n d_Reckoning_lookAhead_41 rfl ?_
    refine x_getR d_Reckoning_lookAhead_42 fl_Reckoning_27 gR_336_3 ?_
    refine r_aload_n d_Reckoning_lookAhead_45 rfl ?_
    refine x_getR d_Reckoning_lookAhead_46 fl_Reckoning_21 gR_336_2 ?_
    refine x_getI d_Reckoning_lookAhead_49 fl_Reckoning_60 gI_134_1 ?_
    obtain ⟨o_6, h9⟩ := h9
    refine x_aald d_Reckoning_lookAhead_52 aR_337 o_6 ?_
    exact r_aret ⟨d_Reckoning_lookAhead_53, _, rfl⟩ ⟨_, _, rfl, h9⟩
  · have h9 := h.2 c_3
    refine r_aload_n d_Reckoning_lookAhead_17 rfl ?_
    refine r_aload_n d_Reckoning_lookAhead_18 rfl ?_
    refine x_getR d_Reckoning_lookAhead_19 fl_Reckoning_21 gR_336_2 ?_
    refine x_getR d_Reckoning_lookAhead_22 fl_Reckoning_62 gR_134_0 ?_
    refine r_iload_n d_Reckoning_lookAhead_25 rfl ?_
    obtain ⟨o_7, h9⟩ := h9
    refine x_aald d_Reckoning_lookAhead_26 aR_135 o_7 ?_
    refine x_callV (as := [.ref (136 + 5 * i1.toNatClampNeg)]) (st := []) d_Reckoning_lookAhead_27 ml_Reckoning_66 mc_Reckoning_makeReady mv_Reckoning_makeReady ⟨by decide, by decide⟩ gO_336 ⟨_, rfl, rfl⟩ rfl (Nat.le_of_ble_eq_true rfl) (Nat.le_of_ble_eq_true rfl) h9 ?_
    rintro _ M_8 L_9 ⟨rfl, h9⟩
    refine r_iinc (v := i1 + 1) d_Reckoning_lookAhead_30 rfl rfl (by decide) ?_
    refine r_goto d_Reckoning_lookAhead_33 ?_
    exact h9
theorem L_Reckoning_lookBack_0 {xs : List Int32}  {M : Mem} {L : Int64} {Q : Option Value → Mem → Int64 → Prop} 
    (h : (vp_in (M 134 1) 41 ∧ RX xs shL md_Reckoning_lookBack 32 [.ref 336, .int (((setP M (341 + 4 * (M 134 1).toNatClampNeg) (gp M 128)) 134 1) - 1)] [] (setP M (341 + 4 * (M 134 1).toNatClampNeg) (gp M 128)) L Q)) : RX xs shL md_Reckoning_lookBack 0 [.ref 336] [] M L Q := by
  refine r_weak (lv' := [.ref 336, .null]) (by repeat (first | exact trivial | refine ⟨rfl, ?_⟩ | exact lle_nil)) ?_
  refine r_aload_n d_Reckoning_lookBack_0 rfl ?_
  refine x_getR d_Reckoning_lookBack_1 fl_Reckoning_31 gR_336_4 ?_
  refine r_aload_n d_Reckoning_lookBack_4 rfl ?_
  refine x_getR d_Reckoning_lookBack_5 fl_Reckoning_21 gR_336_2 ?_
  refine x_getI d_Reckoning_lookBack_8 fl_Reckoning_60 gI_134_1 ?_
  obtain ⟨o_1, h9⟩ := h
  refine x_aald d_Reckoning_lookBack_11 aR_338 o_1 ?_
  refine r_aload_n d_Reckoning_lookBack_12 rfl ?_
  refine x_getR d_Reckoning_lookBack_13 fl_Reckoning_11 gR_336_0 ?_
  refine x_getR d_Reckoning_lookBack_16 fl_Reckoning_130 gR_126_1 ?_
  refine x_callV (as := [.ref 128]) (st := []) d_Reckoning_lookBack_19 ml_Reckoning_81 mc_Patch_copy mv_Patch_copy ⟨by decide, by decide⟩ (isP_O (isP_back (vp_lt o_1))) ⟨_, rfl, rfl⟩ rfl (Nat.le_of_ble_eq_true rfl) (Nat.le_of_ble_eq_true rfl) (Q1 := fun r M1 L1 => none = r ∧ setP M (341 + 4 * (M 134 1).toNatClampNeg) (gp M 128) = M1 ∧ L = L1) (t_copy (isP_back (vp_lt o_1)) isP_128 ⟨rfl, rfl, rfl⟩) ?_
  rintro _ _ _ ⟨rfl, rfl, rfl⟩
  refine r_aload_n d_Reckoning_lookBack_22 rfl ?_
  refine x_getR d_Reckoning_lookBack_23 fl_Reckoning_21 gR_336_2 ?_
  refine x_getI d_Reckoning_lookBack_26 fl_Reckoning_60 gI_134_1 ?_
  refine r_iconst (v := 1) d_Reckoning_lookBack_29 (by decide) ?_
  refine r_isub d_Reckoning_lookBack_30 ?_
  refine r_istore_n d_Reckoning_lookBack_31 (by decide) ?_
  exact h9
theorem L_Reckoning_lookBack_32 {xs : List Int32} {i1 : Int32} {M : Mem} {L : Int64} {Q : Option Value → Mem → Int64 → Prop} 
    (h : ((i1 < 0 → Q none M L) ∧ (¬ (i1 < 0) → (vp_in i1 40 ∧ (vp_in (i1 + 1) 41 ∧ (vp_in i1 41 ∧ RX xs shL md_Row_takeBack 0 [.ref (136 + 5 * i1.toNatClampNeg), .ref (341 + 4 * (i1 + 1).toNatClampNeg), .ref (341 + 4 * i1.toNatClampNeg), .ref 126] [] M L (fun r M_6 L_7 => r = none ∧ RX xs shL md_Reckoning_lookBack 32 [.ref 336, .int (i1 + (-1))] [] M_6 L_7 Q))))))) : RX xs shL md_Reckoning_lookBack 32 [.ref 336, .int i1] [] M L Q := by
  refine r_iload_n d_Reckoning_lookBack_32 rfl ?_
  refine r_if_lt d_Reckoning_lookBack_33 (fun c_2 => ?_) (fun c_2 => ?_)
  · have h9 := h.1 c_2
    exact r_vret ⟨d_Reckoning_lookBack_72, rfl⟩ ⟨M, L, rfl, h9⟩
  · have h9 := h.2 c_2
    refine r_aload_n d_Reckoning_lookBack_36 rfl ?_
    refine x_getR d_Reckoning_lookBack_37 fl_Reckoning_21 gR_336_2 ?_
    refine x_getR d_Reckoning_lookBack_40 fl_Reckoning_62 gR_134_0 ?_
    refine r_iload_n d_Reckoning_lookBack_43 rfl ?_
    obtain ⟨o_3, h9⟩ := h9
    refine x_aald d_Reckoning_lookBack_44 aR_135 o_3 ?_
    refine r_aload_n d_Reckoning_lookBack_45 rfl ?_
    refine x_getR d_Reckoning_lookBack_46 fl_Reckoning_31 gR_336_4 ?_
    refine r_iload_n d_Reckoning_lookBack_49 rfl ?_
    refine r_iconst (v := 1) d_Reckoning_lookBack_50 (by decide) ?_
    refine r_iadd d_Reckoning_lookBack_51 ?_
    obtain ⟨o_4, h9⟩ := h9
    refine x_aald d_Reckoning_lookBack_52 aR_338 o_4 ?_
    refine r_aload_n d_Reckoning_lookBack_53 rfl ?_
    refine x_getR d_Reckoning_lookBack_54 fl_Reckoning_31 gR_336_4 ?_
    refine r_iload_n d_Reckoning_lookBack_57 rfl ?_
    obtain ⟨o_5, h9⟩ := h9
    refine x_aald d_Reckoning_lookBack_58 aR_338 o_5 ?_
    refine r_aload_n d_Reckoning_lookBack_59 rfl ?_
    refine x_getR d_Reckoning_lookBack_60 fl_Reckoning_11 gR_336_0 ?_
    refine x_callV (as := [.ref (341 + 4 * (i1 + 1).toNatClampNeg), .ref (341 + 4 * i1.toNatClampNeg), .ref 126]) (st := []) d_Reckoning_lookBack_63 ml_Reckoning_215 mc_Row_takeBack mv_Row_takeBack ⟨by decide, by decide⟩ (rw_O (vp_lt o_3)) ⟨_, rfl, rfl⟩ rfl (Nat.le_of_ble_eq_true rfl) (Nat.le_of_ble_eq_true rfl) h9 ?_
    rintro _ M_6 L_7 ⟨rfl, h9⟩
    refine r_iinc (v := i1 + (-1)) d_Reckoning_lookBack_66 rfl rfl (by decide) ?_
    refine r_goto d_Reckoning_lookBack_69 ?_
    exact h9
theorem L_Reckoning_startCells_0 {xs : List Int32}  {M : Mem} {L : Int64} {Q : Option Value → Mem → Int64 → Prop} 
    (h : RX xs shL md_Reckoning_findStart 0 [.ref 336] [] M L (fun r M_1 L_2 => r = none ∧ RX xs shL md_Patch_size 0 [.ref (339 + 4 * 0)] [] M_1 L_2 (fun r M_3 L_4 => ∃ v_5 : Int32, r = some (.int v_5) ∧ Q (some (.int v_5)) M_3 L_4))) : RX xs shL md_Reckoning_startCells 0 [.ref 336] [] M L Q := by
  refine r_aload_n d_Reckoning_startCells_0 rfl ?_
  refine x_callV (as := []) (st := []) d_Reckoning_startCells_1 ml_Reckoning_53 mc_Reckoning_findStart mv_Reckoning_findStart ⟨by decide, by decide⟩ gO_336 ⟨_, rfl, rfl⟩ rfl (Nat.le_of_ble_eq_true rfl) (Nat.le_of_ble_eq_true rfl) h ?_
  rintro _ M_1 L_2 ⟨rfl, h9⟩
  refine r_aload_n d_Reckoning_startCells_4 rfl ?_
  refine x_getR d_Reckoning_startCells_5 fl_Reckoning_27 gR_336_3 ?_
  refine r_iconst (v := 0) d_Reckoning_startCells_8 (by decide) ?_
  refine x_aald d_Reckoning_startCells_9 aR_337 (by unfold vp_in; decide) ?_
  refine x_callV (as := []) (st := []) d_Reckoning_startCells_10 ml_Reckoning_56 mc_Patch_size mv_Patch_size ⟨by decide, by decide⟩ (isP_O (isP_ahead (vp_lt (by unfold vp_in; decide)))) ⟨_, rfl, rfl⟩ rfl (Nat.le_of_ble_eq_true rfl) (Nat.le_of_ble_eq_true rfl) h9 ?_
  rintro _ M_3 L_4 ⟨v_5, rfl, h9⟩
  exact r_iret ⟨d_Reckoning_startCells_13, _, rfl, rfl⟩ ⟨_, _, rfl, h9⟩
theorem L_Reckoning_seenFromEnd_0 {xs : List Int32} {i1 : Int32} {M : Mem} {L : Int64} {Q : Option Value → Mem → Int64 → Prop} 
    (h : RX xs shL md_Reckoning_lookAhead 0 [.ref 336] [] M L (fun r M_1 L_2 => ∃ b_3 : Nat, r = some (.ref b_3) ∧ isP shL b_3 ∧ RX xs shL md_Reckoning_lookBack 0 [.ref 336] [] M_1 L_2 (fun r M_4 L_5 => r = none ∧ (vp_in i1 41 ∧ Q (some (.ref 503)) (setP (setP M_4 503 (gp M_4 (339 + 4 * i1.toNatClampNeg))) 503 (fun x y => gp (setP M_4 503 (gp M_4 (339 + 4 * i1.toNatClampNeg))) 503 x y && gp (setP M_4 503 (gp M_4 (339 + 4 * i1.toNatClampNeg))) (341 + 4 * i1.toNatClampNeg) x y)) L_5)))) : RX xs shL md_Reckoning_seenFromEnd 0 [.ref 336, .int i1] [] M L Q := by
  refine r_aload_n d_Reckoning_seenFromEnd_0 rfl ?_
  refine x_callV (as := []) (st := []) d_Reckoning_seenFromEnd_1 ml_Reckoning_74 mc_Reckoning_lookAhead mv_Reckoning_lookAhead ⟨by decide, by decide⟩ gO_336 ⟨_, rfl, rfl⟩ rfl (Nat.le_of_ble_eq_true rfl) (Nat.le_of_ble_eq_true rfl) h ?_
  rintro _ M_1 L_2 ⟨b_3, rfl, hbb_3, h9⟩
  refine r_pop d_Reckoning_seenFromEnd_4 rfl ?_
  refine r_aload_n d_Reckoning_seenFromEnd_5 rfl ?_
  refine x_callV (as := []) (st := []) d_Reckoning_seenFromEnd_6 ml_Reckoning_78 mc_Reckoning_lookBack mv_Reckoning_lookBack ⟨by decide, by decide⟩ gO_336 ⟨_, rfl, rfl⟩ rfl (Nat.le_of_ble_eq_true rfl) (Nat.le_of_ble_eq_true rfl) h9 ?_
  rintro _ M_4 L_5 ⟨rfl, h9⟩
  refine r_aload_n d_Reckoning_seenFromEnd_9 rfl ?_
  refine x_getR d_Reckoning_seenFromEnd_10 fl_Reckoning_35 gR_336_5 ?_
  refine r_aload_n d_Reckoning_seenFromEnd_13 rfl ?_
  refine x_getR d_Reckoning_seenFromEnd_14 fl_Reckoning_27 gR_336_3 ?_
  refine r_iload_n d_Reckoning_seenFromEnd_17 rfl ?_
  obtain ⟨o_6, h9⟩ := h9
  refine x_aald d_Reckoning_seenFromEnd_18 aR_337 o_6 ?_
  refine x_callV (as := [.ref (339 + 4 * i1.toNatClampNeg)]) (st := []) d_Reckoning_seenFromEnd_19 ml_Reckoning_81 mc_Patch_copy mv_Patch_copy ⟨by decide, by decide⟩ (isP_O isP_503) ⟨_, rfl, rfl⟩ rfl (Nat.le_of_ble_eq_true rfl) (Nat.le_of_ble_eq_true rfl) (Q1 := fun r M1 L1 => none = r ∧ setP M_4 503 (gp M_4 (339 + 4 * i1.toNatClampNeg)) = M1 ∧ L_5 = L1) (t_copy isP_503 (isP_ahead (vp_lt o_6)) ⟨rfl, rfl, rfl⟩) ?_
  rintro _ _ _ ⟨rfl, rfl, rfl⟩
  refine r_aload_n d_Reckoning_seenFromEnd_22 rfl ?_
  refine x_getR d_Reckoning_seenFromEnd_23 fl_Reckoning_35 gR_336_5 ?_
  refine r_aload_n d_Reckoning_seenFromEnd_26 rfl ?_
  refine x_getR d_Reckoning_seenFromEnd_27 fl_Reckoning_31 gR_336_4 ?_
  refine r_iload_n d_Reckoning_seenFromEnd_30 rfl ?_
  refine x_aald d_Reckoning_seenFromEnd_31 aR_338 o_6 ?_
  refine x_callV (as := [.ref (341 + 4 * i1.toNatClampNeg)]) (st := []) d_Reckoning_seenFromEnd_32 ml_Reckoning_85 mc_Patch_cutTo mv_Patch_cutTo ⟨by decide, by decide⟩ (isP_O isP_503) ⟨_, rfl, rfl⟩ rfl (Nat.le_of_ble_eq_true rfl) (Nat.le_of_ble_eq_true rfl) (Q1 := fun r M1 L1 => none = r ∧ setP (setP M_4 503 (gp M_4 (339 + 4 * i1.toNatClampNeg))) 503 (fun x y => gp (setP M_4 503 (gp M_4 (339 + 4 * i1.toNatClampNeg))) 503 x y && gp (setP M_4 503 (gp M_4 (339 + 4 * i1.toNatClampNeg))) (341 + 4 * i1.toNatClampNeg) x y) = M1 ∧ L_5 = L1) (t_cutTo isP_503 (isP_back (vp_lt o_6)) ⟨rfl, rfl, rfl⟩) ?_
  rintro _ _ _ ⟨rfl, rfl, rfl⟩
  refine r_aload_n d_Reckoning_seenFromEnd_35 rfl ?_
  refine x_getR d_Reckoning_seenFromEnd_36 fl_Reckoning_35 gR_336_5 ?_
  exact r_aret ⟨d_Reckoning_seenFromEnd_39, _, rfl⟩ ⟨_, _, rfl, h9⟩
theorem L_Reckoning_lookAheadBy_0 {xs : List Int32} {i1 : Int32} {i2 : Int32} {i3 : Int32} {M : Mem} {L : Int64} {Q : Option Value → Mem → Int64 → Prop} 
    (h : RX xs shL md_Reckoning_lookAheadBy 20 [.ref 336, .int i1, .int i2, .int i3, .int (M 134 1), .int ((M 134 1) - 1), .null, .null] [] M L Q) : RX xs shL md_Reckoning_lookAheadBy 0 [.ref 336, .int i1, .int i2, .int i3] [] M L Q := by
  refine r_weak (lv' := [.ref 336, .int i1, .int i2, .int i3, .null, .null, .null, .null]) (by repeat (first | exact trivial | refine ⟨rfl, ?_⟩ | exact lle_nil)) ?_
  refine r_aload_n d_Reckoning_lookAheadBy_0 rfl ?_
  refine x_getR d_Reckoning_lookAheadBy_1 fl_Reckoning_21 gR_336_2 ?_
  refine x_getI d_Reckoning_lookAheadBy_4 fl_Reckoning_60 gI_134_1 ?_
  refine r_istore d_Reckoning_lookAheadBy_7 (by decide) ?_
  refine r_aload_n d_Reckoning_lookAheadBy_9 rfl ?_
  refine x_getR d_Reckoning_lookAheadBy_10 fl_Reckoning_21 gR_336_2 ?_
  refine x_getI d_Reckoning_lookAheadBy_13 fl_Reckoning_60 gI_134_1 ?_
  refine r_iconst (v := 1) d_Reckoning_lookAheadBy_16 (by decide) ?_
  refine r_isub d_Reckoning_lookAheadBy_17 ?_
  refine r_istore d_Reckoning_lookAheadBy_18 (by decide) ?_
  exact h
set_option maxHeartbeats 4000000 in
theorem L_Reckoning_lookAheadBy_20 {xs : List Int32} {i1 : Int32} {i2 : Int32} {i3 : Int32} {i4 : Int32} {i5 : Int32} {M : Mem} {L : Int64} {Q : Option Value → Mem → Int64 → Prop} 
    (h : ((i5 < 0 → RX xs shL md_Reckoning_takeOnFrom 0 [.ref 336, .int i4] [] M L (fun r M_2 L_3 => r = none ∧ (vp_in (M_2 134 1) 41 ∧ Q (some (.ref (339 + 4 * (M_2 134 1).toNatClampNeg))) M_2 L_3))) ∧ (¬ (i5 < 0) → (vp_in i5 40 ∧ (((¬ M (136 + 5 * i5.toNatClampNeg) 3 = -1) → (((M (136 + 5 * i5.toNatClampNeg) 7) = 0 → RX xs shL md_Reckoning_lookAheadBy 20 [.ref 336, .int i1, .int i2, .int i3, .int i4, .int (i5 + (-1)), .null, .null] [] M L Q) ∧ (¬ ((M (136 + 5 * i5.toNatClampNeg) 7) = 0) → (vp_in (M (136 + 5 * i5.toNatClampNeg) 3) 24 ∧ (((M (6 + 5 * (M (136 + 5 * i5.toNatClampNeg) 3).toNatClampNeg) 6) = i2 → (((1 : Int32) = 0 → RX xs shL md_Reckoning_stretchCounted 0 [.ref 336, .ref (136 + 5 * i5.toNatClampNeg), .int i1, .int 0] [] M L (fun r M_20 L_21 => ∃ v_22 : Int32, r = some (.int v_22) ∧ ((v_22 = 0 → RX xs shL md_Reckoning_lookAheadBy 20 [.ref 336, .int i1, .int i2, .int i3, .int i4, .int (i5 + (-1)), .null, .null] [] M_20 L_21 Q) ∧ (¬ (v_22 = 0) → RX xs shL md_Reckoning_lookAheadBy 20 [.ref 336, .int i1, .int i2, .int i3, .int i5, .int (i5 + (-1)), .null, .null] [] M_20 L_21 Q)))) ∧ (¬ ((1 : Int32) = 0) → RX xs shL md_Reckoning_stretchCounted 0 [.ref 336, .ref (136 + 5 * i5.toNatClampNeg), .int i1, .int i3] [] M L (fun r M_24 L_25 => ∃ v_26 : Int32, r = some (.int v_26) ∧ ((v_26 = 0 → RX xs shL md_Reckoning_lookAheadBy 20 [.ref 336, .int i1, .int i2, .int i3, .int i4, .int (i5 + (-1)), .null, .null] [] M_24 L_25 Q) ∧ (¬ (v_26 = 0) → RX xs shL md_Reckoning_lookAheadBy 20 [.ref 336, .int i1, .int i2, .int i3, .int i5, .int (i5 + (-1)), .null, .null] [] M_24 L_25 Q)))))) ∧ (¬ ((M (6 + 5 * (M (136 + 5 * i5.toNatClampNeg) 3).toNatClampNeg) 6) = i2) → (((0 : Int32) = 0 → RX xs shL md_Reckoning_stretchCounted 0 [.ref 336, .ref (136 + 5 * i5.toNatClampNeg), .int i1, .int 0] [] M L (fun r M_11 L_12 => ∃ v_13 : Int32, r = some (.int v_13) ∧ ((v_13 = 0 → RX xs shL md_Reckoning_lookAheadBy 20 [.ref 336, .int i1, .int i2, .int i3, .int i4, .int (i5 + (-1)), .null, .null] [] M_11 L_12 Q) ∧ (¬ (v_13 = 0) → RX xs shL md_Reckoning_lookAheadBy 20 [.ref 336, .int i1, .int i2, .int i3, .int i5, .int (i5 + (-1)), .null, .null] [] M_11 L_12 Q)))) ∧ (¬ ((0 : Int32) = 0) → RX xs shL md_Reckoning_stretchCounted 0 [.ref 336, .ref (136 + 5 * i5.toNatClampNeg), .int i1, .int i3] [] M L (fun r M_15 L_16 => ∃ v_17 : Int32, r = some (.int v_17) ∧ ((v_17 = 0 → RX xs shL md_Reckoning_lookAheadBy 20 [.ref 336, .int i1, .int i2, .int i3, .int i4, .int (i5 + (-1)), .null, .null] [] M_15 L_16 Q) ∧ (¬ (v_17 = 0) → RX xs shL md_Reckoning_lookAheadBy 20 [.ref 336, .int i1, .int i2, .int i3, .int i5, .int (i5 + (-1)), .null, .null] [] M_15 L_16 Q))))))))))) ∧ (¬ (¬ M (136 + 5 * i5.toNatClampNeg) 3 = -1) → RX xs shL md_Reckoning_lookAheadBy 20 [.ref 336, .int i1, .int i2, .int i3, .int i4, .int (i5 + (-1)), .null, .null] [] M L Q)))))) : RX xs shL md_Reckoning_lookAheadBy 20 [.ref 336, .int i1, .int i2, .int i3, .int i4, .int i5, .null, .null] [] M L Q := by
  refine r_iload d_Reckoning_lookAheadBy_20 rfl ?_
  refine r_if_lt d_Reckoning_lookAheadBy_22 (fun c_1 => ?_) (fun c_1 => ?_)
  · have h9 := h.1 c_1
    refine r_aload_n d_Reckoning_lookAheadBy_110 rfl ?_
    refine r_iload d_Reckoning_lookAheadBy_111 rfl ?_
    refine x_callV (as := [.int i4]) (st := []) d_Reckoning_lookAheadBy_113 ml_Reckoning_70 mc_Reckoning_takeOnFrom mv_Reckoning_takeOnFrom ⟨by decide, by decide⟩ gO_336 ⟨_, rfl, rfl⟩ rfl (Nat.le_of_ble_eq_true rfl) (Nat.le_of_ble_eq_true rfl) h9 ?_
    rintro _ M_2 L_3 ⟨rfl, h9⟩
    refine r_aload_n d_Reckoning_lookAheadBy_116 rfl ?_
    refine x_getR d_Reckoning_lookAheadBy_117 fl_Reckoning_27 gR_336_3 ?_
    refine r_aload_n d_Reckoning_lookAheadBy_120 rfl ?_
    refine x_getR d_Reckoning_lookAheadBy_121 fl_Reckoning_21 gR_336_2 ?_
    refine x_getI d_Reckoning_lookAheadBy_124 fl_Reckoning_60 gI_134_1 ?_
    obtain ⟨o_4, h9⟩ := h9
    refine x_aald d_Reckoning_lookAheadBy_127 aR_337 o_4 ?_
    exact r_aret ⟨d_Reckoning_lookAheadBy_128, _, rfl⟩ ⟨_, _, rfl, h9⟩
  · have h9 := h.2 c_1
    refine r_aload_n d_Reckoning_lookAheadBy_25 rfl ?_
    refine x_getR d_Reckoning_lookAheadBy_26 fl_Reckoning_21 gR_336_2 ?_
    refine x_getR d_Reckoning_lookAheadBy_29 fl_Reckoning_62 gR_134_0 ?_
    refine r_iload d_Reckoning_lookAheadBy_32 rfl ?_
    obtain ⟨o_5, h9⟩ := h9
    refine x_aald d_Reckoning_lookAheadBy_34 aR_135 o_5 ?_
    refine r_astore d_Reckoning_lookAheadBy_35 (by decide) ?_
    refine r_aload d_Reckoning_lookAheadBy_37 rfl ?_
    refine x_callV (as := []) (st := []) d_Reckoning_lookAheadBy_39 ml_Reckoning_135 mc_Row_isWatch mv_Row_isWatch ⟨by decide, by decide⟩ (rw_O (vp_lt o_5)) ⟨_, rfl, rfl⟩ rfl (Nat.le_of_ble_eq_true rfl) (Nat.le_of_ble_eq_true rfl) (Q1 := fun r M1 L1 => some (.int (bI (¬ M (136 + 5 * i5.toNatClampNeg) 3 = -1))) = r ∧ M = M1 ∧ L = L1) (s_Row_isWatch (vp_lt o_5) ⟨rfl, rfl, rfl⟩) ?_
    rintro _ _ _ ⟨rfl, rfl, rfl⟩
    refine r_if_eq d_Reckoning_lookAheadBy_42 (fun c_6 => ?_) (fun c_6 => ?_)
    · have h9 := h9.2 (bI_p0 c_6)
      refine r_iinc (v := i5 + (-1)) d_Reckoning_lookAheadBy_104 rfl rfl (by decide) ?_
      refine r_goto d_Reckoning_lookAheadBy_107 ?_
      refine r_weak (lv' := [.ref 336, .int i1, .int i2, .int i3, .int i4, .int (i5 + (-1)), .null, .null]) (by repeat (first | exact trivial | refine ⟨rfl, ?_⟩ | exact lle_nil)) ?_
      exact h9
    · have h9 := h9.1 (bI_p1 c_6)
      refine r_aload d_Reckoning_lookAheadBy_45 rfl ?_
      refine x_getI d_Reckoning_lookAheadBy_47 fl_Reckoning_88 (rw_I (vp_lt o_5) 7 (by decide) (by decide)) ?_
      refine r_if_eq d_Reckoning_lookAheadBy_50 (fun c_7 => ?_) (fun c_7 => ?_)
      · have h9 := h9.1 c_7
        refine r_iinc (v := i5 + (-1)) d_Reckoning_lookAheadBy_104 rfl rfl (by decide) ?_
        refine r_goto d_Reckoning_lookAheadBy_107 ?_
        refine r_weak (lv' := [.ref 336, .int i1, .int i2, .int i3, .int i4, .int (i5 + (-1)), .null, .null]) (by repeat (first | exact trivial | refine ⟨rfl, ?_⟩ | exact lle_nil)) ?_
        exact h9
      · have h9 := h9.2 c_7
        refine r_aload_n d_Reckoning_lookAheadBy_53 rfl ?_
        refine x_getR d_Reckoning_lookAheadBy_54 fl_Reckoning_17 gR_336_1 ?_
        refine x_getR d_Reckoning_lookAheadBy_57 fl_Reckoning_147 gR_4_0 ?_
        refine r_aload d_Reckoning_lookAheadBy_60 rfl ?_
        refine x_getI d_Reckoning_lookAheadBy_62 fl_Reckoning_153 (rw_I (vp_lt o_5) 3 (by decide) (by decide)) ?_
        obtain ⟨o_8, h9⟩ := h9
        refine x_aald d_Reckoning_lookAheadBy_65 aR_5 o_8 ?_
        refine x_getI d_Reckoning_lookAheadBy_66 fl_Reckoning_208 (wt_I (vp_lt o_8) 6 (by decide) (by decide)) ?_
        refine r_iload_n d_Reckoning_lookAheadBy_69 rfl ?_
        refine r_ic_ne d_Reckoning_lookAheadBy_70 (fun c_9 => ?_) (fun c_9 => ?_)
        · have h9 := h9.2 c_9
          refine r_iconst (v := 0) d_Reckoning_lookAheadBy_77 (by decide) ?_
          refine r_istore d_Reckoning_lookAheadBy_78 (by decide) ?_
          refine r_aload_n d_Reckoning_lookAheadBy_80 rfl ?_
          refine r_aload d_Reckoning_lookAheadBy_81 rfl ?_
          refine r_iload_n d_Reckoning_lookAheadBy_83 rfl ?_
          refine r_iload d_Reckoning_lookAheadBy_84 rfl ?_
          refine r_if_eq d_Reckoning_lookAheadBy_86 (fun c_10 => ?_) (fun c_10 => ?_)
          · have h9 := h9.1 c_10
            refine r_iconst (v := 0) d_Reckoning_lookAheadBy_93 (by decide) ?_
            refine x_callV (as := [.ref (136 + 5 * i5.toNatClampNeg), .int i1, .int 0]) (st := []) d_Reckoning_lookAheadBy_94 ml_Reckoning_139 mc_Reckoning_stretchCounted mv_Reckoning_stretchCounted ⟨by decide, by decide⟩ gO_336 ⟨_, rfl, rfl⟩ rfl (Nat.le_of_ble_eq_true rfl) (Nat.le_of_ble_eq_true rfl) h9 ?_
            rintro _ M_11 L_12 ⟨v_13, rfl, h9⟩
            refine r_if_eq d_Reckoning_lookAheadBy_97 (fun c_14 => ?_) (fun c_14 => ?_)
            · have h9 := h9.1 c_14
              refine r_iinc (v := i5 + (-1)) d_Reckoning_lookAheadBy_104 rfl rfl (by decide) ?_
              refine r_goto d_Reckoning_lookAheadBy_107 ?_
              refine r_weak (lv' := [.ref 336, .int i1, .int i2, .int i3, .int i4, .int (i5 + (-1)), .null, .null]) (by repeat (first | exact trivial | refine ⟨rfl, ?_⟩ | exact lle_nil)) ?_
              exact h9
            · have h9 := h9.2 c_14
              refine r_iload d_Reckoning_lookAheadBy_100 rfl ?_
              refine r_istore d_Reckoning_lookAheadBy_102 (by decide) ?_
              refine r_iinc (v := i5 + (-1)) d_Reckoning_lookAheadBy_104 rfl rfl (by decide) ?_
              refine r_goto d_Reckoning_lookAheadBy_107 ?_
              refine r_weak (lv' := [.ref 336, .int i1, .int i2, .int i3, .int i5, .int (i5 + (-1)), .null, .null]) (by repeat (first | exact trivial | refine ⟨rfl, ?_⟩ | exact lle_nil)) ?_
              exact h9
          · have h9 := h9.2 c_10
            refine r_iload_n d_Reckoning_lookAheadBy_89 rfl ?_
            refine r_goto d_Reckoning_lookAheadBy_90 ?_
            refine x_callV (as := [.ref (136 + 5 * i5.toNatClampNeg), .int i1, .int i3]) (st := []) d_Reckoning_lookAheadBy_94 ml_Reckoning_139 mc_Reckoning_stretchCounted mv_Reckoning_stretchCounted ⟨by decide, by decide⟩ gO_336 ⟨_, rfl, rfl⟩ rfl (Nat.le_of_ble_eq_true rfl) (Nat.le_of_ble_eq_true rfl) h9 ?_
            rintro _ M_15 L_16 ⟨v_17, rfl, h9⟩
            refine r_if_eq d_Reckoning_lookAheadBy_97 (fun c_18 => ?_) (fun c_18 => ?_)
            · have h9 := h9.1 c_18
              refine r_iinc (v := i5 + (-1)) d_Reckoning_lookAheadBy_104 rfl rfl (by decide) ?_
              refine r_goto d_Reckoning_lookAheadBy_107 ?_
              refine r_weak (lv' := [.ref 336, .int i1, .int i2, .int i3, .int i4, .int (i5 + (-1)), .null, .null]) (by repeat (first | exact trivial | refine ⟨rfl, ?_⟩ | exact lle_nil)) ?_
              exact h9
            · have h9 := h9.2 c_18
              refine r_iload d_Reckoning_lookAheadBy_100 rfl ?_
              refine r_istore d_Reckoning_lookAheadBy_102 (by decide) ?_
              refine r_iinc (v := i5 + (-1)) d_Reckoning_lookAheadBy_104 rfl rfl (by decide) ?_
              refine r_goto d_Reckoning_lookAheadBy_107 ?_
              refine r_weak (lv' := [.ref 336, .int i1, .int i2, .int i3, .int i5, .int (i5 + (-1)), .null, .null]) (by repeat (first | exact trivial | refine ⟨rfl, ?_⟩ | exact lle_nil)) ?_
              exact h9
        · have h9 := h9.1 c_9
          refine r_iconst (v := 1) d_Reckoning_lookAheadBy_73 (by decide) ?_
          refine r_goto d_Reckoning_lookAheadBy_74 ?_
          refine r_istore d_Reckoning_lookAheadBy_78 (by decide) ?_
          refine r_aload_n d_Reckoning_lookAheadBy_80 rfl ?_
          refine r_aload d_Reckoning_lookAheadBy_81 rfl ?_
          refine r_iload_n d_Reckoning_lookAheadBy_83 rfl ?_
          refine r_iload d_Reckoning_lookAheadBy_84 rfl ?_
          refine r_if_eq d_Reckoning_lookAheadBy_86 (fun c_19 => ?_) (fun c_19 => ?_)
          · have h9 := h9.1 c_19
            refine r_iconst (v := 0) d_Reckoning_lookAheadBy_93 (by decide) ?_
            refine x_callV (as := [.ref (136 + 5 * i5.toNatClampNeg), .int i1, .int 0]) (st := []) d_Reckoning_lookAheadBy_94 ml_Reckoning_139 mc_Reckoning_stretchCounted mv_Reckoning_stretchCounted ⟨by decide, by decide⟩ gO_336 ⟨_, rfl, rfl⟩ rfl (Nat.le_of_ble_eq_true rfl) (Nat.le_of_ble_eq_true rfl) h9 ?_
            rintro _ M_20 L_21 ⟨v_22, rfl, h9⟩
            refine r_if_eq d_Reckoning_lookAheadBy_97 (fun c_23 => ?_) (fun c_23 => ?_)
            · have h9 := h9.1 c_23
              refine r_iinc (v := i5 + (-1)) d_Reckoning_lookAheadBy_104 rfl rfl (by decide) ?_
              refine r_goto d_Reckoning_lookAheadBy_107 ?_
              refine r_weak (lv' := [.ref 336, .int i1, .int i2, .int i3, .int i4, .int (i5 + (-1)), .null, .null]) (by repeat (first | exact trivial | refine ⟨rfl, ?_⟩ | exact lle_nil)) ?_
              exact h9
            · have h9 := h9.2 c_23
              refine r_iload d_Reckoning_lookAheadBy_100 rfl ?_
              refine r_istore d_Reckoning_lookAheadBy_102 (by decide) ?_
              refine r_iinc (v := i5 + (-1)) d_Reckoning_lookAheadBy_104 rfl rfl (by decide) ?_
              refine r_goto d_Reckoning_lookAheadBy_107 ?_
              refine r_weak (lv' := [.ref 336, .int i1, .int i2, .int i3, .int i5, .int (i5 + (-1)), .null, .null]) (by repeat (first | exact trivial | refine ⟨rfl, ?_⟩ | exact lle_nil)) ?_
              exact h9
          · have h9 := h9.2 c_19
            refine r_iload_n d_Reckoning_lookAheadBy_89 rfl ?_
            refine r_goto d_Reckoning_lookAheadBy_90 ?_
            refine x_callV (as := [.ref (136 + 5 * i5.toNatClampNeg), .int i1, .int i3]) (st := []) d_Reckoning_lookAheadBy_94 ml_Reckoning_139 mc_Reckoning_stretchCounted mv_Reckoning_stretchCounted ⟨by decide, by decide⟩ gO_336 ⟨_, rfl, rfl⟩ rfl (Nat.le_of_ble_eq_true rfl) (Nat.le_of_ble_eq_true rfl) h9 ?_
            rintro _ M_24 L_25 ⟨v_26, rfl, h9⟩
            refine r_if_eq d_Reckoning_lookAheadBy_97 (fun c_27 => ?_) (fun c_27 => ?_)
            · have h9 := h9.1 c_27
              refine r_iinc (v := i5 + (-1)) d_Reckoning_lookAheadBy_104 rfl rfl (by decide) ?_
              refine r_goto d_Reckoning_lookAheadBy_107 ?_
              refine r_weak (lv' := [.ref 336, .int i1, .int i2, .int i3, .int i4, .int (i5 + (-1)), .null, .null]) (by repeat (first | exact trivial | refine ⟨rfl, ?_⟩ | exact lle_nil)) ?_
              exact h9
            · have h9 := h9.2 c_27
              refine r_iload d_Reckoning_lookAheadBy_100 rfl ?_
              refine r_istore d_Reckoning_lookAheadBy_102 (by decide) ?_
              refine r_iinc (v := i5 + (-1)) d_Reckoning_lookAheadBy_104 rfl rfl (by decide) ?_
              refine r_goto d_Reckoning_lookAheadBy_107 ?_
              refine r_weak (lv' := [.ref 336, .int i1, .int i2, .int i3, .int i5, .int (i5 + (-1)), .null, .null]) (by repeat (first | exact trivial | refine ⟨rfl, ?_⟩ | exact lle_nil)) ?_
              exact h9
theorem L_Reckoning_leadsOnWithout_0 {xs : List Int32} {i1 : Int32} {p2 : Nat} {p3 : Nat} {M : Mem} {L : Int64} {Q : Option Value → Mem → Int64 → Prop} (hp2 : isP shL p2) (hp3 : isP shL p3)
    (h : (vp_in i1 40 ∧ RX xs shL md_Row_takeOn 0 [.ref (136 + 5 * i1.toNatClampNeg), .int 0, .ref p2, .ref p3, .ref 126] [] M L (fun r M_2 L_3 => r = none ∧ (vp_in (i1 + 1) 41 ∧ Q (some (.int (bI (∃ x y, y < 20 ∧ x < 32 ∧ gp M_2 p3 x y = true ∧ gp M_2 (341 + 4 * (i1 + 1).toNatClampNeg) x y = true)))) M_2 L_3)))) : RX xs shL md_Reckoning_leadsOnWithout 0 [.ref 336, .int i1, .ref p2, .ref p3] [] M L Q := by
  refine r_aload_n d_Reckoning_leadsOnWithout_0 rfl ?_
  refine x_getR d_Reckoning_leadsOnWithout_1 fl_Reckoning_21 gR_336_2 ?_
  refine x_getR d_Reckoning_leadsOnWithout_4 fl_Reckoning_62 gR_134_0 ?_
  refine r_iload_n d_Reckoning_leadsOnWithout_7 rfl ?_
  obtain ⟨o_1, h9⟩ := h
  refine x_aald d_Reckoning_leadsOnWithout_8 aR_135 o_1 ?_
  refine r_iconst (v := 0) d_Reckoning_leadsOnWithout_9 (by decide) ?_
  refine r_aload_n d_Reckoning_leadsOnWithout_10 rfl ?_
  refine r_aload_n d_Reckoning_leadsOnWithout_11 rfl ?_
  refine r_aload_n d_Reckoning_leadsOnWithout_12 rfl ?_
  refine x_getR d_Reckoning_leadsOnWithout_13 fl_Reckoning_11 gR_336_0 ?_
  refine x_callV (as := [.int 0, .ref p2, .ref p3, .ref 126]) (st := []) d_Reckoning_leadsOnWithout_16 ml_Reckoning_211 mc_Row_takeOn mv_Row_takeOn ⟨by decide, by decide⟩ (rw_O (vp_lt o_1)) ⟨_, rfl, rfl⟩ rfl (Nat.le_of_ble_eq_true rfl) (Nat.le_of_ble_eq_true rfl) h9 ?_
  rintro _ M_2 L_3 ⟨rfl, h9⟩
  refine r_aload_n d_Reckoning_leadsOnWithout_19 rfl ?_
  refine r_aload_n d_Reckoning_leadsOnWithout_20 rfl ?_
  refine x_getR d_Reckoning_leadsOnWithout_21 fl_Reckoning_31 gR_336_4 ?_
  refine r_iload_n d_Reckoning_leadsOnWithout_24 rfl ?_
  refine r_iconst (v := 1) d_Reckoning_leadsOnWithout_25 (by decide) ?_
  refine r_iadd d_Reckoning_leadsOnWithout_26 ?_
  obtain ⟨o_4, h9⟩ := h9
  refine x_aald d_Reckoning_leadsOnWithout_27 aR_338 o_4 ?_
  refine x_callV (as := [.ref (341 + 4 * (i1 + 1).toNatClampNeg)]) (st := []) d_Reckoning_leadsOnWithout_28 ml_Reckoning_219 mc_Patch_meets mv_Patch_meets ⟨by decide, by decide⟩ (isP_O hp3) ⟨_, rfl, rfl⟩ rfl (Nat.le_of_ble_eq_true rfl) (Nat.le_of_ble_eq_true rfl) (Q1 := fun r M1 L1 => some (.int (bI (∃ x y, y < 20 ∧ x < 32 ∧ gp M_2 p3 x y = true ∧ gp M_2 (341 + 4 * (i1 + 1).toNatClampNeg) x y = true))) = r ∧ M_2 = M1 ∧ L_3 = L1) (t_meets hp3 (isP_back (vp_lt o_4)) ⟨rfl, rfl, rfl⟩) ?_
  rintro _ _ _ ⟨rfl, rfl, rfl⟩
  exact r_iret ⟨d_Reckoning_leadsOnWithout_31, _, rfl, nar_b bI_01⟩ ⟨_, _, rfl, h9⟩
theorem L_Reckoning_findPairsOf_0 {xs : List Int32} {i1 : Int32} {M : Mem} {L : Int64} {Q : Option Value → Mem → Int64 → Prop} 
    (h : (vp_in i1 40 ∧ (vp_in i1 41 ∧ RX xs shL md_Row_takeOn 0 [.ref (136 + 5 * i1.toNatClampNeg), .int 0, .ref (339 + 4 * i1.toNatClampNeg), .ref 505, .ref 126] [] M L (fun r M_3 L_4 => r = none ∧ RX xs shL md_Reckoning_findPairsOf 31 [.ref 336, .int i1, .int (i1 + 1), .null] [] M_3 L_4 Q)))) : RX xs shL md_Reckoning_findPairsOf 0 [.ref 336, .int i1] [] M L Q := by
  refine r_weak (lv' := [.ref 336, .int i1, .null, .null]) (by repeat (first | exact trivial | refine ⟨rfl, ?_⟩ | exact lle_nil)) ?_
  refine r_aload_n d_Reckoning_findPairsOf_0 rfl ?_
  refine x_getR d_Reckoning_findPairsOf_1 fl_Reckoning_21 gR_336_2 ?_
  refine x_getR d_Reckoning_findPairsOf_4 fl_Reckoning_62 gR_134_0 ?_
  refine r_iload_n d_Reckoning_findPairsOf_7 rfl ?_
  obtain ⟨o_1, h9⟩ := h
  refine x_aald d_Reckoning_findPairsOf_8 aR_135 o_1 ?_
  refine r_iconst (v := 0) d_Reckoning_findPairsOf_9 (by decide) ?_
  refine r_aload_n d_Reckoning_findPairsOf_10 rfl ?_
  refine x_getR d_Reckoning_findPairsOf_11 fl_Reckoning_27 gR_336_3 ?_
  refine r_iload_n d_Reckoning_findPairsOf_14 rfl ?_
  obtain ⟨o_2, h9⟩ := h9
  refine x_aald d_Reckoning_findPairsOf_15 aR_337 o_2 ?_
  refine r_aload_n d_Reckoning_findPairsOf_16 rfl ?_
  refine x_getR d_Reckoning_findPairsOf_17 fl_Reckoning_39 gR_336_6 ?_
  refine r_aload_n d_Reckoning_findPairsOf_20 rfl ?_
  refine x_getR d_Reckoning_findPairsOf_21 fl_Reckoning_11 gR_336_0 ?_
  refine x_callV (as := [.int 0, .ref (339 + 4 * i1.toNatClampNeg), .ref 505, .ref 126]) (st := []) d_Reckoning_findPairsOf_24 ml_Reckoning_211 mc_Row_takeOn mv_Row_takeOn ⟨by decide, by decide⟩ (rw_O (vp_lt o_1)) ⟨_, rfl, rfl⟩ rfl (Nat.le_of_ble_eq_true rfl) (Nat.le_of_ble_eq_true rfl) h9 ?_
  rintro _ M_3 L_4 ⟨rfl, h9⟩
  refine r_iload_n d_Reckoning_findPairsOf_27 rfl ?_
  refine r_iconst (v := 1) d_Reckoning_findPairsOf_28 (by decide) ?_
  refine r_iadd d_Reckoning_findPairsOf_29 ?_
  refine r_istore_n d_Reckoning_findPairsOf_30 (by decide) ?_
  exact h9
set_option maxHeartbeats 4000000 in
theorem L_Reckoning_findPairsOf_31 {xs : List Int32} {i1 : Int32} {i2 : Int32} {M : Mem} {L : Int64} {Q : Option Value → Mem → Int64 → Prop} 
    (h : (((M 134 1) ≤ i2 → Q none M L) ∧ (¬ ((M 134 1) ≤ i2) → (vp_in i2 40 ∧ (((M (136 + 5 * i2.toNatClampNeg) 7) = 0 → RX xs shL md_Row_takeOn 0 [.ref (136 + 5 * i2.toNatClampNeg), .int (M (136 + 5 * i2.toNatClampNeg) 7), .ref 505, .ref 507, .ref 126] [] M L (fun r M_8 L_9 => r = none ∧ RX xs shL md_Reckoning_findPairsOf 31 [.ref 336, .int i1, .int (i2 + 1), .null] [] (setP M_8 505 (gp M_8 507)) L_9 Q)) ∧ (¬ ((M (136 + 5 * i2.toNatClampNeg) 7) = 0) → RX xs shL md_Reckoning_leadsOnWithout 0 [.ref 336, .int i2, .ref 505, .ref 507] [] M L (fun r M_10 L_11 => ∃ v_12 : Int32, r = some (.int v_12) ∧ ((v_12 = 0 → RX xs shL md_Row_takeOn 0 [.ref (136 + 5 * i2.toNatClampNeg), .int (M_10 (136 + 5 * i2.toNatClampNeg) 7), .ref 505, .ref 507, .ref 126] [] M_10 L_11 (fun r M_14 L_15 => r = none ∧ RX xs shL md_Reckoning_findPairsOf 31 [.ref 336, .int i1, .int (i2 + 1), .null] [] (setP M_14 505 (gp M_14 507)) L_15 Q)) ∧ (¬ (v_12 = 0) → RX xs shL md_Reckoning_add 0 [.ref 336, .int ((100 * (i1 + 1)) + i2)] [] M_10 L_11 (fun r M_16 L_17 => r = none ∧ RX xs shL md_Row_takeOn 0 [.ref (136 + 5 * i2.toNatClampNeg), .int (M_16 (136 + 5 * i2.toNatClampNeg) 7), .ref 505, .ref 507, .ref 126] [] M_16 L_17 (fun r M_18 L_19 => r = none ∧ RX xs shL md_Reckoning_findPairsOf 31 [.ref 336, .int i1, .int (i2 + 1), .null] [] (setP M_18 505 (gp M_18 507)) L_19 Q))))))))))) : RX xs shL md_Reckoning_findPairsOf 31 [.ref 336, .int i1, .int i2, .null] [] M L Q := by
  refine r_iload_n d_Reckoning_findPairsOf_31 rfl ?_
  refine r_aload_n d_Reckoning_findPairsOf_32 rfl ?_
  refine x_getR d_Reckoning_findPairsOf_33 fl_Reckoning_21 gR_336_2 ?_
  refine x_getI d_Reckoning_findPairsOf_36 fl_Reckoning_60 gI_134_1 ?_
  refine r_ic_ge d_Reckoning_findPairsOf_39 (fun c_5 => ?_) (fun c_5 => ?_)
  · have h9 := h.1 c_5
    exact r_vret ⟨d_Reckoning_findPairsOf_124, rfl⟩ ⟨M, L, rfl, h9⟩
  · have h9 := h.2 c_5
    refine r_aload_n d_Reckoning_findPairsOf_42 rfl ?_
    refine x_getR d_Reckoning_findPairsOf_43 fl_Reckoning_21 gR_336_2 ?_
    refine x_getR d_Reckoning_findPairsOf_46 fl_Reckoning_62 gR_134_0 ?_
    refine r_iload_n d_Reckoning_findPairsOf_49 rfl ?_
    obtain ⟨o_6, h9⟩ := h9
    refine x_aald d_Reckoning_findPairsOf_50 aR_135 o_6 ?_
    refine r_astore_n d_Reckoning_findPairsOf_51 (by decide) ?_
    refine r_aload_n d_Reckoning_findPairsOf_52 rfl ?_
    refine x_getI d_Reckoning_findPairsOf_53 fl_Reckoning_88 (rw_I (vp_lt o_6) 7 (by decide) (by decide)) ?_
    refine r_if_eq d_Reckoning_findPairsOf_56 (fun c_7 => ?_) (fun c_7 => ?_)
    · have h9 := h9.1 c_7
      refine r_aload_n d_Reckoning_findPairsOf_87 rfl ?_
      refine r_aload_n d_Reckoning_findPairsOf_88 rfl ?_
      refine x_getI d_Reckoning_findPairsOf_89 fl_Reckoning_88 (rw_I (vp_lt o_6) 7 (by decide) (by decide)) ?_
      refine r_aload_n d_Reckoning_findPairsOf_92 rfl ?_
      refine x_getR d_Reckoning_findPairsOf_93 fl_Reckoning_39 gR_336_6 ?_
      refine r_aload_n d_Reckoning_findPairsOf_96 rfl ?_
      refine x_getR d_Reckoning_findPairsOf_97 fl_Reckoning_42 gR_336_7 ?_
      refine r_aload_n d_Reckoning_findPairsOf_100 rfl ?_
      refine x_getR d_Reckoning_findPairsOf_101 fl_Reckoning_11 gR_336_0 ?_
      refine x_callV (as := [.int (M (136 + 5 * i2.toNatClampNeg) 7), .ref 505, .ref 507, .ref 126]) (st := []) d_Reckoning_findPairsOf_104 ml_Reckoning_211 mc_Row_takeOn mv_Row_takeOn ⟨by decide, by decide⟩ (rw_O (vp_lt o_6)) ⟨_, rfl, rfl⟩ rfl (Nat.le_of_ble_eq_true rfl) (Nat.le_of_ble_eq_true rfl) h9 ?_
      rintro _ M_8 L_9 ⟨rfl, h9⟩
      refine r_aload_n d_Reckoning_findPairsOf_107 rfl ?_
      refine x_getR d_Reckoning_findPairsOf_108 fl_Reckoning_39 gR_336_6 ?_
      refine r_aload_n d_Reckoning_findPairsOf_111 rfl ?_
      refine x_getR d_Reckoning_findPairsOf_112 fl_Reckoning_42 gR_336_7 ?_
      refine x_callV (as := [.ref 507]) (st := []) d_Reckoning_findPairsOf_115 ml_Reckoning_81 mc_Patch_copy mv_Patch_copy ⟨by decide, by decide⟩ (isP_O isP_505) ⟨_, rfl, rfl⟩ rfl (Nat.le_of_ble_eq_true rfl) (Nat.le_of_ble_eq_true rfl) (Q1 := fun r M1 L1 => none = r ∧ setP M_8 505 (gp M_8 507) = M1 ∧ L_9 = L1) (t_copy isP_505 isP_507 ⟨rfl, rfl, rfl⟩) ?_
      rintro _ _ _ ⟨rfl, rfl, rfl⟩
      refine r_iinc (v := i2 + 1) d_Reckoning_findPairsOf_118 rfl rfl (by decide) ?_
      refine r_goto d_Reckoning_findPairsOf_121 ?_
      refine r_weak (lv' := [.ref 336, .int i1, .int (i2 + 1), .null]) (by repeat (first | exact trivial | refine ⟨rfl, ?_⟩ | exact lle_nil)) ?_
      exact h9
    · have h9 := h9.2 c_7
      refine r_aload_n d_Reckoning_findPairsOf_59 rfl ?_
      refine r_iload_n d_Reckoning_findPairsOf_60 rfl ?_
      refine r_aload_n d_Reckoning_findPairsOf_61 rfl ?_
      refine x_getR d_Reckoning_findPairsOf_62 fl_Reckoning_39 gR_336_6 ?_
      refine r_aload_n d_Reckoning_findPairsOf_65 rfl ?_
      refine x_getR d_Reckoning_findPairsOf_66 fl_Reckoning_42 gR_336_7 ?_
      refine x_callV (as := [.int i2, .ref 505, .ref 507]) (st := []) d_Reckoning_findPairsOf_69 ml_Reckoning_94 mc_Reckoning_leadsOnWithout mv_Reckoning_leadsOnWithout ⟨by decide, by decide⟩ gO_336 ⟨_, rfl, rfl⟩ rfl (Nat.le_of_ble_eq_true rfl) (Nat.le_of_ble_eq_true rfl) h9 ?_
      rintro _ M_10 L_11 ⟨v_12, rfl, h9⟩
      refine r_if_eq d_Reckoning_findPairsOf_72 (fun c_13 => ?_) (fun c_13 => ?_)
      · have h9 := h9.1 c_13
        refine r_aload_n d_Reckoning_findPairsOf_87 rfl ?_
        refine r_aload_n d_Reckoning_findPairsOf_88 rfl ?_
        refine x_getI d_Reckoning_findPairsOf_89 fl_Reckoning_88 (rw_I (vp_lt o_6) 7 (by decide) (by decide)) ?_
        refine r_aload_n d_Reckoning_findPairsOf_92 rfl ?_
        refine x_getR d_Reckoning_findPairsOf_93 fl_Reckoning_39 gR_336_6 ?_
        refine r_aload_n d_Reckoning_findPairsOf_96 rfl ?_
        refine x_getR d_Reckoning_findPairsOf_97 fl_Reckoning_42 gR_336_7 ?_
        refine r_aload_n d_Reckoning_findPairsOf_100 rfl ?_
        refine x_getR d_Reckoning_findPairsOf_101 fl_Reckoning_11 gR_336_0 ?_
        refine x_callV (as := [.int (M_10 (136 + 5 * i2.toNatClampNeg) 7), .ref 505, .ref 507, .ref 126]) (st := []) d_Reckoning_findPairsOf_104 ml_Reckoning_211 mc_Row_takeOn mv_Row_takeOn ⟨by decide, by decide⟩ (rw_O (vp_lt o_6)) ⟨_, rfl, rfl⟩ rfl (Nat.le_of_ble_eq_true rfl) (Nat.le_of_ble_eq_true rfl) h9 ?_
        rintro _ M_14 L_15 ⟨rfl, h9⟩
        refine r_aload_n d_Reckoning_findPairsOf_107 rfl ?_
        refine x_getR d_Reckoning_findPairsOf_108 fl_Reckoning_39 gR_336_6 ?_
        refine r_aload_n d_Reckoning_findPairsOf_111 rfl ?_
        refine x_getR d_Reckoning_findPairsOf_112 fl_Reckoning_42 gR_336_7 ?_
        refine x_callV (as := [.ref 507]) (st := []) d_Reckoning_findPairsOf_115 ml_Reckoning_81 mc_Patch_copy mv_Patch_copy ⟨by decide, by decide⟩ (isP_O isP_505) ⟨_, rfl, rfl⟩ rfl (Nat.le_of_ble_eq_true rfl) (Nat.le_of_ble_eq_true rfl) (Q1 := fun r M1 L1 => none = r ∧ setP M_14 505 (gp M_14 507) = M1 ∧ L_15 = L1) (t_copy isP_505 isP_507 ⟨rfl, rfl, rfl⟩) ?_
        rintro _ _ _ ⟨rfl, rfl, rfl⟩
        refine r_iinc (v := i2 + 1) d_Reckoning_findPairsOf_118 rfl rfl (by decide) ?_
        refine r_goto d_Reckoning_findPairsOf_121 ?_
        refine r_weak (lv' := [.ref 336, .int i1, .int (i2 + 1), .null]) (by repeat (first | exact trivial | refine ⟨rfl, ?_⟩ | exact lle_nil)) ?_
        exact h9
      · have h9 := h9.2 c_13
        refine r_aload_n d_Reckoning_findPairsOf_75 rfl ?_
        refine r_bipush (v := 100) d_Reckoning_findPairsOf_76 (by decide) ?_
        refine r_iload_n d_Reckoning_findPairsOf_78 rfl ?_
        refine r_iconst (v := 1) d_Reckoning_findPairsOf_79 (by decide) ?_
        refine r_iadd d_Reckoning_findPairsOf_80 ?_
        refine r_imul d_Reckoning_findPairsOf_81 ?_
        refine r_iload_n d_Reckoning_findPairsOf_82 rfl ?_
        refine r_iadd d_Reckoning_findPairsOf_83 ?_
        refine x_callV (as := [.int ((100 * (i1 + 1)) + i2)]) (st := []) d_Reckoning_findPairsOf_84 ml_Reckoning_98 mc_Reckoning_add mv_Reckoning_add ⟨by decide, by decide⟩ gO_336 ⟨_, rfl, rfl⟩ rfl (Nat.le_of_ble_eq_true rfl) (Nat.le_of_ble_eq_true rfl) h9 ?_
        rintro _ M_16 L_17 ⟨rfl, h9⟩
        refine r_aload_n d_Reckoning_findPairsOf_87 rfl ?_
        refine r_aload_n d_Reckoning_findPairsOf_88 rfl ?_
        refine x_getI d_Reckoning_findPairsOf_89 fl_Reckoning_88 (rw_I (vp_lt o_6) 7 (by decide) (by decide)) ?_
        refine r_aload_n d_Reckoning_findPairsOf_92 rfl ?_
        refine x_getR d_Reckoning_findPairsOf_93 fl_Reckoning_39 gR_336_6 ?_
        refine r_aload_n d_Reckoning_findPairsOf_96 rfl ?_
        refine x_getR d_Reckoning_findPairsOf_97 fl_Reckoning_42 gR_336_7 ?_
        refine r_aload_n d_Reckoning_findPairsOf_100 rfl ?_
        refine x_getR d_Reckoning_findPairsOf_101 fl_Reckoning_11 gR_336_0 ?_
        refine x_callV (as := [.int (M_16 (136 + 5 * i2.toNatClampNeg) 7), .ref 505, .ref 507, .ref 126]) (st := []) d_Reckoning_findPairsOf_104 ml_Reckoning_211 mc_Row_takeOn mv_Row_takeOn ⟨by decide, by decide⟩ (rw_O (vp_lt o_6)) ⟨_, rfl, rfl⟩ rfl (Nat.le_of_ble_eq_true rfl) (Nat.le_of_ble_eq_true rfl) h9 ?_
        rintro _ M_18 L_19 ⟨rfl, h9⟩
        refine r_aload_n d_Reckoning_findPairsOf_107 rfl ?_
        refine x_getR d_Reckoning_findPairsOf_108 fl_Reckoning_39 gR_336_6 ?_
        refine r_aload_n d_Reckoning_findPairsOf_111 rfl ?_
        refine x_getR d_Reckoning_findPairsOf_112 fl_Reckoning_42 gR_336_7 ?_
        refine x_callV (as := [.ref 507]) (st := []) d_Reckoning_findPairsOf_115 ml_Reckoning_81 mc_Patch_copy mv_Patch_copy ⟨by decide, by decide⟩ (isP_O isP_505) ⟨_, rfl, rfl⟩ rfl (Nat.le_of_ble_eq_true rfl) (Nat.le_of_ble_eq_true rfl) (Q1 := fun r M1 L1 => none = r ∧ setP M_18 505 (gp M_18 507) = M1 ∧ L_19 = L1) (t_copy isP_505 isP_507 ⟨rfl, rfl, rfl⟩) ?_
        rintro _ _ _ ⟨rfl, rfl, rfl⟩
        refine r_iinc (v := i2 + 1) d_Reckoning_findPairsOf_118 rfl rfl (by decide) ?_
        refine r_goto d_Reckoning_findPairsOf_121 ?_
        refine r_weak (lv' := [.ref 336, .int i1, .int (i2 + 1), .null]) (by repeat (first | exact trivial | refine ⟨rfl, ?_⟩ | exact lle_nil)) ?_
        exact h9
theorem L_Reckoning_findBlamed_0 {xs : List Int32}  {M : Mem} {L : Int64} {Q : Option Value → Mem → Int64 → Prop} 
    (h : RX xs shL md_Reckoning_lookBack 0 [.ref 336] [] M L (fun r M_1 L_2 => r = none ∧ RX xs shL md_Reckoning_findBlamed 11 [.ref 336, .int 0, .null] [] (up M_1 336 9 0) L_2 Q)) : RX xs shL md_Reckoning_findBlamed 0 [.ref 336] [] M L Q := by
  refine r_weak (lv' := [.ref 336, .null, .null]) (by repeat (first | exact trivial | refine ⟨rfl, ?_⟩ | exact lle_nil)) ?_
  refine r_aload_n d_Reckoning_findBlamed_0 rfl ?_
  refine x_callV (as := []) (st := []) d_Reckoning_findBlamed_1 ml_Reckoning_78 mc_Reckoning_lookBack mv_Reckoning_lookBack ⟨by decide, by decide⟩ gO_336 ⟨_, rfl, rfl⟩ rfl (Nat.le_of_ble_eq_true rfl) (Nat.le_of_ble_eq_true rfl) h ?_
  rintro _ M_1 L_2 ⟨rfl, h9⟩
  refine r_aload_n d_Reckoning_findBlamed_4 rfl ?_
  refine r_iconst (v := 0) d_Reckoning_findBlamed_5 (by decide) ?_
  refine x_putI d_Reckoning_findBlamed_6 fl_Reckoning_49 (fun r hr => by cases hr; rfl) gI_336_9 (VOk_int _) ?_
  refine r_iconst (v := 0) d_Reckoning_findBlamed_9 (by decide) ?_
  refine r_istore_n d_Reckoning_findBlamed_10 (by decide) ?_
  exact h9
theorem L_Reckoning_findBlamed_11 {xs : List Int32} {i1 : Int32} {M : Mem} {L : Int64} {Q : Option Value → Mem → Int64 → Prop} 
    (h : (((M 134 1) ≤ i1 → (((M 336 9) = 0 → RX xs shL md_Reckoning_findBlamed 81 [.ref 336, .int 1, .int 0] [] M L Q) ∧ (¬ ((M 336 9) = 0) → RX xs shL md_Reckoning_findBlamed 81 [.ref 336, .int 0, .int 0] [] M L Q))) ∧ (¬ ((M 134 1) ≤ i1) → (vp_in i1 40 ∧ (((M (136 + 5 * i1.toNatClampNeg) 7) = 0 → RX xs shL md_Reckoning_findBlamed 11 [.ref 336, .int (i1 + 1), .null] [] M L Q) ∧ (¬ ((M (136 + 5 * i1.toNatClampNeg) 7) = 0) → (vp_in i1 41 ∧ RX xs shL md_Reckoning_leadsOnWithout 0 [.ref 336, .int i1, .ref (339 + 4 * i1.toNatClampNeg), .ref 505] [] M L (fun r M_8 L_9 => ∃ v_10 : Int32, r = some (.int v_10) ∧ ((v_10 = 0 → RX xs shL md_Reckoning_findBlamed 11 [.ref 336, .int (i1 + 1), .null] [] M_8 L_9 Q) ∧ (¬ (v_10 = 0) → RX xs shL md_Reckoning_add 0 [.ref 336, .int i1] [] M_8 L_9 (fun r M_12 L_13 => r = none ∧ RX xs shL md_Reckoning_findBlamed 11 [.ref 336, .int (i1 + 1), .null] [] M_12 L_13 Q))))))))))) : RX xs shL md_Reckoning_findBlamed 11 [.ref 336, .int i1, .null] [] M L Q := by
  refine r_iload_n d_Reckoning_findBlamed_11 rfl ?_
  refine r_aload_n d_Reckoning_findBlamed_12 rfl ?_
  refine x_getR d_Reckoning_findBlamed_13 fl_Reckoning_21 gR_336_2 ?_
  refine x_getI d_Reckoning_findBlamed_16 fl_Reckoning_60 gI_134_1 ?_
  refine r_ic_ge d_Reckoning_findBlamed_19 (fun c_3 => ?_) (fun c_3 => ?_)
  · have h9 := h.1 c_3
    refine r_aload_n d_Reckoning_findBlamed_66 rfl ?_
    refine x_getI d_Reckoning_findBlamed_67 fl_Reckoning_49 gI_336_9 ?_
    refine r_if_ne d_Reckoning_findBlamed_70 (fun c_4 => ?_) (fun c_4 => ?_)
    · have h9 := h9.2 c_4
      refine r_iconst (v := 0) d_Reckoning_findBlamed_77 (by decide) ?_
      refine r_istore_n d_Reckoning_findBlamed_78 (by decide) ?_
      refine r_iconst (v := 0) d_Reckoning_findBlamed_79 (by decide) ?_
      refine r_istore_n d_Reckoning_findBlamed_80 (by decide) ?_
      exact h9
    · have h9 := h9.1 c_4
      refine r_iconst (v := 1) d_Reckoning_findBlamed_73 (by decide) ?_
      refine r_goto d_Reckoning_findBlamed_74 ?_
      refine r_istore_n d_Reckoning_findBlamed_78 (by decide) ?_
      refine r_iconst (v := 0) d_Reckoning_findBlamed_79 (by decide) ?_
      refine r_istore_n d_Reckoning_findBlamed_80 (by decide) ?_
      exact h9
  · have h9 := h.2 c_3
    refine r_aload_n d_Reckoning_findBlamed_22 rfl ?_
    refine x_getR d_Reckoning_findBlamed_23 fl_Reckoning_21 gR_336_2 ?_
    refine x_getR d_Reckoning_findBlamed_26 fl_Reckoning_62 gR_134_0 ?_
    refine r_iload_n d_Reckoning_findBlamed_29 rfl ?_
    obtain ⟨o_5, h9⟩ := h9
    refine x_aald d_Reckoning_findBlamed_30 aR_135 o_5 ?_
    refine x_getI d_Reckoning_findBlamed_31 fl_Reckoning_88 (rw_I (vp_lt o_5) 7 (by decide) (by decide)) ?_
    refine r_if_eq d_Reckoning_findBlamed_34 (fun c_6 => ?_) (fun c_6 => ?_)
    · have h9 := h9.1 c_6
      refine r_iinc (v := i1 + 1) d_Reckoning_findBlamed_60 rfl rfl (by decide) ?_
      refine r_goto d_Reckoning_findBlamed_63 ?_
      exact h9
    · have h9 := h9.2 c_6
      refine r_aload_n d_Reckoning_findBlamed_37 rfl ?_
      refine r_iload_n d_Reckoning_findBlamed_38 rfl ?_
      refine r_aload_n d_Reckoning_findBlamed_39 rfl ?_
      refine x_getR d_Reckoning_findBlamed_40 fl_Reckoning_27 gR_336_3 ?_
      refine r_iload_n d_Reckoning_findBlamed_43 rfl ?_
      obtain ⟨o_7, h9⟩ := h9
      refine x_aald d_Reckoning_findBlamed_44 aR_337 o_7 ?_
      refine r_aload_n d_Reckoning_findBlamed_45 rfl ?_
      refine x_getR d_Reckoning_findBlamed_46 fl_Reckoning_39 gR_336_6 ?_
      refine x_callV (as := [.int i1, .ref (339 + 4 * i1.toNatClampNeg), .ref 505]) (st := []) d_Reckoning_findBlamed_49 ml_Reckoning_94 mc_Reckoning_leadsOnWithout mv_Reckoning_leadsOnWithout ⟨by decide, by decide⟩ gO_336 ⟨_, rfl, rfl⟩ rfl (Nat.le_of_ble_eq_true rfl) (Nat.le_of_ble_eq_true rfl) h9 ?_
      rintro _ M_8 L_9 ⟨v_10, rfl, h9⟩
      refine r_if_eq d_Reckoning_findBlamed_52 (fun c_11 => ?_) (fun c_11 => ?_)
      · have h9 := h9.1 c_11
        refine r_iinc (v := i1 + 1) d_Reckoning_findBlamed_60 rfl rfl (by decide) ?_
        refine r_goto d_Reckoning_findBlamed_63 ?_
        exact h9
      · have h9 := h9.2 c_11
        refine r_aload_n d_Reckoning_findBlamed_55 rfl ?_
        refine r_iload_n d_Reckoning_findBlamed_56 rfl ?_
        refine x_callV (as := [.int i1]) (st := []) d_Reckoning_findBlamed_57 ml_Reckoning_98 mc_Reckoning_add mv_Reckoning_add ⟨by decide, by decide⟩ gO_336 ⟨_, rfl, rfl⟩ rfl (Nat.le_of_ble_eq_true rfl) (Nat.le_of_ble_eq_true rfl) h9 ?_
        rintro _ M_12 L_13 ⟨rfl, h9⟩
        refine r_iinc (v := i1 + 1) d_Reckoning_findBlamed_60 rfl rfl (by decide) ?_
        refine r_goto d_Reckoning_findBlamed_63 ?_
        exact h9
theorem L_Reckoning_findBlamed_81 {xs : List Int32} {i1 : Int32} {i2 : Int32} {M : Mem} {L : Int64} {Q : Option Value → Mem → Int64 → Prop} 
    (h : ((i1 = 0 → Q none M L) ∧ (¬ (i1 = 0) → (((M 134 1) ≤ i2 → Q none M L) ∧ (¬ ((M 134 1) ≤ i2) → (vp_in i2 40 ∧ (((M (136 + 5 * i2.toNatClampNeg) 7) = 0 → RX xs shL md_Reckoning_findBlamed 81 [.ref 336, .int i1, .int (i2 + 1)] [] M L Q) ∧ (¬ ((M (136 + 5 * i2.toNatClampNeg) 7) = 0) → RX xs shL md_Reckoning_findPairsOf 0 [.ref 336, .int i2] [] M L (fun r M_18 L_19 => r = none ∧ RX xs shL md_Reckoning_findBlamed 81 [.ref 336, .int i1, .int (i2 + 1)] [] M_18 L_19 Q))))))))) : RX xs shL md_Reckoning_findBlamed 81 [.ref 336, .int i1, .int i2] [] M L Q := by
  refine r_iload_n d_Reckoning_findBlamed_81 rfl ?_
  refine r_if_eq d_Reckoning_findBlamed_82 (fun c_14 => ?_) (fun c_14 => ?_)
  · have h9 := h.1 c_14
    exact r_vret ⟨d_Reckoning_findBlamed_122, rfl⟩ ⟨M, L, rfl, h9⟩
  · have h9 := h.2 c_14
    refine r_iload_n d_Reckoning_findBlamed_85 rfl ?_
    refine r_aload_n d_Reckoning_findBlamed_86 rfl ?_
    refine x_getR d_Reckoning_findBlamed_87 fl_Reckoning_21 gR_336_2 ?_
    refine x_getI d_Reckoning_findBlamed_90 fl_Reckoning_60 gI_134_1 ?_
    refine r_ic_ge d_Reckoning_findBlamed_93 (fun c_15 => ?_) (fun c_15 => ?_)
    · have h9 := h9.1 c_15
      exact r_vret ⟨d_Reckoning_findBlamed_122, rfl⟩ ⟨M, L, rfl, h9⟩
    · have h9 := h9.2 c_15
      refine r_aload_n d_Reckoning_findBlamed_96 rfl ?_
      refine x_getR d_Reckoning_findBlamed_97 fl_Reckoning_21 gR_336_2 ?_
      refine x_getR d_Reckoning_findBlamed_100 fl_Reckoning_62 gR_134_0 ?_
      refine r_iload_n d_Reckoning_findBlamed_103 rfl ?_
      obtain ⟨o_16, h9⟩ := h9
      refine x_aald d_Reckoning_findBlamed_104 aR_135 o_16 ?_
      refine x_getI d_Reckoning_findBlamed_105 fl_Reckoning_88 (rw_I (vp_lt o_16) 7 (by decide) (by decide)) ?_
      refine r_if_eq d_Reckoning_findBlamed_108 (fun c_17 => ?_) (fun c_17 => ?_)
      · have h9 := h9.1 c_17
        refine r_iinc (v := i2 + 1) d_Reckoning_findBlamed_116 rfl rfl (by decide) ?_
        refine r_goto d_Reckoning_findBlamed_119 ?_
        exact h9
      · have h9 := h9.2 c_17
        refine r_aload_n d_Reckoning_findBlamed_111 rfl ?_
        refine r_iload_n d_Reckoning_findBlamed_112 rfl ?_
        refine x_callV (as := [.int i2]) (st := []) d_Reckoning_findBlamed_113 ml_Reckoning_101 mc_Reckoning_findPairsOf mv_Reckoning_findPairsOf ⟨by decide, by decide⟩ gO_336 ⟨_, rfl, rfl⟩ rfl (Nat.le_of_ble_eq_true rfl) (Nat.le_of_ble_eq_true rfl) h9 ?_
        rintro _ M_18 L_19 ⟨rfl, h9⟩
        refine r_iinc (v := i2 + 1) d_Reckoning_findBlamed_116 rfl rfl (by decide) ?_
        refine r_goto d_Reckoning_findBlamed_119 ?_
        exact h9
theorem L_Reckoning_findFits_0 {xs : List Int32} {i1 : Int32} {i2 : Int32} {M : Mem} {L : Int64} {Q : Option Value → Mem → Int64 → Prop} 
    (h : RX xs shL md_Reckoning_lookAhead 0 [.ref 336] [] M L (fun r M_1 L_2 => ∃ b_3 : Nat, r = some (.ref b_3) ∧ isP shL b_3 ∧ RX xs shL md_Reckoning_findFits 13 [.ref 336, .int i1, .int i2, .int (-9), .null, .null] [] (up M_1 336 9 0) L_2 Q)) : RX xs shL md_Reckoning_findFits 0 [.ref 336, .int i1, .int i2] [] M L Q := by
  refine r_weak (lv' := [.ref 336, .int i1, .int i2, .null, .null, .null]) (by repeat (first | exact trivial | refine ⟨rfl, ?_⟩ | exact lle_nil)) ?_
  refine r_aload_n d_Reckoning_findFits_0 rfl ?_
  refine x_callV (as := []) (st := []) d_Reckoning_findFits_1 ml_Reckoning_74 mc_Reckoning_lookAhead mv_Reckoning_lookAhead ⟨by decide, by decide⟩ gO_336 ⟨_, rfl, rfl⟩ rfl (Nat.le_of_ble_eq_true rfl) (Nat.le_of_ble_eq_true rfl) h ?_
  rintro _ M_1 L_2 ⟨b_3, rfl, hbb_3, h9⟩
  refine r_pop d_Reckoning_findFits_4 rfl ?_
  refine r_aload_n d_Reckoning_findFits_5 rfl ?_
  refine r_iconst (v := 0) d_Reckoning_findFits_6 (by decide) ?_
  refine x_putI d_Reckoning_findFits_7 fl_Reckoning_49 (fun r hr => by cases hr; rfl) gI_336_9 (VOk_int _) ?_
  refine r_bipush (v := (-9)) d_Reckoning_findFits_10 (by decide) ?_
  refine r_istore_n d_Reckoning_findFits_12 (by decide) ?_
  exact h9
theorem L_Reckoning_findFits_13 {xs : List Int32} {i1 : Int32} {i2 : Int32} {i3 : Int32} {M : Mem} {L : Int64} {Q : Option Value → Mem → Int64 → Prop} 
    (h : ((9 < i3 → Q none M L) ∧ (¬ (9 < i3) → RX xs shL md_Reckoning_findFits 22 [.ref 336, .int i1, .int i2, .int i3, .int 0, .null] [] M L Q))) : RX xs shL md_Reckoning_findFits 13 [.ref 336, .int i1, .int i2, .int i3, .null, .null] [] M L Q := by
  refine r_iload_n d_Reckoning_findFits_13 rfl ?_
  refine r_bipush (v := 9) d_Reckoning_findFits_14 (by decide) ?_
  refine r_ic_gt d_Reckoning_findFits_16 (fun c_4 => ?_) (fun c_4 => ?_)
  · have h9 := h.1 c_4
    exact r_vret ⟨d_Reckoning_findFits_106, rfl⟩ ⟨M, L, rfl, h9⟩
  · have h9 := h.2 c_4
    refine r_iconst (v := 0) d_Reckoning_findFits_19 (by decide) ?_
    refine r_istore d_Reckoning_findFits_20 (by decide) ?_
    exact h9
theorem L_Reckoning_findFits_22 {xs : List Int32} {i1 : Int32} {i2 : Int32} {i3 : Int32} {i4 : Int32} {M : Mem} {L : Int64} {Q : Option Value → Mem → Int64 → Prop} 
    (h : ((6 ≤ i4 → RX xs shL md_Reckoning_findFits 13 [.ref 336, .int i1, .int i2, .int (i3 + 1), .null, .null] [] M L Q) ∧ (¬ (6 ≤ i4) → RX xs shL md_Reckoning_findFits 33 [.ref 336, .int i1, .int i2, .int i3, .int i4, .int (-2)] [] M L Q))) : RX xs shL md_Reckoning_findFits 22 [.ref 336, .int i1, .int i2, .int i3, .int i4, .null] [] M L Q := by
  refine r_iload d_Reckoning_findFits_22 rfl ?_
  refine r_bipush (v := 6) d_Reckoning_findFits_24 (by decide) ?_
  refine r_ic_ge d_Reckoning_findFits_26 (fun c_5 => ?_) (fun c_5 => ?_)
  · have h9 := h.1 c_5
    refine r_iinc (v := i3 + 1) d_Reckoning_findFits_100 rfl rfl (by decide) ?_
    refine r_goto d_Reckoning_findFits_103 ?_
    refine r_weak (lv' := [.ref 336, .int i1, .int i2, .int (i3 + 1), .null, .null]) (by repeat (first | exact trivial | refine ⟨rfl, ?_⟩ | exact lle_nil)) ?_
    exact h9
  · have h9 := h.2 c_5
    refine r_bipush (v := (-2)) d_Reckoning_findFits_29 (by decide) ?_
    refine r_istore d_Reckoning_findFits_31 (by decide) ?_
    exact h9
set_option maxHeartbeats 4000000 in
theorem L_Reckoning_findFits_33 {xs : List Int32} {i1 : Int32} {i2 : Int32} {i3 : Int32} {i4 : Int32} {i5 : Int32} {M : Mem} {L : Int64} {Q : Option Value → Mem → Int64 → Prop} 
    (h : ((2 < i5 → RX xs shL md_Reckoning_findFits 22 [.ref 336, .int i1, .int i2, .int i3, .int (i4 + 1), .null] [] M L Q) ∧ (¬ (2 < i5) → ((i5 = 0 → ((i4 = 0 → RX xs shL md_Reckoning_lookAheadBy 0 [.ref 336, .int i3, .int i4, .int i5] [] M L (fun r M_15 L_16 => ∃ b_17 : Nat, r = some (.ref b_17) ∧ isP shL b_17 ∧ ((((0 ≤ i1 ∧ i1 ≤ 19) ∧ (0 ≤ i2 ∧ i2 ≤ 19) ∧ gp M_15 b_17 i1.toNatClampNeg i2.toNatClampNeg = true) → RX xs shL md_Reckoning_add 0 [.ref 336, .int ((((100 * (i3 + 9)) + (10 * i4)) + i5) + 2)] [] M_15 L_16 (fun r M_19 L_20 => r = none ∧ RX xs shL md_Reckoning_findFits 33 [.ref 336, .int i1, .int i2, .int i3, .int i4, .int (i5 + 1)] [] M_19 L_20 Q)) ∧ (¬ ((0 ≤ i1 ∧ i1 ≤ 19) ∧ (0 ≤ i2 ∧ i2 ≤ 19) ∧ gp M_15 b_17 i1.toNatClampNeg i2.toNatClampNeg = true) → RX xs shL md_Reckoning_findFits 33 [.ref 336, .int i1, .int i2, .int i3, .int i4, .int (i5 + 1)] [] M_15 L_16 Q)))) ∧ (¬ (i4 = 0) → RX xs shL md_Reckoning_findFits 33 [.ref 336, .int i1, .int i2, .int i3, .int i4, .int (i5 + 1)] [] M L Q))) ∧ (¬ (i5 = 0) → RX xs shL md_Reckoning_lookAheadBy 0 [.ref 336, .int i3, .int i4, .int i5] [] M L (fun r M_8 L_9 => ∃ b_10 : Nat, r = some (.ref b_10) ∧ isP shL b_10 ∧ ((((0 ≤ i1 ∧ i1 ≤ 19) ∧ (0 ≤ i2 ∧ i2 ≤ 19) ∧ gp M_8 b_10 i1.toNatClampNeg i2.toNatClampNeg = true) → RX xs shL md_Reckoning_add 0 [.ref 336, .int ((((100 * (i3 + 9)) + (10 * i4)) + i5) + 2)] [] M_8 L_9 (fun r M_12 L_13 => r = none ∧ RX xs shL md_Reckoning_findFits 33 [.ref 336, .int i1, .int i2, .int i3, .int i4, .int (i5 + 1)] [] M_12 L_13 Q)) ∧ (¬ ((0 ≤ i1 ∧ i1 ≤ 19) ∧ (0 ≤ i2 ∧ i2 ≤ 19) ∧ gp M_8 b_10 i1.toNatClampNeg i2.toNatClampNeg = true) → RX xs shL md_Reckoning_findFits 33 [.ref 336, .int i1, .int i2, .int i3, .int i4, .int (i5 + 1)] [] M_8 L_9 Q)))))))) : RX xs shL md_Reckoning_findFits 33 [.ref 336, .int i1, .int i2, .int i3, .int i4, .int i5] [] M L Q := by
  refine r_iload d_Reckoning_findFits_33 rfl ?_
  refine r_iconst (v := 2) d_Reckoning_findFits_35 (by decide) ?_
  refine r_ic_gt d_Reckoning_findFits_36 (fun c_6 => ?_) (fun c_6 => ?_)
  · have h9 := h.1 c_6
    refine r_iinc (v := i4 + 1) d_Reckoning_findFits_94 rfl rfl (by decide) ?_
    refine r_goto d_Reckoning_findFits_97 ?_
    refine r_weak (lv' := [.ref 336, .int i1, .int i2, .int i3, .int (i4 + 1), .null]) (by repeat (first | exact trivial | refine ⟨rfl, ?_⟩ | exact lle_nil)) ?_
    exact h9
  · have h9 := h.2 c_6
    refine r_iload d_Reckoning_findFits_39 rfl ?_
    refine r_if_ne d_Reckoning_findFits_41 (fun c_7 => ?_) (fun c_7 => ?_)
    · have h9 := h9.2 c_7
      refine r_aload_n d_Reckoning_findFits_49 rfl ?_
      refine r_iload_n d_Reckoning_findFits_50 rfl ?_
      refine r_iload d_Reckoning_findFits_51 rfl ?_
      refine r_iload d_Reckoning_findFits_53 rfl ?_
      refine x_callV (as := [.int i3, .int i4, .int i5]) (st := []) d_Reckoning_findFits_55 ml_Reckoning_106 mc_Reckoning_lookAheadBy mv_Reckoning_lookAheadBy ⟨by decide, by decide⟩ gO_336 ⟨_, rfl, rfl⟩ rfl (Nat.le_of_ble_eq_true rfl) (Nat.le_of_ble_eq_true rfl) h9 ?_
      rintro _ M_8 L_9 ⟨b_10, rfl, hbb_10, h9⟩
      refine r_iload_n d_Reckoning_findFits_58 rfl ?_
      refine r_iload_n d_Reckoning_findFits_59 rfl ?_
      refine x_callV (as := [.int i1, .int i2]) (st := []) d_Reckoning_findFits_60 ml_Reckoning_110 mc_Patch_holds mv_Patch_holds ⟨by decide, by decide⟩ (isP_O hbb_10) ⟨_, rfl, rfl⟩ rfl (Nat.le_of_ble_eq_true rfl) (Nat.le_of_ble_eq_true rfl) (Q1 := fun r M1 L1 => some (.int (bI ((0 ≤ i1 ∧ i1 ≤ 19) ∧ (0 ≤ i2 ∧ i2 ≤ 19) ∧ gp M_8 b_10 i1.toNatClampNeg i2.toNatClampNeg = true))) = r ∧ M_8 = M1 ∧ L_9 = L1) (t_holds hbb_10 ⟨rfl, rfl, rfl⟩) ?_
      rintro _ _ _ ⟨rfl, rfl, rfl⟩
      refine r_if_eq d_Reckoning_findFits_63 (fun c_11 => ?_) (fun c_11 => ?_)
      · have h9 := h9.2 (bI_p0 c_11)
        refine r_iinc (v := i5 + 1) d_Reckoning_findFits_88 rfl rfl (by decide) ?_
        refine r_goto d_Reckoning_findFits_91 ?_
        exact h9
      · have h9 := h9.1 (bI_p1 c_11)
        refine r_aload_n d_Reckoning_findFits_66 rfl ?_
        refine r_bipush (v := 100) d_Reckoning_findFits_67 (by decide) ?_
        refine r_iload_n d_Reckoning_findFits_69 rfl ?_
        refine r_bipush (v := 9) d_Reckoning_findFits_70 (by decide) ?_
        refine r_iadd d_Reckoning_findFits_72 ?_
        refine r_imul d_Reckoning_findFits_73 ?_
        refine r_bipush (v := 10) d_Reckoning_findFits_74 (by decide) ?_
        refine r_iload d_Reckoning_findFits_76 rfl ?_
        refine r_imul d_Reckoning_findFits_78 ?_
        refine r_iadd d_Reckoning_findFits_79 ?_
        refine r_iload d_Reckoning_findFits_80 rfl ?_
        refine r_iadd d_Reckoning_findFits_82 ?_
        refine r_iconst (v := 2) d_Reckoning_findFits_83 (by decide) ?_
        refine r_iadd d_Reckoning_findFits_84 ?_
        refine x_callV (as := [.int ((((100 * (i3 + 9)) + (10 * i4)) + i5) + 2)]) (st := []) d_Reckoning_findFits_85 ml_Reckoning_98 mc_Reckoning_add mv_Reckoning_add ⟨by decide, by decide⟩ gO_336 ⟨_, rfl, rfl⟩ rfl (Nat.le_of_ble_eq_true rfl) (Nat.le_of_ble_eq_true rfl) h9 ?_
        rintro _ M_12 L_13 ⟨rfl, h9⟩
        refine r_iinc (v := i5 + 1) d_Reckoning_findFits_88 rfl rfl (by decide) ?_
        refine r_goto d_Reckoning_findFits_91 ?_
        exact h9
    · have h9 := h9.1 c_7
      refine r_iload d_Reckoning_findFits_44 rfl ?_
      refine r_if_ne d_Reckoning_findFits_46 (fun c_14 => ?_) (fun c_14 => ?_)
      · have h9 := h9.2 c_14
        refine r_iinc (v := i5 + 1) d_Reckoning_findFits_88 rfl rfl (by decide) ?_
        refine r_goto d_Reckoning_findFits_91 ?_
        exact h9
      · have h9 := h9.1 c_14
        refine r_aload_n d_Reckoning_findFits_49 rfl ?_
        refine r_iload_n d_Reckoning_findFits_50 rfl ?_
        refine r_iload d_Reckoning_findFits_51 rfl ?_
        refine r_iload d_Reckoning_findFits_53 rfl ?_
        refine x_callV (as := [.int i3, .int i4, .int i5]) (st := []) d_Reckoning_findFits_55 ml_Reckoning_106 mc_Reckoning_lookAheadBy mv_Reckoning_lookAheadBy ⟨by decide, by decide⟩ gO_336 ⟨_, rfl, rfl⟩ rfl (Nat.le_of_ble_eq_true rfl) (Nat.le_of_ble_eq_true rfl) h9 ?_
        rintro _ M_15 L_16 ⟨b_17, rfl, hbb_17, h9⟩
        refine r_iload_n d_Reckoning_findFits_58 rfl ?_
        refine r_iload_n d_Reckoning_findFits_59 rfl ?_
        refine x_callV (as := [.int i1, .int i2]) (st := []) d_Reckoning_findFits_60 ml_Reckoning_110 mc_Patch_holds mv_Patch_holds ⟨by decide, by decide⟩ (isP_O hbb_17) ⟨_, rfl, rfl⟩ rfl (Nat.le_of_ble_eq_true rfl) (Nat.le_of_ble_eq_true rfl) (Q1 := fun r M1 L1 => some (.int (bI ((0 ≤ i1 ∧ i1 ≤ 19) ∧ (0 ≤ i2 ∧ i2 ≤ 19) ∧ gp M_15 b_17 i1.toNatClampNeg i2.toNatClampNeg = true))) = r ∧ M_15 = M1 ∧ L_16 = L1) (t_holds hbb_17 ⟨rfl, rfl, rfl⟩) ?_
        rintro _ _ _ ⟨rfl, rfl, rfl⟩
        refine r_if_eq d_Reckoning_findFits_63 (fun c_18 => ?_) (fun c_18 => ?_)
        · have h9 := h9.2 (bI_p0 c_18)
          refine r_iinc (v := i5 + 1) d_Reckoning_findFits_88 rfl rfl (by decide) ?_
          refine r_goto d_Reckoning_findFits_91 ?_
          exact h9
        · have h9 := h9.1 (bI_p1 c_18)
          refine r_aload_n d_Reckoning_findFits_66 rfl ?_
          refine r_bipush (v := 100) d_Reckoning_findFits_67 (by decide) ?_
          refine r_iload_n d_Reckoning_findFits_69 rfl ?_
          refine r_bipush (v := 9) d_Reckoning_findFits_70 (by decide) ?_
          refine r_iadd d_Reckoning_findFits_72 ?_
          refine r_imul d_Reckoning_findFits_73 ?_
          refine r_bipush (v := 10) d_Reckoning_findFits_74 (by decide) ?_
          refine r_iload d_Reckoning_findFits_76 rfl ?_
          refine r_imul d_Reckoning_findFits_78 ?_
          refine r_iadd d_Reckoning_findFits_79 ?_
          refine r_iload d_Reckoning_findFits_80 rfl ?_
          refine r_iadd d_Reckoning_findFits_82 ?_
          refine r_iconst (v := 2) d_Reckoning_findFits_83 (by decide) ?_
          refine r_iadd d_Reckoning_findFits_84 ?_
          refine x_callV (as := [.int ((((100 * (i3 + 9)) + (10 * i4)) + i5) + 2)]) (st := []) d_Reckoning_findFits_85 ml_Reckoning_98 mc_Reckoning_add mv_Reckoning_add ⟨by decide, by decide⟩ gO_336 ⟨_, rfl, rfl⟩ rfl (Nat.le_of_ble_eq_true rfl) (Nat.le_of_ble_eq_true rfl) h9 ?_
          rintro _ M_19 L_20 ⟨rfl, h9⟩
          refine r_iinc (v := i5 + 1) d_Reckoning_findFits_88 rfl rfl (by decide) ?_
          refine r_goto d_Reckoning_findFits_91 ?_
          exact h9
theorem L_Voyage_fitOut_0 {xs : List Int32} {i1 : Int32} {i2 : Int32} {i3 : Int32} {M : Mem} {L : Int64} {Q : Option Value → Mem → Int64 → Prop} 
    (h : RX xs shL md_Chart_findNear 0 [.ref 126, .int i3, .ref 511] [] (up (up M 510 4 i1) 510 5 i2) L (fun r M_1 L_2 => r = none ∧ Q none M_1 L_2)) : RX xs shL md_Voyage_fitOut 0 [.ref 510, .int i1, .int i2, .int i3] [] M L Q := by
  refine r_aload_n d_Voyage_fitOut_0 rfl ?_
  refine r_iload_n d_Voyage_fitOut_1 rfl ?_
  refine x_putI d_Voyage_fitOut_2 fl_Voyage_32 (fun r hr => by cases hr; rfl) gI_510_4 (VOk_int _) ?_
  refine r_aload_n d_Voyage_fitOut_5 rfl ?_
  refine r_iload_n d_Voyage_fitOut_6 rfl ?_
  refine x_putI d_Voyage_fitOut_7 fl_Voyage_36 (fun r hr => by cases hr; rfl) gI_510_5 (VOk_int _) ?_
  refine r_aload_n d_Voyage_fitOut_10 rfl ?_
  refine x_getR d_Voyage_fitOut_11 fl_Voyage_9 gR_510_0 ?_
  refine r_iload_n d_Voyage_fitOut_14 rfl ?_
  refine r_aload_n d_Voyage_fitOut_15 rfl ?_
  refine x_getR d_Voyage_fitOut_16 fl_Voyage_18 gR_510_1 ?_
  refine x_callV (as := [.int i3, .ref 511]) (st := []) d_Voyage_fitOut_19 ml_Voyage_47 mc_Chart_findNear mv_Chart_findNear ⟨by decide, by decide⟩ gO_126 ⟨_, rfl, rfl⟩ rfl (Nat.le_of_ble_eq_true rfl) (Nat.le_of_ble_eq_true rfl) h ?_
  rintro _ M_1 L_2 ⟨rfl, h9⟩
  exact r_vret ⟨d_Voyage_fitOut_22, rfl⟩ ⟨M_1, L_2, rfl, h9⟩
theorem L_Voyage_sightedFromCell_0 {xs : List Int32} {i1 : Int32} {i2 : Int32} {i3 : Int32} {i4 : Int32} {M : Mem} {L : Int64} {Q : Option Value → Mem → Int64 → Prop} 
    (h : RX xs shL md_Voyage_sightedFromLeft 0 [.ref 510, .int i3, .int i4] [] (setP (setP M 513 (fun _ _ => false)) 513 (rcF i1.toInt i2.toInt i1.toInt i2.toInt (bB (¬ (1 : Int32) = 0)) (gp (setP M 513 (fun _ _ => false)) 513))) L (fun r M_1 L_2 => ∃ v_3 : Int32, r = some (.int v_3) ∧ Q (some (.int v_3)) M_1 L_2)) : RX xs shL md_Voyage_sightedFromCell 0 [.ref 510, .int i1, .int i2, .int i3, .int i4] [] M L Q := by
  refine r_aload_n d_Voyage_sightedFromCell_0 rfl ?_
  refine x_getR d_Voyage_sightedFromCell_1 fl_Voyage_22 gR_510_2 ?_
  refine x_callV (as := []) (st := []) d_Voyage_sightedFromCell_4 ml_Voyage_51 mc_Patch_clear mv_Patch_clear ⟨by decide, by decide⟩ (isP_O isP_513) ⟨_, rfl, rfl⟩ rfl (Nat.le_of_ble_eq_true rfl) (Nat.le_of_ble_eq_true rfl) (Q1 := fun r M1 L1 => none = r ∧ setP M 513 (fun _ _ => false) = M1 ∧ L = L1) (t_clear isP_513 ⟨rfl, rfl, rfl⟩) ?_
  rintro _ _ _ ⟨rfl, rfl, rfl⟩
  refine r_aload_n d_Voyage_sightedFromCell_7 rfl ?_
  refine x_getR d_Voyage_sightedFromCell_8 fl_Voyage_22 gR_510_2 ?_
  refine r_iload_n d_Voyage_sightedFromCell_11 rfl ?_
  refine r_iload_n d_Voyage_sightedFromCell_12 rfl ?_
  refine r_iload_n d_Voyage_sightedFromCell_13 rfl ?_
  refine r_iload_n d_Voyage_sightedFromCell_14 rfl ?_
  refine r_iconst (v := 1) d_Voyage_sightedFromCell_15 (by decide) ?_
  refine x_callV (as := [.int i1, .int i2, .int i1, .int i2, .int 1]) (st := []) d_Voyage_sightedFromCell_16 ml_Voyage_54 mc_Patch_put mv_Patch_put ⟨by decide, by decide⟩ (isP_O isP_513) ⟨_, rfl, rfl⟩ rfl (Nat.le_of_ble_eq_true rfl) (Nat.le_of_ble_eq_true rfl) (Q1 := fun r M1 L1 => none = r ∧ setP (setP M 513 (fun _ _ => false)) 513 (rcF i1.toInt i2.toInt i1.toInt i2.toInt (bB (¬ (1 : Int32) = 0)) (gp (setP M 513 (fun _ _ => false)) 513)) = M1 ∧ L = L1) (t_put isP_513 ⟨rfl, rfl, rfl⟩) ?_
  rintro _ _ _ ⟨rfl, rfl, rfl⟩
  refine r_aload_n d_Voyage_sightedFromCell_19 rfl ?_
  refine r_iload_n d_Voyage_sightedFromCell_20 rfl ?_
  refine r_iload d_Voyage_sightedFromCell_21 rfl ?_
  refine x_callV (as := [.int i3, .int i4]) (st := []) d_Voyage_sightedFromCell_23 ml_Voyage_58 mc_Voyage_sightedFromLeft mv_Voyage_sightedFromLeft ⟨by decide, by decide⟩ gO_510 ⟨_, rfl, rfl⟩ rfl (Nat.le_of_ble_eq_true rfl) (Nat.le_of_ble_eq_true rfl) h ?_
  rintro _ M_1 L_2 ⟨v_3, rfl, h9⟩
  exact r_iret ⟨d_Voyage_sightedFromCell_26, _, rfl, rfl⟩ ⟨_, _, rfl, h9⟩
theorem L_Voyage_sightedFromLeft_0 {xs : List Int32} {i1 : Int32} {i2 : Int32} {M : Mem} {L : Int64} {Q : Option Value → Mem → Int64 → Prop} 
    (h : RX xs shL md_Voyage_sightedFromLeft 2 [.ref 510, .int i1, .int i2, .int 1, .null, .null] [] M L Q) : RX xs shL md_Voyage_sightedFromLeft 0 [.ref 510, .int i1, .int i2] [] M L Q := by
  refine r_weak (lv' := [.ref 510, .int i1, .int i2, .null, .null, .null]) (by repeat (first | exact trivial | refine ⟨rfl, ?_⟩ | exact lle_nil)) ?_
  refine r_iconst (v := 1) d_Voyage_sightedFromLeft_0 (by decide) ?_
  refine r_istore_n d_Voyage_sightedFromLeft_1 (by decide) ?_
  exact h
set_option maxHeartbeats 4000000 in
theorem L_Voyage_sightedFromLeft_2 {xs : List Int32} {i1 : Int32} {i2 : Int32} {i3 : Int32} {M : Mem} {L : Int64} {Q : Option Value → Mem → Int64 → Prop} 
    (h : ((i2 < i3 → Q (some (.int 0)) M L) ∧ (¬ (i2 < i3) → ((0 ≤ i1 ∧ i1 ≤ 31) ∧ RX xs shL md_Reach_become 0 [.ref 515, .int (fdv ((i3 * (M 510 4)) * (nrt ((i1 + 24) &&& 31))) 8000), .int (-(fdv (-((i3 * (M 510 4)) * (nrt ((i1 + 24) &&& 31)))) 8000)), .int (fdv ((i3 * (M 510 4)) * (nrt i1)) 8000), .int (-(fdv (-((i3 * (M 510 4)) * (nrt i1))) 8000))] [] M L (fun r M_3 L_4 => ∃ v_5 : Int32, r = some (.int v_5) ∧ RX xs shL md_Voyage_isOneAground 0 [.ref 510] [] M_3 L_4 (fun r M_6 L_7 => ∃ v_8 : Int32, r = some (.int v_8) ∧ ((v_8 = 0 → ((24 ≤ (((i3 - 1) + (M_6 510 5)) - ((i3 - 1) + (M_6 510 5)) / 48 * 48) → RX xs shL md_Voyage_sightedFromLeft 2 [.ref 510, .int i1, .int i2, .int (i3 + 1), .null, .null] [] M_6 L_7 Q) ∧ (¬ (24 ≤ (((i3 - 1) + (M_6 510 5)) - ((i3 - 1) + (M_6 510 5)) / 48 * 48)) → RX xs shL md_Voyage_dropSighted 0 [.ref 510] [] M_6 L_7 (fun r M_11 L_12 => r = none ∧ (((∀ y, y < 20 → ∀ x, x < 32 → gp M_11 513 x y = false) → Q (some (.int i3)) M_11 L_12) ∧ (¬ (∀ y, y < 20 → ∀ x, x < 32 → gp M_11 513 x y = false) → RX xs shL md_Voyage_sightedFromLeft 2 [.ref 510, .int i1, .int i2, .int (i3 + 1), .null, .null] [] M_11 L_12 Q)))))) ∧ (¬ (v_8 = 0) → Q (some (.int 0)) M_6 L_7)))))))) : RX xs shL md_Voyage_sightedFromLeft 2 [.ref 510, .int i1, .int i2, .int i3, .null, .null] [] M L Q := by
  refine r_iload_n d_Voyage_sightedFromLeft_2 rfl ?_
  refine r_iload_n d_Voyage_sightedFromLeft_3 rfl ?_
  refine r_ic_gt d_Voyage_sightedFromLeft_4 (fun c_1 => ?_) (fun c_1 => ?_)
  · have h9 := h.1 c_1
    refine r_iconst (v := 0) d_Voyage_sightedFromLeft_108 (by decide) ?_
    exact r_iret ⟨d_Voyage_sightedFromLeft_109, _, rfl, rfl⟩ ⟨_, _, rfl, h9⟩
  · have h9 := h.2 c_1
    refine r_iload_n d_Voyage_sightedFromLeft_7 rfl ?_
    refine r_aload_n d_Voyage_sightedFromLeft_8 rfl ?_
    refine x_getI d_Voyage_sightedFromLeft_9 fl_Voyage_32 gI_510_4 ?_
    refine r_imul d_Voyage_sightedFromLeft_12 ?_
    refine r_iload_n d_Voyage_sightedFromLeft_13 rfl ?_
    obtain ⟨o_2, h9⟩ := h9
    refine x_callS (as := [.int i1]) (st := [.int (i3 * (M 510 4))]) d_Voyage_sightedFromLeft_14 ml_Voyage_72 mc_Compass_eastOf ms_Compass_eastOf ⟨by decide, by decide⟩ rfl (Nat.le_of_ble_eq_true rfl) (Nat.le_of_ble_eq_true rfl) (Q1 := fun r M1 L1 => some (.int (nrt ((i1 + 24) &&& 31))) = r ∧ M = M1 ∧ L = L1) (s_Compass_eastOf o_2 ⟨rfl, rfl, rfl⟩) ?_
    rintro _ _ _ ⟨rfl, rfl, rfl⟩
    refine r_imul d_Voyage_sightedFromLeft_17 ?_
    refine r_istore d_Voyage_sightedFromLeft_18 (by decide) ?_
    refine r_iload_n d_Voyage_sightedFromLeft_20 rfl ?_
    refine r_aload_n d_Voyage_sightedFromLeft_21 rfl ?_
    refine x_getI d_Voyage_sightedFromLeft_22 fl_Voyage_32 gI_510_4 ?_
    refine r_imul d_Voyage_sightedFromLeft_25 ?_
    refine r_iload_n d_Voyage_sightedFromLeft_26 rfl ?_
    refine x_callS (as := [.int i1]) (st := [.int (i3 * (M 510 4))]) d_Voyage_sightedFromLeft_27 ml_Voyage_76 mc_Compass_northOf ms_Compass_northOf ⟨by decide, by decide⟩ rfl (Nat.le_of_ble_eq_true rfl) (Nat.le_of_ble_eq_true rfl) (Q1 := fun r M1 L1 => some (.int (nrt i1)) = r ∧ M = M1 ∧ L = L1) (s_Compass_northOf o_2 ⟨rfl, rfl, rfl⟩) ?_
    rintro _ _ _ ⟨rfl, rfl, rfl⟩
    refine r_imul d_Voyage_sightedFromLeft_30 ?_
    refine r_istore d_Voyage_sightedFromLeft_31 (by decide) ?_
    refine r_aload_n d_Voyage_sightedFromLeft_33 rfl ?_
    refine x_getR d_Voyage_sightedFromLeft_34 fl_Voyage_28 gR_510_3 ?_
    refine r_iload d_Voyage_sightedFromLeft_37 rfl ?_
    refine x_callS (as := [.int ((i3 * (M 510 4)) * (nrt ((i1 + 24) &&& 31)))]) (st := [.ref 515]) d_Voyage_sightedFromLeft_39 ml_Voyage_79 mc_Reach_cellsDown ms_Reach_cellsDown ⟨by decide, by decide⟩ rfl (Nat.le_of_ble_eq_true rfl) (Nat.le_of_ble_eq_true rfl) (Q1 := fun r M1 L1 => some (.int (fdv ((i3 * (M 510 4)) * (nrt ((i1 + 24) &&& 31))) 8000)) = r ∧ M = M1 ∧ L = L1) (L_Reach_cellsDown_0 ⟨rfl, rfl, rfl⟩) ?_
    rintro _ _ _ ⟨rfl, rfl, rfl⟩
    refine r_iload d_Voyage_sightedFromLeft_42 rfl ?_
    refine x_callS (as := [.int ((i3 * (M 510 4)) * (nrt ((i1 + 24) &&& 31)))]) (st := [.int (fdv ((i3 * (M 510 4)) * (nrt ((i1 + 24) &&& 31))) 8000), .ref 515]) d_Voyage_sightedFromLeft_44 ml_Voyage_82 mc_Reach_cellsUp ms_Reach_cellsUp ⟨by decide, by decide⟩ rfl (Nat.le_of_ble_eq_true rfl) (Nat.le_of_ble_eq_true rfl) (Q1 := fun r M1 L1 => some (.int (-(fdv (-((i3 * (M 510 4)) * (nrt ((i1 + 24) &&& 31)))) 8000))) = r ∧ M = M1 ∧ L = L1) (L_Reach_cellsUp_0 ⟨rfl, rfl, rfl⟩) ?_
    rintro _ _ _ ⟨rfl, rfl, rfl⟩
    refine r_iload d_Voyage_sightedFromLeft_47 rfl ?_
    refine x_callS (as := [.int ((i3 * (M 510 4)) * (nrt i1))]) (st := [.int (-(fdv (-((i3 * (M 510 4)) * (nrt ((i1 + 24) &&& 31)))) 8000)), .int (fdv ((i3 * (M 510 4)) * (nrt ((i1 + 24) &&& 31))) 8000), .ref 515]) d_Voyage_sightedFromLeft_49 ml_Voyage_79 mc_Reach_cellsDown ms_Reach_cellsDown ⟨by decide, by decide⟩ rfl (Nat.le_of_ble_eq_true rfl) (Nat.le_of_ble_eq_true rfl) (Q1 := fun r M1 L1 => some (.int (fdv ((i3 * (M 510 4)) * (nrt i1)) 8000)) = r ∧ M = M1 ∧ L = L1) (L_Reach_cellsDown_0 ⟨rfl, rfl, rfl⟩) ?_
    rintro _ _ _ ⟨rfl, rfl, rfl⟩
    refine r_iload d_Voyage_sightedFromLeft_52 rfl ?_
    refine x_callS (as := [.int ((i3 * (M 510 4)) * (nrt i1))]) (st := [.int (fdv ((i3 * (M 510 4)) * (nrt i1)) 8000), .int (-(fdv (-((i3 * (M 510 4)) * (nrt ((i1 + 24) &&& 31)))) 8000)), .int (fdv ((i3 * (M 510 4)) * (nrt ((i1 + 24) &&& 31))) 8000), .ref 515]) d_Voyage_sightedFromLeft_54 ml_Voyage_82 mc_Reach_cellsUp ms_Reach_cellsUp ⟨by decide, by decide⟩ rfl (Nat.le_of_ble_eq_true rfl) (Nat.le_of_ble_eq_true rfl) (Q1 := fun r M1 L1 => some (.int (-(fdv (-((i3 * (M 510 4)) * (nrt i1))) 8000))) = r ∧ M = M1 ∧ L = L1) (L_Reach_cellsUp_0 ⟨rfl, rfl, rfl⟩) ?_
    rintro _ _ _ ⟨rfl, rfl, rfl⟩
    refine x_callV (as := [.int (fdv ((i3 * (M 510 4)) * (nrt ((i1 + 24) &&& 31))) 8000), .int (-(fdv (-((i3 * (M 510 4)) * (nrt ((i1 + 24) &&& 31)))) 8000)), .int (fdv ((i3 * (M 510 4)) * (nrt i1)) 8000), .int (-(fdv (-((i3 * (M 510 4)) * (nrt i1))) 8000))]) (st := []) d_Voyage_sightedFromLeft_57 ml_Voyage_85 mc_Reach_become mv_Reach_become ⟨by decide, by decide⟩ (isRe_O isRe_515) ⟨_, rfl, rfl⟩ rfl (Nat.le_of_ble_eq_true rfl) (Nat.le_of_ble_eq_true rfl) h9 ?_
    rintro _ M_3 L_4 ⟨v_5, rfl, h9⟩
    refine r_pop d_Voyage_sightedFromLeft_60 rfl ?_
    refine r_aload_n d_Voyage_sightedFromLeft_61 rfl ?_
    refine x_callV (as := []) (st := []) d_Voyage_sightedFromLeft_62 ml_Voyage_89 mc_Voyage_isOneAground mv_Voyage_isOneAground ⟨by decide, by decide⟩ gO_510 ⟨_, rfl, rfl⟩ rfl (Nat.le_of_ble_eq_true rfl) (Nat.le_of_ble_eq_true rfl) h9 ?_
    rintro _ M_6 L_7 ⟨v_8, rfl, h9⟩
    refine r_if_eq d_Voyage_sightedFromLeft_65 (fun c_9 => ?_) (fun c_9 => ?_)
    · have h9 := h9.1 c_9
      refine r_iload_n d_Voyage_sightedFromLeft_70 rfl ?_
      refine r_iconst (v := 1) d_Voyage_sightedFromLeft_71 (by decide) ?_
      refine r_isub d_Voyage_sightedFromLeft_72 ?_
      refine r_aload_n d_Voyage_sightedFromLeft_73 rfl ?_
      refine x_getI d_Voyage_sightedFromLeft_74 fl_Voyage_36 gI_510_5 ?_
      refine r_iadd d_Voyage_sightedFromLeft_77 ?_
      refine r_bipush (v := 48) d_Voyage_sightedFromLeft_78 (by decide) ?_
      refine r_irem d_Voyage_sightedFromLeft_80 (by decide) ?_
      refine r_bipush (v := 24) d_Voyage_sightedFromLeft_81 (by decide) ?_
      refine r_ic_ge d_Voyage_sightedFromLeft_83 (fun c_10 => ?_) (fun c_10 => ?_)
      · have h9 := h9.1 c_10
        refine r_iinc (v := i3 + 1) d_Voyage_sightedFromLeft_102 rfl rfl (by decide) ?_
        refine r_goto d_Voyage_sightedFromLeft_105 ?_
        refine r_weak (lv' := [.ref 510, .int i1, .int i2, .int (i3 + 1), .null, .null]) (by repeat (first | exact trivial | refine ⟨rfl, ?_⟩ | exact lle_nil)) ?_
        exact h9
      · have h9 := h9.2 c_10
        refine r_aload_n d_Voyage_sightedFromLeft_86 rfl ?_
        refine x_callV (as := []) (st := []) d_Voyage_sightedFromLeft_87 ml_Voyage_93 mc_Voyage_dropSighted mv_Voyage_dropSighted ⟨by decide, by decide⟩ gO_510 ⟨_, rfl, rfl⟩ rfl (Nat.le_of_ble_eq_true rfl) (Nat.le_of_ble_eq_true rfl) h9 ?_
        rintro _ M_11 L_12 ⟨rfl, h9⟩
        refine r_aload_n d_Voyage_sightedFromLeft_90 rfl ?_
        refine x_getR d_Voyage_sightedFromLeft_91 fl_Voyage_22 gR_510_2 ?_
        refine x_callV (as := []) (st := []) d_Voyage_sightedFromLeft_94 ml_Voyage_96 mc_Patch_isEmpty mv_Patch_isEmpty ⟨by decide, by decide⟩ (isP_O isP_513) ⟨_, rfl, rfl⟩ rfl (Nat.le_of_ble_eq_true rfl) (Nat.le_of_ble_eq_true rfl) (Q1 := fun r M1 L1 => some (.int (bI (∀ y, y < 20 → ∀ x, x < 32 → gp M_11 513 x y = false))) = r ∧ M_11 = M1 ∧ L_12 = L1) (t_isEmpty isP_513 ⟨rfl, rfl, rfl⟩) ?_
        rintro _ _ _ ⟨rfl, rfl, rfl⟩
        refine r_if_eq d_Voyage_sightedFromLeft_97 (fun c_13 => ?_) (fun c_13 => ?_)
        · have h9 := h9.2 (bI_p0 c_13)
          refine r_iinc (v := i3 + 1) d_Voyage_sightedFromLeft_102 rfl rfl (by decide) ?_
          refine r_goto d_Voyage_sightedFromLeft_105 ?_
          refine r_weak (lv' := [.ref 510, .int i1, .int i2, .int (i3 + 1), .null, .null]) (by repeat (first | exact trivial | refine ⟨rfl, ?_⟩ | exact lle_nil)) ?_
          exact h9
        · have h9 := h9.1 (bI_p1 c_13)
          refine r_iload_n d_Voyage_sightedFromLeft_100 rfl ?_
          exact r_iret ⟨d_Voyage_sightedFromLeft_101, _, rfl, rfl⟩ ⟨_, _, rfl, h9⟩
    · have h9 := h9.2 c_9
      refine r_iconst (v := 0) d_Voyage_sightedFromLeft_68 (by decide) ?_
      exact r_iret ⟨d_Voyage_sightedFromLeft_69, _, rfl, rfl⟩ ⟨_, _, rfl, h9⟩
theorem L_Voyage_isOneAground_0 {xs : List Int32}  {M : Mem} {L : Int64} {Q : Option Value → Mem → Int64 → Prop} 
    (h : RX xs shL md_Voyage_isOneAground 2 [.ref 510, .int 0, .null, .null] [] M L Q) : RX xs shL md_Voyage_isOneAground 0 [.ref 510] [] M L Q := by
  refine r_weak (lv' := [.ref 510, .null, .null, .null]) (by repeat (first | exact trivial | refine ⟨rfl, ?_⟩ | exact lle_nil)) ?_
  refine r_iconst (v := 0) d_Voyage_isOneAground_0 (by decide) ?_
  refine r_istore_n d_Voyage_isOneAground_1 (by decide) ?_
  exact h
theorem L_Voyage_isOneAground_2 {xs : List Int32} {i1 : Int32} {M : Mem} {L : Int64} {Q : Option Value → Mem → Int64 → Prop} 
    (h : (((M 126 5) ≤ i1 → Q (some (.int 0)) M L) ∧ (¬ ((M 126 5) ≤ i1) → RX xs shL md_Voyage_isOneAground 21 [.ref 510, .int i1, .int (M 515 2), .null] [] M L Q))) : RX xs shL md_Voyage_isOneAground 2 [.ref 510, .int i1, .null, .null] [] M L Q := by
  refine r_iload_n d_Voyage_isOneAground_2 rfl ?_
  refine r_aload_n d_Voyage_isOneAground_3 rfl ?_
  refine x_getR d_Voyage_isOneAground_4 fl_Voyage_9 gR_510_0 ?_
  refine x_getI d_Voyage_isOneAground_7 fl_Voyage_99 gI_126_5 ?_
  refine r_ic_ge d_Voyage_isOneAground_10 (fun c_1 => ?_) (fun c_1 => ?_)
  · have h9 := h.1 c_1
    refine r_iconst (v := 0) d_Voyage_isOneAground_110 (by decide) ?_
    exact r_iret ⟨d_Voyage_isOneAground_111, _, rfl, rfl⟩ ⟨_, _, rfl, h9⟩
  · have h9 := h.2 c_1
    refine r_aload_n d_Voyage_isOneAground_13 rfl ?_
    refine x_getR d_Voyage_isOneAground_14 fl_Voyage_28 gR_510_3 ?_
    refine x_getI d_Voyage_isOneAground_17 fl_Voyage_102 (isRe_I isRe_515 2 (by decide)) ?_
    refine r_istore_n d_Voyage_isOneAground_20 (by decide) ?_
    exact h9
theorem L_Voyage_isOneAground_21 {xs : List Int32} {i1 : Int32} {i2 : Int32} {M : Mem} {L : Int64} {Q : Option Value → Mem → Int64 → Prop} 
    (h : (vp_in i1 20 ∧ (((M (513 + 1) i1.toNatClampNeg) = 0 → RX xs shL md_Voyage_isOneAground 2 [.ref 510, .int (i1 + 1), .null, .null] [] M L Q) ∧ (¬ ((M (513 + 1) i1.toNatClampNeg) = 0) → (((M 515 3) < i2 → RX xs shL md_Voyage_isOneAground 2 [.ref 510, .int (i1 + 1), .null, .null] [] M L Q) ∧ (¬ ((M 515 3) < i2) → RX xs shL md_Voyage_isOneAground 52 [.ref 510, .int i1, .int i2, .int (M 515 0)] [] M L Q)))))) : RX xs shL md_Voyage_isOneAground 21 [.ref 510, .int i1, .int i2, .null] [] M L Q := by
  refine r_aload_n d_Voyage_isOneAground_21 rfl ?_
  refine x_getR d_Voyage_isOneAground_22 fl_Voyage_22 gR_510_2 ?_
  refine x_getR d_Voyage_isOneAground_25 fl_Voyage_105 (isP_R isP_513) ?_
  refine r_iload_n d_Voyage_isOneAground_28 rfl ?_
  obtain ⟨o_2, h9⟩ := h
  refine x_iald d_Voyage_isOneAground_29 (isP_A isP_513) o_2 ?_
  refine r_if_eq d_Voyage_isOneAground_30 (fun c_3 => ?_) (fun c_3 => ?_)
  · have h9 := h9.1 c_3
    refine r_iinc (v := i1 + 1) d_Voyage_isOneAground_104 rfl rfl (by decide) ?_
    refine r_goto d_Voyage_isOneAground_107 ?_
    refine r_weak (lv' := [.ref 510, .int (i1 + 1), .null, .null]) (by repeat (first | exact trivial | refine ⟨rfl, ?_⟩ | exact lle_nil)) ?_
    exact h9
  · have h9 := h9.2 c_3
    refine r_iload_n d_Voyage_isOneAground_33 rfl ?_
    refine r_aload_n d_Voyage_isOneAground_34 rfl ?_
    refine x_getR d_Voyage_isOneAground_35 fl_Voyage_28 gR_510_3 ?_
    refine x_getI d_Voyage_isOneAground_38 fl_Voyage_109 (isRe_I isRe_515 3 (by decide)) ?_
    refine r_ic_gt d_Voyage_isOneAground_41 (fun c_4 => ?_) (fun c_4 => ?_)
    · have h9 := h9.1 c_4
      refine r_iinc (v := i1 + 1) d_Voyage_isOneAground_104 rfl rfl (by decide) ?_
      refine r_goto d_Voyage_isOneAground_107 ?_
      refine r_weak (lv' := [.ref 510, .int (i1 + 1), .null, .null]) (by repeat (first | exact trivial | refine ⟨rfl, ?_⟩ | exact lle_nil)) ?_
      exact h9
    · have h9 := h9.2 c_4
      refine r_aload_n d_Voyage_isOneAground_44 rfl ?_
      refine x_getR d_Voyage_isOneAground_45 fl_Voyage_28 gR_510_3 ?_
      refine x_getI d_Voyage_isOneAground_48 fl_Voyage_112 (isRe_I isRe_515 0 (by decide)) ?_
      refine r_istore_n d_Voyage_isOneAground_51 (by decide) ?_
      exact h9
theorem L_Voyage_isOneAground_52 {xs : List Int32} {i1 : Int32} {i2 : Int32} {i3 : Int32} {M : Mem} {L : Int64} {Q : Option Value → Mem → Int64 → Prop} 
    (h : (((M 515 1) < i3 → RX xs shL md_Voyage_isOneAground 21 [.ref 510, .int i1, .int (i2 + 1), .null] [] M L Q) ∧ (¬ ((M 515 1) < i3) → (vp_in i1 20 ∧ RX xs shL md_Patch_seenFrom 0 [.ref 130, .int i3, .int (i1 + i2)] [] M L (fun r M_7 L_8 => ∃ v_9 : Int32, r = some (.int v_9) ∧ ((((M (513 + 1) i1.toNatClampNeg) &&& v_9) = 0 → RX xs shL md_Voyage_isOneAground 52 [.ref 510, .int i1, .int i2, .int (i3 + 1)] [] M_7 L_8 Q) ∧ (¬ (((M (513 + 1) i1.toNatClampNeg) &&& v_9) = 0) → Q (some (.int 1)) M_7 L_8))))))) : RX xs shL md_Voyage_isOneAground 52 [.ref 510, .int i1, .int i2, .int i3] [] M L Q := by
  refine r_iload_n d_Voyage_isOneAground_52 rfl ?_
  refine r_aload_n d_Voyage_isOneAground_53 rfl ?_
  refine x_getR d_Voyage_isOneAground_54 fl_Voyage_28 gR_510_3 ?_
  refine x_getI d_Voyage_isOneAground_57 fl_Voyage_115 (isRe_I isRe_515 1 (by decide)) ?_
  refine r_ic_gt d_Voyage_isOneAground_60 (fun c_5 => ?_) (fun c_5 => ?_)
  · have h9 := h.1 c_5
    refine r_iinc (v := i2 + 1) d_Voyage_isOneAground_98 rfl rfl (by decide) ?_
    refine r_goto d_Voyage_isOneAground_101 ?_
    refine r_weak (lv' := [.ref 510, .int i1, .int (i2 + 1), .null]) (by repeat (first | exact trivial | refine ⟨rfl, ?_⟩ | exact lle_nil)) ?_
    exact h9
  · have h9 := h.2 c_5
    refine r_aload_n d_Voyage_isOneAground_63 rfl ?_
    refine x_getR d_Voyage_isOneAground_64 fl_Voyage_22 gR_510_2 ?_
    refine x_getR d_Voyage_isOneAground_67 fl_Voyage_105 (isP_R isP_513) ?_
    refine r_iload_n d_Voyage_isOneAground_70 rfl ?_
    obtain ⟨o_6, h9⟩ := h9
    refine x_iald d_Voyage_isOneAground_71 (isP_A isP_513) o_6 ?_
    refine r_aload_n d_Voyage_isOneAground_72 rfl ?_
    refine x_getR d_Voyage_isOneAground_73 fl_Voyage_9 gR_510_0 ?_
    refine x_getR d_Voyage_isOneAground_76 fl_Voyage_118 gR_126_2 ?_
    refine r_iload_n d_Voyage_isOneAground_79 rfl ?_
    refine r_iload_n d_Voyage_isOneAground_80 rfl ?_
    refine r_iload_n d_Voyage_isOneAground_81 rfl ?_
    refine r_iadd d_Voyage_isOneAground_82 ?_
    refine x_callV (as := [.int i3, .int (i1 + i2)]) (st := [.int (M (513 + 1) i1.toNatClampNeg)]) d_Voyage_isOneAground_83 ml_Voyage_121 mc_Patch_seenFrom mv_Patch_seenFrom ⟨by decide, by decide⟩ (isP_O isP_130) ⟨_, rfl, rfl⟩ rfl (Nat.le_of_ble_eq_true rfl) (Nat.le_of_ble_eq_true rfl) h9 ?_
    rintro _ M_7 L_8 ⟨v_9, rfl, h9⟩
    refine r_iand d_Voyage_isOneAground_86 ?_
    refine r_if_eq d_Voyage_isOneAground_87 (fun c_10 => ?_) (fun c_10 => ?_)
    · have h9 := h9.1 c_10
      refine r_iinc (v := i3 + 1) d_Voyage_isOneAground_92 rfl rfl (by decide) ?_
      refine r_goto d_Voyage_isOneAground_95 ?_
      exact h9
    · have h9 := h9.2 c_10
      refine r_iconst (v := 1) d_Voyage_isOneAground_90 (by decide) ?_
      exact r_iret ⟨d_Voyage_isOneAground_91, _, rfl, rfl⟩ ⟨_, _, rfl, h9⟩
theorem L_Voyage_dropSighted_0 {xs : List Int32}  {M : Mem} {L : Int64} {Q : Option Value → Mem → Int64 → Prop} 
    (h : RX xs shL md_Voyage_dropSighted 2 [.ref 510, .int 0, .null, .null, .null] [] M L Q) : RX xs shL md_Voyage_dropSighted 0 [.ref 510] [] M L Q := by
  refine r_weak (lv' := [.ref 510, .null, .null, .null, .null]) (by repeat (first | exact trivial | refine ⟨rfl, ?_⟩ | exact lle_nil)) ?_
  refine r_iconst (v := 0) d_Voyage_dropSighted_0 (by decide) ?_
  refine r_istore_n d_Voyage_dropSighted_1 (by decide) ?_
  exact h
theorem L_Voyage_dropSighted_2 {xs : List Int32} {i1 : Int32} {M : Mem} {L : Int64} {Q : Option Value → Mem → Int64 → Prop} 
    (h : (((M 126 5) ≤ i1 → Q none M L) ∧ (¬ ((M 126 5) ≤ i1) → (vp_in i1 20 ∧ RX xs shL md_Voyage_dropSighted 31 [.ref 510, .int i1, .int (M (513 + 1) i1.toNatClampNeg), .int (M 515 2), .null] [] M L Q)))) : RX xs shL md_Voyage_dropSighted 2 [.ref 510, .int i1, .null, .null, .null] [] M L Q := by
  refine r_iload_n d_Voyage_dropSighted_2 rfl ?_
  refine r_aload_n d_Voyage_dropSighted_3 rfl ?_
  refine x_getR d_Voyage_dropSighted_4 fl_Voyage_9 gR_510_0 ?_
  refine x_getI d_Voyage_dropSighted_7 fl_Voyage_99 gI_126_5 ?_
  refine r_ic_ge d_Voyage_dropSighted_10 (fun c_1 => ?_) (fun c_1 => ?_)
  · have h9 := h.1 c_1
    exact r_vret ⟨d_Voyage_dropSighted_115, rfl⟩ ⟨M, L, rfl, h9⟩
  · have h9 := h.2 c_1
    refine r_aload_n d_Voyage_dropSighted_13 rfl ?_
    refine x_getR d_Voyage_dropSighted_14 fl_Voyage_22 gR_510_2 ?_
    refine x_getR d_Voyage_dropSighted_17 fl_Voyage_105 (isP_R isP_513) ?_
    refine r_iload_n d_Voyage_dropSighted_20 rfl ?_
    obtain ⟨o_2, h9⟩ := h9
    refine x_iald d_Voyage_dropSighted_21 (isP_A isP_513) o_2 ?_
    refine r_istore_n d_Voyage_dropSighted_22 (by decide) ?_
    refine r_aload_n d_Voyage_dropSighted_23 rfl ?_
    refine x_getR d_Voyage_dropSighted_24 fl_Voyage_28 gR_510_3 ?_
    refine x_getI d_Voyage_dropSighted_27 fl_Voyage_102 (isRe_I isRe_515 2 (by decide)) ?_
    refine r_istore_n d_Voyage_dropSighted_30 (by decide) ?_
    exact h9
theorem L_Voyage_dropSighted_31 {xs : List Int32} {i1 : Int32} {i2 : Int32} {i3 : Int32} {M : Mem} {L : Int64} {Q : Option Value → Mem → Int64 → Prop} 
    (h : ((i2 = 0 → (vp_in i1 20 ∧ RX xs shL md_Voyage_dropSighted 2 [.ref 510, .int (i1 + 1), .null, .null, .null] [] (up M (513 + 1) i1.toNatClampNeg ((M (513 + 1) i1.toNatClampNeg) &&& (i2 ^^^ (-1)))) L Q)) ∧ (¬ (i2 = 0) → (((M 515 3) < i3 → (vp_in i1 20 ∧ RX xs shL md_Voyage_dropSighted 2 [.ref 510, .int (i1 + 1), .null, .null, .null] [] (up M (513 + 1) i1.toNatClampNeg ((M (513 + 1) i1.toNatClampNeg) &&& (i2 ^^^ (-1)))) L Q)) ∧ (¬ ((M 515 3) < i3) → RX xs shL md_Voyage_dropSighted 55 [.ref 510, .int i1, .int i2, .int i3, .int (M 515 0)] [] M L Q))))) : RX xs shL md_Voyage_dropSighted 31 [.ref 510, .int i1, .int i2, .int i3, .null] [] M L Q := by
  refine r_iload_n d_Voyage_dropSighted_31 rfl ?_
  refine r_if_eq d_Voyage_dropSighted_32 (fun c_3 => ?_) (fun c_3 => ?_)
  · have h9 := h.1 c_3
    refine r_aload_n d_Voyage_dropSighted_94 rfl ?_
    refine x_getR d_Voyage_dropSighted_95 fl_Voyage_22 gR_510_2 ?_
    refine x_getR d_Voyage_dropSighted_98 fl_Voyage_105 (isP_R isP_513) ?_
    refine r_iload_n d_Voyage_dropSighted_101 rfl ?_
    refine r_dup2 d_Voyage_dropSighted_102 rfl rfl ?_
    obtain ⟨o_4, h9⟩ := h9
    refine x_iald d_Voyage_dropSighted_103 (isP_A isP_513) o_4 ?_
    refine r_iload_n d_Voyage_dropSighted_104 rfl ?_
    refine r_iconst (v := (-1)) d_Voyage_dropSighted_105 (by decide) ?_
    refine r_ixor d_Voyage_dropSighted_106 ?_
    refine r_iand d_Voyage_dropSighted_107 ?_
    refine x_iast d_Voyage_dropSighted_108 (isP_A isP_513) o_4 ?_
    refine r_iinc (v := i1 + 1) d_Voyage_dropSighted_109 rfl rfl (by decide) ?_
    refine r_goto d_Voyage_dropSighted_112 ?_
    refine r_weak (lv' := [.ref 510, .int (i1 + 1), .null, .null, .null]) (by repeat (first | exact trivial | refine ⟨rfl, ?_⟩ | exact lle_nil)) ?_
    exact h9
  · have h9 := h.2 c_3
    refine r_iload_n d_Voyage_dropSighted_35 rfl ?_
    refine r_aload_n d_Voyage_dropSighted_36 rfl ?_
    refine x_getR d_Voyage_dropSighted_37 fl_Voyage_28 gR_510_3 ?_
    refine x_getI d_Voyage_dropSighted_40 fl_Voyage_109 (isRe_I isRe_515 3 (by decide)) ?_
    refine r_ic_gt d_Voyage_dropSighted_43 (fun c_5 => ?_) (fun c_5 => ?_)
    · have h9 := h9.1 c_5
      refine r_aload_n d_Voyage_dropSighted_94 rfl ?_
      refine x_getR d_Voyage_dropSighted_95 fl_Voyage_22 gR_510_2 ?_
      refine x_getR d_Voyage_dropSighted_98 fl_Voyage_105 (isP_R isP_513) ?_
      refine r_iload_n d_Voyage_dropSighted_101 rfl ?_
      refine r_dup2 d_Voyage_dropSighted_102 rfl rfl ?_
      obtain ⟨o_6, h9⟩ := h9
      refine x_iald d_Voyage_dropSighted_103 (isP_A isP_513) o_6 ?_
      refine r_iload_n d_Voyage_dropSighted_104 rfl ?_
      refine r_iconst (v := (-1)) d_Voyage_dropSighted_105 (by decide) ?_
      refine r_ixor d_Voyage_dropSighted_106 ?_
      refine r_iand d_Voyage_dropSighted_107 ?_
      refine x_iast d_Voyage_dropSighted_108 (isP_A isP_513) o_6 ?_
      refine r_iinc (v := i1 + 1) d_Voyage_dropSighted_109 rfl rfl (by decide) ?_
      refine r_goto d_Voyage_dropSighted_112 ?_
      refine r_weak (lv' := [.ref 510, .int (i1 + 1), .null, .null, .null]) (by repeat (first | exact trivial | refine ⟨rfl, ?_⟩ | exact lle_nil)) ?_
      exact h9
    · have h9 := h9.2 c_5
      refine r_aload_n d_Voyage_dropSighted_46 rfl ?_
      refine x_getR d_Voyage_dropSighted_47 fl_Voyage_28 gR_510_3 ?_
      refine x_getI d_Voyage_dropSighted_50 fl_Voyage_112 (isRe_I isRe_515 0 (by decide)) ?_
      refine r_istore d_Voyage_dropSighted_53 (by decide) ?_
      exact h9
theorem L_Voyage_dropSighted_55 {xs : List Int32} {i1 : Int32} {i2 : Int32} {i3 : Int32} {i4 : Int32} {M : Mem} {L : Int64} {Q : Option Value → Mem → Int64 → Prop} 
    (h : (((M 515 1) < i4 → RX xs shL md_Voyage_dropSighted 31 [.ref 510, .int i1, .int i2, .int (i3 + 1), .null] [] M L Q) ∧ (¬ ((M 515 1) < i4) → RX xs shL md_Patch_seenFrom 0 [.ref 511, .int i4, .int (i1 + i3)] [] M L (fun r M_8 L_9 => ∃ v_10 : Int32, r = some (.int v_10) ∧ RX xs shL md_Voyage_dropSighted 55 [.ref 510, .int i1, .int (i2 &&& v_10), .int i3, .int (i4 + 1)] [] M_8 L_9 Q)))) : RX xs shL md_Voyage_dropSighted 55 [.ref 510, .int i1, .int i2, .int i3, .int i4] [] M L Q := by
  refine r_iload d_Voyage_dropSighted_55 rfl ?_
  refine r_aload_n d_Voyage_dropSighted_57 rfl ?_
  refine x_getR d_Voyage_dropSighted_58 fl_Voyage_28 gR_510_3 ?_
  refine x_getI d_Voyage_dropSighted_61 fl_Voyage_115 (isRe_I isRe_515 1 (by decide)) ?_
  refine r_ic_gt d_Voyage_dropSighted_64 (fun c_7 => ?_) (fun c_7 => ?_)
  · have h9 := h.1 c_7
    refine r_iinc (v := i3 + 1) d_Voyage_dropSighted_88 rfl rfl (by decide) ?_
    refine r_goto d_Voyage_dropSighted_91 ?_
    refine r_weak (lv' := [.ref 510, .int i1, .int i2, .int (i3 + 1), .null]) (by repeat (first | exact trivial | refine ⟨rfl, ?_⟩ | exact lle_nil)) ?_
    exact h9
  · have h9 := h.2 c_7
    refine r_iload_n d_Voyage_dropSighted_67 rfl ?_
    refine r_aload_n d_Voyage_dropSighted_68 rfl ?_
    refine x_getR d_Voyage_dropSighted_69 fl_Voyage_18 gR_510_1 ?_
    refine r_iload d_Voyage_dropSighted_72 rfl ?_
    refine r_iload_n d_Voyage_dropSighted_74 rfl ?_
    refine r_iload_n d_Voyage_dropSighted_75 rfl ?_
    refine r_iadd d_Voyage_dropSighted_76 ?_
    refine x_callV (as := [.int i4, .int (i1 + i3)]) (st := [.int i2]) d_Voyage_dropSighted_77 ml_Voyage_121 mc_Patch_seenFrom mv_Patch_seenFrom ⟨by decide, by decide⟩ (isP_O isP_511) ⟨_, rfl, rfl⟩ rfl (Nat.le_of_ble_eq_true rfl) (Nat.le_of_ble_eq_true rfl) h9 ?_
    rintro _ M_8 L_9 ⟨v_10, rfl, h9⟩
    refine r_iand d_Voyage_dropSighted_80 ?_
    refine r_istore_n d_Voyage_dropSighted_81 (by decide) ?_
    refine r_iinc (v := i4 + 1) d_Voyage_dropSighted_82 rfl rfl (by decide) ?_
    refine r_goto d_Voyage_dropSighted_85 ?_
    exact h9
theorem L_Voyage_sightedFromAll_0 {xs : List Int32} {p1 : Nat} {i2 : Int32} {i3 : Int32} {M : Mem} {L : Int64} {Q : Option Value → Mem → Int64 → Prop} (hp1 : isP shL p1)
    (h : RX xs shL md_Voyage_sightedFromLeft 0 [.ref 510, .int i2, .int i3] [] (setP M 513 (gp M p1)) L (fun r M_1 L_2 => ∃ v_3 : Int32, r = some (.int v_3) ∧ Q (some (.int v_3)) M_1 L_2)) : RX xs shL md_Voyage_sightedFromAll 0 [.ref 510, .ref p1, .int i2, .int i3] [] M L Q := by
  refine r_aload_n d_Voyage_sightedFromAll_0 rfl ?_
  refine x_getR d_Voyage_sightedFromAll_1 fl_Voyage_22 gR_510_2 ?_
  refine r_aload_n d_Voyage_sightedFromAll_4 rfl ?_
  refine x_callV (as := [.ref p1]) (st := []) d_Voyage_sightedFromAll_5 ml_Voyage_62 mc_Patch_copy mv_Patch_copy ⟨by decide, by decide⟩ (isP_O isP_513) ⟨_, rfl, rfl⟩ rfl (Nat.le_of_ble_eq_true rfl) (Nat.le_of_ble_eq_true rfl) (Q1 := fun r M1 L1 => none = r ∧ setP M 513 (gp M p1) = M1 ∧ L = L1) (t_copy isP_513 hp1 ⟨rfl, rfl, rfl⟩) ?_
  rintro _ _ _ ⟨rfl, rfl, rfl⟩
  refine r_aload_n d_Voyage_sightedFromAll_8 rfl ?_
  refine r_iload_n d_Voyage_sightedFromAll_9 rfl ?_
  refine r_iload_n d_Voyage_sightedFromAll_10 rfl ?_
  refine x_callV (as := [.int i2, .int i3]) (st := []) d_Voyage_sightedFromAll_11 ml_Voyage_58 mc_Voyage_sightedFromLeft mv_Voyage_sightedFromLeft ⟨by decide, by decide⟩ gO_510 ⟨_, rfl, rfl⟩ rfl (Nat.le_of_ble_eq_true rfl) (Nat.le_of_ble_eq_true rfl) h ?_
  rintro _ M_1 L_2 ⟨v_3, rfl, h9⟩
  exact r_iret ⟨d_Voyage_sightedFromAll_14, _, rfl, rfl⟩ ⟨_, _, rfl, h9⟩
theorem L_Voyage_soonestPoint_0 {xs : List Int32} {p1 : Nat} {i2 : Int32} {M : Mem} {L : Int64} {Q : Option Value → Mem → Int64 → Prop} (hp1 : isP shL p1)
    (h : RX xs shL md_Voyage_soonestPoint 8 [.ref 510, .ref p1, .null, .int (-1), .int i2, .int 0, .null] [] M L Q) : RX xs shL md_Voyage_soonestPoint 0 [.ref 510, .ref p1, .int i2] [] M L Q := by
  refine r_weak (lv' := [.ref 510, .ref p1, .int i2, .null, .null, .null, .null]) (by repeat (first | exact trivial | refine ⟨rfl, ?_⟩ | exact lle_nil)) ?_
  refine r_iconst (v := (-1)) d_Voyage_soonestPoint_0 (by decide) ?_
  refine r_istore_n d_Voyage_soonestPoint_1 (by decide) ?_
  refine r_iload_n d_Voyage_soonestPoint_2 rfl ?_
  refine r_istore d_Voyage_soonestPoint_3 (by decide) ?_
  refine r_iconst (v := 0) d_Voyage_soonestPoint_5 (by decide) ?_
  refine r_istore d_Voyage_soonestPoint_6 (by decide) ?_
  refine r_weak (lv' := [.ref 510, .ref p1, .null, .int (-1), .int i2, .int 0, .null]) (by repeat (first | exact trivial | refine ⟨rfl, ?_⟩ | exact lle_nil)) ?_
  exact h
theorem L_Voyage_soonestPoint_8 {xs : List Int32} {p1 : Nat} {i3 : Int32} {i4 : Int32} {i5 : Int32} {M : Mem} {L : Int64} {Q : Option Value → Mem → Int64 → Prop} 
    (h : ((32 ≤ i5 → Q (some (.int i3)) M L) ∧ (¬ (32 ≤ i5) → RX xs shL md_Voyage_sightedFromAll 0 [.ref 510, .ref p1, .int i5, .int i4] [] M L (fun r M_2 L_3 => ∃ v_4 : Int32, r = some (.int v_4) ∧ ((v_4 ≤ 0 → RX xs shL md_Voyage_soonestPoint 8 [.ref 510, .ref p1, .null, .int i3, .int i4, .int (i5 + 1), .null] [] M_2 L_3 Q) ∧ (¬ (v_4 ≤ 0) → RX xs shL md_Voyage_soonestPoint 8 [.ref 510, .ref p1, .null, .int i5, .int (v_4 - 1), .int (i5 + 1), .null] [] M_2 L_3 Q)))))) : RX xs shL md_Voyage_soonestPoint 8 [.ref 510, .ref p1, .null, .int i3, .int i4, .int i5, .null] [] M L Q := by
  refine r_iload d_Voyage_soonestPoint_8 rfl ?_
  refine r_bipush (v := 32) d_Voyage_soonestPoint_10 (by decide) ?_
  refine r_ic_ge d_Voyage_soonestPoint_12 (fun c_1 => ?_) (fun c_1 => ?_)
  · have h9 := h.1 c_1
    refine r_iload_n d_Voyage_soonestPoint_46 rfl ?_
    exact r_iret ⟨d_Voyage_soonestPoint_47, _, rfl, rfl⟩ ⟨_, _, rfl, h9⟩
  · have h9 := h.2 c_1
    refine r_aload_n d_Voyage_soonestPoint_15 rfl ?_
    refine r_aload_n d_Voyage_soonestPoint_16 rfl ?_
    refine r_iload d_Voyage_soonestPoint_17 rfl ?_
    refine r_iload d_Voyage_soonestPoint_19 rfl ?_
    refine x_callV (as := [.ref p1, .int i5, .int i4]) (st := []) d_Voyage_soonestPoint_21 ml_Voyage_68 mc_Voyage_sightedFromAll mv_Voyage_sightedFromAll ⟨by decide, by decide⟩ gO_510 ⟨_, rfl, rfl⟩ rfl (Nat.le_of_ble_eq_true rfl) (Nat.le_of_ble_eq_true rfl) h9 ?_
    rintro _ M_2 L_3 ⟨v_4, rfl, h9⟩
    refine r_istore d_Voyage_soonestPoint_24 (by decide) ?_
    refine r_iload d_Voyage_soonestPoint_26 rfl ?_
    refine r_if_le d_Voyage_soonestPoint_28 (fun c_5 => ?_) (fun c_5 => ?_)
    · have h9 := h9.1 c_5
      refine r_iinc (v := i5 + 1) d_Voyage_soonestPoint_40 rfl rfl (by decide) ?_
      refine r_goto d_Voyage_soonestPoint_43 ?_
      refine r_weak (lv' := [.ref 510, .ref p1, .null, .int i3, .int i4, .int (i5 + 1), .null]) (by repeat (first | exact trivial | refine ⟨rfl, ?_⟩ | exact lle_nil)) ?_
      exact h9
    · have h9 := h9.2 c_5
      refine r_iload d_Voyage_soonestPoint_31 rfl ?_
      refine r_istore_n d_Voyage_soonestPoint_33 (by decide) ?_
      refine r_iload d_Voyage_soonestPoint_34 rfl ?_
      refine r_iconst (v := 1) d_Voyage_soonestPoint_36 (by decide) ?_
      refine r_isub d_Voyage_soonestPoint_37 ?_
      refine r_istore d_Voyage_soonestPoint_38 (by decide) ?_
      refine r_iinc (v := i5 + 1) d_Voyage_soonestPoint_40 rfl rfl (by decide) ?_
      refine r_goto d_Voyage_soonestPoint_43 ?_
      refine r_weak (lv' := [.ref 510, .ref p1, .null, .int i5, .int (v_4 - 1), .int (i5 + 1), .null]) (by repeat (first | exact trivial | refine ⟨rfl, ?_⟩ | exact lle_nil)) ?_
      exact h9
theorem L_Mod_begin_0 {xs : List Int32}  {M : Mem} {L : Int64} {Q : Option Value → Mem → Int64 → Prop} 
    (h : RX xs shL md_Mod_begin 2 [.ref 516, .int 0, .null, .null] [] M L Q) : RX xs shL md_Mod_begin 0 [.ref 516] [] M L Q := by
  refine r_weak (lv' := [.ref 516, .null, .null, .null]) (by repeat (first | exact trivial | refine ⟨rfl, ?_⟩ | exact lle_nil)) ?_
  refine r_iconst (v := 0) d_Mod_begin_0 (by decide) ?_
  refine r_istore_n d_Mod_begin_1 (by decide) ?_
  exact h
theorem L_Mod_begin_2 {xs : List Int32} {i1 : Int32} {M : Mem} {L : Int64} {Q : Option Value → Mem → Int64 → Prop} 
    (h : (((M 516 10) ≤ i1 → Q none M L) ∧ (¬ ((M 516 10) ≤ i1) → RX xs shL md_Mod_begin 12 [.ref 516, .int i1, .int 0, .null] [] M L Q))) : RX xs shL md_Mod_begin 2 [.ref 516, .int i1, .null, .null] [] M L Q := by
  refine r_iload_n d_Mod_begin_2 rfl ?_
  refine r_aload_n d_Mod_begin_3 rfl ?_
  refine x_getI d_Mod_begin_4 fl_Mod_35 gI_516_10 ?_
  refine r_ic_ge d_Mod_begin_7 (fun c_1 => ?_) (fun c_1 => ?_)
  · have h9 := h.1 c_1
    exact r_vret ⟨d_Mod_begin_108, rfl⟩ ⟨M, L, rfl, h9⟩
  · have h9 := h.2 c_1
    refine r_iconst (v := 0) d_Mod_begin_10 (by decide) ?_
    refine r_istore_n d_Mod_begin_11 (by decide) ?_
    exact h9
set_option maxHeartbeats 4000000 in
theorem L_Mod_begin_12 {xs : List Int32} {i1 : Int32} {i2 : Int32} {M : Mem} {L : Int64} {Q : Option Value → Mem → Int64 → Prop} 
    (h : (((M 516 9) ≤ i2 → RX xs shL md_Mod_begin 2 [.ref 516, .int (i1 + 1), .null, .null] [] M L Q) ∧ (¬ ((M 516 9) ≤ i2) → ((((-(M 516 19)) ≤ (i2 - (M 516 17)) ∧ (i2 - (M 516 17)) ≤ (M 516 19)) → ((((-(M 516 19)) ≤ (i1 - (M 516 18)) ∧ (i1 - (M 516 18)) ≤ (M 516 19)) → (((1 : Int32) = 0 → (vp_in (20 * i1 + i2) 400 ∧ RX xs shL md_Mod_begin 12 [.ref 516, .int i1, .int (i2 + 1), .null] [] (up M 527 ((20 * i1 + i2).toNatClampNeg) 0) L Q)) ∧ (¬ ((1 : Int32) = 0) → RX xs shL md_Mod_isLand 0 [.ref 516, .int i2, .int i1] [] M L (fun r M_23 L_24 => ∃ v_25 : Int32, r = some (.int v_25) ∧ ((v_25 = 0 → (vp_in (20 * i1 + i2) 400 ∧ RX xs shL md_Mod_begin 12 [.ref 516, .int i1, .int (i2 + 1), .null] [] (up M_23 527 ((20 * i1 + i2).toNatClampNeg) 1) L_24 Q)) ∧ (¬ (v_25 = 0) → (vp_in (20 * i1 + i2) 400 ∧ RX xs shL md_Mod_begin 12 [.ref 516, .int i1, .int (i2 + 1), .null] [] (up M_23 527 ((20 * i1 + i2).toNatClampNeg) 0) L_24 Q))))))) ∧ (¬ ((-(M 516 19)) ≤ (i1 - (M 516 18)) ∧ (i1 - (M 516 18)) ≤ (M 516 19)) → (((0 : Int32) = 0 → (vp_in (20 * i1 + i2) 400 ∧ RX xs shL md_Mod_begin 12 [.ref 516, .int i1, .int (i2 + 1), .null] [] (up M 527 ((20 * i1 + i2).toNatClampNeg) 0) L Q)) ∧ (¬ ((0 : Int32) = 0) → RX xs shL md_Mod_isLand 0 [.ref 516, .int i2, .int i1] [] M L (fun r M_15 L_16 => ∃ v_17 : Int32, r = some (.int v_17) ∧ ((v_17 = 0 → (vp_in (20 * i1 + i2) 400 ∧ RX xs shL md_Mod_begin 12 [.ref 516, .int i1, .int (i2 + 1), .null] [] (up M_15 527 ((20 * i1 + i2).toNatClampNeg) 1) L_16 Q)) ∧ (¬ (v_17 = 0) → (vp_in (20 * i1 + i2) 400 ∧ RX xs shL md_Mod_begin 12 [.ref 516, .int i1, .int (i2 + 1), .null] [] (up M_15 527 ((20 * i1 + i2).toNatClampNeg) 0) L_16 Q))))))))) ∧ (¬ ((-(M 516 19)) ≤ (i2 - (M 516 17)) ∧ (i2 - (M 516 17)) ≤ (M 516 19)) → (((0 : Int32) = 0 → (vp_in (20 * i1 + i2) 400 ∧ RX xs shL md_Mod_begin 12 [.ref 516, .int i1, .int (i2 + 1), .null] [] (up M 527 ((20 * i1 + i2).toNatClampNeg) 0) L Q)) ∧ (¬ ((0 : Int32) = 0) → RX xs shL md_Mod_isLand 0 [.ref 516, .int i2, .int i1] [] M L (fun r M_6 L_7 => ∃ v_8 : Int32, r = some (.int v_8) ∧ ((v_8 = 0 → (vp_in (20 * i1 + i2) 400 ∧ RX xs shL md_Mod_begin 12 [.ref 516, .int i1, .int (i2 + 1), .null] [] (up M_6 527 ((20 * i1 + i2).toNatClampNeg) 1) L_7 Q)) ∧ (¬ (v_8 = 0) → (vp_in (20 * i1 + i2) 400 ∧ RX xs shL md_Mod_begin 12 [.ref 516, .int i1, .int (i2 + 1), .null] [] (up M_6 527 ((20 * i1 + i2).toNatClampNeg) 0) L_7 Q))))))))))) : RX xs shL md_Mod_begin 12 [.ref 516, .int i1, .int i2, .null] [] M L Q := by
  refine r_iload_n d_Mod_begin_12 rfl ?_
  refine r_aload_n d_Mod_begin_13 rfl ?_
  refine x_getI d_Mod_begin_14 fl_Mod_32 gI_516_9 ?_
  refine r_ic_ge d_Mod_begin_17 (fun c_2 => ?_) (fun c_2 => ?_)
  · have h9 := h.1 c_2
    refine r_iinc (v := i1 + 1) d_Mod_begin_102 rfl rfl (by decide) ?_
    refine r_goto d_Mod_begin_105 ?_
    refine r_weak (lv' := [.ref 516, .int (i1 + 1), .null, .null]) (by repeat (first | exact trivial | refine ⟨rfl, ?_⟩ | exact lle_nil)) ?_
    exact h9
  · have h9 := h.2 c_2
    refine r_iload_n d_Mod_begin_20 rfl ?_
    refine r_aload_n d_Mod_begin_21 rfl ?_
    refine x_getI d_Mod_begin_22 fl_Mod_66 gI_516_17 ?_
    refine r_isub d_Mod_begin_25 ?_
    refine r_aload_n d_Mod_begin_26 rfl ?_
    refine x_getI d_Mod_begin_27 fl_Mod_72 gI_516_19 ?_
    refine r_ineg d_Mod_begin_30 ?_
    refine r_aload_n d_Mod_begin_31 rfl ?_
    refine x_getI d_Mod_begin_32 fl_Mod_72 gI_516_19 ?_
    refine x_callS (as := [.int (i2 - (M 516 17)), .int (-(M 516 19)), .int (M 516 19)]) (st := []) d_Mod_begin_35 ml_Mod_75 mc_Mod_in ms_Mod_in ⟨by decide, by decide⟩ rfl (Nat.le_of_ble_eq_true rfl) (Nat.le_of_ble_eq_true rfl) (Q1 := fun r M1 L1 => some (.int (bI ((-(M 516 19)) ≤ (i2 - (M 516 17)) ∧ (i2 - (M 516 17)) ≤ (M 516 19)))) = r ∧ M = M1 ∧ L = L1) (s_Mod_in ⟨rfl, rfl, rfl⟩) ?_
    rintro _ _ _ ⟨rfl, rfl, rfl⟩
    refine r_if_eq d_Mod_begin_38 (fun c_3 => ?_) (fun c_3 => ?_)
    · have h9 := h9.2 (bI_p0 c_3)
      refine r_iconst (v := 0) d_Mod_begin_66 (by decide) ?_
      refine r_istore_n d_Mod_begin_67 (by decide) ?_
      refine r_aload_n d_Mod_begin_68 rfl ?_
      refine x_getR d_Mod_begin_69 fl_Mod_51 gR_516_29 ?_
      refine r_iload_n d_Mod_begin_72 rfl ?_
      refine r_iload_n d_Mod_begin_73 rfl ?_
      refine x_callS (as := [.int i2, .int i1]) (st := [.ref 527]) d_Mod_begin_74 ml_Mod_147 mc_Mod_at ms_Mod_at ⟨by decide, by decide⟩ rfl (Nat.le_of_ble_eq_true rfl) (Nat.le_of_ble_eq_true rfl) (Q1 := fun r M1 L1 => some (.int (20 * i1 + i2)) = r ∧ M = M1 ∧ L = L1) (s_Mod_at ⟨rfl, rfl, rfl⟩) ?_
      rintro _ _ _ ⟨rfl, rfl, rfl⟩
      refine r_iload_n d_Mod_begin_77 rfl ?_
      refine r_if_eq d_Mod_begin_78 (fun c_4 => ?_) (fun c_4 => ?_)
      · have h9 := h9.1 c_4
        refine r_iconst (v := 0) d_Mod_begin_94 (by decide) ?_
        obtain ⟨o_5, h9⟩ := h9
        refine x_zast d_Mod_begin_95 aZ_527 o_5 ?_
        refine r_iinc (v := i2 + 1) d_Mod_begin_96 rfl rfl (by decide) ?_
        refine r_goto d_Mod_begin_99 ?_
        refine r_weak (lv' := [.ref 516, .int i1, .int (i2 + 1), .null]) (by repeat (first | exact trivial | refine ⟨rfl, ?_⟩ | exact lle_nil)) ?_
        exact h9
      · have h9 := h9.2 c_4
        refine r_aload_n d_Mod_begin_81 rfl ?_
        refine r_iload_n d_Mod_begin_82 rfl ?_
        refine r_iload_n d_Mod_begin_83 rfl ?_
        refine x_callV (as := [.int i2, .int i1]) (st := [.int (20 * i1 + i2), .ref 527]) d_Mod_begin_84 ml_Mod_150 mc_Mod_isLand mv_Mod_isLand ⟨by decide, by decide⟩ gO_516 ⟨_, rfl, rfl⟩ rfl (Nat.le_of_ble_eq_true rfl) (Nat.le_of_ble_eq_true rfl) h9 ?_
        rintro _ M_6 L_7 ⟨v_8, rfl, h9⟩
        refine r_if_ne d_Mod_begin_87 (fun c_9 => ?_) (fun c_9 => ?_)
        · have h9 := h9.2 c_9
          refine r_iconst (v := 0) d_Mod_begin_94 (by decide) ?_
          obtain ⟨o_10, h9⟩ := h9
          refine x_zast d_Mod_begin_95 aZ_527 o_10 ?_
          refine r_iinc (v := i2 + 1) d_Mod_begin_96 rfl rfl (by decide) ?_
          refine r_goto d_Mod_begin_99 ?_
          refine r_weak (lv' := [.ref 516, .int i1, .int (i2 + 1), .null]) (by repeat (first | exact trivial | refine ⟨rfl, ?_⟩ | exact lle_nil)) ?_
          exact h9
        · have h9 := h9.1 c_9
          refine r_iconst (v := 1) d_Mod_begin_90 (by decide) ?_
          refine r_goto d_Mod_begin_91 ?_
          obtain ⟨o_11, h9⟩ := h9
          refine x_zast d_Mod_begin_95 aZ_527 o_11 ?_
          refine r_iinc (v := i2 + 1) d_Mod_begin_96 rfl rfl (by decide) ?_
          refine r_goto d_Mod_begin_99 ?_
          refine r_weak (lv' := [.ref 516, .int i1, .int (i2 + 1), .null]) (by repeat (first | exact trivial | refine ⟨rfl, ?_⟩ | exact lle_nil)) ?_
          exact h9
    · have h9 := h9.1 (bI_p1 c_3)
      refine r_iload_n d_Mod_begin_41 rfl ?_
      refine r_aload_n d_Mod_begin_42 rfl ?_
      refine x_getI d_Mod_begin_43 fl_Mod_69 gI_516_18 ?_
      refine r_isub d_Mod_begin_46 ?_
      refine r_aload_n d_Mod_begin_47 rfl ?_
      refine x_getI d_Mod_begin_48 fl_Mod_72 gI_516_19 ?_
      refine r_ineg d_Mod_begin_51 ?_
      refine r_aload_n d_Mod_begin_52 rfl ?_
      refine x_getI d_Mod_begin_53 fl_Mod_72 gI_516_19 ?_
      refine x_callS (as := [.int (i1 - (M 516 18)), .int (-(M 516 19)), .int (M 516 19)]) (st := []) d_Mod_begin_56 ml_Mod_75 mc_Mod_in ms_Mod_in ⟨by decide, by decide⟩ rfl (Nat.le_of_ble_eq_true rfl) (Nat.le_of_ble_eq_true rfl) (Q1 := fun r M1 L1 => some (.int (bI ((-(M 516 19)) ≤ (i1 - (M 516 18)) ∧ (i1 - (M 516 18)) ≤ (M 516 19)))) = r ∧ M = M1 ∧ L = L1) (s_Mod_in ⟨rfl, rfl, rfl⟩) ?_
      rintro _ _ _ ⟨rfl, rfl, rfl⟩
      refine r_if_eq d_Mod_begin_59 (fun c_12 => ?_) (fun c_12 => ?_)
      · have h9 := h9.2 (bI_p0 c_12)
        refine r_iconst (v := 0) d_Mod_begin_66 (by decide) ?_
        refine r_istore_n d_Mod_begin_67 (by decide) ?_
        refine r_aload_n d_Mod_begin_68 rfl ?_
        refine x_getR d_Mod_begin_69 fl_Mod_51 gR_516_29 ?_
        refine r_iload_n d_Mod_begin_72 rfl ?_
        refine r_iload_n d_Mod_begin_73 rfl ?_
        refine x_callS (as := [.int i2, .int i1]) (st := [.ref 527]) d_Mod_begin_74 ml_Mod_147 mc_Mod_at ms_Mod_at ⟨by decide, by decide⟩ rfl (Nat.le_of_ble_eq_true rfl) (Nat.le_of_ble_eq_true rfl) (Q1 := fun r M1 L1 => some (.int (20 * i1 + i2)) = r ∧ M = M1 ∧ L = L1) (s_Mod_at ⟨rfl, rfl, rfl⟩) ?_
        rintro _ _ _ ⟨rfl, rfl, rfl⟩
        refine r_iload_n d_Mod_begin_77 rfl ?_
        refine r_if_eq d_Mod_begin_78 (fun c_13 => ?_) (fun c_13 => ?_)
        · have h9 := h9.1 c_13
          refine r_iconst (v := 0) d_Mod_begin_94 (by decide) ?_
          obtain ⟨o_14, h9⟩ := h9
          refine x_zast d_Mod_begin_95 aZ_527 o_14 ?_
          refine r_iinc (v := i2 + 1) d_Mod_begin_96 rfl rfl (by decide) ?_
          refine r_goto d_Mod_begin_99 ?_
          refine r_weak (lv' := [.ref 516, .int i1, .int (i2 + 1), .null]) (by repeat (first | exact trivial | refine ⟨rfl, ?_⟩ | exact lle_nil)) ?_
          exact h9
        · have h9 := h9.2 c_13
          refine r_aload_n d_Mod_begin_81 rfl ?_
          refine r_iload_n d_Mod_begin_82 rfl ?_
          refine r_iload_n d_Mod_begin_83 rfl ?_
          refine x_callV (as := [.int i2, .int i1]) (st := [.int (20 * i1 + i2), .ref 527]) d_Mod_begin_84 ml_Mod_150 mc_Mod_isLand mv_Mod_isLand ⟨by decide, by decide⟩ gO_516 ⟨_, rfl, rfl⟩ rfl (Nat.le_of_ble_eq_true rfl) (Nat.le_of_ble_eq_true rfl) h9 ?_
          rintro _ M_15 L_16 ⟨v_17, rfl, h9⟩
          refine r_if_ne d_Mod_begin_87 (fun c_18 => ?_) (fun c_18 => ?_)
          · have h9 := h9.2 c_18
            refine r_iconst (v := 0) d_Mod_begin_94 (by decide) ?_
            obtain ⟨o_19, h9⟩ := h9
            refine x_zast d_Mod_begin_95 aZ_527 o_19 ?_
            refine r_iinc (v := i2 + 1) d_Mod_begin_96 rfl rfl (by decide) ?_
            refine r_goto d_Mod_begin_99 ?_
            refine r_weak (lv' := [.ref 516, .int i1, .int (i2 + 1), .null]) (by repeat (first | exact trivial | refine ⟨rfl, ?_⟩ | exact lle_nil)) ?_
            exact h9
          · have h9 := h9.1 c_18
            refine r_iconst (v := 1) d_Mod_begin_90 (by decide) ?_
            refine r_goto d_Mod_begin_91 ?_
            obtain ⟨o_20, h9⟩ := h9
            refine x_zast d_Mod_begin_95 aZ_527 o_20 ?_
            refine r_iinc (v := i2 + 1) d_Mod_begin_96 rfl rfl (by decide) ?_
            refine r_goto d_Mod_begin_99 ?_
            refine r_weak (lv' := [.ref 516, .int i1, .int (i2 + 1), .null]) (by repeat (first | exact trivial | refine ⟨rfl, ?_⟩ | exact lle_nil)) ?_
            exact h9
      · have h9 := h9.1 (bI_p1 c_12)
        refine r_iconst (v := 1) d_Mod_begin_62 (by decide) ?_
        refine r_goto d_Mod_begin_63 ?_
        refine r_istore_n d_Mod_begin_67 (by decide) ?_
        refine r_aload_n d_Mod_begin_68 rfl ?_
        refine x_getR d_Mod_begin_69 fl_Mod_51 gR_516_29 ?_
        refine r_iload_n d_Mod_begin_72 rfl ?_
        refine r_iload_n d_Mod_begin_73 rfl ?_
        refine x_callS (as := [.int i2, .int i1]) (st := [.ref 527]) d_Mod_begin_74 ml_Mod_147 mc_Mod_at ms_Mod_at ⟨by decide, by decide⟩ rfl (Nat.le_of_ble_eq_true rfl) (Nat.le_of_ble_eq_true rfl) (Q1 := fun r M1 L1 => some (.int (20 * i1 + i2)) = r ∧ M = M1 ∧ L = L1) (s_Mod_at ⟨rfl, rfl, rfl⟩) ?_
        rintro _ _ _ ⟨rfl, rfl, rfl⟩
        refine r_iload_n d_Mod_begin_77 rfl ?_
        refine r_if_eq d_Mod_begin_78 (fun c_21 => ?_) (fun c_21 => ?_)
        · have h9 := h9.1 c_21
          refine r_iconst (v := 0) d_Mod_begin_94 (by decide) ?_
          obtain ⟨o_22, h9⟩ := h9
          refine x_zast d_Mod_begin_95 aZ_527 o_22 ?_
          refine r_iinc (v := i2 + 1) d_Mod_begin_96 rfl rfl (by decide) ?_
          refine r_goto d_Mod_begin_99 ?_
          refine r_weak (lv' := [.ref 516, .int i1, .int (i2 + 1), .null]) (by repeat (first | exact trivial | refine ⟨rfl, ?_⟩ | exact lle_nil)) ?_
          exact h9
        · have h9 := h9.2 c_21
          refine r_aload_n d_Mod_begin_81 rfl ?_
          refine r_iload_n d_Mod_begin_82 rfl ?_
          refine r_iload_n d_Mod_begin_83 rfl ?_
          refine x_callV (as := [.int i2, .int i1]) (st := [.int (20 * i1 + i2), .ref 527]) d_Mod_begin_84 ml_Mod_150 mc_Mod_isLand mv_Mod_isLand ⟨by decide, by decide⟩ gO_516 ⟨_, rfl, rfl⟩ rfl (Nat.le_of_ble_eq_true rfl) (Nat.le_of_ble_eq_true rfl) h9 ?_
          rintro _ M_23 L_24 ⟨v_25, rfl, h9⟩
          refine r_if_ne d_Mod_begin_87 (fun c_26 => ?_) (fun c_26 => ?_)
          · have h9 := h9.2 c_26
            refine r_iconst (v := 0) d_Mod_begin_94 (by decide) ?_
            obtain ⟨o_27, h9⟩ := h9
            refine x_zast d_Mod_begin_95 aZ_527 o_27 ?_
            refine r_iinc (v := i2 + 1) d_Mod_begin_96 rfl rfl (by decide) ?_
            refine r_goto d_Mod_begin_99 ?_
            refine r_weak (lv' := [.ref 516, .int i1, .int (i2 + 1), .null]) (by repeat (first | exact trivial | refine ⟨rfl, ?_⟩ | exact lle_nil)) ?_
            exact h9
          · have h9 := h9.1 c_26
            refine r_iconst (v := 1) d_Mod_begin_90 (by decide) ?_
            refine r_goto d_Mod_begin_91 ?_
            obtain ⟨o_28, h9⟩ := h9
            refine x_zast d_Mod_begin_95 aZ_527 o_28 ?_
            refine r_iinc (v := i2 + 1) d_Mod_begin_96 rfl rfl (by decide) ?_
            refine r_goto d_Mod_begin_99 ?_
            refine r_weak (lv' := [.ref 516, .int i1, .int (i2 + 1), .null]) (by repeat (first | exact trivial | refine ⟨rfl, ?_⟩ | exact lle_nil)) ?_
            exact h9
theorem L_Mod_measure_0 {xs : List Int32}  {M : Mem} {L : Int64} {Q : Option Value → Mem → Int64 → Prop} 
    (h : RX xs shL md_Mod_measure 2 [.ref 516, .int 0, .null] [] M L Q) : RX xs shL md_Mod_measure 0 [.ref 516] [] M L Q := by
  refine r_weak (lv' := [.ref 516, .null, .null]) (by repeat (first | exact trivial | refine ⟨rfl, ?_⟩ | exact lle_nil)) ?_
  refine r_iconst (v := 0) d_Mod_measure_0 (by decide) ?_
  refine r_istore_n d_Mod_measure_1 (by decide) ?_
  exact h
theorem L_Mod_measure_2 {xs : List Int32} {i1 : Int32} {M : Mem} {L : Int64} {Q : Option Value → Mem → Int64 → Prop} 
    (h : (((M 516 10) ≤ i1 → Q none M L) ∧ (¬ ((M 516 10) ≤ i1) → RX xs shL md_Mod_measure 12 [.ref 516, .int i1, .int 0] [] M L Q))) : RX xs shL md_Mod_measure 2 [.ref 516, .int i1, .null] [] M L Q := by
  refine r_iload_n d_Mod_measure_2 rfl ?_
  refine r_aload_n d_Mod_measure_3 rfl ?_
  refine x_getI d_Mod_measure_4 fl_Mod_35 gI_516_10 ?_
  refine r_ic_ge d_Mod_measure_7 (fun c_1 => ?_) (fun c_1 => ?_)
  · have h9 := h.1 c_1
    exact r_vret ⟨d_Mod_measure_48, rfl⟩ ⟨M, L, rfl, h9⟩
  · have h9 := h.2 c_1
    refine r_iconst (v := 0) d_Mod_measure_10 (by decide) ?_
    refine r_istore_n d_Mod_measure_11 (by decide) ?_
    exact h9
theorem L_Mod_measure_12 {xs : List Int32} {i1 : Int32} {i2 : Int32} {M : Mem} {L : Int64} {Q : Option Value → Mem → Int64 → Prop} 
    (h : (((M 516 9) ≤ i2 → RX xs shL md_Mod_measure 2 [.ref 516, .int (i1 + 1), .null] [] M L Q) ∧ (¬ ((M 516 9) ≤ i2) → RX xs shL md_Mod_nearest 0 [.ref 516, .int i2, .int i1] [] M L (fun r M_3 L_4 => ∃ v_5 : Int32, r = some (.int v_5) ∧ (vp_in (20 * i1 + i2) 400 ∧ RX xs shL md_Mod_measure 12 [.ref 516, .int i1, .int (i2 + 1)] [] (up M_3 530 ((20 * i1 + i2).toNatClampNeg) v_5) L_4 Q))))) : RX xs shL md_Mod_measure 12 [.ref 516, .int i1, .int i2] [] M L Q := by
  refine r_iload_n d_Mod_measure_12 rfl ?_
  refine r_aload_n d_Mod_measure_13 rfl ?_
  refine x_getI d_Mod_measure_14 fl_Mod_32 gI_516_9 ?_
  refine r_ic_ge d_Mod_measure_17 (fun c_2 => ?_) (fun c_2 => ?_)
  · have h9 := h.1 c_2
    refine r_iinc (v := i1 + 1) d_Mod_measure_42 rfl rfl (by decide) ?_
    refine r_goto d_Mod_measure_45 ?_
    refine r_weak (lv' := [.ref 516, .int (i1 + 1), .null]) (by repeat (first | exact trivial | refine ⟨rfl, ?_⟩ | exact lle_nil)) ?_
    exact h9
  · have h9 := h.2 c_2
    refine r_aload_n d_Mod_measure_20 rfl ?_
    refine x_getR d_Mod_measure_21 fl_Mod_60 gR_516_32 ?_
    refine r_iload_n d_Mod_measure_24 rfl ?_
    refine r_iload_n d_Mod_measure_25 rfl ?_
    refine x_callS (as := [.int i2, .int i1]) (st := [.ref 530]) d_Mod_measure_26 ml_Mod_147 mc_Mod_at ms_Mod_at ⟨by decide, by decide⟩ rfl (Nat.le_of_ble_eq_true rfl) (Nat.le_of_ble_eq_true rfl) (Q1 := fun r M1 L1 => some (.int (20 * i1 + i2)) = r ∧ M = M1 ∧ L = L1) (s_Mod_at ⟨rfl, rfl, rfl⟩) ?_
    rintro _ _ _ ⟨rfl, rfl, rfl⟩
    refine r_aload_n d_Mod_measure_29 rfl ?_
    refine r_iload_n d_Mod_measure_30 rfl ?_
    refine r_iload_n d_Mod_measure_31 rfl ?_
    refine x_callV (as := [.int i2, .int i1]) (st := [.int (20 * i1 + i2), .ref 530]) d_Mod_measure_32 ml_Mod_153 mc_Mod_nearest mv_Mod_nearest ⟨by decide, by decide⟩ gO_516 ⟨_, rfl, rfl⟩ rfl (Nat.le_of_ble_eq_true rfl) (Nat.le_of_ble_eq_true rfl) h9 ?_
    rintro _ M_3 L_4 ⟨v_5, rfl, h9⟩
    obtain ⟨o_6, h9⟩ := h9
    refine x_iast d_Mod_measure_35 aI_530 o_6 ?_
    refine r_iinc (v := i2 + 1) d_Mod_measure_36 rfl rfl (by decide) ?_
    refine r_goto d_Mod_measure_39 ?_
    exact h9
theorem L_Mod_goAll_0 {xs : List Int32} {i1 : Int32} {i2 : Int32} {i3 : Int32} {M : Mem} {L : Int64} {Q : Option Value → Mem → Int64 → Prop} 
    (h : RX xs shL md_Mod_begin 0 [.ref 516] [] M L (fun r M_1 L_2 => r = none ∧ RX xs shL md_Mod_keep 0 [.ref 516, .int 0] [] M_1 L_2 (fun r M_3 L_4 => r = none ∧ RX xs shL md_Mod_goAll 12 [.ref 516, .int i1, .int i2, .int i3, .int 0] [] M_3 L_4 Q))) : RX xs shL md_Mod_goAll 0 [.ref 516, .int i1, .int i2, .int i3] [] M L Q := by
  refine r_weak (lv' := [.ref 516, .int i1, .int i2, .int i3, .null]) (by repeat (first | exact trivial | refine ⟨rfl, ?_⟩ | exact lle_nil)) ?_
  refine r_aload_n d_Mod_goAll_0 rfl ?_
  refine x_callV (as := []) (st := []) d_Mod_goAll_1 ml_Mod_175 mc_Mod_begin mv_Mod_begin ⟨by decide, by decide⟩ gO_516 ⟨_, rfl, rfl⟩ rfl (Nat.le_of_ble_eq_true rfl) (Nat.le_of_ble_eq_true rfl) h ?_
  rintro _ M_1 L_2 ⟨rfl, h9⟩
  refine r_aload_n d_Mod_goAll_4 rfl ?_
  refine r_iconst (v := 0) d_Mod_goAll_5 (by decide) ?_
  refine x_callV (as := [.int 0]) (st := []) d_Mod_goAll_6 ml_Mod_210 mc_Mod_keep mv_Mod_keep ⟨by decide, by decide⟩ gO_516 ⟨_, rfl, rfl⟩ rfl (Nat.le_of_ble_eq_true rfl) (Nat.le_of_ble_eq_true rfl) h9 ?_
  rintro _ M_3 L_4 ⟨rfl, h9⟩
  refine r_iconst (v := 0) d_Mod_goAll_9 (by decide) ?_
  refine r_istore d_Mod_goAll_10 (by decide) ?_
  exact h9
theorem L_Mod_goAll_12 {xs : List Int32} {i1 : Int32} {i2 : Int32} {i3 : Int32} {i4 : Int32} {M : Mem} {L : Int64} {Q : Option Value → Mem → Int64 → Prop} 
    (h : (((M 516 20) ≤ i4 → Q none M L) ∧ (¬ ((M 516 20) ≤ i4) → RX xs shL md_Mod_step 0 [.ref 516, .int i4, .int i1, .int i2, .int i3] [] M L (fun r M_6 L_7 => r = none ∧ RX xs shL md_Mod_keep 0 [.ref 516, .int (i4 + 1)] [] M_6 L_7 (fun r M_8 L_9 => r = none ∧ RX xs shL md_Mod_goAll 12 [.ref 516, .int i1, .int i2, .int i3, .int (i4 + 1)] [] M_8 L_9 Q))))) : RX xs shL md_Mod_goAll 12 [.ref 516, .int i1, .int i2, .int i3, .int i4] [] M L Q := by
  refine r_iload d_Mod_goAll_12 rfl ?_
  refine r_aload_n d_Mod_goAll_14 rfl ?_
  refine x_getI d_Mod_goAll_15 fl_Mod_140 gI_516_20 ?_
  refine r_ic_ge d_Mod_goAll_18 (fun c_5 => ?_) (fun c_5 => ?_)
  · have h9 := h.1 c_5
    exact r_vret ⟨d_Mod_goAll_44, rfl⟩ ⟨M, L, rfl, h9⟩
  · have h9 := h.2 c_5
    refine r_aload_n d_Mod_goAll_21 rfl ?_
    refine r_iload d_Mod_goAll_22 rfl ?_
    refine r_iload_n d_Mod_goAll_24 rfl ?_
    refine r_iload_n d_Mod_goAll_25 rfl ?_
    refine r_iload_n d_Mod_goAll_26 rfl ?_
    refine x_callV (as := [.int i4, .int i1, .int i2, .int i3]) (st := []) d_Mod_goAll_27 ml_Mod_213 mc_Mod_step mv_Mod_step ⟨by decide, by decide⟩ gO_516 ⟨_, rfl, rfl⟩ rfl (Nat.le_of_ble_eq_true rfl) (Nat.le_of_ble_eq_true rfl) h9 ?_
    rintro _ M_6 L_7 ⟨rfl, h9⟩
    refine r_aload_n d_Mod_goAll_30 rfl ?_
    refine r_iload d_Mod_goAll_31 rfl ?_
    refine r_iconst (v := 1) d_Mod_goAll_33 (by decide) ?_
    refine r_iadd d_Mod_goAll_34 ?_
    refine x_callV (as := [.int (i4 + 1)]) (st := []) d_Mod_goAll_35 ml_Mod_210 mc_Mod_keep mv_Mod_keep ⟨by decide, by decide⟩ gO_516 ⟨_, rfl, rfl⟩ rfl (Nat.le_of_ble_eq_true rfl) (Nat.le_of_ble_eq_true rfl) h9 ?_
    rintro _ M_8 L_9 ⟨rfl, h9⟩
    refine r_iinc (v := i4 + 1) d_Mod_goAll_38 rfl rfl (by decide) ?_
    refine r_goto d_Mod_goAll_41 ?_
    exact h9
theorem L_Mod_goPlain_0 {xs : List Int32}  {M : Mem} {L : Int64} {Q : Option Value → Mem → Int64 → Prop} 
    (h : RX xs shL md_Mod_measure 0 [.ref 516] [] M L (fun r M_1 L_2 => r = none ∧ RX xs shL md_Mod_goAll 0 [.ref 516, .int 0, .int 0, .int 0] [] M_1 L_2 (fun r M_3 L_4 => r = none ∧ Q none M_3 L_4))) : RX xs shL md_Mod_goPlain 0 [.ref 516] [] M L Q := by
  refine r_aload_n d_Mod_goPlain_0 rfl ?_
  refine x_callV (as := []) (st := []) d_Mod_goPlain_1 ml_Mod_216 mc_Mod_measure mv_Mod_measure ⟨by decide, by decide⟩ gO_516 ⟨_, rfl, rfl⟩ rfl (Nat.le_of_ble_eq_true rfl) (Nat.le_of_ble_eq_true rfl) h ?_
  rintro _ M_1 L_2 ⟨rfl, h9⟩
  refine r_aload_n d_Mod_goPlain_4 rfl ?_
  refine r_iconst (v := 0) d_Mod_goPlain_5 (by decide) ?_
  refine r_iconst (v := 0) d_Mod_goPlain_6 (by decide) ?_
  refine r_iconst (v := 0) d_Mod_goPlain_7 (by decide) ?_
  refine x_callV (as := [.int 0, .int 0, .int 0]) (st := []) d_Mod_goPlain_8 ml_Mod_219 mc_Mod_goAll mv_Mod_goAll ⟨by decide, by decide⟩ gO_516 ⟨_, rfl, rfl⟩ rfl (Nat.le_of_ble_eq_true rfl) (Nat.le_of_ble_eq_true rfl) h9 ?_
  rintro _ M_3 L_4 ⟨rfl, h9⟩
  exact r_vret ⟨d_Mod_goPlain_11, rfl⟩ ⟨M_3, L_4, rfl, h9⟩
theorem L_Mod_step_0 {xs : List Int32} {i1 : Int32} {i2 : Int32} {i3 : Int32} {i4 : Int32} {M : Mem} {L : Int64} {Q : Option Value → Mem → Int64 → Prop} 
    (h : (vp_in (5 * i1) 200 ∧ (((M 525 ((5 * i1).toNatClampNeg)) = (-1) → (vp_in ((5 * i1) + 4) 200 ∧ (((M 525 (((5 * i1) + 4).toNatClampNeg)) = 1 → RX xs shL md_Mod_cutBy 0 [.ref 516, .int i1] [] M L (fun r M_5 L_6 => r = none ∧ Q none M_5 L_6)) ∧ (¬ ((M 525 (((5 * i1) + 4).toNatClampNeg)) = 1) → Q none M L)))) ∧ (¬ ((M 525 ((5 * i1).toNatClampNeg)) = (-1)) → RX xs shL md_Mod_wayOf 0 [.ref 516, .int i1, .int i2, .int i3, .int i4] [] M L (fun r M_7 L_8 => r = none ∧ RX xs shL md_Mod_dilate 0 [.ref 516, .int (dwn (((M_7 516 26) + (M_7 516 13)) - (M_7 516 28)) 8000), .int (-(dwn (-(((M_7 516 26) + (M_7 516 14)) + (M_7 516 28))) 8000)), .int (dwn (((M_7 516 27) + (M_7 516 15)) - (M_7 516 28)) 8000), .int (-(dwn (-(((M_7 516 27) + (M_7 516 16)) + (M_7 516 28))) 8000))] [] M_7 L_8 (fun r M_9 L_10 => r = none ∧ Q none M_9 L_10)))))) : RX xs shL md_Mod_step 0 [.ref 516, .int i1, .int i2, .int i3, .int i4] [] M L Q := by
  refine r_aload_n d_Mod_step_0 rfl ?_
  refine x_getR d_Mod_step_1 fl_Mod_45 gR_516_21 ?_
  refine r_iconst (v := 5) d_Mod_step_4 (by decide) ?_
  refine r_iload_n d_Mod_step_5 rfl ?_
  refine r_imul d_Mod_step_6 ?_
  obtain ⟨o_1, h9⟩ := h
  refine x_iald d_Mod_step_7 aI_525 o_1 ?_
  refine r_iconst (v := (-1)) d_Mod_step_8 (by decide) ?_
  refine r_ic_eq d_Mod_step_9 (fun c_2 => ?_) (fun c_2 => ?_)
  · have h9 := h9.1 c_2
    refine r_aload_n d_Mod_step_44 rfl ?_
    refine x_getR d_Mod_step_45 fl_Mod_45 gR_516_21 ?_
    refine r_iconst (v := 5) d_Mod_step_48 (by decide) ?_
    refine r_iload_n d_Mod_step_49 rfl ?_
    refine r_imul d_Mod_step_50 ?_
    refine r_iconst (v := 4) d_Mod_step_51 (by decide) ?_
    refine r_iadd d_Mod_step_52 ?_
    obtain ⟨o_3, h9⟩ := h9
    refine x_iald d_Mod_step_53 aI_525 o_3 ?_
    refine r_iconst (v := 1) d_Mod_step_54 (by decide) ?_
    refine r_ic_ne d_Mod_step_55 (fun c_4 => ?_) (fun c_4 => ?_)
    · have h9 := h9.2 c_4
      exact r_vret ⟨d_Mod_step_63, rfl⟩ ⟨M, L, rfl, h9⟩
    · have h9 := h9.1 c_4
      refine r_aload_n d_Mod_step_58 rfl ?_
      refine r_iload_n d_Mod_step_59 rfl ?_
      refine x_callV (as := [.int i1]) (st := []) d_Mod_step_60 ml_Mod_206 mc_Mod_cutBy mv_Mod_cutBy ⟨by decide, by decide⟩ gO_516 ⟨_, rfl, rfl⟩ rfl (Nat.le_of_ble_eq_true rfl) (Nat.le_of_ble_eq_true rfl) h9 ?_
      rintro _ M_5 L_6 ⟨rfl, h9⟩
      exact r_vret ⟨d_Mod_step_63, rfl⟩ ⟨M_5, L_6, rfl, h9⟩
  · have h9 := h9.2 c_2
    refine r_aload_n d_Mod_step_12 rfl ?_
    refine r_iload_n d_Mod_step_13 rfl ?_
    refine r_iload_n d_Mod_step_14 rfl ?_
    refine r_iload_n d_Mod_step_15 rfl ?_
    refine r_iload d_Mod_step_16 rfl ?_
    refine x_callV (as := [.int i1, .int i2, .int i3, .int i4]) (st := []) d_Mod_step_18 ml_Mod_187 mc_Mod_wayOf mv_Mod_wayOf ⟨by decide, by decide⟩ gO_516 ⟨_, rfl, rfl⟩ rfl (Nat.le_of_ble_eq_true rfl) (Nat.le_of_ble_eq_true rfl) h9 ?_
    rintro _ M_7 L_8 ⟨rfl, h9⟩
    refine r_aload_n d_Mod_step_21 rfl ?_
    refine r_aload_n d_Mod_step_22 rfl ?_
    refine x_callV (as := []) (st := [.ref 516]) d_Mod_step_23 ml_Mod_191 mc_Mod_eastLow mv_Mod_eastLow ⟨by decide, by decide⟩ gO_516 ⟨_, rfl, rfl⟩ rfl (Nat.le_of_ble_eq_true rfl) (Nat.le_of_ble_eq_true rfl) (Q1 := fun r M1 L1 => some (.int (dwn (((M_7 516 26) + (M_7 516 13)) - (M_7 516 28)) 8000)) = r ∧ M_7 = M1 ∧ L_8 = L1) (L_Mod_eastLow_0 ⟨rfl, rfl, rfl⟩) ?_
    rintro _ _ _ ⟨rfl, rfl, rfl⟩
    refine r_aload_n d_Mod_step_26 rfl ?_
    refine x_callV (as := []) (st := [.int (dwn (((M_7 516 26) + (M_7 516 13)) - (M_7 516 28)) 8000), .ref 516]) d_Mod_step_27 ml_Mod_194 mc_Mod_eastHigh mv_Mod_eastHigh ⟨by decide, by decide⟩ gO_516 ⟨_, rfl, rfl⟩ rfl (Nat.le_of_ble_eq_true rfl) (Nat.le_of_ble_eq_true rfl) (Q1 := fun r M1 L1 => some (.int (-(dwn (-(((M_7 516 26) + (M_7 516 14)) + (M_7 516 28))) 8000))) = r ∧ M_7 = M1 ∧ L_8 = L1) (L_Mod_eastHigh_0 ⟨rfl, rfl, rfl⟩) ?_
    rintro _ _ _ ⟨rfl, rfl, rfl⟩
    refine r_aload_n d_Mod_step_30 rfl ?_
    refine x_callV (as := []) (st := [.int (-(dwn (-(((M_7 516 26) + (M_7 516 14)) + (M_7 516 28))) 8000)), .int (dwn (((M_7 516 26) + (M_7 516 13)) - (M_7 516 28)) 8000), .ref 516]) d_Mod_step_31 ml_Mod_197 mc_Mod_northLow mv_Mod_northLow ⟨by decide, by decide⟩ gO_516 ⟨_, rfl, rfl⟩ rfl (Nat.le_of_ble_eq_true rfl) (Nat.le_of_ble_eq_true rfl) (Q1 := fun r M1 L1 => some (.int (dwn (((M_7 516 27) + (M_7 516 15)) - (M_7 516 28)) 8000)) = r ∧ M_7 = M1 ∧ L_8 = L1) (L_Mod_northLow_0 ⟨rfl, rfl, rfl⟩) ?_
    rintro _ _ _ ⟨rfl, rfl, rfl⟩
    refine r_aload_n d_Mod_step_34 rfl ?_
    refine x_callV (as := []) (st := [.int (dwn (((M_7 516 27) + (M_7 516 15)) - (M_7 516 28)) 8000), .int (-(dwn (-(((M_7 516 26) + (M_7 516 14)) + (M_7 516 28))) 8000)), .int (dwn (((M_7 516 26) + (M_7 516 13)) - (M_7 516 28)) 8000), .ref 516]) d_Mod_step_35 ml_Mod_200 mc_Mod_northHigh mv_Mod_northHigh ⟨by decide, by decide⟩ gO_516 ⟨_, rfl, rfl⟩ rfl (Nat.le_of_ble_eq_true rfl) (Nat.le_of_ble_eq_true rfl) (Q1 := fun r M1 L1 => some (.int (-(dwn (-(((M_7 516 27) + (M_7 516 16)) + (M_7 516 28))) 8000))) = r ∧ M_7 = M1 ∧ L_8 = L1) (L_Mod_northHigh_0 ⟨rfl, rfl, rfl⟩) ?_
    rintro _ _ _ ⟨rfl, rfl, rfl⟩
    refine x_callV (as := [.int (dwn (((M_7 516 26) + (M_7 516 13)) - (M_7 516 28)) 8000), .int (-(dwn (-(((M_7 516 26) + (M_7 516 14)) + (M_7 516 28))) 8000)), .int (dwn (((M_7 516 27) + (M_7 516 15)) - (M_7 516 28)) 8000), .int (-(dwn (-(((M_7 516 27) + (M_7 516 16)) + (M_7 516 28))) 8000))]) (st := []) d_Mod_step_38 ml_Mod_203 mc_Mod_dilate mv_Mod_dilate ⟨by decide, by decide⟩ gO_516 ⟨_, rfl, rfl⟩ rfl (Nat.le_of_ble_eq_true rfl) (Nat.le_of_ble_eq_true rfl) h9 ?_
    rintro _ M_9 L_10 ⟨rfl, h9⟩
    refine r_goto d_Mod_step_41 ?_
    exact r_vret ⟨d_Mod_step_63, rfl⟩ ⟨M_9, L_10, rfl, h9⟩
theorem L_Mod_cutBy_0 {xs : List Int32} {i1 : Int32} {M : Mem} {L : Int64} {Q : Option Value → Mem → Int64 → Prop} 
    (h : RX xs shL md_Mod_cutBy 2 [.ref 516, .int i1, .int 0, .null] [] M L Q) : RX xs shL md_Mod_cutBy 0 [.ref 516, .int i1] [] M L Q := by
  refine r_weak (lv' := [.ref 516, .int i1, .null, .null]) (by repeat (first | exact trivial | refine ⟨rfl, ?_⟩ | exact lle_nil)) ?_
  refine r_iconst (v := 0) d_Mod_cutBy_0 (by decide) ?_
  refine r_istore_n d_Mod_cutBy_1 (by decide) ?_
  exact h
theorem L_Mod_cutBy_2 {xs : List Int32} {i1 : Int32} {i2 : Int32} {M : Mem} {L : Int64} {Q : Option Value → Mem → Int64 → Prop} 
    (h : (((M 516 10) ≤ i2 → Q none M L) ∧ (¬ ((M 516 10) ≤ i2) → RX xs shL md_Mod_cutBy 12 [.ref 516, .int i1, .int i2, .int 0] [] M L Q))) : RX xs shL md_Mod_cutBy 2 [.ref 516, .int i1, .int i2, .null] [] M L Q := by
  refine r_iload_n d_Mod_cutBy_2 rfl ?_
  refine r_aload_n d_Mod_cutBy_3 rfl ?_
  refine x_getI d_Mod_cutBy_4 fl_Mod_35 gI_516_10 ?_
  refine r_ic_ge d_Mod_cutBy_7 (fun c_1 => ?_) (fun c_1 => ?_)
  · have h9 := h.1 c_1
    exact r_vret ⟨d_Mod_cutBy_70, rfl⟩ ⟨M, L, rfl, h9⟩
  · have h9 := h.2 c_1
    refine r_iconst (v := 0) d_Mod_cutBy_10 (by decide) ?_
    refine r_istore_n d_Mod_cutBy_11 (by decide) ?_
    exact h9
theorem L_Mod_cutBy_12 {xs : List Int32} {i1 : Int32} {i2 : Int32} {i3 : Int32} {M : Mem} {L : Int64} {Q : Option Value → Mem → Int64 → Prop} 
    (h : (((M 516 9) ≤ i3 → RX xs shL md_Mod_cutBy 2 [.ref 516, .int i1, .int (i2 + 1), .null] [] M L Q) ∧ (¬ ((M 516 9) ≤ i3) → (vp_in (20 * i2 + i3) 400 ∧ (((M 527 ((20 * i2 + i3).toNatClampNeg)) = 0 → RX xs shL md_Mod_cutBy 12 [.ref 516, .int i1, .int i2, .int (i3 + 1)] [] (up M 527 ((20 * i2 + i3).toNatClampNeg) 0) L Q) ∧ (¬ ((M 527 ((20 * i2 + i3).toNatClampNeg)) = 0) → RX xs shL md_Mod_isSign 0 [.ref 516, .int i1, .int i3, .int i2] [] M L (fun r M_5 L_6 => ∃ v_7 : Int32, r = some (.int v_7) ∧ ((v_7 = 0 → RX xs shL md_Mod_cutBy 12 [.ref 516, .int i1, .int i2, .int (i3 + 1)] [] (up M_5 527 ((20 * i2 + i3).toNatClampNeg) 0) L_6 Q) ∧ (¬ (v_7 = 0) → RX xs shL md_Mod_cutBy 12 [.ref 516, .int i1, .int i2, .int (i3 + 1)] [] (up M_5 527 ((20 * i2 + i3).toNatClampNeg) 1) L_6 Q))))))))) : RX xs shL md_Mod_cutBy 12 [.ref 516, .int i1, .int i2, .int i3] [] M L Q := by
  refine r_iload_n d_Mod_cutBy_12 rfl ?_
  refine r_aload_n d_Mod_cutBy_13 rfl ?_
  refine x_getI d_Mod_cutBy_14 fl_Mod_32 gI_516_9 ?_
  refine r_ic_ge d_Mod_cutBy_17 (fun c_2 => ?_) (fun c_2 => ?_)
  · have h9 := h.1 c_2
    refine r_iinc (v := i2 + 1) d_Mod_cutBy_64 rfl rfl (by decide) ?_
    refine r_goto d_Mod_cutBy_67 ?_
    refine r_weak (lv' := [.ref 516, .int i1, .int (i2 + 1), .null]) (by repeat (first | exact trivial | refine ⟨rfl, ?_⟩ | exact lle_nil)) ?_
    exact h9
  · have h9 := h.2 c_2
    refine r_aload_n d_Mod_cutBy_20 rfl ?_
    refine x_getR d_Mod_cutBy_21 fl_Mod_51 gR_516_29 ?_
    refine r_iload_n d_Mod_cutBy_24 rfl ?_
    refine r_iload_n d_Mod_cutBy_25 rfl ?_
    refine x_callS (as := [.int i3, .int i2]) (st := [.ref 527]) d_Mod_cutBy_26 ml_Mod_147 mc_Mod_at ms_Mod_at ⟨by decide, by decide⟩ rfl (Nat.le_of_ble_eq_true rfl) (Nat.le_of_ble_eq_true rfl) (Q1 := fun r M1 L1 => some (.int (20 * i2 + i3)) = r ∧ M = M1 ∧ L = L1) (s_Mod_at ⟨rfl, rfl, rfl⟩) ?_
    rintro _ _ _ ⟨rfl, rfl, rfl⟩
    refine r_aload_n d_Mod_cutBy_29 rfl ?_
    refine x_getR d_Mod_cutBy_30 fl_Mod_51 gR_516_29 ?_
    refine r_iload_n d_Mod_cutBy_33 rfl ?_
    refine r_iload_n d_Mod_cutBy_34 rfl ?_
    refine x_callS (as := [.int i3, .int i2]) (st := [.ref 527, .int (20 * i2 + i3), .ref 527]) d_Mod_cutBy_35 ml_Mod_147 mc_Mod_at ms_Mod_at ⟨by decide, by decide⟩ rfl (Nat.le_of_ble_eq_true rfl) (Nat.le_of_ble_eq_true rfl) (Q1 := fun r M1 L1 => some (.int (20 * i2 + i3)) = r ∧ M = M1 ∧ L = L1) (s_Mod_at ⟨rfl, rfl, rfl⟩) ?_
    rintro _ _ _ ⟨rfl, rfl, rfl⟩
    obtain ⟨o_3, h9⟩ := h9
    refine x_zald d_Mod_cutBy_38 aZ_527 o_3 ?_
    refine r_if_eq d_Mod_cutBy_39 (fun c_4 => ?_) (fun c_4 => ?_)
    · have h9 := h9.1 c_4
      refine r_iconst (v := 0) d_Mod_cutBy_56 (by decide) ?_
      refine x_zast d_Mod_cutBy_57 aZ_527 o_3 ?_
      refine r_iinc (v := i3 + 1) d_Mod_cutBy_58 rfl rfl (by decide) ?_
      refine r_goto d_Mod_cutBy_61 ?_
      exact h9
    · have h9 := h9.2 c_4
      refine r_aload_n d_Mod_cutBy_42 rfl ?_
      refine r_iload_n d_Mod_cutBy_43 rfl ?_
      refine r_iload_n d_Mod_cutBy_44 rfl ?_
      refine r_iload_n d_Mod_cutBy_45 rfl ?_
      refine x_callV (as := [.int i1, .int i3, .int i2]) (st := [.int (20 * i2 + i3), .ref 527]) d_Mod_cutBy_46 ml_Mod_184 mc_Mod_isSign mv_Mod_isSign ⟨by decide, by decide⟩ gO_516 ⟨_, rfl, rfl⟩ rfl (Nat.le_of_ble_eq_true rfl) (Nat.le_of_ble_eq_true rfl) h9 ?_
      rintro _ M_5 L_6 ⟨v_7, rfl, h9⟩
      refine r_if_eq d_Mod_cutBy_49 (fun c_8 => ?_) (fun c_8 => ?_)
      · have h9 := h9.1 c_8
        refine r_iconst (v := 0) d_Mod_cutBy_56 (by decide) ?_
        refine x_zast d_Mod_cutBy_57 aZ_527 o_3 ?_
        refine r_iinc (v := i3 + 1) d_Mod_cutBy_58 rfl rfl (by decide) ?_
        refine r_goto d_Mod_cutBy_61 ?_
        exact h9
      · have h9 := h9.2 c_8
        refine r_iconst (v := 1) d_Mod_cutBy_52 (by decide) ?_
        refine r_goto d_Mod_cutBy_53 ?_
        refine x_zast d_Mod_cutBy_57 aZ_527 o_3 ?_
        refine r_iinc (v := i3 + 1) d_Mod_cutBy_58 rfl rfl (by decide) ?_
        refine r_goto d_Mod_cutBy_61 ?_
        exact h9
set_option maxHeartbeats 4000000 in
theorem L_Mod_isSign_0 {xs : List Int32} {i1 : Int32} {i2 : Int32} {i3 : Int32} {M : Mem} {L : Int64} {Q : Option Value → Mem → Int64 → Prop} 
    (h : (vp_in ((5 * i1) + 2) 200 ∧ (vp_in ((5 * i1) + 3) 200 ∧ (vp_in ((5 * i1) + 1) 200 ∧ (((M 525 (((5 * i1) + 1).toNatClampNeg)) = 0 ∧ (vp_in (20 * i3 + i2) 400 ∧ Q (some (.int (bI ((M 525 (((5 * i1) + 2).toNatClampNeg)) ≤ (M 523 ((20 * i3 + i2).toNatClampNeg)) ∧ (M 523 ((20 * i3 + i2).toNatClampNeg)) ≤ (M 525 (((5 * i1) + 3).toNatClampNeg)))))) M L)) ∨ ((M 525 (((5 * i1) + 1).toNatClampNeg)) = 1 ∧ (vp_in (20 * i3 + i2) 400 ∧ (((M 523 ((20 * i3 + i2).toNatClampNeg)) ≤ (M 525 (((5 * i1) + 2).toNatClampNeg)) → Q (some (.int 0)) M L) ∧ (¬ ((M 523 ((20 * i3 + i2).toNatClampNeg)) ≤ (M 525 (((5 * i1) + 2).toNatClampNeg))) → Q (some (.int 1)) M L)))) ∨ ((M 525 (((5 * i1) + 1).toNatClampNeg)) = 2 ∧ RX xs shL md_Mod_isNear 0 [.ref 516, .int i2, .int i3, .int (M 525 (((5 * i1) + 2).toNatClampNeg))] [] M L (fun r M_7 L_8 => ∃ v_9 : Int32, r = some (.int v_9) ∧ ((v_9 = 0 ∨ v_9 = 1) ∧ Q (some (.int v_9)) M_7 L_8))) ∨ ((M 525 (((5 * i1) + 1).toNatClampNeg)) = 3 ∧ (vp_in (20 * i3 + i2) 400 ∧ (((M 524 ((20 * i3 + i2).toNatClampNeg)) = 0 ∨ (M 524 ((20 * i3 + i2).toNatClampNeg)) = 1) ∧ Q (some (.int (M 524 ((20 * i3 + i2).toNatClampNeg)))) M L))) ∨ ((M 525 (((5 * i1) + 1).toNatClampNeg)) = 4 ∧ Q (some (.int (bI ((M 525 (((5 * i1) + 2).toNatClampNeg)) ≤ i3 ∧ i3 ≤ (M 525 (((5 * i1) + 3).toNatClampNeg)))))) M L) ∨ (((M 525 (((5 * i1) + 1).toNatClampNeg)) < 0 ∨ 4 < (M 525 (((5 * i1) + 1).toNatClampNeg))) ∧ RX xs shL md_Mod_isNear 0 [.ref 516, .int i2, .int i3, .int (M 525 (((5 * i1) + 2).toNatClampNeg))] [] M L (fun r M_13 L_14 => ∃ v_15 : Int32, r = some (.int v_15) ∧ ((v_15 = 0 → Q (some (.int 1)) M_13 L_14) ∧ (¬ (v_15 = 0) → Q (some (.int 0)) M_13 L_14))))))))) : RX xs shL md_Mod_isSign 0 [.ref 516, .int i1, .int i2, .int i3] [] M L Q := by
  refine r_weak (lv' := [.ref 516, .int i1, .int i2, .int i3, .null, .null]) (by repeat (first | exact trivial | refine ⟨rfl, ?_⟩ | exact lle_nil)) ?_
  refine r_aload_n d_Mod_isSign_0 rfl ?_
  refine x_getR d_Mod_isSign_1 fl_Mod_45 gR_516_21 ?_
  refine r_iconst (v := 5) d_Mod_isSign_4 (by decide) ?_
  refine r_iload_n d_Mod_isSign_5 rfl ?_
  refine r_imul d_Mod_isSign_6 ?_
  refine r_iconst (v := 2) d_Mod_isSign_7 (by decide) ?_
  refine r_iadd d_Mod_isSign_8 ?_
  obtain ⟨o_1, h9⟩ := h
  refine x_iald d_Mod_isSign_9 aI_525 o_1 ?_
  refine r_istore d_Mod_isSign_10 (by decide) ?_
  refine r_aload_n d_Mod_isSign_12 rfl ?_
  refine x_getR d_Mod_isSign_13 fl_Mod_45 gR_516_21 ?_
  refine r_iconst (v := 5) d_Mod_isSign_16 (by decide) ?_
  refine r_iload_n d_Mod_isSign_17 rfl ?_
  refine r_imul d_Mod_isSign_18 ?_
  refine r_iconst (v := 3) d_Mod_isSign_19 (by decide) ?_
  refine r_iadd d_Mod_isSign_20 ?_
  obtain ⟨o_2, h9⟩ := h9
  refine x_iald d_Mod_isSign_21 aI_525 o_2 ?_
  refine r_istore d_Mod_isSign_22 (by decide) ?_
  refine r_aload_n d_Mod_isSign_24 rfl ?_
  refine x_getR d_Mod_isSign_25 fl_Mod_45 gR_516_21 ?_
  refine r_iconst (v := 5) d_Mod_isSign_28 (by decide) ?_
  refine r_iload_n d_Mod_isSign_29 rfl ?_
  refine r_imul d_Mod_isSign_30 ?_
  refine r_iconst (v := 1) d_Mod_isSign_31 (by decide) ?_
  refine r_iadd d_Mod_isSign_32 ?_
  obtain ⟨o_3, h9⟩ := h9
  refine x_iald d_Mod_isSign_33 aI_525 o_3 ?_
  rcases h9 with h9 | h9 | h9 | h9 | h9 | h9
  · obtain ⟨c9, h9⟩ := h9
    refine r_switch (tgt := 68) ⟨_, _, _, _, _, d_Mod_isSign_34, Or.inr ⟨by rw [c9]; decide, by rw [c9]; decide, 34, by rw [c9]; rfl, by decide⟩⟩ ?_
    refine r_aload_n d_Mod_isSign_68 rfl ?_
    refine x_getR d_Mod_isSign_69 fl_Mod_38 gR_516_11 ?_
    refine r_iload_n d_Mod_isSign_72 rfl ?_
    refine r_iload_n d_Mod_isSign_73 rfl ?_
    refine x_callS (as := [.int i2, .int i3]) (st := [.ref 523]) d_Mod_isSign_74 ml_Mod_147 mc_Mod_at ms_Mod_at ⟨by decide, by decide⟩ rfl (Nat.le_of_ble_eq_true rfl) (Nat.le_of_ble_eq_true rfl) (Q1 := fun r M1 L1 => some (.int (20 * i3 + i2)) = r ∧ M = M1 ∧ L = L1) (s_Mod_at ⟨rfl, rfl, rfl⟩) ?_
    rintro _ _ _ ⟨rfl, rfl, rfl⟩
    obtain ⟨o_4, h9⟩ := h9
    refine x_iald d_Mod_isSign_77 aI_523 o_4 ?_
    refine r_iload d_Mod_isSign_78 rfl ?_
    refine r_iload d_Mod_isSign_80 rfl ?_
    refine x_callS (as := [.int (M 523 ((20 * i3 + i2).toNatClampNeg)), .int (M 525 (((5 * i1) + 2).toNatClampNeg)), .int (M 525 (((5 * i1) + 3).toNatClampNeg))]) (st := []) d_Mod_isSign_82 ml_Mod_75 mc_Mod_in ms_Mod_in ⟨by decide, by decide⟩ rfl (Nat.le_of_ble_eq_true rfl) (Nat.le_of_ble_eq_true rfl) (Q1 := fun r M1 L1 => some (.int (bI ((M 525 (((5 * i1) + 2).toNatClampNeg)) ≤ (M 523 ((20 * i3 + i2).toNatClampNeg)) ∧ (M 523 ((20 * i3 + i2).toNatClampNeg)) ≤ (M 525 (((5 * i1) + 3).toNatClampNeg))))) = r ∧ M = M1 ∧ L = L1) (s_Mod_in ⟨rfl, rfl, rfl⟩) ?_
    rintro _ _ _ ⟨rfl, rfl, rfl⟩
    exact r_iret ⟨d_Mod_isSign_85, _, rfl, nar_b bI_01⟩ ⟨_, _, rfl, h9⟩
  · obtain ⟨c9, h9⟩ := h9
    refine r_switch (tgt := 86) ⟨_, _, _, _, _, d_Mod_isSign_34, Or.inr ⟨by rw [c9]; decide, by rw [c9]; decide, 52, by rw [c9]; rfl, by decide⟩⟩ ?_
    refine r_aload_n d_Mod_isSign_86 rfl ?_
    refine x_getR d_Mod_isSign_87 fl_Mod_38 gR_516_11 ?_
    refine r_iload_n d_Mod_isSign_90 rfl ?_
    refine r_iload_n d_Mod_isSign_91 rfl ?_
    refine x_callS (as := [.int i2, .int i3]) (st := [.ref 523]) d_Mod_isSign_92 ml_Mod_147 mc_Mod_at ms_Mod_at ⟨by decide, by decide⟩ rfl (Nat.le_of_ble_eq_true rfl) (Nat.le_of_ble_eq_true rfl) (Q1 := fun r M1 L1 => some (.int (20 * i3 + i2)) = r ∧ M = M1 ∧ L = L1) (s_Mod_at ⟨rfl, rfl, rfl⟩) ?_
    rintro _ _ _ ⟨rfl, rfl, rfl⟩
    obtain ⟨o_5, h9⟩ := h9
    refine x_iald d_Mod_isSign_95 aI_523 o_5 ?_
    refine r_iload d_Mod_isSign_96 rfl ?_
    refine r_ic_le d_Mod_isSign_98 (fun c_6 => ?_) (fun c_6 => ?_)
    · have h9 := h9.1 c_6
      refine r_iconst (v := 0) d_Mod_isSign_105 (by decide) ?_
      exact r_iret ⟨d_Mod_isSign_106, _, rfl, rfl⟩ ⟨_, _, rfl, h9⟩
    · have h9 := h9.2 c_6
      refine r_iconst (v := 1) d_Mod_isSign_101 (by decide) ?_
      refine r_goto d_Mod_isSign_102 ?_
      exact r_iret ⟨d_Mod_isSign_106, _, rfl, rfl⟩ ⟨_, _, rfl, h9⟩
  · obtain ⟨c9, h9⟩ := h9
    refine r_switch (tgt := 107) ⟨_, _, _, _, _, d_Mod_isSign_34, Or.inr ⟨by rw [c9]; decide, by rw [c9]; decide, 73, by rw [c9]; rfl, by decide⟩⟩ ?_
    refine r_aload_n d_Mod_isSign_107 rfl ?_
    refine r_iload_n d_Mod_isSign_108 rfl ?_
    refine r_iload_n d_Mod_isSign_109 rfl ?_
    refine r_iload d_Mod_isSign_110 rfl ?_
    refine x_callV (as := [.int i2, .int i3, .int (M 525 (((5 * i1) + 2).toNatClampNeg))]) (st := []) d_Mod_isSign_112 ml_Mod_181 mc_Mod_isNear mv_Mod_isNear ⟨by decide, by decide⟩ gO_516 ⟨_, rfl, rfl⟩ rfl (Nat.le_of_ble_eq_true rfl) (Nat.le_of_ble_eq_true rfl) h9 ?_
    rintro _ M_7 L_8 ⟨v_9, rfl, h9⟩
    obtain ⟨o_10, h9⟩ := h9
    exact r_iret ⟨d_Mod_isSign_115, _, rfl, nar_b o_10⟩ ⟨_, _, rfl, h9⟩
  · obtain ⟨c9, h9⟩ := h9
    refine r_switch (tgt := 116) ⟨_, _, _, _, _, d_Mod_isSign_34, Or.inr ⟨by rw [c9]; decide, by rw [c9]; decide, 82, by rw [c9]; rfl, by decide⟩⟩ ?_
    refine r_aload_n d_Mod_isSign_116 rfl ?_
    refine x_getR d_Mod_isSign_117 fl_Mod_41 gR_516_12 ?_
    refine r_iload_n d_Mod_isSign_120 rfl ?_
    refine r_iload_n d_Mod_isSign_121 rfl ?_
    refine x_callS (as := [.int i2, .int i3]) (st := [.ref 524]) d_Mod_isSign_122 ml_Mod_147 mc_Mod_at ms_Mod_at ⟨by decide, by decide⟩ rfl (Nat.le_of_ble_eq_true rfl) (Nat.le_of_ble_eq_true rfl) (Q1 := fun r M1 L1 => some (.int (20 * i3 + i2)) = r ∧ M = M1 ∧ L = L1) (s_Mod_at ⟨rfl, rfl, rfl⟩) ?_
    rintro _ _ _ ⟨rfl, rfl, rfl⟩
    obtain ⟨o_11, h9⟩ := h9
    refine x_zald d_Mod_isSign_125 aZ_524 o_11 ?_
    obtain ⟨o_12, h9⟩ := h9
    exact r_iret ⟨d_Mod_isSign_126, _, rfl, nar_b o_12⟩ ⟨_, _, rfl, h9⟩
  · obtain ⟨c9, h9⟩ := h9
    refine r_switch (tgt := 127) ⟨_, _, _, _, _, d_Mod_isSign_34, Or.inr ⟨by rw [c9]; decide, by rw [c9]; decide, 93, by rw [c9]; rfl, by decide⟩⟩ ?_
    refine r_iload_n d_Mod_isSign_127 rfl ?_
    refine r_iload d_Mod_isSign_128 rfl ?_
    refine r_iload d_Mod_isSign_130 rfl ?_
    refine x_callS (as := [.int i3, .int (M 525 (((5 * i1) + 2).toNatClampNeg)), .int (M 525 (((5 * i1) + 3).toNatClampNeg))]) (st := []) d_Mod_isSign_132 ml_Mod_75 mc_Mod_in ms_Mod_in ⟨by decide, by decide⟩ rfl (Nat.le_of_ble_eq_true rfl) (Nat.le_of_ble_eq_true rfl) (Q1 := fun r M1 L1 => some (.int (bI ((M 525 (((5 * i1) + 2).toNatClampNeg)) ≤ i3 ∧ i3 ≤ (M 525 (((5 * i1) + 3).toNatClampNeg))))) = r ∧ M = M1 ∧ L = L1) (s_Mod_in ⟨rfl, rfl, rfl⟩) ?_
    rintro _ _ _ ⟨rfl, rfl, rfl⟩
    exact r_iret ⟨d_Mod_isSign_135, _, rfl, nar_b bI_01⟩ ⟨_, _, rfl, h9⟩
  · obtain ⟨c9, h9⟩ := h9
    refine r_switch (tgt := 136) ⟨_, _, _, _, _, d_Mod_isSign_34, Or.inl ⟨sw_out c9 (by decide) (by decide), by decide⟩⟩ ?_
    refine r_aload_n d_Mod_isSign_136 rfl ?_
    refine r_iload_n d_Mod_isSign_137 rfl ?_
    refine r_iload_n d_Mod_isSign_138 rfl ?_
    refine r_iload d_Mod_isSign_139 rfl ?_
    refine x_callV (as := [.int i2, .int i3, .int (M 525 (((5 * i1) + 2).toNatClampNeg))]) (st := []) d_Mod_isSign_141 ml_Mod_181 mc_Mod_isNear mv_Mod_isNear ⟨by decide, by decide⟩ gO_516 ⟨_, rfl, rfl⟩ rfl (Nat.le_of_ble_eq_true rfl) (Nat.le_of_ble_eq_true rfl) h9 ?_
    rintro _ M_13 L_14 ⟨v_15, rfl, h9⟩
    refine r_if_ne d_Mod_isSign_144 (fun c_16 => ?_) (fun c_16 => ?_)
    · have h9 := h9.2 c_16
      refine r_iconst (v := 0) d_Mod_isSign_151 (by decide) ?_
      exact r_iret ⟨d_Mod_isSign_152, _, rfl, rfl⟩ ⟨_, _, rfl, h9⟩
    · have h9 := h9.1 c_16
      refine r_iconst (v := 1) d_Mod_isSign_147 (by decide) ?_
      refine r_goto d_Mod_isSign_148 ?_
      exact r_iret ⟨d_Mod_isSign_152, _, rfl, rfl⟩ ⟨_, _, rfl, h9⟩
theorem L_Mod_goBack_0 {xs : List Int32} {i1 : Int32} {M : Mem} {L : Int64} {Q : Option Value → Mem → Int64 → Prop} 
    (h : RX xs shL md_Mod_goPlain 0 [.ref 516] [] M L (fun r M_1 L_2 => r = none ∧ RX xs shL md_Mod_goBack 11 [.ref 516, .int i1, .int ((M_1 516 20) - 1), .null] [] M_1 L_2 Q)) : RX xs shL md_Mod_goBack 0 [.ref 516, .int i1] [] M L Q := by
  refine r_weak (lv' := [.ref 516, .int i1, .null, .null]) (by repeat (first | exact trivial | refine ⟨rfl, ?_⟩ | exact lle_nil)) ?_
  refine r_aload_n d_Mod_goBack_0 rfl ?_
  refine x_callV (as := []) (st := []) d_Mod_goBack_1 ml_Mod_223 mc_Mod_goPlain mv_Mod_goPlain ⟨by decide, by decide⟩ gO_516 ⟨_, rfl, rfl⟩ rfl (Nat.le_of_ble_eq_true rfl) (Nat.le_of_ble_eq_true rfl) h ?_
  rintro _ M_1 L_2 ⟨rfl, h9⟩
  refine r_aload_n d_Mod_goBack_4 rfl ?_
  refine x_getI d_Mod_goBack_5 fl_Mod_140 gI_516_20 ?_
  refine r_iconst (v := 1) d_Mod_goBack_8 (by decide) ?_
  refine r_isub d_Mod_goBack_9 ?_
  refine r_istore_n d_Mod_goBack_10 (by decide) ?_
  exact h9
theorem L_Mod_goBack_11 {xs : List Int32} {i1 : Int32} {i2 : Int32} {M : Mem} {L : Int64} {Q : Option Value → Mem → Int64 → Prop} 
    (h : ((i2 < i1 → Q none M L) ∧ (¬ (i2 < i1) → (vp_in (5 * i2) 200 ∧ (((M 525 ((5 * i2).toNatClampNeg)) = (-1) → RX xs shL md_Mod_goBack 62 [.ref 516, .int i1, .int i2, .int 0] [] M L Q) ∧ (¬ ((M 525 ((5 * i2).toNatClampNeg)) = (-1)) → RX xs shL md_Mod_wayOf 0 [.ref 516, .int i2, .int 0, .int 0, .int 0] [] M L (fun r M_6 L_7 => r = none ∧ RX xs shL md_Mod_dilate 0 [.ref 516, .int (-(-(dwn (-(((M_6 516 26) + (M_6 516 14)) + (M_6 516 28))) 8000))), .int (-(dwn (((M_6 516 26) + (M_6 516 13)) - (M_6 516 28)) 8000)), .int (-(-(dwn (-(((M_6 516 27) + (M_6 516 16)) + (M_6 516 28))) 8000))), .int (-(dwn (((M_6 516 27) + (M_6 516 15)) - (M_6 516 28)) 8000))] [] M_6 L_7 (fun r M_8 L_9 => r = none ∧ RX xs shL md_Mod_goBack 62 [.ref 516, .int i1, .int i2, .int 0] [] M_8 L_9 Q)))))))) : RX xs shL md_Mod_goBack 11 [.ref 516, .int i1, .int i2, .null] [] M L Q := by
  refine r_iload_n d_Mod_goBack_11 rfl ?_
  refine r_iload_n d_Mod_goBack_12 rfl ?_
  refine r_ic_lt d_Mod_goBack_13 (fun c_3 => ?_) (fun c_3 => ?_)
  · have h9 := h.1 c_3
    exact r_vret ⟨d_Mod_goBack_116, rfl⟩ ⟨M, L, rfl, h9⟩
  · have h9 := h.2 c_3
    refine r_aload_n d_Mod_goBack_16 rfl ?_
    refine x_getR d_Mod_goBack_17 fl_Mod_45 gR_516_21 ?_
    refine r_iconst (v := 5) d_Mod_goBack_20 (by decide) ?_
    refine r_iload_n d_Mod_goBack_21 rfl ?_
    refine r_imul d_Mod_goBack_22 ?_
    obtain ⟨o_4, h9⟩ := h9
    refine x_iald d_Mod_goBack_23 aI_525 o_4 ?_
    refine r_iconst (v := (-1)) d_Mod_goBack_24 (by decide) ?_
    refine r_ic_eq d_Mod_goBack_25 (fun c_5 => ?_) (fun c_5 => ?_)
    · have h9 := h9.1 c_5
      refine r_iconst (v := 0) d_Mod_goBack_60 (by decide) ?_
      refine r_istore_n d_Mod_goBack_61 (by decide) ?_
      exact h9
    · have h9 := h9.2 c_5
      refine r_aload_n d_Mod_goBack_28 rfl ?_
      refine r_iload_n d_Mod_goBack_29 rfl ?_
      refine r_iconst (v := 0) d_Mod_goBack_30 (by decide) ?_
      refine r_iconst (v := 0) d_Mod_goBack_31 (by decide) ?_
      refine r_iconst (v := 0) d_Mod_goBack_32 (by decide) ?_
      refine x_callV (as := [.int i2, .int 0, .int 0, .int 0]) (st := []) d_Mod_goBack_33 ml_Mod_187 mc_Mod_wayOf mv_Mod_wayOf ⟨by decide, by decide⟩ gO_516 ⟨_, rfl, rfl⟩ rfl (Nat.le_of_ble_eq_true rfl) (Nat.le_of_ble_eq_true rfl) h9 ?_
      rintro _ M_6 L_7 ⟨rfl, h9⟩
      refine r_aload_n d_Mod_goBack_36 rfl ?_
      refine r_aload_n d_Mod_goBack_37 rfl ?_
      refine x_callV (as := []) (st := [.ref 516]) d_Mod_goBack_38 ml_Mod_194 mc_Mod_eastHigh mv_Mod_eastHigh ⟨by decide, by decide⟩ gO_516 ⟨_, rfl, rfl⟩ rfl (Nat.le_of_ble_eq_true rfl) (Nat.le_of_ble_eq_true rfl) (Q1 := fun r M1 L1 => some (.int (-(dwn (-(((M_6 516 26) + (M_6 516 14)) + (M_6 516 28))) 8000))) = r ∧ M_6 = M1 ∧ L_7 = L1) (L_Mod_eastHigh_0 ⟨rfl, rfl, rfl⟩) ?_
      rintro _ _ _ ⟨rfl, rfl, rfl⟩
      refine r_ineg d_Mod_goBack_41 ?_
      refine r_aload_n d_Mod_goBack_42 rfl ?_
      refine x_callV (as := []) (st := [.int (-(-(dwn (-(((M_6 516 26) + (M_6 516 14)) + (M_6 516 28))) 8000))), .ref 516]) d_Mod_goBack_43 ml_Mod_191 mc_Mod_eastLow mv_Mod_eastLow ⟨by decide, by decide⟩ gO_516 ⟨_, rfl, rfl⟩ rfl (Nat.le_of_ble_eq_true rfl) (Nat.le_of_ble_eq_true rfl) (Q1 := fun r M1 L1 => some (.int (dwn (((M_6 516 26) + (M_6 516 13)) - (M_6 516 28)) 8000)) = r ∧ M_6 = M1 ∧ L_7 = L1) (L_Mod_eastLow_0 ⟨rfl, rfl, rfl⟩) ?_
      rintro _ _ _ ⟨rfl, rfl, rfl⟩
      refine r_ineg d_Mod_goBack_46 ?_
      refine r_aload_n d_Mod_goBack_47 rfl ?_
      refine x_callV (as := []) (st := [.int (-(dwn (((M_6 516 26) + (M_6 516 13)) - (M_6 516 28)) 8000)), .int (-(-(dwn (-(((M_6 516 26) + (M_6 516 14)) + (M_6 516 28))) 8000))), .ref 516]) d_Mod_goBack_48 ml_Mod_200 mc_Mod_northHigh mv_Mod_northHigh ⟨by decide, by decide⟩ gO_516 ⟨_, rfl, rfl⟩ rfl (Nat.le_of_ble_eq_true rfl) (Nat.le_of_ble_eq_true rfl) (Q1 := fun r M1 L1 => some (.int (-(dwn (-(((M_6 516 27) + (M_6 516 16)) + (M_6 516 28))) 8000))) = r ∧ M_6 = M1 ∧ L_7 = L1) (L_Mod_northHigh_0 ⟨rfl, rfl, rfl⟩) ?_
      rintro _ _ _ ⟨rfl, rfl, rfl⟩
      refine r_ineg d_Mod_goBack_51 ?_
      refine r_aload_n d_Mod_goBack_52 rfl ?_
      refine x_callV (as := []) (st := [.int (-(-(dwn (-(((M_6 516 27) + (M_6 516 16)) + (M_6 516 28))) 8000))), .int (-(dwn (((M_6 516 26) + (M_6 516 13)) - (M_6 516 28)) 8000)), .int (-(-(dwn (-(((M_6 516 26) + (M_6 516 14)) + (M_6 516 28))) 8000))), .ref 516]) d_Mod_goBack_53 ml_Mod_197 mc_Mod_northLow mv_Mod_northLow ⟨by decide, by decide⟩ gO_516 ⟨_, rfl, rfl⟩ rfl (Nat.le_of_ble_eq_true rfl) (Nat.le_of_ble_eq_true rfl) (Q1 := fun r M1 L1 => some (.int (dwn (((M_6 516 27) + (M_6 516 15)) - (M_6 516 28)) 8000)) = r ∧ M_6 = M1 ∧ L_7 = L1) (L_Mod_northLow_0 ⟨rfl, rfl, rfl⟩) ?_
      rintro _ _ _ ⟨rfl, rfl, rfl⟩
      refine r_ineg d_Mod_goBack_56 ?_
      refine x_callV (as := [.int (-(-(dwn (-(((M_6 516 26) + (M_6 516 14)) + (M_6 516 28))) 8000))), .int (-(dwn (((M_6 516 26) + (M_6 516 13)) - (M_6 516 28)) 8000)), .int (-(-(dwn (-(((M_6 516 27) + (M_6 516 16)) + (M_6 516 28))) 8000))), .int (-(dwn (((M_6 516 27) + (M_6 516 15)) - (M_6 516 28)) 8000))]) (st := []) d_Mod_goBack_57 ml_Mod_203 mc_Mod_dilate mv_Mod_dilate ⟨by decide, by decide⟩ gO_516 ⟨_, rfl, rfl⟩ rfl (Nat.le_of_ble_eq_true rfl) (Nat.le_of_ble_eq_true rfl) h9 ?_
      rintro _ M_8 L_9 ⟨rfl, h9⟩
      refine r_iconst (v := 0) d_Mod_goBack_60 (by decide) ?_
      refine r_istore_n d_Mod_goBack_61 (by decide) ?_
      exact h9
theorem L_Mod_goBack_62 {xs : List Int32} {i1 : Int32} {i2 : Int32} {i3 : Int32} {M : Mem} {L : Int64} {Q : Option Value → Mem → Int64 → Prop} 
    (h : ((400 ≤ i3 → RX xs shL md_Mod_goBack 11 [.ref 516, .int i1, .int (i2 + (-1)), .null] [] M L Q) ∧ (¬ (400 ≤ i3) → (vp_in i3 400 ∧ (((M 527 i3.toNatClampNeg) = 0 → RX xs shL md_Mod_goBack 62 [.ref 516, .int i1, .int i2, .int (i3 + 1)] [] (up M 527 i3.toNatClampNeg 0) L Q) ∧ (¬ ((M 527 i3.toNatClampNeg) = 0) → (vp_in ((400 * i2) + i3) 16400 ∧ (((M 529 (((400 * i2) + i3).toNatClampNeg)) = 0 → RX xs shL md_Mod_goBack 62 [.ref 516, .int i1, .int i2, .int (i3 + 1)] [] (up M 527 i3.toNatClampNeg 0) L Q) ∧ (¬ ((M 529 (((400 * i2) + i3).toNatClampNeg)) = 0) → RX xs shL md_Mod_goBack 62 [.ref 516, .int i1, .int i2, .int (i3 + 1)] [] (up M 527 i3.toNatClampNeg 1) L Q))))))))) : RX xs shL md_Mod_goBack 62 [.ref 516, .int i1, .int i2, .int i3] [] M L Q := by
  refine r_iload_n d_Mod_goBack_62 rfl ?_
  refine r_sipush (v := 400) d_Mod_goBack_63 (by decide) ?_
  refine r_ic_ge d_Mod_goBack_66 (fun c_10 => ?_) (fun c_10 => ?_)
  · have h9 := h.1 c_10
    refine r_iinc (v := i2 + (-1)) d_Mod_goBack_110 rfl rfl (by decide) ?_
    refine r_goto d_Mod_goBack_113 ?_
    refine r_weak (lv' := [.ref 516, .int i1, .int (i2 + (-1)), .null]) (by repeat (first | exact trivial | refine ⟨rfl, ?_⟩ | exact lle_nil)) ?_
    exact h9
  · have h9 := h.2 c_10
    refine r_aload_n d_Mod_goBack_69 rfl ?_
    refine x_getR d_Mod_goBack_70 fl_Mod_51 gR_516_29 ?_
    refine r_iload_n d_Mod_goBack_73 rfl ?_
    refine r_aload_n d_Mod_goBack_74 rfl ?_
    refine x_getR d_Mod_goBack_75 fl_Mod_51 gR_516_29 ?_
    refine r_iload_n d_Mod_goBack_78 rfl ?_
    obtain ⟨o_11, h9⟩ := h9
    refine x_zald d_Mod_goBack_79 aZ_527 o_11 ?_
    refine r_if_eq d_Mod_goBack_80 (fun c_12 => ?_) (fun c_12 => ?_)
    · have h9 := h9.1 c_12
      refine r_iconst (v := 0) d_Mod_goBack_102 (by decide) ?_
      refine x_zast d_Mod_goBack_103 aZ_527 o_11 ?_
      refine r_iinc (v := i3 + 1) d_Mod_goBack_104 rfl rfl (by decide) ?_
      refine r_goto d_Mod_goBack_107 ?_
      exact h9
    · have h9 := h9.2 c_12
      refine r_aload_n d_Mod_goBack_83 rfl ?_
      refine x_getR d_Mod_goBack_84 fl_Mod_57 gR_516_31 ?_
      refine r_sipush (v := 400) d_Mod_goBack_87 (by decide) ?_
      refine r_iload_n d_Mod_goBack_90 rfl ?_
      refine r_imul d_Mod_goBack_91 ?_
      refine r_iload_n d_Mod_goBack_92 rfl ?_
      refine r_iadd d_Mod_goBack_93 ?_
      obtain ⟨o_13, h9⟩ := h9
      refine x_zald d_Mod_goBack_94 aZ_529 o_13 ?_
      refine r_if_eq d_Mod_goBack_95 (fun c_14 => ?_) (fun c_14 => ?_)
      · have h9 := h9.1 c_14
        refine r_iconst (v := 0) d_Mod_goBack_102 (by decide) ?_
        refine x_zast d_Mod_goBack_103 aZ_527 o_11 ?_
        refine r_iinc (v := i3 + 1) d_Mod_goBack_104 rfl rfl (by decide) ?_
        refine r_goto d_Mod_goBack_107 ?_
        exact h9
      · have h9 := h9.2 c_14
        refine r_iconst (v := 1) d_Mod_goBack_98 (by decide) ?_
        refine r_goto d_Mod_goBack_99 ?_
        refine x_zast d_Mod_goBack_103 aZ_527 o_11 ?_
        refine r_iinc (v := i3 + 1) d_Mod_goBack_104 rfl rfl (by decide) ?_
        refine r_goto d_Mod_goBack_107 ?_
        exact h9
theorem L_Mod_isEmptyNow_0 {xs : List Int32}  {M : Mem} {L : Int64} {Q : Option Value → Mem → Int64 → Prop} 
    (h : RX xs shL md_Mod_begin 0 [.ref 516] [] M L (fun r M_1 L_2 => r = none ∧ RX xs shL md_Mod_cells 0 [.ref 516] [] M_1 L_2 (fun r M_3 L_4 => ∃ v_5 : Int32, r = some (.int v_5) ∧ ((v_5 = 0 → RX xs shL md_Mod_isEmptyNow 19 [.ref 516, .int 1, .int 0] [] M_3 L_4 Q) ∧ (¬ (v_5 = 0) → RX xs shL md_Mod_isEmptyNow 19 [.ref 516, .int 0, .int 0] [] M_3 L_4 Q))))) : RX xs shL md_Mod_isEmptyNow 0 [.ref 516] [] M L Q := by
  refine r_weak (lv' := [.ref 516, .null, .null]) (by repeat (first | exact trivial | refine ⟨rfl, ?_⟩ | exact lle_nil)) ?_
  refine r_aload_n d_Mod_isEmptyNow_0 rfl ?_
  refine x_callV (as := []) (st := []) d_Mod_isEmptyNow_1 ml_Mod_175 mc_Mod_begin mv_Mod_begin ⟨by decide, by decide⟩ gO_516 ⟨_, rfl, rfl⟩ rfl (Nat.le_of_ble_eq_true rfl) (Nat.le_of_ble_eq_true rfl) h ?_
  rintro _ M_1 L_2 ⟨rfl, h9⟩
  refine r_aload_n d_Mod_isEmptyNow_4 rfl ?_
  refine x_callV (as := []) (st := []) d_Mod_isEmptyNow_5 ml_Mod_178 mc_Mod_cells mv_Mod_cells ⟨by decide, by decide⟩ gO_516 ⟨_, rfl, rfl⟩ rfl (Nat.le_of_ble_eq_true rfl) (Nat.le_of_ble_eq_true rfl) h9 ?_
  rintro _ M_3 L_4 ⟨v_5, rfl, h9⟩
  refine r_if_ne d_Mod_isEmptyNow_8 (fun c_6 => ?_) (fun c_6 => ?_)
  · have h9 := h9.2 c_6
    refine r_iconst (v := 0) d_Mod_isEmptyNow_15 (by decide) ?_
    refine r_istore_n d_Mod_isEmptyNow_16 (by decide) ?_
    refine r_iconst (v := 0) d_Mod_isEmptyNow_17 (by decide) ?_
    refine r_istore_n d_Mod_isEmptyNow_18 (by decide) ?_
    exact h9
  · have h9 := h9.1 c_6
    refine r_iconst (v := 1) d_Mod_isEmptyNow_11 (by decide) ?_
    refine r_goto d_Mod_isEmptyNow_12 ?_
    refine r_istore_n d_Mod_isEmptyNow_16 (by decide) ?_
    refine r_iconst (v := 0) d_Mod_isEmptyNow_17 (by decide) ?_
    refine r_istore_n d_Mod_isEmptyNow_18 (by decide) ?_
    exact h9
theorem L_Mod_isEmptyNow_19 {xs : List Int32} {i1 : Int32} {i2 : Int32} {M : Mem} {L : Int64} {Q : Option Value → Mem → Int64 → Prop} 
    (h : (((M 516 20) ≤ i2 → ((i1 = 0 ∨ i1 = 1) ∧ Q (some (.int i1)) M L)) ∧ (¬ ((M 516 20) ≤ i2) → ((i1 = 0 → RX xs shL md_Mod_step 0 [.ref 516, .int i2, .int 0, .int 0, .int 0] [] M L (fun r M_11 L_12 => r = none ∧ RX xs shL md_Mod_cells 0 [.ref 516] [] M_11 L_12 (fun r M_13 L_14 => ∃ v_15 : Int32, r = some (.int v_15) ∧ ((v_15 = 0 → RX xs shL md_Mod_isEmptyNow 19 [.ref 516, .int 1, .int (i2 + 1)] [] M_13 L_14 Q) ∧ (¬ (v_15 = 0) → RX xs shL md_Mod_isEmptyNow 19 [.ref 516, .int 0, .int (i2 + 1)] [] M_13 L_14 Q))))) ∧ (¬ (i1 = 0) → ((i1 = 0 ∨ i1 = 1) ∧ Q (some (.int i1)) M L)))))) : RX xs shL md_Mod_isEmptyNow 19 [.ref 516, .int i1, .int i2] [] M L Q := by
  refine r_iload_n d_Mod_isEmptyNow_19 rfl ?_
  refine r_aload_n d_Mod_isEmptyNow_20 rfl ?_
  refine x_getI d_Mod_isEmptyNow_21 fl_Mod_140 gI_516_20 ?_
  refine r_ic_ge d_Mod_isEmptyNow_24 (fun c_7 => ?_) (fun c_7 => ?_)
  · have h9 := h.1 c_7
    refine r_iload_n d_Mod_isEmptyNow_58 rfl ?_
    obtain ⟨o_8, h9⟩ := h9
    exact r_iret ⟨d_Mod_isEmptyNow_59, _, rfl, nar_b o_8⟩ ⟨_, _, rfl, h9⟩
  · have h9 := h.2 c_7
    refine r_iload_n d_Mod_isEmptyNow_27 rfl ?_
    refine r_if_ne d_Mod_isEmptyNow_28 (fun c_9 => ?_) (fun c_9 => ?_)
    · have h9 := h9.2 c_9
      refine r_iload_n d_Mod_isEmptyNow_58 rfl ?_
      obtain ⟨o_10, h9⟩ := h9
      exact r_iret ⟨d_Mod_isEmptyNow_59, _, rfl, nar_b o_10⟩ ⟨_, _, rfl, h9⟩
    · have h9 := h9.1 c_9
      refine r_aload_n d_Mod_isEmptyNow_31 rfl ?_
      refine r_iload_n d_Mod_isEmptyNow_32 rfl ?_
      refine r_iconst (v := 0) d_Mod_isEmptyNow_33 (by decide) ?_
      refine r_iconst (v := 0) d_Mod_isEmptyNow_34 (by decide) ?_
      refine r_iconst (v := 0) d_Mod_isEmptyNow_35 (by decide) ?_
      refine x_callV (as := [.int i2, .int 0, .int 0, .int 0]) (st := []) d_Mod_isEmptyNow_36 ml_Mod_213 mc_Mod_step mv_Mod_step ⟨by decide, by decide⟩ gO_516 ⟨_, rfl, rfl⟩ rfl (Nat.le_of_ble_eq_true rfl) (Nat.le_of_ble_eq_true rfl) h9 ?_
      rintro _ M_11 L_12 ⟨rfl, h9⟩
      refine r_aload_n d_Mod_isEmptyNow_39 rfl ?_
      refine x_callV (as := []) (st := []) d_Mod_isEmptyNow_40 ml_Mod_178 mc_Mod_cells mv_Mod_cells ⟨by decide, by decide⟩ gO_516 ⟨_, rfl, rfl⟩ rfl (Nat.le_of_ble_eq_true rfl) (Nat.le_of_ble_eq_true rfl) h9 ?_
      rintro _ M_13 L_14 ⟨v_15, rfl, h9⟩
      refine r_if_ne d_Mod_isEmptyNow_43 (fun c_16 => ?_) (fun c_16 => ?_)
      · have h9 := h9.2 c_16
        refine r_iconst (v := 0) d_Mod_isEmptyNow_50 (by decide) ?_
        refine r_istore_n d_Mod_isEmptyNow_51 (by decide) ?_
        refine r_iinc (v := i2 + 1) d_Mod_isEmptyNow_52 rfl rfl (by decide) ?_
        refine r_goto d_Mod_isEmptyNow_55 ?_
        exact h9
      · have h9 := h9.1 c_16
        refine r_iconst (v := 1) d_Mod_isEmptyNow_46 (by decide) ?_
        refine r_goto d_Mod_isEmptyNow_47 ?_
        refine r_istore_n d_Mod_isEmptyNow_51 (by decide) ?_
        refine r_iinc (v := i2 + 1) d_Mod_isEmptyNow_52 rfl rfl (by decide) ?_
        refine r_goto d_Mod_isEmptyNow_55 ?_
        exact h9
theorem L_Mod_seek_0 {xs : List Int32} {i1 : Int32} {M : Mem} {L : Int64} {Q : Option Value → Mem → Int64 → Prop} 
    (h : RX xs shL md_Mod_seek 9 [.ref 516, .int i1, .int 0, .int 0] [] (up M 516 33 (-1)) L Q) : RX xs shL md_Mod_seek 0 [.ref 516, .int i1] [] M L Q := by
  refine r_weak (lv' := [.ref 516, .int i1, .null, .null]) (by repeat (first | exact trivial | refine ⟨rfl, ?_⟩ | exact lle_nil)) ?_
  refine r_iconst (v := 0) d_Mod_seek_0 (by decide) ?_
  refine r_istore_n d_Mod_seek_1 (by decide) ?_
  refine r_aload_n d_Mod_seek_2 rfl ?_
  refine r_iconst (v := (-1)) d_Mod_seek_3 (by decide) ?_
  refine x_putI d_Mod_seek_4 fl_Mod_236 (fun r hr => by cases hr; rfl) gI_516_33 (VOk_int _) ?_
  refine r_iconst (v := 0) d_Mod_seek_7 (by decide) ?_
  refine r_istore_n d_Mod_seek_8 (by decide) ?_
  exact h
theorem L_Mod_seek_9 {xs : List Int32} {i1 : Int32} {i2 : Int32} {i3 : Int32} {M : Mem} {L : Int64} {Q : Option Value → Mem → Int64 → Prop} 
    (h : (((M 516 20) ≤ i3 → ((i2 ≤ 0 → RX xs shL md_Mod_seekPairs 0 [.ref 516, .int i1] [] M L (fun r M_3 L_4 => ∃ v_5 : Int32, r = some (.int v_5) ∧ Q (some (.int v_5)) M_3 L_4)) ∧ (¬ (i2 ≤ 0) → Q (some (.int i2)) M L))) ∧ (¬ ((M 516 20) ≤ i3) → (vp_in ((5 * i3) + 4) 200 ∧ (((M 525 (((5 * i3) + 4).toNatClampNeg)) = 1 → RX xs shL md_Mod_helps 0 [.ref 516, .int i3, .int i3] [] M L (fun r M_8 L_9 => ∃ v_10 : Int32, r = some (.int v_10) ∧ ((v_10 = 0 → RX xs shL md_Mod_seek 9 [.ref 516, .int i1, .int i2, .int (i3 + 1)] [] M_8 L_9 Q) ∧ (¬ (v_10 = 0) → ((i2 = i1 → RX xs shL md_Mod_seek 9 [.ref 516, .int i1, .int (i2 + 1), .int (i3 + 1)] [] (up M_8 516 33 i3) L_9 Q) ∧ (¬ (i2 = i1) → RX xs shL md_Mod_seek 9 [.ref 516, .int i1, .int (i2 + 1), .int (i3 + 1)] [] (up M_8 516 33 (M_8 516 33)) L_9 Q)))))) ∧ (¬ ((M 525 (((5 * i3) + 4).toNatClampNeg)) = 1) → RX xs shL md_Mod_seek 9 [.ref 516, .int i1, .int i2, .int (i3 + 1)] [] M L Q)))))) : RX xs shL md_Mod_seek 9 [.ref 516, .int i1, .int i2, .int i3] [] M L Q := by
  refine r_iload_n d_Mod_seek_9 rfl ?_
  refine r_aload_n d_Mod_seek_10 rfl ?_
  refine x_getI d_Mod_seek_11 fl_Mod_140 gI_516_20 ?_
  refine r_ic_ge d_Mod_seek_14 (fun c_1 => ?_) (fun c_1 => ?_)
  · have h9 := h.1 c_1
    refine r_iload_n d_Mod_seek_66 rfl ?_
    refine r_if_le d_Mod_seek_67 (fun c_2 => ?_) (fun c_2 => ?_)
    · have h9 := h9.1 c_2
      refine r_aload_n d_Mod_seek_74 rfl ?_
      refine r_iload_n d_Mod_seek_75 rfl ?_
      refine x_callV (as := [.int i1]) (st := []) d_Mod_seek_76 ml_Mod_242 mc_Mod_seekPairs mv_Mod_seekPairs ⟨by decide, by decide⟩ gO_516 ⟨_, rfl, rfl⟩ rfl (Nat.le_of_ble_eq_true rfl) (Nat.le_of_ble_eq_true rfl) h9 ?_
      rintro _ M_3 L_4 ⟨v_5, rfl, h9⟩
      exact r_iret ⟨d_Mod_seek_79, _, rfl, rfl⟩ ⟨_, _, rfl, h9⟩
    · have h9 := h9.2 c_2
      refine r_iload_n d_Mod_seek_70 rfl ?_
      refine r_goto d_Mod_seek_71 ?_
      exact r_iret ⟨d_Mod_seek_79, _, rfl, rfl⟩ ⟨_, _, rfl, h9⟩
  · have h9 := h.2 c_1
    refine r_aload_n d_Mod_seek_17 rfl ?_
    refine x_getR d_Mod_seek_18 fl_Mod_45 gR_516_21 ?_
    refine r_iconst (v := 5) d_Mod_seek_21 (by decide) ?_
    refine r_iload_n d_Mod_seek_22 rfl ?_
    refine r_imul d_Mod_seek_23 ?_
    refine r_iconst (v := 4) d_Mod_seek_24 (by decide) ?_
    refine r_iadd d_Mod_seek_25 ?_
    obtain ⟨o_6, h9⟩ := h9
    refine x_iald d_Mod_seek_26 aI_525 o_6 ?_
    refine r_iconst (v := 1) d_Mod_seek_27 (by decide) ?_
    refine r_ic_ne d_Mod_seek_28 (fun c_7 => ?_) (fun c_7 => ?_)
    · have h9 := h9.2 c_7
      refine r_iinc (v := i3 + 1) d_Mod_seek_60 rfl rfl (by decide) ?_
      refine r_goto d_Mod_seek_63 ?_
      exact h9
    · have h9 := h9.1 c_7
      refine r_aload_n d_Mod_seek_31 rfl ?_
      refine r_iload_n d_Mod_seek_32 rfl ?_
      refine r_iload_n d_Mod_seek_33 rfl ?_
      refine x_callV (as := [.int i3, .int i3]) (st := []) d_Mod_seek_34 ml_Mod_239 mc_Mod_helps mv_Mod_helps ⟨by decide, by decide⟩ gO_516 ⟨_, rfl, rfl⟩ rfl (Nat.le_of_ble_eq_true rfl) (Nat.le_of_ble_eq_true rfl) h9 ?_
      rintro _ M_8 L_9 ⟨v_10, rfl, h9⟩
      refine r_if_eq d_Mod_seek_37 (fun c_11 => ?_) (fun c_11 => ?_)
      · have h9 := h9.1 c_11
        refine r_iinc (v := i3 + 1) d_Mod_seek_60 rfl rfl (by decide) ?_
        refine r_goto d_Mod_seek_63 ?_
        exact h9
      · have h9 := h9.2 c_11
        refine r_aload_n d_Mod_seek_40 rfl ?_
        refine r_iload_n d_Mod_seek_41 rfl ?_
        refine r_iload_n d_Mod_seek_42 rfl ?_
        refine r_ic_ne d_Mod_seek_43 (fun c_12 => ?_) (fun c_12 => ?_)
        · have h9 := h9.2 c_12
          refine r_aload_n d_Mod_seek_50 rfl ?_
          refine x_getI d_Mod_seek_51 fl_Mod_236 gI_516_33 ?_
          refine x_putI d_Mod_seek_54 fl_Mod_236 (fun r hr => by cases hr; rfl) gI_516_33 (VOk_int _) ?_
          refine r_iinc (v := i2 + 1) d_Mod_seek_57 rfl rfl (by decide) ?_
          refine r_iinc (v := i3 + 1) d_Mod_seek_60 rfl rfl (by decide) ?_
          refine r_goto d_Mod_seek_63 ?_
          exact h9
        · have h9 := h9.1 c_12
          refine r_iload_n d_Mod_seek_46 rfl ?_
          refine r_goto d_Mod_seek_47 ?_
          refine x_putI d_Mod_seek_54 fl_Mod_236 (fun r hr => by cases hr; rfl) gI_516_33 (VOk_int _) ?_
          refine r_iinc (v := i2 + 1) d_Mod_seek_57 rfl rfl (by decide) ?_
          refine r_iinc (v := i3 + 1) d_Mod_seek_60 rfl rfl (by decide) ?_
          refine r_goto d_Mod_seek_63 ?_
          exact h9
theorem L_Mod_helps_0 {xs : List Int32} {i1 : Int32} {i2 : Int32} {M : Mem} {L : Int64} {Q : Option Value → Mem → Int64 → Prop} 
    (h : (vp_in ((5 * i1) + 4) 200 ∧ (vp_in ((5 * i2) + 4) 200 ∧ RX xs shL md_Mod_isEmptyNow 0 [.ref 516] [] (up (up M 525 (((5 * i1) + 4).toNatClampNeg) 0) 525 (((5 * i2) + 4).toNatClampNeg) 0) L (fun r M_3 L_4 => ∃ v_5 : Int32, r = some (.int v_5) ∧ ((v_5 = 0 → Q (some (.int 1)) (up (up M_3 525 (((5 * i2) + 4).toNatClampNeg) (M 525 (((5 * i2) + 4).toNatClampNeg))) 525 (((5 * i1) + 4).toNatClampNeg) (M 525 (((5 * i1) + 4).toNatClampNeg))) L_4) ∧ (¬ (v_5 = 0) → Q (some (.int 0)) (up (up M_3 525 (((5 * i2) + 4).toNatClampNeg) (M 525 (((5 * i2) + 4).toNatClampNeg))) 525 (((5 * i1) + 4).toNatClampNeg) (M 525 (((5 * i1) + 4).toNatClampNeg))) L_4)))))) : RX xs shL md_Mod_helps 0 [.ref 516, .int i1, .int i2] [] M L Q := by
  refine r_weak (lv' := [.ref 516, .int i1, .int i2, .null, .null, .null]) (by repeat (first | exact trivial | refine ⟨rfl, ?_⟩ | exact lle_nil)) ?_
  refine r_aload_n d_Mod_helps_0 rfl ?_
  refine x_getR d_Mod_helps_1 fl_Mod_45 gR_516_21 ?_
  refine r_iconst (v := 5) d_Mod_helps_4 (by decide) ?_
  refine r_iload_n d_Mod_helps_5 rfl ?_
  refine r_imul d_Mod_helps_6 ?_
  refine r_iconst (v := 4) d_Mod_helps_7 (by decide) ?_
  refine r_iadd d_Mod_helps_8 ?_
  obtain ⟨o_1, h9⟩ := h
  refine x_iald d_Mod_helps_9 aI_525 o_1 ?_
  refine r_istore_n d_Mod_helps_10 (by decide) ?_
  refine r_aload_n d_Mod_helps_11 rfl ?_
  refine x_getR d_Mod_helps_12 fl_Mod_45 gR_516_21 ?_
  refine r_iconst (v := 5) d_Mod_helps_15 (by decide) ?_
  refine r_iload_n d_Mod_helps_16 rfl ?_
  refine r_imul d_Mod_helps_17 ?_
  refine r_iconst (v := 4) d_Mod_helps_18 (by decide) ?_
  refine r_iadd d_Mod_helps_19 ?_
  obtain ⟨o_2, h9⟩ := h9
  refine x_iald d_Mod_helps_20 aI_525 o_2 ?_
  refine r_istore d_Mod_helps_21 (by decide) ?_
  refine r_aload_n d_Mod_helps_23 rfl ?_
  refine x_getR d_Mod_helps_24 fl_Mod_45 gR_516_21 ?_
  refine r_iconst (v := 5) d_Mod_helps_27 (by decide) ?_
  refine r_iload_n d_Mod_helps_28 rfl ?_
  refine r_imul d_Mod_helps_29 ?_
  refine r_iconst (v := 4) d_Mod_helps_30 (by decide) ?_
  refine r_iadd d_Mod_helps_31 ?_
  refine r_iconst (v := 0) d_Mod_helps_32 (by decide) ?_
  refine x_iast d_Mod_helps_33 aI_525 o_1 ?_
  refine r_aload_n d_Mod_helps_34 rfl ?_
  refine x_getR d_Mod_helps_35 fl_Mod_45 gR_516_21 ?_
  refine r_iconst (v := 5) d_Mod_helps_38 (by decide) ?_
  refine r_iload_n d_Mod_helps_39 rfl ?_
  refine r_imul d_Mod_helps_40 ?_
  refine r_iconst (v := 4) d_Mod_helps_41 (by decide) ?_
  refine r_iadd d_Mod_helps_42 ?_
  refine r_iconst (v := 0) d_Mod_helps_43 (by decide) ?_
  refine x_iast d_Mod_helps_44 aI_525 o_2 ?_
  refine r_aload_n d_Mod_helps_45 rfl ?_
  refine x_callV (as := []) (st := []) d_Mod_helps_46 ml_Mod_232 mc_Mod_isEmptyNow mv_Mod_isEmptyNow ⟨by decide, by decide⟩ gO_516 ⟨_, rfl, rfl⟩ rfl (Nat.le_of_ble_eq_true rfl) (Nat.le_of_ble_eq_true rfl) h9 ?_
  rintro _ M_3 L_4 ⟨v_5, rfl, h9⟩
  refine r_istore d_Mod_helps_49 (by decide) ?_
  refine r_aload_n d_Mod_helps_51 rfl ?_
  refine x_getR d_Mod_helps_52 fl_Mod_45 gR_516_21 ?_
  refine r_iconst (v := 5) d_Mod_helps_55 (by decide) ?_
  refine r_iload_n d_Mod_helps_56 rfl ?_
  refine r_imul d_Mod_helps_57 ?_
  refine r_iconst (v := 4) d_Mod_helps_58 (by decide) ?_
  refine r_iadd d_Mod_helps_59 ?_
  refine r_iload d_Mod_helps_60 rfl ?_
  refine x_iast d_Mod_helps_62 aI_525 o_2 ?_
  refine r_aload_n d_Mod_helps_63 rfl ?_
  refine x_getR d_Mod_helps_64 fl_Mod_45 gR_516_21 ?_
  refine r_iconst (v := 5) d_Mod_helps_67 (by decide) ?_
  refine r_iload_n d_Mod_helps_68 rfl ?_
  refine r_imul d_Mod_helps_69 ?_
  refine r_iconst (v := 4) d_Mod_helps_70 (by decide) ?_
  refine r_iadd d_Mod_helps_71 ?_
  refine r_iload_n d_Mod_helps_72 rfl ?_
  refine x_iast d_Mod_helps_73 aI_525 o_1 ?_
  refine r_iload d_Mod_helps_74 rfl ?_
  refine r_if_ne d_Mod_helps_76 (fun c_6 => ?_) (fun c_6 => ?_)
  · have h9 := h9.2 c_6
    refine r_iconst (v := 0) d_Mod_helps_83 (by decide) ?_
    exact r_iret ⟨d_Mod_helps_84, _, rfl, rfl⟩ ⟨_, _, rfl, h9⟩
  · have h9 := h9.1 c_6
    refine r_iconst (v := 1) d_Mod_helps_79 (by decide) ?_
    refine r_goto d_Mod_helps_80 ?_
    exact r_iret ⟨d_Mod_helps_84, _, rfl, rfl⟩ ⟨_, _, rfl, h9⟩
theorem L_Mod_seekPairs_0 {xs : List Int32} {i1 : Int32} {M : Mem} {L : Int64} {Q : Option Value → Mem → Int64 → Prop} 
    (h : RX xs shL md_Mod_seekPairs 4 [.ref 516, .int i1, .int 0, .int 0, .null] [] M L Q) : RX xs shL md_Mod_seekPairs 0 [.ref 516, .int i1] [] M L Q := by
  refine r_weak (lv' := [.ref 516, .int i1, .null, .null, .null]) (by repeat (first | exact trivial | refine ⟨rfl, ?_⟩ | exact lle_nil)) ?_
  refine r_iconst (v := 0) d_Mod_seekPairs_0 (by decide) ?_
  refine r_istore_n d_Mod_seekPairs_1 (by decide) ?_
  refine r_iconst (v := 0) d_Mod_seekPairs_2 (by decide) ?_
  refine r_istore_n d_Mod_seekPairs_3 (by decide) ?_
  exact h
theorem L_Mod_seekPairs_4 {xs : List Int32} {i1 : Int32} {i2 : Int32} {i3 : Int32} {M : Mem} {L : Int64} {Q : Option Value → Mem → Int64 → Prop} 
    (h : (((M 516 20) ≤ i3 → Q (some (.int i2)) M L) ∧ (¬ ((M 516 20) ≤ i3) → RX xs shL md_Mod_seekPairs 17 [.ref 516, .int i1, .int i2, .int i3, .int (i3 + 1)] [] M L Q))) : RX xs shL md_Mod_seekPairs 4 [.ref 516, .int i1, .int i2, .int i3, .null] [] M L Q := by
  refine r_iload_n d_Mod_seekPairs_4 rfl ?_
  refine r_aload_n d_Mod_seekPairs_5 rfl ?_
  refine x_getI d_Mod_seekPairs_6 fl_Mod_140 gI_516_20 ?_
  refine r_ic_ge d_Mod_seekPairs_9 (fun c_1 => ?_) (fun c_1 => ?_)
  · have h9 := h.1 c_1
    refine r_iload_n d_Mod_seekPairs_105 rfl ?_
    exact r_iret ⟨d_Mod_seekPairs_106, _, rfl, rfl⟩ ⟨_, _, rfl, h9⟩
  · have h9 := h.2 c_1
    refine r_iload_n d_Mod_seekPairs_12 rfl ?_
    refine r_iconst (v := 1) d_Mod_seekPairs_13 (by decide) ?_
    refine r_iadd d_Mod_seekPairs_14 ?_
    refine r_istore d_Mod_seekPairs_15 (by decide) ?_
    exact h9
theorem L_Mod_seekPairs_17 {xs : List Int32} {i1 : Int32} {i2 : Int32} {i3 : Int32} {i4 : Int32} {M : Mem} {L : Int64} {Q : Option Value → Mem → Int64 → Prop} 
    (h : (((M 516 20) ≤ i4 → RX xs shL md_Mod_seekPairs 4 [.ref 516, .int i1, .int i2, .int (i3 + 1), .null] [] M L Q) ∧ (¬ ((M 516 20) ≤ i4) → (vp_in ((5 * i3) + 4) 200 ∧ (((M 525 (((5 * i3) + 4).toNatClampNeg)) = 1 → (vp_in ((5 * i4) + 4) 200 ∧ (((M 525 (((5 * i4) + 4).toNatClampNeg)) = 1 → RX xs shL md_Mod_helps 0 [.ref 516, .int i3, .int i4] [] M L (fun r M_7 L_8 => ∃ v_9 : Int32, r = some (.int v_9) ∧ ((v_9 = 0 → RX xs shL md_Mod_seekPairs 17 [.ref 516, .int i1, .int i2, .int i3, .int (i4 + 1)] [] M_7 L_8 Q) ∧ (¬ (v_9 = 0) → ((i2 = i1 → RX xs shL md_Mod_seekPairs 17 [.ref 516, .int i1, .int (i2 + 1), .int i3, .int (i4 + 1)] [] (up M_7 516 33 ((100 * (i3 + 1)) + i4)) L_8 Q) ∧ (¬ (i2 = i1) → RX xs shL md_Mod_seekPairs 17 [.ref 516, .int i1, .int (i2 + 1), .int i3, .int (i4 + 1)] [] (up M_7 516 33 (M_7 516 33)) L_8 Q)))))) ∧ (¬ ((M 525 (((5 * i4) + 4).toNatClampNeg)) = 1) → RX xs shL md_Mod_seekPairs 17 [.ref 516, .int i1, .int i2, .int i3, .int (i4 + 1)] [] M L Q)))) ∧ (¬ ((M 525 (((5 * i3) + 4).toNatClampNeg)) = 1) → RX xs shL md_Mod_seekPairs 17 [.ref 516, .int i1, .int i2, .int i3, .int (i4 + 1)] [] M L Q)))))) : RX xs shL md_Mod_seekPairs 17 [.ref 516, .int i1, .int i2, .int i3, .int i4] [] M L Q := by
  refine r_iload d_Mod_seekPairs_17 rfl ?_
  refine r_aload_n d_Mod_seekPairs_19 rfl ?_
  refine x_getI d_Mod_seekPairs_20 fl_Mod_140 gI_516_20 ?_
  refine r_ic_ge d_Mod_seekPairs_23 (fun c_2 => ?_) (fun c_2 => ?_)
  · have h9 := h.1 c_2
    refine r_iinc (v := i3 + 1) d_Mod_seekPairs_99 rfl rfl (by decide) ?_
    refine r_goto d_Mod_seekPairs_102 ?_
    refine r_weak (lv' := [.ref 516, .int i1, .int i2, .int (i3 + 1), .null]) (by repeat (first | exact trivial | refine ⟨rfl, ?_⟩ | exact lle_nil)) ?_
    exact h9
  · have h9 := h.2 c_2
    refine r_aload_n d_Mod_seekPairs_26 rfl ?_
    refine x_getR d_Mod_seekPairs_27 fl_Mod_45 gR_516_21 ?_
    refine r_iconst (v := 5) d_Mod_seekPairs_30 (by decide) ?_
    refine r_iload_n d_Mod_seekPairs_31 rfl ?_
    refine r_imul d_Mod_seekPairs_32 ?_
    refine r_iconst (v := 4) d_Mod_seekPairs_33 (by decide) ?_
    refine r_iadd d_Mod_seekPairs_34 ?_
    obtain ⟨o_3, h9⟩ := h9
    refine x_iald d_Mod_seekPairs_35 aI_525 o_3 ?_
    refine r_iconst (v := 1) d_Mod_seekPairs_36 (by decide) ?_
    refine r_ic_ne d_Mod_seekPairs_37 (fun c_4 => ?_) (fun c_4 => ?_)
    · have h9 := h9.2 c_4
      refine r_iinc (v := i4 + 1) d_Mod_seekPairs_93 rfl rfl (by decide) ?_
      refine r_goto d_Mod_seekPairs_96 ?_
      exact h9
    · have h9 := h9.1 c_4
      refine r_aload_n d_Mod_seekPairs_40 rfl ?_
      refine x_getR d_Mod_seekPairs_41 fl_Mod_45 gR_516_21 ?_
      refine r_iconst (v := 5) d_Mod_seekPairs_44 (by decide) ?_
      refine r_iload d_Mod_seekPairs_45 rfl ?_
      refine r_imul d_Mod_seekPairs_47 ?_
      refine r_iconst (v := 4) d_Mod_seekPairs_48 (by decide) ?_
      refine r_iadd d_Mod_seekPairs_49 ?_
      obtain ⟨o_5, h9⟩ := h9
      refine x_iald d_Mod_seekPairs_50 aI_525 o_5 ?_
      refine r_iconst (v := 1) d_Mod_seekPairs_51 (by decide) ?_
      refine r_ic_ne d_Mod_seekPairs_52 (fun c_6 => ?_) (fun c_6 => ?_)
      · have h9 := h9.2 c_6
        refine r_iinc (v := i4 + 1) d_Mod_seekPairs_93 rfl rfl (by decide) ?_
        refine r_goto d_Mod_seekPairs_96 ?_
        exact h9
      · have h9 := h9.1 c_6
        refine r_aload_n d_Mod_seekPairs_55 rfl ?_
        refine r_iload_n d_Mod_seekPairs_56 rfl ?_
        refine r_iload d_Mod_seekPairs_57 rfl ?_
        refine x_callV (as := [.int i3, .int i4]) (st := []) d_Mod_seekPairs_59 ml_Mod_239 mc_Mod_helps mv_Mod_helps ⟨by decide, by decide⟩ gO_516 ⟨_, rfl, rfl⟩ rfl (Nat.le_of_ble_eq_true rfl) (Nat.le_of_ble_eq_true rfl) h9 ?_
        rintro _ M_7 L_8 ⟨v_9, rfl, h9⟩
        refine r_if_eq d_Mod_seekPairs_62 (fun c_10 => ?_) (fun c_10 => ?_)
        · have h9 := h9.1 c_10
          refine r_iinc (v := i4 + 1) d_Mod_seekPairs_93 rfl rfl (by decide) ?_
          refine r_goto d_Mod_seekPairs_96 ?_
          exact h9
        · have h9 := h9.2 c_10
          refine r_aload_n d_Mod_seekPairs_65 rfl ?_
          refine r_iload_n d_Mod_seekPairs_66 rfl ?_
          refine r_iload_n d_Mod_seekPairs_67 rfl ?_
          refine r_ic_ne d_Mod_seekPairs_68 (fun c_11 => ?_) (fun c_11 => ?_)
          · have h9 := h9.2 c_11
            refine r_aload_n d_Mod_seekPairs_83 rfl ?_
            refine x_getI d_Mod_seekPairs_84 fl_Mod_236 gI_516_33 ?_
            refine x_putI d_Mod_seekPairs_87 fl_Mod_236 (fun r hr => by cases hr; rfl) gI_516_33 (VOk_int _) ?_
            refine r_iinc (v := i2 + 1) d_Mod_seekPairs_90 rfl rfl (by decide) ?_
            refine r_iinc (v := i4 + 1) d_Mod_seekPairs_93 rfl rfl (by decide) ?_
            refine r_goto d_Mod_seekPairs_96 ?_
            exact h9
          · have h9 := h9.1 c_11
            refine r_bipush (v := 100) d_Mod_seekPairs_71 (by decide) ?_
            refine r_iload_n d_Mod_seekPairs_73 rfl ?_
            refine r_iconst (v := 1) d_Mod_seekPairs_74 (by decide) ?_
            refine r_iadd d_Mod_seekPairs_75 ?_
            refine r_imul d_Mod_seekPairs_76 ?_
            refine r_iload d_Mod_seekPairs_77 rfl ?_
            refine r_iadd d_Mod_seekPairs_79 ?_
            refine r_goto d_Mod_seekPairs_80 ?_
            refine x_putI d_Mod_seekPairs_87 fl_Mod_236 (fun r hr => by cases hr; rfl) gI_516_33 (VOk_int _) ?_
            refine r_iinc (v := i2 + 1) d_Mod_seekPairs_90 rfl rfl (by decide) ?_
            refine r_iinc (v := i4 + 1) d_Mod_seekPairs_93 rfl rfl (by decide) ?_
            refine r_goto d_Mod_seekPairs_96 ?_
            exact h9
theorem L_Mod_isBlaming_0 {xs : List Int32}  {M : Mem} {L : Int64} {Q : Option Value → Mem → Int64 → Prop} 
    (h : RX xs shL md_Mod_measure 0 [.ref 516] [] M L (fun r M_1 L_2 => r = none ∧ RX xs shL md_Mod_isEmptyNow 0 [.ref 516] [] M_1 L_2 (fun r M_3 L_4 => ∃ v_5 : Int32, r = some (.int v_5) ∧ ((v_5 = 0 → Q (some (.int 0)) M_3 L_4) ∧ (¬ (v_5 = 0) → ((20 ≤ (M_3 516 24) → Q (some (.int 0)) M_3 L_4) ∧ (¬ (20 ≤ (M_3 516 24)) → Q (some (.int 1)) M_3 L_4))))))) : RX xs shL md_Mod_isBlaming 0 [.ref 516] [] M L Q := by
  refine r_aload_n d_Mod_isBlaming_0 rfl ?_
  refine x_callV (as := []) (st := []) d_Mod_isBlaming_1 ml_Mod_216 mc_Mod_measure mv_Mod_measure ⟨by decide, by decide⟩ gO_516 ⟨_, rfl, rfl⟩ rfl (Nat.le_of_ble_eq_true rfl) (Nat.le_of_ble_eq_true rfl) h ?_
  rintro _ M_1 L_2 ⟨rfl, h9⟩
  refine r_aload_n d_Mod_isBlaming_4 rfl ?_
  refine x_callV (as := []) (st := []) d_Mod_isBlaming_5 ml_Mod_232 mc_Mod_isEmptyNow mv_Mod_isEmptyNow ⟨by decide, by decide⟩ gO_516 ⟨_, rfl, rfl⟩ rfl (Nat.le_of_ble_eq_true rfl) (Nat.le_of_ble_eq_true rfl) h9 ?_
  rintro _ M_3 L_4 ⟨v_5, rfl, h9⟩
  refine r_if_eq d_Mod_isBlaming_8 (fun c_6 => ?_) (fun c_6 => ?_)
  · have h9 := h9.1 c_6
    refine r_iconst (v := 0) d_Mod_isBlaming_24 (by decide) ?_
    exact r_iret ⟨d_Mod_isBlaming_25, _, rfl, rfl⟩ ⟨_, _, rfl, h9⟩
  · have h9 := h9.2 c_6
    refine r_aload_n d_Mod_isBlaming_11 rfl ?_
    refine x_getI d_Mod_isBlaming_12 fl_Mod_245 gI_516_24 ?_
    refine r_bipush (v := 20) d_Mod_isBlaming_15 (by decide) ?_
    refine r_ic_ge d_Mod_isBlaming_17 (fun c_7 => ?_) (fun c_7 => ?_)
    · have h9 := h9.1 c_7
      refine r_iconst (v := 0) d_Mod_isBlaming_24 (by decide) ?_
      exact r_iret ⟨d_Mod_isBlaming_25, _, rfl, rfl⟩ ⟨_, _, rfl, h9⟩
    · have h9 := h9.2 c_7
      refine r_iconst (v := 1) d_Mod_isBlaming_20 (by decide) ?_
      refine r_goto d_Mod_isBlaming_21 ?_
      exact r_iret ⟨d_Mod_isBlaming_25, _, rfl, rfl⟩ ⟨_, _, rfl, h9⟩
theorem L_Mod_seekFits_0 {xs : List Int32} {i1 : Int32} {i2 : Int32} {i3 : Int32} {M : Mem} {L : Int64} {Q : Option Value → Mem → Int64 → Prop} 
    (h : RX xs shL md_Mod_measure 0 [.ref 516] [] M L (fun r M_1 L_2 => r = none ∧ RX xs shL md_Mod_seekFits 14 [.ref 516, .int i1, .int i2, .int i3, .int 0, .int (-1), .int (-9), .null, .null] [] M_1 L_2 Q)) : RX xs shL md_Mod_seekFits 0 [.ref 516, .int i1, .int i2, .int i3] [] M L Q := by
  refine r_weak (lv' := [.ref 516, .int i1, .int i2, .int i3, .null, .null, .null, .null, .null]) (by repeat (first | exact trivial | refine ⟨rfl, ?_⟩ | exact lle_nil)) ?_
  refine r_aload_n d_Mod_seekFits_0 rfl ?_
  refine x_callV (as := []) (st := []) d_Mod_seekFits_1 ml_Mod_216 mc_Mod_measure mv_Mod_measure ⟨by decide, by decide⟩ gO_516 ⟨_, rfl, rfl⟩ rfl (Nat.le_of_ble_eq_true rfl) (Nat.le_of_ble_eq_true rfl) h ?_
  rintro _ M_1 L_2 ⟨rfl, h9⟩
  refine r_iconst (v := 0) d_Mod_seekFits_4 (by decide) ?_
  refine r_istore d_Mod_seekFits_5 (by decide) ?_
  refine r_iconst (v := (-1)) d_Mod_seekFits_7 (by decide) ?_
  refine r_istore d_Mod_seekFits_8 (by decide) ?_
  refine r_bipush (v := (-9)) d_Mod_seekFits_10 (by decide) ?_
  refine r_istore d_Mod_seekFits_12 (by decide) ?_
  exact h9
theorem L_Mod_seekFits_14 {xs : List Int32} {i1 : Int32} {i2 : Int32} {i3 : Int32} {i4 : Int32} {i5 : Int32} {i6 : Int32} {M : Mem} {L : Int64} {Q : Option Value → Mem → Int64 → Prop} 
    (h : ((9 < i6 → ((i3 = (-1) → Q (some (.int i4)) M L) ∧ (¬ (i3 = (-1)) → Q (some (.int i5)) M L))) ∧ (¬ (9 < i6) → RX xs shL md_Mod_seekFits 24 [.ref 516, .int i1, .int i2, .int i3, .int i4, .int i5, .int i6, .int 0, .null] [] M L Q))) : RX xs shL md_Mod_seekFits 14 [.ref 516, .int i1, .int i2, .int i3, .int i4, .int i5, .int i6, .null, .null] [] M L Q := by
  refine r_iload d_Mod_seekFits_14 rfl ?_
  refine r_bipush (v := 9) d_Mod_seekFits_16 (by decide) ?_
  refine r_ic_gt d_Mod_seekFits_18 (fun c_3 => ?_) (fun c_3 => ?_)
  · have h9 := h.1 c_3
    refine r_iload_n d_Mod_seekFits_127 rfl ?_
    refine r_iconst (v := (-1)) d_Mod_seekFits_128 (by decide) ?_
    refine r_ic_ne d_Mod_seekFits_129 (fun c_4 => ?_) (fun c_4 => ?_)
    · have h9 := h9.2 c_4
      refine r_iload d_Mod_seekFits_137 rfl ?_
      exact r_iret ⟨d_Mod_seekFits_139, _, rfl, rfl⟩ ⟨_, _, rfl, h9⟩
    · have h9 := h9.1 c_4
      refine r_iload d_Mod_seekFits_132 rfl ?_
      refine r_goto d_Mod_seekFits_134 ?_
      exact r_iret ⟨d_Mod_seekFits_139, _, rfl, rfl⟩ ⟨_, _, rfl, h9⟩
  · have h9 := h.2 c_3
    refine r_iconst (v := 0) d_Mod_seekFits_21 (by decide) ?_
    refine r_istore d_Mod_seekFits_22 (by decide) ?_
    exact h9
theorem L_Mod_seekFits_24 {xs : List Int32} {i1 : Int32} {i2 : Int32} {i3 : Int32} {i4 : Int32} {i5 : Int32} {i6 : Int32} {i7 : Int32} {M : Mem} {L : Int64} {Q : Option Value → Mem → Int64 → Prop} 
    (h : ((6 ≤ i7 → RX xs shL md_Mod_seekFits 14 [.ref 516, .int i1, .int i2, .int i3, .int i4, .int i5, .int (i6 + 1), .null, .null] [] M L Q) ∧ (¬ (6 ≤ i7) → RX xs shL md_Mod_seekFits 35 [.ref 516, .int i1, .int i2, .int i3, .int i4, .int i5, .int i6, .int i7, .int (-2)] [] M L Q))) : RX xs shL md_Mod_seekFits 24 [.ref 516, .int i1, .int i2, .int i3, .int i4, .int i5, .int i6, .int i7, .null] [] M L Q := by
  refine r_iload d_Mod_seekFits_24 rfl ?_
  refine r_bipush (v := 6) d_Mod_seekFits_26 (by decide) ?_
  refine r_ic_ge d_Mod_seekFits_28 (fun c_5 => ?_) (fun c_5 => ?_)
  · have h9 := h.1 c_5
    refine r_iinc (v := i6 + 1) d_Mod_seekFits_121 rfl rfl (by decide) ?_
    refine r_goto d_Mod_seekFits_124 ?_
    refine r_weak (lv' := [.ref 516, .int i1, .int i2, .int i3, .int i4, .int i5, .int (i6 + 1), .null, .null]) (by repeat (first | exact trivial | refine ⟨rfl, ?_⟩ | exact lle_nil)) ?_
    exact h9
  · have h9 := h.2 c_5
    refine r_bipush (v := (-2)) d_Mod_seekFits_31 (by decide) ?_
    refine r_istore d_Mod_seekFits_33 (by decide) ?_
    exact h9
set_option maxHeartbeats 4000000 in
theorem L_Mod_seekFits_35 {xs : List Int32} {i1 : Int32} {i2 : Int32} {i3 : Int32} {i4 : Int32} {i5 : Int32} {i6 : Int32} {i7 : Int32} {i8 : Int32} {M : Mem} {L : Int64} {Q : Option Value → Mem → Int64 → Prop} 
    (h : ((2 < i8 → RX xs shL md_Mod_seekFits 24 [.ref 516, .int i1, .int i2, .int i3, .int i4, .int i5, .int i6, .int (i7 + 1), .null] [] M L Q) ∧ (¬ (2 < i8) → ((i8 = 0 → ((i7 = 0 → RX xs shL md_Mod_goAll 0 [.ref 516, .int i6, .int i7, .int i8] [] M L (fun r M_14 L_15 => r = none ∧ (vp_in (20 * i2 + i1) 400 ∧ (((M_14 527 ((20 * i2 + i1).toNatClampNeg)) = 0 → RX xs shL md_Mod_seekFits 35 [.ref 516, .int i1, .int i2, .int i3, .int i4, .int i5, .int i6, .int i7, .int (i8 + 1)] [] M_14 L_15 Q) ∧ (¬ ((M_14 527 ((20 * i2 + i1).toNatClampNeg)) = 0) → ((i4 = i3 → RX xs shL md_Mod_seekFits 35 [.ref 516, .int i1, .int i2, .int i3, .int (i4 + 1), .int ((((100 * (i6 + 9)) + (10 * i7)) + i8) + 2), .int i6, .int i7, .int (i8 + 1)] [] M_14 L_15 Q) ∧ (¬ (i4 = i3) → RX xs shL md_Mod_seekFits 35 [.ref 516, .int i1, .int i2, .int i3, .int (i4 + 1), .int i5, .int i6, .int i7, .int (i8 + 1)] [] M_14 L_15 Q))))))) ∧ (¬ (i7 = 0) → RX xs shL md_Mod_seekFits 35 [.ref 516, .int i1, .int i2, .int i3, .int i4, .int i5, .int i6, .int i7, .int (i8 + 1)] [] M L Q))) ∧ (¬ (i8 = 0) → RX xs shL md_Mod_goAll 0 [.ref 516, .int i6, .int i7, .int i8] [] M L (fun r M_8 L_9 => r = none ∧ (vp_in (20 * i2 + i1) 400 ∧ (((M_8 527 ((20 * i2 + i1).toNatClampNeg)) = 0 → RX xs shL md_Mod_seekFits 35 [.ref 516, .int i1, .int i2, .int i3, .int i4, .int i5, .int i6, .int i7, .int (i8 + 1)] [] M_8 L_9 Q) ∧ (¬ ((M_8 527 ((20 * i2 + i1).toNatClampNeg)) = 0) → ((i4 = i3 → RX xs shL md_Mod_seekFits 35 [.ref 516, .int i1, .int i2, .int i3, .int (i4 + 1), .int ((((100 * (i6 + 9)) + (10 * i7)) + i8) + 2), .int i6, .int i7, .int (i8 + 1)] [] M_8 L_9 Q) ∧ (¬ (i4 = i3) → RX xs shL md_Mod_seekFits 35 [.ref 516, .int i1, .int i2, .int i3, .int (i4 + 1), .int i5, .int i6, .int i7, .int (i8 + 1)] [] M_8 L_9 Q))))))))))) : RX xs shL md_Mod_seekFits 35 [.ref 516, .int i1, .int i2, .int i3, .int i4, .int i5, .int i6, .int i7, .int i8] [] M L Q := by
  refine r_iload d_Mod_seekFits_35 rfl ?_
  refine r_iconst (v := 2) d_Mod_seekFits_37 (by decide) ?_
  refine r_ic_gt d_Mod_seekFits_38 (fun c_6 => ?_) (fun c_6 => ?_)
  · have h9 := h.1 c_6
    refine r_iinc (v := i7 + 1) d_Mod_seekFits_115 rfl rfl (by decide) ?_
    refine r_goto d_Mod_seekFits_118 ?_
    refine r_weak (lv' := [.ref 516, .int i1, .int i2, .int i3, .int i4, .int i5, .int i6, .int (i7 + 1), .null]) (by repeat (first | exact trivial | refine ⟨rfl, ?_⟩ | exact lle_nil)) ?_
    exact h9
  · have h9 := h.2 c_6
    refine r_iload d_Mod_seekFits_41 rfl ?_
    refine r_if_ne d_Mod_seekFits_43 (fun c_7 => ?_) (fun c_7 => ?_)
    · have h9 := h9.2 c_7
      refine r_aload_n d_Mod_seekFits_51 rfl ?_
      refine r_iload d_Mod_seekFits_52 rfl ?_
      refine r_iload d_Mod_seekFits_54 rfl ?_
      refine r_iload d_Mod_seekFits_56 rfl ?_
      refine x_callV (as := [.int i6, .int i7, .int i8]) (st := []) d_Mod_seekFits_58 ml_Mod_219 mc_Mod_goAll mv_Mod_goAll ⟨by decide, by decide⟩ gO_516 ⟨_, rfl, rfl⟩ rfl (Nat.le_of_ble_eq_true rfl) (Nat.le_of_ble_eq_true rfl) h9 ?_
      rintro _ M_8 L_9 ⟨rfl, h9⟩
      refine r_aload_n d_Mod_seekFits_61 rfl ?_
      refine x_getR d_Mod_seekFits_62 fl_Mod_51 gR_516_29 ?_
      refine r_iload_n d_Mod_seekFits_65 rfl ?_
      refine r_iload_n d_Mod_seekFits_66 rfl ?_
      refine x_callS (as := [.int i1, .int i2]) (st := [.ref 527]) d_Mod_seekFits_67 ml_Mod_147 mc_Mod_at ms_Mod_at ⟨by decide, by decide⟩ rfl (Nat.le_of_ble_eq_true rfl) (Nat.le_of_ble_eq_true rfl) (Q1 := fun r M1 L1 => some (.int (20 * i2 + i1)) = r ∧ M_8 = M1 ∧ L_9 = L1) (s_Mod_at ⟨rfl, rfl, rfl⟩) ?_
      rintro _ _ _ ⟨rfl, rfl, rfl⟩
      obtain ⟨o_10, h9⟩ := h9
      refine x_zald d_Mod_seekFits_70 aZ_527 o_10 ?_
      refine r_if_eq d_Mod_seekFits_71 (fun c_11 => ?_) (fun c_11 => ?_)
      · have h9 := h9.1 c_11
        refine r_iinc (v := i8 + 1) d_Mod_seekFits_109 rfl rfl (by decide) ?_
        refine r_goto d_Mod_seekFits_112 ?_
        exact h9
      · have h9 := h9.2 c_11
        refine r_iload d_Mod_seekFits_74 rfl ?_
        refine r_iload_n d_Mod_seekFits_76 rfl ?_
        refine r_ic_ne d_Mod_seekFits_77 (fun c_12 => ?_) (fun c_12 => ?_)
        · have h9 := h9.2 c_12
          refine r_iload d_Mod_seekFits_102 rfl ?_
          refine r_istore d_Mod_seekFits_104 (by decide) ?_
          refine r_iinc (v := i4 + 1) d_Mod_seekFits_106 rfl rfl (by decide) ?_
          refine r_iinc (v := i8 + 1) d_Mod_seekFits_109 rfl rfl (by decide) ?_
          refine r_goto d_Mod_seekFits_112 ?_
          exact h9
        · have h9 := h9.1 c_12
          refine r_bipush (v := 100) d_Mod_seekFits_80 (by decide) ?_
          refine r_iload d_Mod_seekFits_82 rfl ?_
          refine r_bipush (v := 9) d_Mod_seekFits_84 (by decide) ?_
          refine r_iadd d_Mod_seekFits_86 ?_
          refine r_imul d_Mod_seekFits_87 ?_
          refine r_bipush (v := 10) d_Mod_seekFits_88 (by decide) ?_
          refine r_iload d_Mod_seekFits_90 rfl ?_
          refine r_imul d_Mod_seekFits_92 ?_
          refine r_iadd d_Mod_seekFits_93 ?_
          refine r_iload d_Mod_seekFits_94 rfl ?_
          refine r_iadd d_Mod_seekFits_96 ?_
          refine r_iconst (v := 2) d_Mod_seekFits_97 (by decide) ?_
          refine r_iadd d_Mod_seekFits_98 ?_
          refine r_goto d_Mod_seekFits_99 ?_
          refine r_istore d_Mod_seekFits_104 (by decide) ?_
          refine r_iinc (v := i4 + 1) d_Mod_seekFits_106 rfl rfl (by decide) ?_
          refine r_iinc (v := i8 + 1) d_Mod_seekFits_109 rfl rfl (by decide) ?_
          refine r_goto d_Mod_seekFits_112 ?_
          exact h9
    · have h9 := h9.1 c_7
      refine r_iload d_Mod_seekFits_46 rfl ?_
      refine r_if_ne d_Mod_seekFits_48 (fun c_13 => ?_) (fun c_13 => ?_)
      · have h9 := h9.2 c_13
        refine r_iinc (v := i8 + 1) d_Mod_seekFits_109 rfl rfl (by decide) ?_
        refine r_goto d_Mod_seekFits_112 ?_
        exact h9
      · have h9 := h9.1 c_13
        refine r_aload_n d_Mod_seekFits_51 rfl ?_
        refine r_iload d_Mod_seekFits_52 rfl ?_
        refine r_iload d_Mod_seekFits_54 rfl ?_
        refine r_iload d_Mod_seekFits_56 rfl ?_
        refine x_callV (as := [.int i6, .int i7, .int i8]) (st := []) d_Mod_seekFits_58 ml_Mod_219 mc_Mod_goAll mv_Mod_goAll ⟨by decide, by decide⟩ gO_516 ⟨_, rfl, rfl⟩ rfl (Nat.le_of_ble_eq_true rfl) (Nat.le_of_ble_eq_true rfl) h9 ?_
        rintro _ M_14 L_15 ⟨rfl, h9⟩
        refine r_aload_n d_Mod_seekFits_61 rfl ?_
        refine x_getR d_Mod_seekFits_62 fl_Mod_51 gR_516_29 ?_
        refine r_iload_n d_Mod_seekFits_65 rfl ?_
        refine r_iload_n d_Mod_seekFits_66 rfl ?_
        refine x_callS (as := [.int i1, .int i2]) (st := [.ref 527]) d_Mod_seekFits_67 ml_Mod_147 mc_Mod_at ms_Mod_at ⟨by decide, by decide⟩ rfl (Nat.le_of_ble_eq_true rfl) (Nat.le_of_ble_eq_true rfl) (Q1 := fun r M1 L1 => some (.int (20 * i2 + i1)) = r ∧ M_14 = M1 ∧ L_15 = L1) (s_Mod_at ⟨rfl, rfl, rfl⟩) ?_
        rintro _ _ _ ⟨rfl, rfl, rfl⟩
        obtain ⟨o_16, h9⟩ := h9
        refine x_zald d_Mod_seekFits_70 aZ_527 o_16 ?_
        refine r_if_eq d_Mod_seekFits_71 (fun c_17 => ?_) (fun c_17 => ?_)
        · have h9 := h9.1 c_17
          refine r_iinc (v := i8 + 1) d_Mod_seekFits_109 rfl rfl (by decide) ?_
          refine r_goto d_Mod_seekFits_112 ?_
          exact h9
        · have h9 := h9.2 c_17
          refine r_iload d_Mod_seekFits_74 rfl ?_
          refine r_iload_n d_Mod_seekFits_76 rfl ?_
          refine r_ic_ne d_Mod_seekFits_77 (fun c_18 => ?_) (fun c_18 => ?_)
          · have h9 := h9.2 c_18
            refine r_iload d_Mod_seekFits_102 rfl ?_
            refine r_istore d_Mod_seekFits_104 (by decide) ?_
            refine r_iinc (v := i4 + 1) d_Mod_seekFits_106 rfl rfl (by decide) ?_
            refine r_iinc (v := i8 + 1) d_Mod_seekFits_109 rfl rfl (by decide) ?_
            refine r_goto d_Mod_seekFits_112 ?_
            exact h9
          · have h9 := h9.1 c_18
            refine r_bipush (v := 100) d_Mod_seekFits_80 (by decide) ?_
            refine r_iload d_Mod_seekFits_82 rfl ?_
            refine r_bipush (v := 9) d_Mod_seekFits_84 (by decide) ?_
            refine r_iadd d_Mod_seekFits_86 ?_
            refine r_imul d_Mod_seekFits_87 ?_
            refine r_bipush (v := 10) d_Mod_seekFits_88 (by decide) ?_
            refine r_iload d_Mod_seekFits_90 rfl ?_
            refine r_imul d_Mod_seekFits_92 ?_
            refine r_iadd d_Mod_seekFits_93 ?_
            refine r_iload d_Mod_seekFits_94 rfl ?_
            refine r_iadd d_Mod_seekFits_96 ?_
            refine r_iconst (v := 2) d_Mod_seekFits_97 (by decide) ?_
            refine r_iadd d_Mod_seekFits_98 ?_
            refine r_goto d_Mod_seekFits_99 ?_
            refine r_istore d_Mod_seekFits_104 (by decide) ?_
            refine r_iinc (v := i4 + 1) d_Mod_seekFits_106 rfl rfl (by decide) ?_
            refine r_iinc (v := i8 + 1) d_Mod_seekFits_109 rfl rfl (by decide) ?_
            refine r_goto d_Mod_seekFits_112 ?_
            exact h9
theorem L_Mod_seesAt_0 {xs : List Int32} {i1 : Int32} {i2 : Int32} {i3 : Int32} {i4 : Int32} {i5 : Int32} {i6 : Int32} {i7 : Int32} {M : Mem} {L : Int64} {Q : Option Value → Mem → Int64 → Prop} 
    (h : RX xs shL md_Mod_seesAt 3 [.ref 516, .int i1, .int i2, .int i3, .int i4, .int i5, .int i6, .int i7, .int 1, .null, .null, .null] [] M L Q) : RX xs shL md_Mod_seesAt 0 [.ref 516, .int i1, .int i2, .int i3, .int i4, .int i5, .int i6, .int i7] [] M L Q := by
  refine r_weak (lv' := [.ref 516, .int i1, .int i2, .int i3, .int i4, .int i5, .int i6, .int i7, .null, .null, .null, .null]) (by repeat (first | exact trivial | refine ⟨rfl, ?_⟩ | exact lle_nil)) ?_
  refine r_iconst (v := 1) d_Mod_seesAt_0 (by decide) ?_
  refine r_istore d_Mod_seesAt_1 (by decide) ?_
  exact h
theorem L_Mod_seesAt_3 {xs : List Int32} {i1 : Int32} {i2 : Int32} {i3 : Int32} {i4 : Int32} {i5 : Int32} {i6 : Int32} {i7 : Int32} {i8 : Int32} {M : Mem} {L : Int64} {Q : Option Value → Mem → Int64 → Prop} 
    (h : ((i5 < i8 → Q (some (.int 0)) M L) ∧ (¬ (i5 < i8) → ((0 ≤ i3 ∧ i3 ≤ 31) ∧ (tabT M ∧ RX xs shL md_Mod_seesAt 32 [.ref 516, .int i1, .int i2, .int i3, .int i4, .int i5, .int i6, .int i7, .int i8, .int 1, .int (dwn ((i8 * i4) * (nrt i3)) 8000), .null] [] M L Q))))) : RX xs shL md_Mod_seesAt 3 [.ref 516, .int i1, .int i2, .int i3, .int i4, .int i5, .int i6, .int i7, .int i8, .null, .null, .null] [] M L Q := by
  refine r_iload d_Mod_seesAt_3 rfl ?_
  refine r_iload d_Mod_seesAt_5 rfl ?_
  refine r_ic_gt d_Mod_seesAt_7 (fun c_1 => ?_) (fun c_1 => ?_)
  · have h9 := h.1 c_1
    refine r_iconst (v := 0) d_Mod_seesAt_182 (by decide) ?_
    exact r_iret ⟨d_Mod_seesAt_183, _, rfl, rfl⟩ ⟨_, _, rfl, h9⟩
  · have h9 := h.2 c_1
    refine r_iconst (v := 1) d_Mod_seesAt_10 (by decide) ?_
    refine r_istore d_Mod_seesAt_11 (by decide) ?_
    refine r_iload d_Mod_seesAt_13 rfl ?_
    refine r_iload d_Mod_seesAt_15 rfl ?_
    refine r_imul d_Mod_seesAt_17 ?_
    refine r_aload_n d_Mod_seesAt_18 rfl ?_
    refine r_iload_n d_Mod_seesAt_19 rfl ?_
    obtain ⟨o_2, h9⟩ := h9
    obtain ⟨o_3, h9⟩ := h9
    refine x_callV (as := [.int i3]) (st := [.int (i8 * i4)]) d_Mod_seesAt_20 ml_Mod_97 mc_Mod_northOf mv_Mod_northOf ⟨by decide, by decide⟩ gO_516 ⟨_, rfl, rfl⟩ rfl (Nat.le_of_ble_eq_true rfl) (Nat.le_of_ble_eq_true rfl) (Q1 := fun r M1 L1 => some (.int (nrt i3)) = r ∧ M = M1 ∧ L = L1) (s_Mod_northOf o_2 o_3 ⟨rfl, rfl, rfl⟩) ?_
    rintro _ _ _ ⟨rfl, rfl, rfl⟩
    refine r_imul d_Mod_seesAt_23 ?_
    refine r_sipush (v := 8000) d_Mod_seesAt_24 (by decide) ?_
    refine x_callS (as := [.int ((i8 * i4) * (nrt i3)), .int 8000]) (st := []) d_Mod_seesAt_27 ml_Mod_131 mc_Mod_down ms_Mod_down ⟨by decide, by decide⟩ rfl (Nat.le_of_ble_eq_true rfl) (Nat.le_of_ble_eq_true rfl) (Q1 := fun r M1 L1 => some (.int (dwn ((i8 * i4) * (nrt i3)) 8000)) = r ∧ M = M1 ∧ L = L1) (s_Mod_down (by decide) ⟨rfl, rfl, rfl⟩) ?_
    rintro _ _ _ ⟨rfl, rfl, rfl⟩
    refine r_istore d_Mod_seesAt_30 (by decide) ?_
    exact h9
theorem L_Mod_seesAt_32 {xs : List Int32} {i1 : Int32} {i2 : Int32} {i3 : Int32} {i4 : Int32} {i5 : Int32} {i6 : Int32} {i7 : Int32} {i8 : Int32} {i9 : Int32} {i10 : Int32} {M : Mem} {L : Int64} {Q : Option Value → Mem → Int64 → Prop} 
    (h : ((0 ≤ i3 ∧ i3 ≤ 31) ∧ (tabT M ∧ (((-(dwn (-((i8 * i4) * (nrt i3))) 8000)) < i10 → ((i9 = 0 → RX xs shL md_Mod_seesAt 3 [.ref 516, .int i1, .int i2, .int i3, .int i4, .int i5, .int i6, .int i7, .int (i8 + 1), .null, .null, .null] [] M L Q) ∧ (¬ (i9 = 0) → ((24 ≤ (((i8 - 1) + i6) - ((i8 - 1) + i6) / 48 * 48) → RX xs shL md_Mod_seesAt 3 [.ref 516, .int i1, .int i2, .int i3, .int i4, .int i5, .int i6, .int i7, .int (i8 + 1), .null, .null, .null] [] M L Q) ∧ (¬ (24 ≤ (((i8 - 1) + i6) - ((i8 - 1) + i6) / 48 * 48)) → Q (some (.int i8)) M L))))) ∧ (¬ ((-(dwn (-((i8 * i4) * (nrt i3))) 8000)) < i10) → RX xs shL md_Mod_seesAt 73 [.ref 516, .int i1, .int i2, .int i3, .int i4, .int i5, .int i6, .int i7, .int i8, .int i9, .int i10, .int (dwn ((i8 * i4) * (nrt ((i3 + 24) &&& 31))) 8000)] [] M L Q))))) : RX xs shL md_Mod_seesAt 32 [.ref 516, .int i1, .int i2, .int i3, .int i4, .int i5, .int i6, .int i7, .int i8, .int i9, .int i10, .null] [] M L Q := by
  refine r_iload d_Mod_seesAt_32 rfl ?_
  refine r_iload d_Mod_seesAt_34 rfl ?_
  refine r_iload d_Mod_seesAt_36 rfl ?_
  refine r_imul d_Mod_seesAt_38 ?_
  refine r_aload_n d_Mod_seesAt_39 rfl ?_
  refine r_iload_n d_Mod_seesAt_40 rfl ?_
  obtain ⟨o_4, h9⟩ := h
  obtain ⟨o_5, h9⟩ := h9
  refine x_callV (as := [.int i3]) (st := [.int (i8 * i4), .int i10]) d_Mod_seesAt_41 ml_Mod_97 mc_Mod_northOf mv_Mod_northOf ⟨by decide, by decide⟩ gO_516 ⟨_, rfl, rfl⟩ rfl (Nat.le_of_ble_eq_true rfl) (Nat.le_of_ble_eq_true rfl) (Q1 := fun r M1 L1 => some (.int (nrt i3)) = r ∧ M = M1 ∧ L = L1) (s_Mod_northOf o_4 o_5 ⟨rfl, rfl, rfl⟩) ?_
  rintro _ _ _ ⟨rfl, rfl, rfl⟩
  refine r_imul d_Mod_seesAt_44 ?_
  refine r_sipush (v := 8000) d_Mod_seesAt_45 (by decide) ?_
  refine x_callS (as := [.int ((i8 * i4) * (nrt i3)), .int 8000]) (st := [.int i10]) d_Mod_seesAt_48 ml_Mod_260 mc_Mod_up ms_Mod_up ⟨by decide, by decide⟩ rfl (Nat.le_of_ble_eq_true rfl) (Nat.le_of_ble_eq_true rfl) (Q1 := fun r M1 L1 => some (.int (-(dwn (-((i8 * i4) * (nrt i3))) 8000))) = r ∧ M = M1 ∧ L = L1) (L_Mod_up_0 ⟨by decide, rfl, rfl, rfl⟩) ?_
  rintro _ _ _ ⟨rfl, rfl, rfl⟩
  refine r_ic_gt d_Mod_seesAt_51 (fun c_6 => ?_) (fun c_6 => ?_)
  · have h9 := h9.1 c_6
    refine r_iload d_Mod_seesAt_153 rfl ?_
    refine r_if_eq d_Mod_seesAt_155 (fun c_7 => ?_) (fun c_7 => ?_)
    · have h9 := h9.1 c_7
      refine r_iinc (v := i8 + 1) d_Mod_seesAt_176 rfl rfl (by decide) ?_
      refine r_goto d_Mod_seesAt_179 ?_
      refine r_weak (lv' := [.ref 516, .int i1, .int i2, .int i3, .int i4, .int i5, .int i6, .int i7, .int (i8 + 1), .null, .null, .null]) (by repeat (first | exact trivial | refine ⟨rfl, ?_⟩ | exact lle_nil)) ?_
      exact h9
    · have h9 := h9.2 c_7
      refine r_iload d_Mod_seesAt_158 rfl ?_
      refine r_iconst (v := 1) d_Mod_seesAt_160 (by decide) ?_
      refine r_isub d_Mod_seesAt_161 ?_
      refine r_iload d_Mod_seesAt_162 rfl ?_
      refine r_iadd d_Mod_seesAt_164 ?_
      refine r_bipush (v := 48) d_Mod_seesAt_165 (by decide) ?_
      refine r_irem d_Mod_seesAt_167 (by decide) ?_
      refine r_bipush (v := 24) d_Mod_seesAt_168 (by decide) ?_
      refine r_ic_ge d_Mod_seesAt_170 (fun c_8 => ?_) (fun c_8 => ?_)
      · have h9 := h9.1 c_8
        refine r_iinc (v := i8 + 1) d_Mod_seesAt_176 rfl rfl (by decide) ?_
        refine r_goto d_Mod_seesAt_179 ?_
        refine r_weak (lv' := [.ref 516, .int i1, .int i2, .int i3, .int i4, .int i5, .int i6, .int i7, .int (i8 + 1), .null, .null, .null]) (by repeat (first | exact trivial | refine ⟨rfl, ?_⟩ | exact lle_nil)) ?_
        exact h9
      · have h9 := h9.2 c_8
        refine r_iload d_Mod_seesAt_173 rfl ?_
        exact r_iret ⟨d_Mod_seesAt_175, _, rfl, rfl⟩ ⟨_, _, rfl, h9⟩
  · have h9 := h9.2 c_6
    refine r_iload d_Mod_seesAt_54 rfl ?_
    refine r_iload d_Mod_seesAt_56 rfl ?_
    refine r_imul d_Mod_seesAt_58 ?_
    refine r_aload_n d_Mod_seesAt_59 rfl ?_
    refine r_iload_n d_Mod_seesAt_60 rfl ?_
    refine x_callV (as := [.int i3]) (st := [.int (i8 * i4)]) d_Mod_seesAt_61 ml_Mod_101 mc_Mod_eastOf mv_Mod_eastOf ⟨by decide, by decide⟩ gO_516 ⟨_, rfl, rfl⟩ rfl (Nat.le_of_ble_eq_true rfl) (Nat.le_of_ble_eq_true rfl) (Q1 := fun r M1 L1 => some (.int (nrt ((i3 + 24) &&& 31))) = r ∧ M = M1 ∧ L = L1) (s_Mod_eastOf o_4 o_5 ⟨rfl, rfl, rfl⟩) ?_
    rintro _ _ _ ⟨rfl, rfl, rfl⟩
    refine r_imul d_Mod_seesAt_64 ?_
    refine r_sipush (v := 8000) d_Mod_seesAt_65 (by decide) ?_
    refine x_callS (as := [.int ((i8 * i4) * (nrt ((i3 + 24) &&& 31))), .int 8000]) (st := []) d_Mod_seesAt_68 ml_Mod_131 mc_Mod_down ms_Mod_down ⟨by decide, by decide⟩ rfl (Nat.le_of_ble_eq_true rfl) (Nat.le_of_ble_eq_true rfl) (Q1 := fun r M1 L1 => some (.int (dwn ((i8 * i4) * (nrt ((i3 + 24) &&& 31))) 8000)) = r ∧ M = M1 ∧ L = L1) (s_Mod_down (by decide) ⟨rfl, rfl, rfl⟩) ?_
    rintro _ _ _ ⟨rfl, rfl, rfl⟩
    refine r_istore d_Mod_seesAt_71 (by decide) ?_
    exact h9
theorem L_Mod_seesAt_73 {xs : List Int32} {i1 : Int32} {i2 : Int32} {i3 : Int32} {i4 : Int32} {i5 : Int32} {i6 : Int32} {i7 : Int32} {i8 : Int32} {i9 : Int32} {i10 : Int32} {i11 : Int32} {M : Mem} {L : Int64} {Q : Option Value → Mem → Int64 → Prop} 
    (h : ((0 ≤ i3 ∧ i3 ≤ 31) ∧ (tabT M ∧ (((-(dwn (-((i8 * i4) * (nrt ((i3 + 24) &&& 31)))) 8000)) < i11 → RX xs shL md_Mod_seesAt 32 [.ref 516, .int i1, .int i2, .int i3, .int i4, .int i5, .int i6, .int i7, .int i8, .int i9, .int (i10 + 1), .null] [] M L Q) ∧ (¬ ((-(dwn (-((i8 * i4) * (nrt ((i3 + 24) &&& 31)))) 8000)) < i11) → RX xs shL md_Mod_isLand 0 [.ref 516, .int (i1 + i11), .int (i2 + i10)] [] M L (fun r M_12 L_13 => ∃ v_14 : Int32, r = some (.int v_14) ∧ ((v_14 = 0 → ((i9 = 0 → RX xs shL md_Mod_seesAt 73 [.ref 516, .int i1, .int i2, .int i3, .int i4, .int i5, .int i6, .int i7, .int i8, .int 0, .int i10, .int (i11 + 1)] [] M_12 L_13 Q) ∧ (¬ (i9 = 0) → RX xs shL md_Mod_isNear 0 [.ref 516, .int (i1 + i11), .int (i2 + i10), .int i7] [] M_12 L_13 (fun r M_17 L_18 => ∃ v_19 : Int32, r = some (.int v_19) ∧ ((v_19 = 0 → RX xs shL md_Mod_seesAt 73 [.ref 516, .int i1, .int i2, .int i3, .int i4, .int i5, .int i6, .int i7, .int i8, .int 0, .int i10, .int (i11 + 1)] [] M_17 L_18 Q) ∧ (¬ (v_19 = 0) → RX xs shL md_Mod_seesAt 73 [.ref 516, .int i1, .int i2, .int i3, .int i4, .int i5, .int i6, .int i7, .int i8, .int 1, .int i10, .int (i11 + 1)] [] M_17 L_18 Q)))))) ∧ (¬ (v_14 = 0) → Q (some (.int 0)) M_12 L_13)))))))) : RX xs shL md_Mod_seesAt 73 [.ref 516, .int i1, .int i2, .int i3, .int i4, .int i5, .int i6, .int i7, .int i8, .int i9, .int i10, .int i11] [] M L Q := by
  refine r_iload d_Mod_seesAt_73 rfl ?_
  refine r_iload d_Mod_seesAt_75 rfl ?_
  refine r_iload d_Mod_seesAt_77 rfl ?_
  refine r_imul d_Mod_seesAt_79 ?_
  refine r_aload_n d_Mod_seesAt_80 rfl ?_
  refine r_iload_n d_Mod_seesAt_81 rfl ?_
  obtain ⟨o_9, h9⟩ := h
  obtain ⟨o_10, h9⟩ := h9
  refine x_callV (as := [.int i3]) (st := [.int (i8 * i4), .int i11]) d_Mod_seesAt_82 ml_Mod_101 mc_Mod_eastOf mv_Mod_eastOf ⟨by decide, by decide⟩ gO_516 ⟨_, rfl, rfl⟩ rfl (Nat.le_of_ble_eq_true rfl) (Nat.le_of_ble_eq_true rfl) (Q1 := fun r M1 L1 => some (.int (nrt ((i3 + 24) &&& 31))) = r ∧ M = M1 ∧ L = L1) (s_Mod_eastOf o_9 o_10 ⟨rfl, rfl, rfl⟩) ?_
  rintro _ _ _ ⟨rfl, rfl, rfl⟩
  refine r_imul d_Mod_seesAt_85 ?_
  refine r_sipush (v := 8000) d_Mod_seesAt_86 (by decide) ?_
  refine x_callS (as := [.int ((i8 * i4) * (nrt ((i3 + 24) &&& 31))), .int 8000]) (st := [.int i11]) d_Mod_seesAt_89 ml_Mod_260 mc_Mod_up ms_Mod_up ⟨by decide, by decide⟩ rfl (Nat.le_of_ble_eq_true rfl) (Nat.le_of_ble_eq_true rfl) (Q1 := fun r M1 L1 => some (.int (-(dwn (-((i8 * i4) * (nrt ((i3 + 24) &&& 31)))) 8000))) = r ∧ M = M1 ∧ L = L1) (L_Mod_up_0 ⟨by decide, rfl, rfl, rfl⟩) ?_
  rintro _ _ _ ⟨rfl, rfl, rfl⟩
  refine r_ic_gt d_Mod_seesAt_92 (fun c_11 => ?_) (fun c_11 => ?_)
  · have h9 := h9.1 c_11
    refine r_iinc (v := i10 + 1) d_Mod_seesAt_147 rfl rfl (by decide) ?_
    refine r_goto d_Mod_seesAt_150 ?_
    refine r_weak (lv' := [.ref 516, .int i1, .int i2, .int i3, .int i4, .int i5, .int i6, .int i7, .int i8, .int i9, .int (i10 + 1), .null]) (by repeat (first | exact trivial | refine ⟨rfl, ?_⟩ | exact lle_nil)) ?_
    exact h9
  · have h9 := h9.2 c_11
    refine r_aload_n d_Mod_seesAt_95 rfl ?_
    refine r_iload_n d_Mod_seesAt_96 rfl ?_
    refine r_iload d_Mod_seesAt_97 rfl ?_
    refine r_iadd d_Mod_seesAt_99 ?_
    refine r_iload_n d_Mod_seesAt_100 rfl ?_
    refine r_iload d_Mod_seesAt_101 rfl ?_
    refine r_iadd d_Mod_seesAt_103 ?_
    refine x_callV (as := [.int (i1 + i11), .int (i2 + i10)]) (st := []) d_Mod_seesAt_104 ml_Mod_150 mc_Mod_isLand mv_Mod_isLand ⟨by decide, by decide⟩ gO_516 ⟨_, rfl, rfl⟩ rfl (Nat.le_of_ble_eq_true rfl) (Nat.le_of_ble_eq_true rfl) h9 ?_
    rintro _ M_12 L_13 ⟨v_14, rfl, h9⟩
    refine r_if_eq d_Mod_seesAt_107 (fun c_15 => ?_) (fun c_15 => ?_)
    · have h9 := h9.1 c_15
      refine r_iload d_Mod_seesAt_112 rfl ?_
      refine r_if_eq d_Mod_seesAt_114 (fun c_16 => ?_) (fun c_16 => ?_)
      · have h9 := h9.1 c_16
        refine r_iconst (v := 0) d_Mod_seesAt_138 (by decide) ?_
        refine r_istore d_Mod_seesAt_139 (by decide) ?_
        refine r_iinc (v := i11 + 1) d_Mod_seesAt_141 rfl rfl (by decide) ?_
        refine r_goto d_Mod_seesAt_144 ?_
        exact h9
      · have h9 := h9.2 c_16
        refine r_aload_n d_Mod_seesAt_117 rfl ?_
        refine r_iload_n d_Mod_seesAt_118 rfl ?_
        refine r_iload d_Mod_seesAt_119 rfl ?_
        refine r_iadd d_Mod_seesAt_121 ?_
        refine r_iload_n d_Mod_seesAt_122 rfl ?_
        refine r_iload d_Mod_seesAt_123 rfl ?_
        refine r_iadd d_Mod_seesAt_125 ?_
        refine r_iload d_Mod_seesAt_126 rfl ?_
        refine x_callV (as := [.int (i1 + i11), .int (i2 + i10), .int i7]) (st := []) d_Mod_seesAt_128 ml_Mod_181 mc_Mod_isNear mv_Mod_isNear ⟨by decide, by decide⟩ gO_516 ⟨_, rfl, rfl⟩ rfl (Nat.le_of_ble_eq_true rfl) (Nat.le_of_ble_eq_true rfl) h9 ?_
        rintro _ M_17 L_18 ⟨v_19, rfl, h9⟩
        refine r_if_eq d_Mod_seesAt_131 (fun c_20 => ?_) (fun c_20 => ?_)
        · have h9 := h9.1 c_20
          refine r_iconst (v := 0) d_Mod_seesAt_138 (by decide) ?_
          refine r_istore d_Mod_seesAt_139 (by decide) ?_
          refine r_iinc (v := i11 + 1) d_Mod_seesAt_141 rfl rfl (by decide) ?_
          refine r_goto d_Mod_seesAt_144 ?_
          exact h9
        · have h9 := h9.2 c_20
          refine r_iconst (v := 1) d_Mod_seesAt_134 (by decide) ?_
          refine r_goto d_Mod_seesAt_135 ?_
          refine r_istore d_Mod_seesAt_139 (by decide) ?_
          refine r_iinc (v := i11 + 1) d_Mod_seesAt_141 rfl rfl (by decide) ?_
          refine r_goto d_Mod_seesAt_144 ?_
          exact h9
    · have h9 := h9.2 c_15
      refine r_iconst (v := 0) d_Mod_seesAt_110 (by decide) ?_
      exact r_iret ⟨d_Mod_seesAt_111, _, rfl, rfl⟩ ⟨_, _, rfl, h9⟩
theorem L_Mod_sureBy_0 {xs : List Int32} {i1 : Int32} {i2 : Int32} {i3 : Int32} {i4 : Int32} {i5 : Int32} {M : Mem} {L : Int64} {Q : Option Value → Mem → Int64 → Prop} 
    (h : RX xs shL md_Mod_sureBy 6 [.ref 516, .int i1, .int i2, .int i3, .int i4, .int i5, .int 0, .int 0, .null, .null] [] M L Q) : RX xs shL md_Mod_sureBy 0 [.ref 516, .int i1, .int i2, .int i3, .int i4, .int i5] [] M L Q := by
  refine r_weak (lv' := [.ref 516, .int i1, .int i2, .int i3, .int i4, .int i5, .null, .null, .null, .null]) (by repeat (first | exact trivial | refine ⟨rfl, ?_⟩ | exact lle_nil)) ?_
  refine r_iconst (v := 0) d_Mod_sureBy_0 (by decide) ?_
  refine r_istore d_Mod_sureBy_1 (by decide) ?_
  refine r_iconst (v := 0) d_Mod_sureBy_3 (by decide) ?_
  refine r_istore d_Mod_sureBy_4 (by decide) ?_
  exact h
theorem L_Mod_sureBy_6 {xs : List Int32} {i1 : Int32} {i2 : Int32} {i3 : Int32} {i4 : Int32} {i5 : Int32} {i6 : Int32} {i7 : Int32} {M : Mem} {L : Int64} {Q : Option Value → Mem → Int64 → Prop} 
    (h : (((M 516 10) ≤ i7 → Q (some (.int i6)) M L) ∧ (¬ ((M 516 10) ≤ i7) → RX xs shL md_Mod_sureBy 18 [.ref 516, .int i1, .int i2, .int i3, .int i4, .int i5, .int i6, .int i7, .int 0, .null] [] M L Q))) : RX xs shL md_Mod_sureBy 6 [.ref 516, .int i1, .int i2, .int i3, .int i4, .int i5, .int i6, .int i7, .null, .null] [] M L Q := by
  refine r_iload d_Mod_sureBy_6 rfl ?_
  refine r_aload_n d_Mod_sureBy_8 rfl ?_
  refine x_getI d_Mod_sureBy_9 fl_Mod_35 gI_516_10 ?_
  refine r_ic_ge d_Mod_sureBy_12 (fun c_1 => ?_) (fun c_1 => ?_)
  · have h9 := h.1 c_1
    refine r_iload d_Mod_sureBy_94 rfl ?_
    exact r_iret ⟨d_Mod_sureBy_96, _, rfl, rfl⟩ ⟨_, _, rfl, h9⟩
  · have h9 := h.2 c_1
    refine r_iconst (v := 0) d_Mod_sureBy_15 (by decide) ?_
    refine r_istore d_Mod_sureBy_16 (by decide) ?_
    exact h9
theorem L_Mod_sureBy_18 {xs : List Int32} {i1 : Int32} {i2 : Int32} {i3 : Int32} {i4 : Int32} {i5 : Int32} {i6 : Int32} {i7 : Int32} {i8 : Int32} {M : Mem} {L : Int64} {Q : Option Value → Mem → Int64 → Prop} 
    (h : (((M 516 9) ≤ i8 → RX xs shL md_Mod_sureBy 6 [.ref 516, .int i1, .int i2, .int i3, .int i4, .int i5, .int i6, .int (i7 + 1), .null, .null] [] M L Q) ∧ (¬ ((M 516 9) ≤ i8) → (vp_in (20 * i7 + i8) 400 ∧ (((M 527 ((20 * i7 + i8).toNatClampNeg)) = 0 → RX xs shL md_Mod_sureBy 18 [.ref 516, .int i1, .int i2, .int i3, .int i4, .int i5, .int i6, .int i7, .int (i8 + 1), .null] [] M L Q) ∧ (¬ ((M 527 ((20 * i7 + i8).toNatClampNeg)) = 0) → RX xs shL md_Mod_seesAt 0 [.ref 516, .int i8, .int i7, .int i1, .int i2, .int i3, .int i4, .int i5] [] M L (fun r M_5 L_6 => ∃ v_7 : Int32, r = some (.int v_7) ∧ ((v_7 = 0 → Q (some (.int 0)) M_5 L_6) ∧ (¬ (v_7 = 0) → ((v_7 ≤ i6 → RX xs shL md_Mod_sureBy 18 [.ref 516, .int i1, .int i2, .int i3, .int i4, .int i5, .int i6, .int i7, .int (i8 + 1), .null] [] M_5 L_6 Q) ∧ (¬ (v_7 ≤ i6) → RX xs shL md_Mod_sureBy 18 [.ref 516, .int i1, .int i2, .int i3, .int i4, .int i5, .int v_7, .int i7, .int (i8 + 1), .null] [] M_5 L_6 Q))))))))))) : RX xs shL md_Mod_sureBy 18 [.ref 516, .int i1, .int i2, .int i3, .int i4, .int i5, .int i6, .int i7, .int i8, .null] [] M L Q := by
  refine r_iload d_Mod_sureBy_18 rfl ?_
  refine r_aload_n d_Mod_sureBy_20 rfl ?_
  refine x_getI d_Mod_sureBy_21 fl_Mod_32 gI_516_9 ?_
  refine r_ic_ge d_Mod_sureBy_24 (fun c_2 => ?_) (fun c_2 => ?_)
  · have h9 := h.1 c_2
    refine r_iinc (v := i7 + 1) d_Mod_sureBy_88 rfl rfl (by decide) ?_
    refine r_goto d_Mod_sureBy_91 ?_
    refine r_weak (lv' := [.ref 516, .int i1, .int i2, .int i3, .int i4, .int i5, .int i6, .int (i7 + 1), .null, .null]) (by repeat (first | exact trivial | refine ⟨rfl, ?_⟩ | exact lle_nil)) ?_
    exact h9
  · have h9 := h.2 c_2
    refine r_aload_n d_Mod_sureBy_27 rfl ?_
    refine x_getR d_Mod_sureBy_28 fl_Mod_51 gR_516_29 ?_
    refine r_iload d_Mod_sureBy_31 rfl ?_
    refine r_iload d_Mod_sureBy_33 rfl ?_
    refine x_callS (as := [.int i8, .int i7]) (st := [.ref 527]) d_Mod_sureBy_35 ml_Mod_147 mc_Mod_at ms_Mod_at ⟨by decide, by decide⟩ rfl (Nat.le_of_ble_eq_true rfl) (Nat.le_of_ble_eq_true rfl) (Q1 := fun r M1 L1 => some (.int (20 * i7 + i8)) = r ∧ M = M1 ∧ L = L1) (s_Mod_at ⟨rfl, rfl, rfl⟩) ?_
    rintro _ _ _ ⟨rfl, rfl, rfl⟩
    obtain ⟨o_3, h9⟩ := h9
    refine x_zald d_Mod_sureBy_38 aZ_527 o_3 ?_
    refine r_if_eq d_Mod_sureBy_39 (fun c_4 => ?_) (fun c_4 => ?_)
    · have h9 := h9.1 c_4
      refine r_iinc (v := i8 + 1) d_Mod_sureBy_82 rfl rfl (by decide) ?_
      refine r_goto d_Mod_sureBy_85 ?_
      exact h9
    · have h9 := h9.2 c_4
      refine r_aload_n d_Mod_sureBy_42 rfl ?_
      refine r_iload d_Mod_sureBy_43 rfl ?_
      refine r_iload d_Mod_sureBy_45 rfl ?_
      refine r_iload_n d_Mod_sureBy_47 rfl ?_
      refine r_iload_n d_Mod_sureBy_48 rfl ?_
      refine r_iload_n d_Mod_sureBy_49 rfl ?_
      refine r_iload d_Mod_sureBy_50 rfl ?_
      refine r_iload d_Mod_sureBy_52 rfl ?_
      refine x_callV (as := [.int i8, .int i7, .int i1, .int i2, .int i3, .int i4, .int i5]) (st := []) d_Mod_sureBy_54 ml_Mod_267 mc_Mod_seesAt mv_Mod_seesAt ⟨by decide, by decide⟩ gO_516 ⟨_, rfl, rfl⟩ rfl (Nat.le_of_ble_eq_true rfl) (Nat.le_of_ble_eq_true rfl) h9 ?_
      rintro _ M_5 L_6 ⟨v_7, rfl, h9⟩
      refine r_istore d_Mod_sureBy_57 (by decide) ?_
      refine r_iload d_Mod_sureBy_59 rfl ?_
      refine r_if_ne d_Mod_sureBy_61 (fun c_8 => ?_) (fun c_8 => ?_)
      · have h9 := h9.2 c_8
        refine r_iload d_Mod_sureBy_66 rfl ?_
        refine r_iload d_Mod_sureBy_68 rfl ?_
        refine r_ic_le d_Mod_sureBy_70 (fun c_9 => ?_) (fun c_9 => ?_)
        · have h9 := h9.1 c_9
          refine r_iload d_Mod_sureBy_78 rfl ?_
          refine r_istore d_Mod_sureBy_80 (by decide) ?_
          refine r_iinc (v := i8 + 1) d_Mod_sureBy_82 rfl rfl (by decide) ?_
          refine r_goto d_Mod_sureBy_85 ?_
          refine r_weak (lv' := [.ref 516, .int i1, .int i2, .int i3, .int i4, .int i5, .int i6, .int i7, .int (i8 + 1), .null]) (by repeat (first | exact trivial | refine ⟨rfl, ?_⟩ | exact lle_nil)) ?_
          exact h9
        · have h9 := h9.2 c_9
          refine r_iload d_Mod_sureBy_73 rfl ?_
          refine r_goto d_Mod_sureBy_75 ?_
          refine r_istore d_Mod_sureBy_80 (by decide) ?_
          refine r_iinc (v := i8 + 1) d_Mod_sureBy_82 rfl rfl (by decide) ?_
          refine r_goto d_Mod_sureBy_85 ?_
          refine r_weak (lv' := [.ref 516, .int i1, .int i2, .int i3, .int i4, .int i5, .int v_7, .int i7, .int (i8 + 1), .null]) (by repeat (first | exact trivial | refine ⟨rfl, ?_⟩ | exact lle_nil)) ?_
          exact h9
      · have h9 := h9.1 c_8
        refine r_iconst (v := 0) d_Mod_sureBy_64 (by decide) ?_
        exact r_iret ⟨d_Mod_sureBy_65, _, rfl, rfl⟩ ⟨_, _, rfl, h9⟩
theorem L_Mod_landMany_0 {xs : List Int32}  {M : Mem} {L : Int64} {Q : Option Value → Mem → Int64 → Prop} 
    (h : RX xs shL md_Mod_landMany 4 [.ref 516, .int 0, .int 0, .null] [] M L Q) : RX xs shL md_Mod_landMany 0 [.ref 516] [] M L Q := by
  refine r_weak (lv' := [.ref 516, .null, .null, .null]) (by repeat (first | exact trivial | refine ⟨rfl, ?_⟩ | exact lle_nil)) ?_
  refine r_iconst (v := 0) d_Mod_landMany_0 (by decide) ?_
  refine r_istore_n d_Mod_landMany_1 (by decide) ?_
  refine r_iconst (v := 0) d_Mod_landMany_2 (by decide) ?_
  refine r_istore_n d_Mod_landMany_3 (by decide) ?_
  exact h
theorem L_Mod_landMany_4 {xs : List Int32} {i1 : Int32} {i2 : Int32} {M : Mem} {L : Int64} {Q : Option Value → Mem → Int64 → Prop} 
    (h : (((M 516 10) ≤ i2 → Q (some (.int i1)) M L) ∧ (¬ ((M 516 10) ≤ i2) → RX xs shL md_Mod_landMany 14 [.ref 516, .int i1, .int i2, .int 0] [] M L Q))) : RX xs shL md_Mod_landMany 4 [.ref 516, .int i1, .int i2, .null] [] M L Q := by
  refine r_iload_n d_Mod_landMany_4 rfl ?_
  refine r_aload_n d_Mod_landMany_5 rfl ?_
  refine x_getI d_Mod_landMany_6 fl_Mod_35 gI_516_10 ?_
  refine r_ic_ge d_Mod_landMany_9 (fun c_1 => ?_) (fun c_1 => ?_)
  · have h9 := h.1 c_1
    refine r_iload_n d_Mod_landMany_51 rfl ?_
    exact r_iret ⟨d_Mod_landMany_52, _, rfl, rfl⟩ ⟨_, _, rfl, h9⟩
  · have h9 := h.2 c_1
    refine r_iconst (v := 0) d_Mod_landMany_12 (by decide) ?_
    refine r_istore_n d_Mod_landMany_13 (by decide) ?_
    exact h9
theorem L_Mod_landMany_14 {xs : List Int32} {i1 : Int32} {i2 : Int32} {i3 : Int32} {M : Mem} {L : Int64} {Q : Option Value → Mem → Int64 → Prop} 
    (h : (((M 516 9) ≤ i3 → RX xs shL md_Mod_landMany 4 [.ref 516, .int i1, .int (i2 + 1), .null] [] M L Q) ∧ (¬ ((M 516 9) ≤ i3) → RX xs shL md_Mod_isLand 0 [.ref 516, .int i3, .int i2] [] M L (fun r M_3 L_4 => ∃ v_5 : Int32, r = some (.int v_5) ∧ ((v_5 = 0 → RX xs shL md_Mod_landMany 14 [.ref 516, .int (i1 + 0), .int i2, .int (i3 + 1)] [] M_3 L_4 Q) ∧ (¬ (v_5 = 0) → RX xs shL md_Mod_landMany 14 [.ref 516, .int (i1 + 1), .int i2, .int (i3 + 1)] [] M_3 L_4 Q)))))) : RX xs shL md_Mod_landMany 14 [.ref 516, .int i1, .int i2, .int i3] [] M L Q := by
  refine r_iload_n d_Mod_landMany_14 rfl ?_
  refine r_aload_n d_Mod_landMany_15 rfl ?_
  refine x_getI d_Mod_landMany_16 fl_Mod_32 gI_516_9 ?_
  refine r_ic_ge d_Mod_landMany_19 (fun c_2 => ?_) (fun c_2 => ?_)
  · have h9 := h.1 c_2
    refine r_iinc (v := i2 + 1) d_Mod_landMany_45 rfl rfl (by decide) ?_
    refine r_goto d_Mod_landMany_48 ?_
    refine r_weak (lv' := [.ref 516, .int i1, .int (i2 + 1), .null]) (by repeat (first | exact trivial | refine ⟨rfl, ?_⟩ | exact lle_nil)) ?_
    exact h9
  · have h9 := h.2 c_2
    refine r_iload_n d_Mod_landMany_22 rfl ?_
    refine r_aload_n d_Mod_landMany_23 rfl ?_
    refine r_iload_n d_Mod_landMany_24 rfl ?_
    refine r_iload_n d_Mod_landMany_25 rfl ?_
    refine x_callV (as := [.int i3, .int i2]) (st := [.int i1]) d_Mod_landMany_26 ml_Mod_150 mc_Mod_isLand mv_Mod_isLand ⟨by decide, by decide⟩ gO_516 ⟨_, rfl, rfl⟩ rfl (Nat.le_of_ble_eq_true rfl) (Nat.le_of_ble_eq_true rfl) h9 ?_
    rintro _ M_3 L_4 ⟨v_5, rfl, h9⟩
    refine r_if_eq d_Mod_landMany_29 (fun c_6 => ?_) (fun c_6 => ?_)
    · have h9 := h9.1 c_6
      refine r_iconst (v := 0) d_Mod_landMany_36 (by decide) ?_
      refine r_iadd d_Mod_landMany_37 ?_
      refine r_istore_n d_Mod_landMany_38 (by decide) ?_
      refine r_iinc (v := i3 + 1) d_Mod_landMany_39 rfl rfl (by decide) ?_
      refine r_goto d_Mod_landMany_42 ?_
      exact h9
    · have h9 := h9.2 c_6
      refine r_iconst (v := 1) d_Mod_landMany_32 (by decide) ?_
      refine r_goto d_Mod_landMany_33 ?_
      refine r_iadd d_Mod_landMany_37 ?_
      refine r_istore_n d_Mod_landMany_38 (by decide) ?_
      refine r_iinc (v := i3 + 1) d_Mod_landMany_39 rfl rfl (by decide) ?_
      refine r_goto d_Mod_landMany_42 ?_
      exact h9

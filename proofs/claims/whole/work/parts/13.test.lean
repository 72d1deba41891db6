theorem L_JArrays_fill_0 {xs : List Int32} {p0 : Nat} {n0 : Nat} {i1 : Int32} {M : Mem} {L : Int64} {Q : Option Value → Mem → Int64 → Prop} (ha0 : aI p0 n0)
    (h : RX xs md_JArrays_fill 5 [.ref p0, .int i1, .int 0, .int (Int32.ofNat n0)] [] M L Q) : RX xs md_JArrays_fill 0 [.ref p0, .int i1, .null, .null] [] M L Q := by
  refine r_iconst (v := 0) d_JArrays_fill_0 (by decide) ?_
  refine r_istore_n d_JArrays_fill_1 (by decide) ?_
  refine r_aload_n d_JArrays_fill_2 rfl ?_
  refine x_alen d_JArrays_fill_3 ha0 ?_
  refine r_istore_n d_JArrays_fill_4 (by decide) ?_
  exact h
theorem L_JArrays_fill_5 {xs : List Int32} {p0 : Nat} {n0 : Nat} {i1 : Int32} {i2 : Int32} {i3 : Int32} {M : Mem} {L : Int64} {Q : Option Value → Mem → Int64 → Prop} (ha0 : aI p0 n0)
    (h : ((i3 ≤ i2 → Q none M L) ∧ (¬ (i3 ≤ i2) → (vp_in i2 n0 ∧ RX xs md_JArrays_fill 5 [.ref p0, .int i1, .int (i2 + 1), .int i3] [] (up M p0 i2.toNatClampNeg i1) L Q)))) : RX xs md_JArrays_fill 5 [.ref p0, .int i1, .int i2, .int i3] [] M L Q := by
  refine r_iload_n d_JArrays_fill_5 rfl ?_
  refine r_iload_n d_JArrays_fill_6 rfl ?_
  refine r_ic_ge d_JArrays_fill_7 (fun c_1 => ?_) (fun c_1 => ?_)
  · have h9 := h.1 c_1
    exact r_vret ⟨d_JArrays_fill_20, rfl⟩ ⟨M, L, rfl, h9⟩
  · have h9 := h.2 c_1
    refine r_aload_n d_JArrays_fill_10 rfl ?_
    refine r_iload_n d_JArrays_fill_11 rfl ?_
    refine r_iload_n d_JArrays_fill_12 rfl ?_
    obtain ⟨o_2, h9⟩ := h9
    refine x_iast d_JArrays_fill_13 ha0 o_2 ?_
    refine r_iinc (v := i2 + 1) d_JArrays_fill_14 rfl rfl (by decide) ?_
    refine r_goto d_JArrays_fill_17 ?_
    exact h9
theorem L_Patch_clear_0 {xs : List Int32} {p0 : Nat} {M : Mem} {L : Int64} {Q : Option Value → Mem → Int64 → Prop} (hp0 : isP p0)
    (h : RX xs md_JArrays_fill 0 [.ref (p0 + 1), .int 0] [] M L (fun r M_1 L_2 => r = none ∧ Q none M_1 L_2)) : RX xs md_Patch_clear 0 [.ref p0] [] M L Q := by
  refine r_aload_n d_Patch_clear_0 rfl ?_
  refine x_getR d_Patch_clear_1 fl_Patch_9 (isP_R hp0) ?_
  refine r_iconst (v := 0) d_Patch_clear_4 (by decide) ?_
  refine x_callS (as := [.ref (p0 + 1), .int 0]) (st := []) d_Patch_clear_5 ml_Patch_15 mc_JArrays_fill ms_JArrays_fill ⟨by decide, by decide⟩ rfl (Nat.le_of_ble_eq_true rfl) (Nat.le_of_ble_eq_true rfl) h ?_
  rintro _ M_1 L_2 ⟨rfl, h9⟩
  exact r_vret ⟨d_Patch_clear_8, rfl⟩ ⟨M_1, L_2, rfl, h9⟩
theorem L_Patch_put_0 {xs : List Int32} {p0 : Nat} {i1 : Int32} {i2 : Int32} {i3 : Int32} {i4 : Int32} {i5 : Int32} {M : Mem} {L : Int64} {Q : Option Value → Mem → Int64 → Prop} (hp0 : isP p0)
    (h : RX xs md_JMath_max 0 [.int i1, .int 0] [] M L (fun r M_1 L_2 => ∃ v_3 : Int32, r = some (.int v_3) ∧ RX xs md_JMath_min 0 [.int i3, .int 19] [] M_1 L_2 (fun r M_4 L_5 => ∃ v_6 : Int32, r = some (.int v_6) ∧ ((v_3 ≤ v_6 → RX xs md_Patch_firstBits 0 [.int (v_6 + 1)] [] M_4 L_5 (fun r M_8 L_9 => ∃ v_10 : Int32, r = some (.int v_10) ∧ RX xs md_Patch_firstBits 0 [.int v_3] [] M_8 L_9 (fun r M_11 L_12 => ∃ v_13 : Int32, r = some (.int v_13) ∧ RX xs md_JMath_min 0 [.int i4, .int 19] [] M_11 L_12 (fun r M_14 L_15 => ∃ v_16 : Int32, r = some (.int v_16) ∧ RX xs md_JMath_max 0 [.int i2, .int 0] [] M_14 L_15 (fun r M_17 L_18 => ∃ v_19 : Int32, r = some (.int v_19) ∧ RX xs md_Patch_put 56 [.ref p0, .null, .null, .null, .null, .int i5, .null, .null, .int (v_10 &&& (v_13 ^^^ (-1))), .int v_16, .int v_19] [] M_17 L_18 Q))))) ∧ (¬ (v_3 ≤ v_6) → Q none M_4 L_5))))) : RX xs md_Patch_put 0 [.ref p0, .int i1, .int i2, .int i3, .int i4, .int i5, .null, .null, .null, .null, .null] [] M L Q := by
  refine r_iload_n d_Patch_put_0 rfl ?_
  refine r_iconst (v := 0) d_Patch_put_1 (by decide) ?_
  refine x_callS (as := [.int i1, .int 0]) (st := []) d_Patch_put_2 ml_Patch_39 mc_JMath_max ms_JMath_max ⟨by decide, by decide⟩ rfl (Nat.le_of_ble_eq_true rfl) (Nat.le_of_ble_eq_true rfl) h ?_
  rintro _ M_1 L_2 ⟨v_3, rfl, h9⟩
  refine r_istore d_Patch_put_5 (by decide) ?_
  refine r_iload_n d_Patch_put_7 rfl ?_
  refine r_bipush (v := 19) d_Patch_put_8 (by decide) ?_
  refine x_callS (as := [.int i3, .int 19]) (st := []) d_Patch_put_10 ml_Patch_45 mc_JMath_min ms_JMath_min ⟨by decide, by decide⟩ rfl (Nat.le_of_ble_eq_true rfl) (Nat.le_of_ble_eq_true rfl) h9 ?_
  rintro _ M_4 L_5 ⟨v_6, rfl, h9⟩
  refine r_istore d_Patch_put_13 (by decide) ?_
  refine r_iload d_Patch_put_15 rfl ?_
  refine r_iload d_Patch_put_17 rfl ?_
  refine r_ic_le d_Patch_put_19 (fun c_7 => ?_) (fun c_7 => ?_)
  · have h9 := h9.1 c_7
    refine r_iload d_Patch_put_23 rfl ?_
    refine r_iconst (v := 1) d_Patch_put_25 (by decide) ?_
    refine r_iadd d_Patch_put_26 ?_
    refine x_callS (as := [.int (v_6 + 1)]) (st := []) d_Patch_put_27 ml_Patch_48 mc_Patch_firstBits ms_Patch_firstBits ⟨by decide, by decide⟩ rfl (Nat.le_of_ble_eq_true rfl) (Nat.le_of_ble_eq_true rfl) h9 ?_
    rintro _ M_8 L_9 ⟨v_10, rfl, h9⟩
    refine r_iload d_Patch_put_30 rfl ?_
    refine x_callS (as := [.int v_3]) (st := [.int v_10]) d_Patch_put_32 ml_Patch_48 mc_Patch_firstBits ms_Patch_firstBits ⟨by decide, by decide⟩ rfl (Nat.le_of_ble_eq_true rfl) (Nat.le_of_ble_eq_true rfl) h9 ?_
    rintro _ M_11 L_12 ⟨v_13, rfl, h9⟩
    refine r_iconst (v := (-1)) d_Patch_put_35 (by decide) ?_
    refine r_ixor d_Patch_put_36 ?_
    refine r_iand d_Patch_put_37 ?_
    refine r_istore d_Patch_put_38 (by decide) ?_
    refine r_iload d_Patch_put_40 rfl ?_
    refine r_bipush (v := 19) d_Patch_put_42 (by decide) ?_
    refine x_callS (as := [.int i4, .int 19]) (st := []) d_Patch_put_44 ml_Patch_45 mc_JMath_min ms_JMath_min ⟨by decide, by decide⟩ rfl (Nat.le_of_ble_eq_true rfl) (Nat.le_of_ble_eq_true rfl) h9 ?_
    rintro _ M_14 L_15 ⟨v_16, rfl, h9⟩
    refine r_istore d_Patch_put_47 (by decide) ?_
    refine r_iload_n d_Patch_put_49 rfl ?_
    refine r_iconst (v := 0) d_Patch_put_50 (by decide) ?_
    refine x_callS (as := [.int i2, .int 0]) (st := []) d_Patch_put_51 ml_Patch_39 mc_JMath_max ms_JMath_max ⟨by decide, by decide⟩ rfl (Nat.le_of_ble_eq_true rfl) (Nat.le_of_ble_eq_true rfl) h9 ?_
    rintro _ M_17 L_18 ⟨v_19, rfl, h9⟩
    refine r_istore d_Patch_put_54 (by decide) ?_
    refine r_weak (lv' := [.ref p0, .null, .null, .null, .null, .int i5, .null, .null, .int (v_10 &&& (v_13 ^^^ (-1))), .int v_16, .int v_19]) (by repeat (first | exact trivial | refine ⟨rfl, ?_⟩ | exact lle_nil)) ?_
    exact h9
  · have h9 := h9.2 c_7
    exact r_vret ⟨d_Patch_put_22, rfl⟩ ⟨M_4, L_5, rfl, h9⟩
theorem L_Patch_put_56 {xs : List Int32} {p0 : Nat} {i1 : Int32} {i2 : Int32} {i3 : Int32} {i4 : Int32} {i5 : Int32} {i8 : Int32} {i9 : Int32} {i10 : Int32} {M : Mem} {L : Int64} {Q : Option Value → Mem → Int64 → Prop} (hp0 : isP p0)
    (h : ((i9 < i10 → Q none M L) ∧ (¬ (i9 < i10) → ((i5 = 0 → (vp_in i10 20 ∧ RX xs md_Patch_put 56 [.ref p0, .null, .null, .null, .null, .int i5, .null, .null, .int i8, .int i9, .int (i10 + 1)] [] (up M (p0 + 1) i10.toNatClampNeg ((M (p0 + 1) i10.toNatClampNeg) &&& (i8 ^^^ (-1)))) L Q)) ∧ (¬ (i5 = 0) → (vp_in i10 20 ∧ RX xs md_Patch_put 56 [.ref p0, .null, .null, .null, .null, .int i5, .null, .null, .int i8, .int i9, .int (i10 + 1)] [] (up M (p0 + 1) i10.toNatClampNeg ((M (p0 + 1) i10.toNatClampNeg) ||| i8)) L Q)))))) : RX xs md_Patch_put 56 [.ref p0, .null, .null, .null, .null, .int i5, .null, .null, .int i8, .int i9, .int i10] [] M L Q := by
  refine r_iload d_Patch_put_56 rfl ?_
  refine r_iload d_Patch_put_58 rfl ?_
  refine r_ic_gt d_Patch_put_60 (fun c_20 => ?_) (fun c_20 => ?_)
  · have h9 := h.1 c_20
    exact r_vret ⟨d_Patch_put_106, rfl⟩ ⟨M, L, rfl, h9⟩
  · have h9 := h.2 c_20
    refine r_aload_n d_Patch_put_63 rfl ?_
    refine x_getR d_Patch_put_64 fl_Patch_9 (isP_R hp0) ?_
    refine r_iload d_Patch_put_67 rfl ?_
    refine r_iload d_Patch_put_69 rfl ?_
    refine r_if_eq d_Patch_put_71 (fun c_21 => ?_) (fun c_21 => ?_)
    · have h9 := h9.1 c_21
      refine r_aload_n d_Patch_put_87 rfl ?_
      refine x_getR d_Patch_put_88 fl_Patch_9 (isP_R hp0) ?_
      refine r_iload d_Patch_put_91 rfl ?_
      obtain ⟨o_22, h9⟩ := h9
      refine x_iald d_Patch_put_93 (isP_A hp0) o_22 ?_
      refine r_iload d_Patch_put_94 rfl ?_
      refine r_iconst (v := (-1)) d_Patch_put_96 (by decide) ?_
      refine r_ixor d_Patch_put_97 ?_
      refine r_iand d_Patch_put_98 ?_
      refine x_iast d_Patch_put_99 (isP_A hp0) o_22 ?_
      refine r_iinc (v := i10 + 1) d_Patch_put_100 rfl rfl (by decide) ?_
      refine r_goto d_Patch_put_103 ?_
      exact h9
    · have h9 := h9.2 c_21
      refine r_aload_n d_Patch_put_74 rfl ?_
      refine x_getR d_Patch_put_75 fl_Patch_9 (isP_R hp0) ?_
      refine r_iload d_Patch_put_78 rfl ?_
      obtain ⟨o_23, h9⟩ := h9
      refine x_iald d_Patch_put_80 (isP_A hp0) o_23 ?_
      refine r_iload d_Patch_put_81 rfl ?_
      refine r_ior d_Patch_put_83 ?_
      refine r_goto d_Patch_put_84 ?_
      refine x_iast d_Patch_put_99 (isP_A hp0) o_23 ?_
      refine r_iinc (v := i10 + 1) d_Patch_put_100 rfl rfl (by decide) ?_
      refine r_goto d_Patch_put_103 ?_
      exact h9
theorem L_JMath_max_0 {xs : List Int32} {i0 : Int32} {i1 : Int32} {M : Mem} {L : Int64} {Q : Option Value → Mem → Int64 → Prop} 
    (h : ((i0 < i1 → Q (some (.int i1)) M L) ∧ (¬ (i0 < i1) → Q (some (.int i0)) M L))) : RX xs md_JMath_max 0 [.int i0, .int i1] [] M L Q := by
  refine r_iload_n d_JMath_max_0 rfl ?_
  refine r_iload_n d_JMath_max_1 rfl ?_
  refine r_ic_lt d_JMath_max_2 (fun c_1 => ?_) (fun c_1 => ?_)
  · have h9 := h.1 c_1
    refine r_iload_n d_JMath_max_9 rfl ?_
    exact r_iret ⟨d_JMath_max_10, _, rfl, rfl⟩ ⟨_, _, rfl, h9⟩
  · have h9 := h.2 c_1
    refine r_iload_n d_JMath_max_5 rfl ?_
    refine r_goto d_JMath_max_6 ?_
    exact r_iret ⟨d_JMath_max_10, _, rfl, rfl⟩ ⟨_, _, rfl, h9⟩
theorem L_JMath_min_0 {xs : List Int32} {i0 : Int32} {i1 : Int32} {M : Mem} {L : Int64} {Q : Option Value → Mem → Int64 → Prop} 
    (h : ((i1 < i0 → Q (some (.int i1)) M L) ∧ (¬ (i1 < i0) → Q (some (.int i0)) M L))) : RX xs md_JMath_min 0 [.int i0, .int i1] [] M L Q := by
  refine r_iload_n d_JMath_min_0 rfl ?_
  refine r_iload_n d_JMath_min_1 rfl ?_
  refine r_ic_gt d_JMath_min_2 (fun c_1 => ?_) (fun c_1 => ?_)
  · have h9 := h.1 c_1
    refine r_iload_n d_JMath_min_9 rfl ?_
    exact r_iret ⟨d_JMath_min_10, _, rfl, rfl⟩ ⟨_, _, rfl, h9⟩
  · have h9 := h.2 c_1
    refine r_iload_n d_JMath_min_5 rfl ?_
    refine r_goto d_JMath_min_6 ?_
    exact r_iret ⟨d_JMath_min_10, _, rfl, rfl⟩ ⟨_, _, rfl, h9⟩
theorem L_Patch_firstBits_0 {xs : List Int32} {i0 : Int32} {M : Mem} {L : Int64} {Q : Option Value → Mem → Int64 → Prop} 
    (h : Q (some (.int ((1 <<< (i0 &&& 31)) - 1))) M L) : RX xs md_Patch_firstBits 0 [.int i0] [] M L Q := by
  refine r_iconst (v := 1) d_Patch_firstBits_0 (by decide) ?_
  refine r_iload_n d_Patch_firstBits_1 rfl ?_
  refine r_ishl d_Patch_firstBits_2 ?_
  refine r_iconst (v := 1) d_Patch_firstBits_3 (by decide) ?_
  refine r_isub d_Patch_firstBits_4 ?_
  exact r_iret ⟨d_Patch_firstBits_5, _, rfl, rfl⟩ ⟨_, _, rfl, h⟩
theorem L_Row_become_0 {xs : List Int32} {t0 : Nat} {i1 : Int32} {i2 : Int32} {i3 : Int32} {i4 : Int32} {M : Mem} {L : Int64} {Q : Option Value → Mem → Int64 → Prop} (ht0 : t0 < 40)
    (h : Q none (up (up (up (up (up M (136 + 5 * t0) 3 i1) (136 + 5 * t0) 4 i2) (136 + 5 * t0) 5 i3) (136 + 5 * t0) 6 i4) (136 + 5 * t0) 7 1) L) : RX xs md_Row_become 0 [.ref (136 + 5 * t0), .int i1, .int i2, .int i3, .int i4] [] M L Q := by
  refine r_aload_n d_Row_become_0 rfl ?_
  refine r_iload_n d_Row_become_1 rfl ?_
  refine x_putI d_Row_become_2 fl_Row_45 (fun r hr => by cases hr; rfl) (rw_I ht0 3 (by decide) (by decide)) (VOk_int _) ?_
  refine r_aload_n d_Row_become_5 rfl ?_
  refine r_iload_n d_Row_become_6 rfl ?_
  refine x_putI d_Row_become_7 fl_Row_49 (fun r hr => by cases hr; rfl) (rw_I ht0 4 (by decide) (by decide)) (VOk_int _) ?_
  refine r_aload_n d_Row_become_10 rfl ?_
  refine r_iload_n d_Row_become_11 rfl ?_
  refine x_putI d_Row_become_12 fl_Row_52 (fun r hr => by cases hr; rfl) (rw_I ht0 5 (by decide) (by decide)) (VOk_int _) ?_
  refine r_aload_n d_Row_become_15 rfl ?_
  refine r_iload d_Row_become_16 rfl ?_
  refine x_putI d_Row_become_18 fl_Row_55 (fun r hr => by cases hr; rfl) (rw_I ht0 6 (by decide) (by decide)) (VOk_int _) ?_
  refine r_aload_n d_Row_become_21 rfl ?_
  refine r_iconst (v := 1) d_Row_become_22 (by decide) ?_
  refine x_putI d_Row_become_23 fl_Row_58 (fun r hr => by cases hr; rfl) (rw_I ht0 7 (by decide) (by decide)) (VOk_bool (by decide)) ?_
  exact r_vret ⟨d_Row_become_26, rfl⟩ ⟨up (up (up (up (up M (136 + 5 * t0) 3 i1) (136 + 5 * t0) 4 i2) (136 + 5 * t0) 5 i3) (136 + 5 * t0) 6 i4) (136 + 5 * t0) 7 1, L, rfl, h⟩
theorem L_Compass_isPoint_0 {xs : List Int32} {i0 : Int32} {M : Mem} {L : Int64} {Q : Option Value → Mem → Int64 → Prop} 
    (h : ((i0 < 0 → Q (some (.int 0)) M L) ∧ (¬ (i0 < 0) → ((32 ≤ i0 → Q (some (.int 0)) M L) ∧ (¬ (32 ≤ i0) → Q (some (.int 1)) M L))))) : RX xs md_Compass_isPoint 0 [.int i0] [] M L Q := by
  refine r_iload_n d_Compass_isPoint_0 rfl ?_
  refine r_if_lt d_Compass_isPoint_1 (fun c_1 => ?_) (fun c_1 => ?_)
  · have h9 := h.1 c_1
    refine r_iconst (v := 0) d_Compass_isPoint_14 (by decide) ?_
    exact r_iret ⟨d_Compass_isPoint_15, _, rfl, rfl⟩ ⟨_, _, rfl, h9⟩
  · have h9 := h.2 c_1
    refine r_iload_n d_Compass_isPoint_4 rfl ?_
    refine r_bipush (v := 32) d_Compass_isPoint_5 (by decide) ?_
    refine r_ic_ge d_Compass_isPoint_7 (fun c_2 => ?_) (fun c_2 => ?_)
    · have h9 := h9.1 c_2
      refine r_iconst (v := 0) d_Compass_isPoint_14 (by decide) ?_
      exact r_iret ⟨d_Compass_isPoint_15, _, rfl, rfl⟩ ⟨_, _, rfl, h9⟩
    · have h9 := h9.2 c_2
      refine r_iconst (v := 1) d_Compass_isPoint_10 (by decide) ?_
      refine r_goto d_Compass_isPoint_11 ?_
      exact r_iret ⟨d_Compass_isPoint_15, _, rfl, rfl⟩ ⟨_, _, rfl, h9⟩
theorem L_Compass_hasFigureZero_0 {xs : List Int32} {i0 : Int32} {M : Mem} {L : Int64} {Q : Option Value → Mem → Int64 → Prop} 
    (h : RX xs md_Compass_hasFigureZero 2 [.null, .int i0] [] M L Q) : RX xs md_Compass_hasFigureZero 0 [.int i0, .null] [] M L Q := by
  refine r_iload_n d_Compass_hasFigureZero_0 rfl ?_
  refine r_istore_n d_Compass_hasFigureZero_1 (by decide) ?_
  refine r_weak (lv' := [.null, .int i0]) (by repeat (first | exact trivial | refine ⟨rfl, ?_⟩ | exact lle_nil)) ?_
  exact h
theorem L_Compass_hasFigureZero_2 {xs : List Int32} {i0 : Int32} {i1 : Int32} {M : Mem} {L : Int64} {Q : Option Value → Mem → Int64 → Prop} 
    (h : ((i1 ≤ 0 → Q (some (.int 0)) M L) ∧ (¬ (i1 ≤ 0) → (((i1 - i1 / 6 * 6) = 0 → Q (some (.int 1)) M L) ∧ (¬ ((i1 - i1 / 6 * 6) = 0) → RX xs md_Compass_hasFigureZero 2 [.null, .int (i1 / 6)] [] M L Q))))) : RX xs md_Compass_hasFigureZero 2 [.null, .int i1] [] M L Q := by
  refine r_iload_n d_Compass_hasFigureZero_2 rfl ?_
  refine r_if_le d_Compass_hasFigureZero_3 (fun c_1 => ?_) (fun c_1 => ?_)
  · have h9 := h.1 c_1
    refine r_iconst (v := 0) d_Compass_hasFigureZero_23 (by decide) ?_
    exact r_iret ⟨d_Compass_hasFigureZero_24, _, rfl, rfl⟩ ⟨_, _, rfl, h9⟩
  · have h9 := h.2 c_1
    refine r_iload_n d_Compass_hasFigureZero_6 rfl ?_
    refine r_bipush (v := 6) d_Compass_hasFigureZero_7 (by decide) ?_
    refine r_irem d_Compass_hasFigureZero_9 (by decide) ?_
    refine r_if_ne d_Compass_hasFigureZero_10 (fun c_2 => ?_) (fun c_2 => ?_)
    · have h9 := h9.2 c_2
      refine r_iload_n d_Compass_hasFigureZero_15 rfl ?_
      refine r_bipush (v := 6) d_Compass_hasFigureZero_16 (by decide) ?_
      refine r_idiv d_Compass_hasFigureZero_18 (by decide) ?_
      refine r_istore_n d_Compass_hasFigureZero_19 (by decide) ?_
      refine r_goto d_Compass_hasFigureZero_20 ?_
      exact h9
    · have h9 := h9.1 c_2
      refine r_iconst (v := 1) d_Compass_hasFigureZero_13 (by decide) ?_
      exact r_iret ⟨d_Compass_hasFigureZero_14, _, rfl, rfl⟩ ⟨_, _, rfl, h9⟩
theorem L_Compass_pointNamed_0 {xs : List Int32} {i0 : Int32} {M : Mem} {L : Int64} {Q : Option Value → Mem → Int64 → Prop} 
    (h : RX xs md_Compass_pointNamed 2 [.int i0, .int 0] [] M L Q) : RX xs md_Compass_pointNamed 0 [.int i0, .null] [] M L Q := by
  refine r_iconst (v := 0) d_Compass_pointNamed_0 (by decide) ?_
  refine r_istore_n d_Compass_pointNamed_1 (by decide) ?_
  exact h
theorem L_Compass_pointNamed_2 {xs : List Int32} {i0 : Int32} {i1 : Int32} {M : Mem} {L : Int64} {Q : Option Value → Mem → Int64 → Prop} 
    (h : ((32 ≤ i1 → Q (some (.int (-1))) M L) ∧ (¬ (32 ≤ i1) → (vp_in i1 32 ∧ ((((roT xs 1).getD i1.toNatClampNeg 0) = i0 → Q (some (.int i1)) M L) ∧ (¬ (((roT xs 1).getD i1.toNatClampNeg 0) = i0) → RX xs md_Compass_pointNamed 2 [.int i0, .int (i1 + 1)] [] M L Q)))))) : RX xs md_Compass_pointNamed 2 [.int i0, .int i1] [] M L Q := by
  refine r_iload_n d_Compass_pointNamed_2 rfl ?_
  refine r_bipush (v := 32) d_Compass_pointNamed_3 (by decide) ?_
  refine r_ic_ge d_Compass_pointNamed_5 (fun c_1 => ?_) (fun c_1 => ?_)
  · have h9 := h.1 c_1
    refine r_iconst (v := (-1)) d_Compass_pointNamed_25 (by decide) ?_
    exact r_iret ⟨d_Compass_pointNamed_26, _, rfl, rfl⟩ ⟨_, _, rfl, h9⟩
  · have h9 := h.2 c_1
    refine r_gets (k := 1) d_Compass_pointNamed_8 sl_Compass_34 (by decide) ?_
    refine r_iload_n d_Compass_pointNamed_11 rfl ?_
    obtain ⟨o_2, h9⟩ := h9
    refine r_rald (k := 1) d_Compass_pointNamed_12 (by decide) o_2 ?_
    refine r_iload_n d_Compass_pointNamed_13 rfl ?_
    refine r_ic_ne d_Compass_pointNamed_14 (fun c_3 => ?_) (fun c_3 => ?_)
    · have h9 := h9.2 c_3
      refine r_iinc (v := i1 + 1) d_Compass_pointNamed_19 rfl rfl (by decide) ?_
      refine r_goto d_Compass_pointNamed_22 ?_
      exact h9
    · have h9 := h9.1 c_3
      refine r_iload_n d_Compass_pointNamed_17 rfl ?_
      exact r_iret ⟨d_Compass_pointNamed_18, _, rfl, rfl⟩ ⟨_, _, rfl, h9⟩
theorem L_Compass_lettersThatBegin_0 {xs : List Int32} {i0 : Int32} {M : Mem} {L : Int64} {Q : Option Value → Mem → Int64 → Prop} 
    (h : RX xs md_Compass_lettersThatBegin 4 [.null, .int 0, .int i0] [] M L Q) : RX xs md_Compass_lettersThatBegin 0 [.int i0, .null, .null] [] M L Q := by
  refine r_iconst (v := 0) d_Compass_lettersThatBegin_0 (by decide) ?_
  refine r_istore_n d_Compass_lettersThatBegin_1 (by decide) ?_
  refine r_iload_n d_Compass_lettersThatBegin_2 rfl ?_
  refine r_istore_n d_Compass_lettersThatBegin_3 (by decide) ?_
  refine r_weak (lv' := [.null, .int 0, .int i0]) (by repeat (first | exact trivial | refine ⟨rfl, ?_⟩ | exact lle_nil)) ?_
  exact h
theorem L_Compass_lettersThatBegin_4 {xs : List Int32} {i0 : Int32} {i1 : Int32} {i2 : Int32} {M : Mem} {L : Int64} {Q : Option Value → Mem → Int64 → Prop} 
    (h : ((i2 ≤ 0 → Q (some (.int i1)) M L) ∧ (¬ (i2 ≤ 0) → RX xs md_Compass_isBeginning 0 [.int i2] [] M L (fun r M_2 L_3 => ∃ v_4 : Int32, r = some (.int v_4) ∧ ((v_4 = 0 → RX xs md_Compass_lettersThatBegin 4 [.null, .int i1, .int (i2 / 6)] [] M_2 L_3 Q) ∧ (¬ (v_4 = 0) → RX xs md_Compass_lettersThatBegin 4 [.null, .int (i1 + 1), .int (i2 / 6)] [] M_2 L_3 Q)))))) : RX xs md_Compass_lettersThatBegin 4 [.null, .int i1, .int i2] [] M L Q := by
  refine r_iload_n d_Compass_lettersThatBegin_4 rfl ?_
  refine r_if_le d_Compass_lettersThatBegin_5 (fun c_1 => ?_) (fun c_1 => ?_)
  · have h9 := h.1 c_1
    refine r_iload_n d_Compass_lettersThatBegin_26 rfl ?_
    exact r_iret ⟨d_Compass_lettersThatBegin_27, _, rfl, rfl⟩ ⟨_, _, rfl, h9⟩
  · have h9 := h.2 c_1
    refine r_iload_n d_Compass_lettersThatBegin_8 rfl ?_
    refine x_callS (as := [.int i2]) (st := []) d_Compass_lettersThatBegin_9 ml_Compass_37 mc_Compass_isBeginning ms_Compass_isBeginning ⟨by decide, by decide⟩ rfl (Nat.le_of_ble_eq_true rfl) (Nat.le_of_ble_eq_true rfl) h9 ?_
    rintro _ M_2 L_3 ⟨v_4, rfl, h9⟩
    refine r_if_eq d_Compass_lettersThatBegin_12 (fun c_5 => ?_) (fun c_5 => ?_)
    · have h9 := h9.1 c_5
      refine r_iload_n d_Compass_lettersThatBegin_18 rfl ?_
      refine r_bipush (v := 6) d_Compass_lettersThatBegin_19 (by decide) ?_
      refine r_idiv d_Compass_lettersThatBegin_21 (by decide) ?_
      refine r_istore_n d_Compass_lettersThatBegin_22 (by decide) ?_
      refine r_goto d_Compass_lettersThatBegin_23 ?_
      exact h9
    · have h9 := h9.2 c_5
      refine r_iinc (v := i1 + 1) d_Compass_lettersThatBegin_15 rfl rfl (by decide) ?_
      refine r_iload_n d_Compass_lettersThatBegin_18 rfl ?_
      refine r_bipush (v := 6) d_Compass_lettersThatBegin_19 (by decide) ?_
      refine r_idiv d_Compass_lettersThatBegin_21 (by decide) ?_
      refine r_istore_n d_Compass_lettersThatBegin_22 (by decide) ?_
      refine r_goto d_Compass_lettersThatBegin_23 ?_
      exact h9
theorem L_Compass_isBeginning_0 {xs : List Int32} {i0 : Int32} {M : Mem} {L : Int64} {Q : Option Value → Mem → Int64 → Prop} 
    (h : RX xs md_Compass_isBeginning 2 [.int i0, .int 0, .null] [] M L Q) : RX xs md_Compass_isBeginning 0 [.int i0, .null, .null] [] M L Q := by
  refine r_iconst (v := 0) d_Compass_isBeginning_0 (by decide) ?_
  refine r_istore_n d_Compass_isBeginning_1 (by decide) ?_
  exact h
theorem L_Compass_isBeginning_2 {xs : List Int32} {i0 : Int32} {i1 : Int32} {M : Mem} {L : Int64} {Q : Option Value → Mem → Int64 → Prop} 
    (h : ((32 ≤ i1 → Q (some (.int 0)) M L) ∧ (¬ (32 ≤ i1) → (vp_in i1 32 ∧ RX xs md_Compass_isBeginning 14 [.int i0, .int i1, .int ((roT xs 1).getD i1.toNatClampNeg 0)] [] M L Q)))) : RX xs md_Compass_isBeginning 2 [.int i0, .int i1, .null] [] M L Q := by
  refine r_iload_n d_Compass_isBeginning_2 rfl ?_
  refine r_bipush (v := 32) d_Compass_isBeginning_3 (by decide) ?_
  refine r_ic_ge d_Compass_isBeginning_5 (fun c_1 => ?_) (fun c_1 => ?_)
  · have h9 := h.1 c_1
    refine r_iconst (v := 0) d_Compass_isBeginning_39 (by decide) ?_
    exact r_iret ⟨d_Compass_isBeginning_40, _, rfl, rfl⟩ ⟨_, _, rfl, h9⟩
  · have h9 := h.2 c_1
    refine r_gets (k := 1) d_Compass_isBeginning_8 sl_Compass_34 (by decide) ?_
    refine r_iload_n d_Compass_isBeginning_11 rfl ?_
    obtain ⟨o_2, h9⟩ := h9
    refine r_rald (k := 1) d_Compass_isBeginning_12 (by decide) o_2 ?_
    refine r_istore_n d_Compass_isBeginning_13 (by decide) ?_
    exact h9
theorem L_Compass_isBeginning_14 {xs : List Int32} {i0 : Int32} {i1 : Int32} {i2 : Int32} {M : Mem} {L : Int64} {Q : Option Value → Mem → Int64 → Prop} 
    (h : ((i2 ≤ 0 → RX xs md_Compass_isBeginning 2 [.int i0, .int (i1 + 1), .null] [] M L Q) ∧ (¬ (i2 ≤ 0) → ((i2 = i0 → Q (some (.int 1)) M L) ∧ (¬ (i2 = i0) → RX xs md_Compass_isBeginning 14 [.int i0, .int i1, .int (i2 / 6)] [] M L Q))))) : RX xs md_Compass_isBeginning 14 [.int i0, .int i1, .int i2] [] M L Q := by
  refine r_iload_n d_Compass_isBeginning_14 rfl ?_
  refine r_if_le d_Compass_isBeginning_15 (fun c_3 => ?_) (fun c_3 => ?_)
  · have h9 := h.1 c_3
    refine r_iinc (v := i1 + 1) d_Compass_isBeginning_33 rfl rfl (by decide) ?_
    refine r_goto d_Compass_isBeginning_36 ?_
    refine r_weak (lv' := [.int i0, .int (i1 + 1), .null]) (by repeat (first | exact trivial | refine ⟨rfl, ?_⟩ | exact lle_nil)) ?_
    exact h9
  · have h9 := h.2 c_3
    refine r_iload_n d_Compass_isBeginning_18 rfl ?_
    refine r_iload_n d_Compass_isBeginning_19 rfl ?_
    refine r_ic_ne d_Compass_isBeginning_20 (fun c_4 => ?_) (fun c_4 => ?_)
    · have h9 := h9.2 c_4
      refine r_iload_n d_Compass_isBeginning_25 rfl ?_
      refine r_bipush (v := 6) d_Compass_isBeginning_26 (by decide) ?_
      refine r_idiv d_Compass_isBeginning_28 (by decide) ?_
      refine r_istore_n d_Compass_isBeginning_29 (by decide) ?_
      refine r_goto d_Compass_isBeginning_30 ?_
      exact h9
    · have h9 := h9.1 c_4
      refine r_iconst (v := 1) d_Compass_isBeginning_23 (by decide) ?_
      exact r_iret ⟨d_Compass_isBeginning_24, _, rfl, rfl⟩ ⟨_, _, rfl, h9⟩
theorem L_Compass_turnsBetween_0 {xs : List Int32} {i0 : Int32} {i1 : Int32} {M : Mem} {L : Int64} {Q : Option Value → Mem → Int64 → Prop} 
    (h : Q (some (.int ((i1 - i0) &&& 31))) M L) : RX xs md_Compass_turnsBetween 0 [.int i0, .int i1] [] M L Q := by
  refine r_iload_n d_Compass_turnsBetween_0 rfl ?_
  refine r_iload_n d_Compass_turnsBetween_1 rfl ?_
  refine r_isub d_Compass_turnsBetween_2 ?_
  refine r_bipush (v := 31) d_Compass_turnsBetween_3 (by decide) ?_
  refine r_iand d_Compass_turnsBetween_5 ?_
  exact r_iret ⟨d_Compass_turnsBetween_6, _, rfl, rfl⟩ ⟨_, _, rfl, h⟩
theorem L_Compass_eastOf_0 {xs : List Int32} {i0 : Int32} {M : Mem} {L : Int64} {Q : Option Value → Mem → Int64 → Prop} 
    (h : RX xs md_Compass_turned 0 [.int i0, .int (-8)] [] M L (fun r M_1 L_2 => ∃ v_3 : Int32, r = some (.int v_3) ∧ RX xs md_Compass_northOf 0 [.int v_3] [] M_1 L_2 (fun r M_4 L_5 => ∃ v_6 : Int32, r = some (.int v_6) ∧ Q (some (.int v_6)) M_4 L_5))) : RX xs md_Compass_eastOf 0 [.int i0] [] M L Q := by
  refine r_iload_n d_Compass_eastOf_0 rfl ?_
  refine r_bipush (v := (-8)) d_Compass_eastOf_1 (by decide) ?_
  refine x_callS (as := [.int i0, .int (-8)]) (st := []) d_Compass_eastOf_3 ml_Compass_27 mc_Compass_turned ms_Compass_turned ⟨by decide, by decide⟩ rfl (Nat.le_of_ble_eq_true rfl) (Nat.le_of_ble_eq_true rfl) h ?_
  rintro _ M_1 L_2 ⟨v_3, rfl, h9⟩
  refine x_callS (as := [.int v_3]) (st := []) d_Compass_eastOf_6 ml_Compass_30 mc_Compass_northOf ms_Compass_northOf ⟨by decide, by decide⟩ rfl (Nat.le_of_ble_eq_true rfl) (Nat.le_of_ble_eq_true rfl) h9 ?_
  rintro _ M_4 L_5 ⟨v_6, rfl, h9⟩
  exact r_iret ⟨d_Compass_eastOf_9, _, rfl, rfl⟩ ⟨_, _, rfl, h9⟩
theorem L_Compass_turned_0 {xs : List Int32} {i0 : Int32} {i1 : Int32} {M : Mem} {L : Int64} {Q : Option Value → Mem → Int64 → Prop} 
    (h : Q (some (.int ((i0 + i1) &&& 31))) M L) : RX xs md_Compass_turned 0 [.int i0, .int i1] [] M L Q := by
  refine r_iload_n d_Compass_turned_0 rfl ?_
  refine r_iload_n d_Compass_turned_1 rfl ?_
  refine r_iadd d_Compass_turned_2 ?_
  refine r_bipush (v := 31) d_Compass_turned_3 (by decide) ?_
  refine r_iand d_Compass_turned_5 ?_
  exact r_iret ⟨d_Compass_turned_6, _, rfl, rfl⟩ ⟨_, _, rfl, h⟩
theorem L_Compass_northOf_0 {xs : List Int32} {i0 : Int32} {M : Mem} {L : Int64} {Q : Option Value → Mem → Int64 → Prop} 
    (h : RX xs md_Compass_angle 0 [.int i0, .int 0] [] M L (fun r M_1 L_2 => ∃ v_3 : Int32, r = some (.int v_3) ∧ RX xs md_JMath_min 0 [.int v_3, .int (16 - v_3)] [] M_1 L_2 (fun r M_4 L_5 => ∃ v_6 : Int32, r = some (.int v_6) ∧ ((v_3 ≤ 8 → (vp_in v_6 9 ∧ Q (some (.int ((roT xs 2).getD v_6.toNatClampNeg 0))) M_4 L_5)) ∧ (¬ (v_3 ≤ 8) → (vp_in v_6 9 ∧ Q (some (.int (-((roT xs 2).getD v_6.toNatClampNeg 0)))) M_4 L_5)))))) : RX xs md_Compass_northOf 0 [.int i0, .null, .null] [] M L Q := by
  refine r_iload_n d_Compass_northOf_0 rfl ?_
  refine r_iconst (v := 0) d_Compass_northOf_1 (by decide) ?_
  refine x_callS (as := [.int i0, .int 0]) (st := []) d_Compass_northOf_2 ml_Compass_20 mc_Compass_angle ms_Compass_angle ⟨by decide, by decide⟩ rfl (Nat.le_of_ble_eq_true rfl) (Nat.le_of_ble_eq_true rfl) h ?_
  rintro _ M_1 L_2 ⟨v_3, rfl, h9⟩
  refine r_istore_n d_Compass_northOf_5 (by decide) ?_
  refine r_iload_n d_Compass_northOf_6 rfl ?_
  refine r_bipush (v := 16) d_Compass_northOf_7 (by decide) ?_
  refine r_iload_n d_Compass_northOf_9 rfl ?_
  refine r_isub d_Compass_northOf_10 ?_
  refine x_callS (as := [.int v_3, .int (16 - v_3)]) (st := []) d_Compass_northOf_11 ml_Compass_15 mc_JMath_min ms_JMath_min ⟨by decide, by decide⟩ rfl (Nat.le_of_ble_eq_true rfl) (Nat.le_of_ble_eq_true rfl) h9 ?_
  rintro _ M_4 L_5 ⟨v_6, rfl, h9⟩
  refine r_istore_n d_Compass_northOf_14 (by decide) ?_
  refine r_iload_n d_Compass_northOf_15 rfl ?_
  refine r_bipush (v := 8) d_Compass_northOf_16 (by decide) ?_
  refine r_ic_le d_Compass_northOf_18 (fun c_7 => ?_) (fun c_7 => ?_)
  · have h9 := h9.1 c_7
    refine r_gets (k := 2) d_Compass_northOf_30 sl_Compass_23 (by decide) ?_
    refine r_iload_n d_Compass_northOf_33 rfl ?_
    obtain ⟨o_8, h9⟩ := h9
    refine r_rald (k := 2) d_Compass_northOf_34 (by decide) o_8 ?_
    exact r_iret ⟨d_Compass_northOf_35, _, rfl, rfl⟩ ⟨_, _, rfl, h9⟩
  · have h9 := h9.2 c_7
    refine r_gets (k := 2) d_Compass_northOf_21 sl_Compass_23 (by decide) ?_
    refine r_iload_n d_Compass_northOf_24 rfl ?_
    obtain ⟨o_9, h9⟩ := h9
    refine r_rald (k := 2) d_Compass_northOf_25 (by decide) o_9 ?_
    refine r_ineg d_Compass_northOf_26 ?_
    refine r_goto d_Compass_northOf_27 ?_
    exact r_iret ⟨d_Compass_northOf_35, _, rfl, rfl⟩ ⟨_, _, rfl, h9⟩
theorem L_Compass_angle_0 {xs : List Int32} {i0 : Int32} {i1 : Int32} {M : Mem} {L : Int64} {Q : Option Value → Mem → Int64 → Prop} 
    (h : RX xs md_Compass_turnsBetween 0 [.int i0, .int i1] [] M L (fun r M_1 L_2 => ∃ v_3 : Int32, r = some (.int v_3) ∧ RX xs md_JMath_min 0 [.int v_3, .int (32 - v_3)] [] M_1 L_2 (fun r M_4 L_5 => ∃ v_6 : Int32, r = some (.int v_6) ∧ Q (some (.int v_6)) M_4 L_5))) : RX xs md_Compass_angle 0 [.int i0, .int i1, .null] [] M L Q := by
  refine r_iload_n d_Compass_angle_0 rfl ?_
  refine r_iload_n d_Compass_angle_1 rfl ?_
  refine x_callS (as := [.int i0, .int i1]) (st := []) d_Compass_angle_2 ml_Compass_11 mc_Compass_turnsBetween ms_Compass_turnsBetween ⟨by decide, by decide⟩ rfl (Nat.le_of_ble_eq_true rfl) (Nat.le_of_ble_eq_true rfl) h ?_
  rintro _ M_1 L_2 ⟨v_3, rfl, h9⟩
  refine r_istore_n d_Compass_angle_5 (by decide) ?_
  refine r_iload_n d_Compass_angle_6 rfl ?_
  refine r_bipush (v := 32) d_Compass_angle_7 (by decide) ?_
  refine r_iload_n d_Compass_angle_9 rfl ?_
  refine r_isub d_Compass_angle_10 ?_
  refine x_callS (as := [.int v_3, .int (32 - v_3)]) (st := []) d_Compass_angle_11 ml_Compass_15 mc_JMath_min ms_JMath_min ⟨by decide, by decide⟩ rfl (Nat.le_of_ble_eq_true rfl) (Nat.le_of_ble_eq_true rfl) h9 ?_
  rintro _ M_4 L_5 ⟨v_6, rfl, h9⟩
  exact r_iret ⟨d_Compass_angle_14, _, rfl, rfl⟩ ⟨_, _, rfl, h9⟩
theorem L_Words_append_0 {xs : List Int32} {i1 : Int32} {M : Mem} {L : Int64} {Q : Option Value → Mem → Int64 → Prop} 
    (h : (((M 1 2) < 24 → (vp_in (M 1 2) 24 ∧ Q (some (.int 1)) (up (up M 2 (M 1 2).toNatClampNeg i1) 1 2 (((up M 2 (M 1 2).toNatClampNeg i1) 1 2) + 1)) L)) ∧ (¬ ((M 1 2) < 24) → Q (some (.int 0)) M L))) : RX xs md_Words_append 0 [.ref 1, .int i1] [] M L Q := by
  refine r_aload_n d_Words_append_0 rfl ?_
  refine x_getI d_Words_append_1 fl_Words_18 gI_1_2 ?_
  refine r_bipush (v := 24) d_Words_append_4 (by decide) ?_
  refine r_ic_lt d_Words_append_6 (fun c_1 => ?_) (fun c_1 => ?_)
  · have h9 := h.1 c_1
    refine r_aload_n d_Words_append_11 rfl ?_
    refine x_getR d_Words_append_12 fl_Words_11 gR_1_0 ?_
    refine r_aload_n d_Words_append_15 rfl ?_
    refine x_getI d_Words_append_16 fl_Words_18 gI_1_2 ?_
    refine r_iload_n d_Words_append_19 rfl ?_
    obtain ⟨o_2, h9⟩ := h9
    refine x_iast d_Words_append_20 aI_2 o_2 ?_
    refine r_aload_n d_Words_append_21 rfl ?_
    refine r_dup d_Words_append_22 rfl ?_
    refine x_getI d_Words_append_23 fl_Words_18 gI_1_2 ?_
    refine r_iconst (v := 1) d_Words_append_26 (by decide) ?_
    refine r_iadd d_Words_append_27 ?_
    refine x_putI d_Words_append_28 fl_Words_18 (fun r hr => by cases hr; rfl) gI_1_2 (VOk_int _) ?_
    refine r_iconst (v := 1) d_Words_append_31 (by decide) ?_
    exact r_iret ⟨d_Words_append_32, _, rfl, rfl⟩ ⟨_, _, rfl, h9⟩
  · have h9 := h.2 c_1
    refine r_iconst (v := 0) d_Words_append_9 (by decide) ?_
    exact r_iret ⟨d_Words_append_10, _, rfl, rfl⟩ ⟨_, _, rfl, h9⟩
theorem L_Words_firstFault_0 {xs : List Int32}  {M : Mem} {L : Int64} {Q : Option Value → Mem → Int64 → Prop} 
    (h : RX xs md_Words_firstFault 4 [.ref 1, .int 1, .int 0, .null] [] M L Q) : RX xs md_Words_firstFault 0 [.ref 1, .null, .null, .null] [] M L Q := by
  refine r_iconst (v := 1) d_Words_firstFault_0 (by decide) ?_
  refine r_istore_n d_Words_firstFault_1 (by decide) ?_
  refine r_iconst (v := 0) d_Words_firstFault_2 (by decide) ?_
  refine r_istore_n d_Words_firstFault_3 (by decide) ?_
  exact h
theorem L_Words_firstFault_4 {xs : List Int32} {i1 : Int32} {i2 : Int32} {M : Mem} {L : Int64} {Q : Option Value → Mem → Int64 → Prop} 
    (h : (((M 1 2) ≤ i2 → ((i1 = 0 → Q (some (.int (-1))) M L) ∧ (¬ (i1 = 0) → Q (some (.int (M 1 2))) M L))) ∧ (¬ ((M 1 2) ≤ i2) → (vp_in i2 24 ∧ ((i1 = 0 → Q (some (.int i2)) M L) ∧ (¬ (i1 = 0) → RX xs md_Words_isWord 0 [.int (M 2 i2.toNatClampNeg)] [] M L (fun r M_5 L_6 => ∃ v_7 : Int32, r = some (.int v_7) ∧ ((v_7 = 0 → Q (some (.int i2)) M_5 L_6) ∧ (¬ (v_7 = 0) → RX xs md_Compass_isPoint 0 [.int (M 2 i2.toNatClampNeg)] [] M_5 L_6 (fun r M_9 L_10 => ∃ v_11 : Int32, r = some (.int v_11) ∧ ((v_11 = 0 → (((M 2 i2.toNatClampNeg) = 301 → RX xs md_Words_firstFault 4 [.ref 1, .int (i1 + 1), .int (i2 + 1), .null] [] M_9 L_10 Q) ∧ (¬ ((M 2 i2.toNatClampNeg) = 301) → RX xs md_Words_firstFault 4 [.ref 1, .int i1, .int (i2 + 1), .null] [] M_9 L_10 Q))) ∧ (¬ (v_11 = 0) → RX xs md_Words_firstFault 4 [.ref 1, .int (i1 + (-1)), .int (i2 + 1), .null] [] M_9 L_10 Q)))))))))))) : RX xs md_Words_firstFault 4 [.ref 1, .int i1, .int i2, .null] [] M L Q := by
  refine r_iload_n d_Words_firstFault_4 rfl ?_
  refine r_aload_n d_Words_firstFault_5 rfl ?_
  refine x_getI d_Words_firstFault_6 fl_Words_18 gI_1_2 ?_
  refine r_ic_ge d_Words_firstFault_9 (fun c_1 => ?_) (fun c_1 => ?_)
  · have h9 := h.1 c_1
    refine r_iload_n d_Words_firstFault_61 rfl ?_
    refine r_if_ne d_Words_firstFault_62 (fun c_2 => ?_) (fun c_2 => ?_)
    · have h9 := h9.2 c_2
      refine r_aload_n d_Words_firstFault_69 rfl ?_
      refine x_getI d_Words_firstFault_70 fl_Words_18 gI_1_2 ?_
      exact r_iret ⟨d_Words_firstFault_73, _, rfl, rfl⟩ ⟨_, _, rfl, h9⟩
    · have h9 := h9.1 c_2
      refine r_iconst (v := (-1)) d_Words_firstFault_65 (by decide) ?_
      refine r_goto d_Words_firstFault_66 ?_
      exact r_iret ⟨d_Words_firstFault_73, _, rfl, rfl⟩ ⟨_, _, rfl, h9⟩
  · have h9 := h.2 c_1
    refine r_aload_n d_Words_firstFault_12 rfl ?_
    refine x_getR d_Words_firstFault_13 fl_Words_11 gR_1_0 ?_
    refine r_iload_n d_Words_firstFault_16 rfl ?_
    obtain ⟨o_3, h9⟩ := h9
    refine x_iald d_Words_firstFault_17 aI_2 o_3 ?_
    refine r_istore_n d_Words_firstFault_18 (by decide) ?_
    refine r_iload_n d_Words_firstFault_19 rfl ?_
    refine r_if_eq d_Words_firstFault_20 (fun c_4 => ?_) (fun c_4 => ?_)
    · have h9 := h9.1 c_4
      refine r_iload_n d_Words_firstFault_30 rfl ?_
      exact r_iret ⟨d_Words_firstFault_31, _, rfl, rfl⟩ ⟨_, _, rfl, h9⟩
    · have h9 := h9.2 c_4
      refine r_iload_n d_Words_firstFault_23 rfl ?_
      refine x_callS (as := [.int (M 2 i2.toNatClampNeg)]) (st := []) d_Words_firstFault_24 ml_Words_22 mc_Words_isWord ms_Words_isWord ⟨by decide, by decide⟩ rfl (Nat.le_of_ble_eq_true rfl) (Nat.le_of_ble_eq_true rfl) h9 ?_
      rintro _ M_5 L_6 ⟨v_7, rfl, h9⟩
      refine r_if_ne d_Words_firstFault_27 (fun c_8 => ?_) (fun c_8 => ?_)
      · have h9 := h9.2 c_8
        refine r_iload_n d_Words_firstFault_32 rfl ?_
        refine x_callS (as := [.int (M 2 i2.toNatClampNeg)]) (st := []) d_Words_firstFault_33 ml_Words_26 mc_Compass_isPoint ms_Compass_isPoint ⟨by decide, by decide⟩ rfl (Nat.le_of_ble_eq_true rfl) (Nat.le_of_ble_eq_true rfl) h9 ?_
        rintro _ M_9 L_10 ⟨v_11, rfl, h9⟩
        refine r_if_eq d_Words_firstFault_36 (fun c_12 => ?_) (fun c_12 => ?_)
        · have h9 := h9.1 c_12
          refine r_iload_n d_Words_firstFault_45 rfl ?_
          refine r_sipush (v := 301) d_Words_firstFault_46 (by decide) ?_
          refine r_ic_ne d_Words_firstFault_49 (fun c_13 => ?_) (fun c_13 => ?_)
          · have h9 := h9.2 c_13
            refine r_iinc (v := i2 + 1) d_Words_firstFault_55 rfl rfl (by decide) ?_
            refine r_goto d_Words_firstFault_58 ?_
            refine r_weak (lv' := [.ref 1, .int i1, .int (i2 + 1), .null]) (by repeat (first | exact trivial | refine ⟨rfl, ?_⟩ | exact lle_nil)) ?_
            exact h9
          · have h9 := h9.1 c_13
            refine r_iinc (v := i1 + 1) d_Words_firstFault_52 rfl rfl (by decide) ?_
            refine r_iinc (v := i2 + 1) d_Words_firstFault_55 rfl rfl (by decide) ?_
            refine r_goto d_Words_firstFault_58 ?_
            refine r_weak (lv' := [.ref 1, .int (i1 + 1), .int (i2 + 1), .null]) (by repeat (first | exact trivial | refine ⟨rfl, ?_⟩ | exact lle_nil)) ?_
            exact h9
        · have h9 := h9.2 c_12
          refine r_iinc (v := i1 + (-1)) d_Words_firstFault_39 rfl rfl (by decide) ?_
          refine r_goto d_Words_firstFault_42 ?_
          refine r_iinc (v := i2 + 1) d_Words_firstFault_55 rfl rfl (by decide) ?_
          refine r_goto d_Words_firstFault_58 ?_
          refine r_weak (lv' := [.ref 1, .int (i1 + (-1)), .int (i2 + 1), .null]) (by repeat (first | exact trivial | refine ⟨rfl, ?_⟩ | exact lle_nil)) ?_
          exact h9
      · have h9 := h9.1 c_8
        refine r_iload_n d_Words_firstFault_30 rfl ?_
        exact r_iret ⟨d_Words_firstFault_31, _, rfl, rfl⟩ ⟨_, _, rfl, h9⟩
theorem L_Words_isWord_0 {xs : List Int32} {i0 : Int32} {M : Mem} {L : Int64} {Q : Option Value → Mem → Int64 → Prop} 
    (h : RX xs md_Compass_isPoint 0 [.int i0] [] M L (fun r M_1 L_2 => ∃ v_3 : Int32, r = some (.int v_3) ∧ ((v_3 = 0 → ((i0 = 301 → Q (some (.int 1)) M_1 L_2) ∧ (¬ (i0 = 301) → RX xs md_Words_turnOf 0 [.int i0] [] M_1 L_2 (fun r M_6 L_7 => ∃ v_8 : Int32, r = some (.int v_8) ∧ ((v_8 = 0 → Q (some (.int 0)) M_6 L_7) ∧ (¬ (v_8 = 0) → Q (some (.int 1)) M_6 L_7)))))) ∧ (¬ (v_3 = 0) → Q (some (.int 1)) M_1 L_2)))) : RX xs md_Words_isWord 0 [.int i0] [] M L Q := by
  refine r_iload_n d_Words_isWord_0 rfl ?_
  refine x_callS (as := [.int i0]) (st := []) d_Words_isWord_1 ml_Words_26 mc_Compass_isPoint ms_Compass_isPoint ⟨by decide, by decide⟩ rfl (Nat.le_of_ble_eq_true rfl) (Nat.le_of_ble_eq_true rfl) h ?_
  rintro _ M_1 L_2 ⟨v_3, rfl, h9⟩
  refine r_if_ne d_Words_isWord_4 (fun c_4 => ?_) (fun c_4 => ?_)
  · have h9 := h9.2 c_4
    refine r_iconst (v := 1) d_Words_isWord_21 (by decide) ?_
    refine r_goto d_Words_isWord_22 ?_
    exact r_iret ⟨d_Words_isWord_26, _, rfl, rfl⟩ ⟨_, _, rfl, h9⟩
  · have h9 := h9.1 c_4
    refine r_iload_n d_Words_isWord_7 rfl ?_
    refine r_sipush (v := 301) d_Words_isWord_8 (by decide) ?_
    refine r_ic_eq d_Words_isWord_11 (fun c_5 => ?_) (fun c_5 => ?_)
    · have h9 := h9.1 c_5
      refine r_iconst (v := 1) d_Words_isWord_21 (by decide) ?_
      refine r_goto d_Words_isWord_22 ?_
      exact r_iret ⟨d_Words_isWord_26, _, rfl, rfl⟩ ⟨_, _, rfl, h9⟩
    · have h9 := h9.2 c_5
      refine r_iload_n d_Words_isWord_14 rfl ?_
      refine x_callS (as := [.int i0]) (st := []) d_Words_isWord_15 ml_Words_35 mc_Words_turnOf ms_Words_turnOf ⟨by decide, by decide⟩ rfl (Nat.le_of_ble_eq_true rfl) (Nat.le_of_ble_eq_true rfl) h9 ?_
      rintro _ M_6 L_7 ⟨v_8, rfl, h9⟩
      refine r_if_eq d_Words_isWord_18 (fun c_9 => ?_) (fun c_9 => ?_)
      · have h9 := h9.1 c_9
        refine r_iconst (v := 0) d_Words_isWord_25 (by decide) ?_
        exact r_iret ⟨d_Words_isWord_26, _, rfl, rfl⟩ ⟨_, _, rfl, h9⟩
      · have h9 := h9.2 c_9
        refine r_iconst (v := 1) d_Words_isWord_21 (by decide) ?_
        refine r_goto d_Words_isWord_22 ?_
        exact r_iret ⟨d_Words_isWord_26, _, rfl, rfl⟩ ⟨_, _, rfl, h9⟩
theorem L_Words_turnOf_0 {xs : List Int32} {i0 : Int32} {M : Mem} {L : Int64} {Q : Option Value → Mem → Int64 → Prop} 
    (h : RX xs md_Peg_isWithin 0 [.int i0, .int 101, .int 116] [] M L (fun r M_1 L_2 => ∃ v_3 : Int32, r = some (.int v_3) ∧ ((v_3 = 0 → RX xs md_Peg_isWithin 0 [.int i0, .int 201, .int 216] [] M_1 L_2 (fun r M_5 L_6 => ∃ v_7 : Int32, r = some (.int v_7) ∧ ((v_7 = 0 → ((i0 = 300 → Q (some (.int 16)) M_5 L_6) ∧ (¬ (i0 = 300) → Q (some (.int 0)) M_5 L_6))) ∧ (¬ (v_7 = 0) → Q (some (.int (200 - i0))) M_5 L_6)))) ∧ (¬ (v_3 = 0) → Q (some (.int (i0 - 100))) M_1 L_2)))) : RX xs md_Words_turnOf 0 [.int i0] [] M L Q := by
  refine r_iload_n d_Words_turnOf_0 rfl ?_
  refine r_bipush (v := 101) d_Words_turnOf_1 (by decide) ?_
  refine r_bipush (v := 116) d_Words_turnOf_3 (by decide) ?_
  refine x_callS (as := [.int i0, .int 101, .int 116]) (st := []) d_Words_turnOf_5 ml_Words_46 mc_Peg_isWithin ms_Peg_isWithin ⟨by decide, by decide⟩ rfl (Nat.le_of_ble_eq_true rfl) (Nat.le_of_ble_eq_true rfl) h ?_
  rintro _ M_1 L_2 ⟨v_3, rfl, h9⟩
  refine r_if_eq d_Words_turnOf_8 (fun c_4 => ?_) (fun c_4 => ?_)
  · have h9 := h9.1 c_4
    refine r_iload_n d_Words_turnOf_16 rfl ?_
    refine r_sipush (v := 201) d_Words_turnOf_17 (by decide) ?_
    refine r_sipush (v := 216) d_Words_turnOf_20 (by decide) ?_
    refine x_callS (as := [.int i0, .int 201, .int 216]) (st := []) d_Words_turnOf_23 ml_Words_46 mc_Peg_isWithin ms_Peg_isWithin ⟨by decide, by decide⟩ rfl (Nat.le_of_ble_eq_true rfl) (Nat.le_of_ble_eq_true rfl) h9 ?_
    rintro _ M_5 L_6 ⟨v_7, rfl, h9⟩
    refine r_if_eq d_Words_turnOf_26 (fun c_8 => ?_) (fun c_8 => ?_)
    · have h9 := h9.1 c_8
      refine r_iload_n d_Words_turnOf_35 rfl ?_
      refine r_sipush (v := 300) d_Words_turnOf_36 (by decide) ?_
      refine r_ic_ne d_Words_turnOf_39 (fun c_9 => ?_) (fun c_9 => ?_)
      · have h9 := h9.2 c_9
        refine r_iconst (v := 0) d_Words_turnOf_47 (by decide) ?_
        exact r_iret ⟨d_Words_turnOf_48, _, rfl, rfl⟩ ⟨_, _, rfl, h9⟩
      · have h9 := h9.1 c_9
        refine r_bipush (v := 16) d_Words_turnOf_42 (by decide) ?_
        refine r_goto d_Words_turnOf_44 ?_
        exact r_iret ⟨d_Words_turnOf_48, _, rfl, rfl⟩ ⟨_, _, rfl, h9⟩
    · have h9 := h9.2 c_8
      refine r_sipush (v := 200) d_Words_turnOf_29 (by decide) ?_
      refine r_iload_n d_Words_turnOf_32 rfl ?_
      refine r_isub d_Words_turnOf_33 ?_
      exact r_iret ⟨d_Words_turnOf_34, _, rfl, rfl⟩ ⟨_, _, rfl, h9⟩
  · have h9 := h9.2 c_4
    refine r_iload_n d_Words_turnOf_11 rfl ?_
    refine r_bipush (v := 100) d_Words_turnOf_12 (by decide) ?_
    refine r_isub d_Words_turnOf_14 ?_
    exact r_iret ⟨d_Words_turnOf_15, _, rfl, rfl⟩ ⟨_, _, rfl, h9⟩
theorem L_Words_meaning_0 {xs : List Int32}  {M : Mem} {L : Int64} {Q : Option Value → Mem → Int64 → Prop} 
    (h : RX xs md_Words_meaning 9 [.ref 1, .int 0, .int ((M 1 2) - 1), .null] [] M L Q) : RX xs md_Words_meaning 0 [.ref 1, .null, .null, .null] [] M L Q := by
  refine r_iconst (v := 0) d_Words_meaning_0 (by decide) ?_
  refine r_istore_n d_Words_meaning_1 (by decide) ?_
  refine r_aload_n d_Words_meaning_2 rfl ?_
  refine x_getI d_Words_meaning_3 fl_Words_18 gI_1_2 ?_
  refine r_iconst (v := 1) d_Words_meaning_6 (by decide) ?_
  refine r_isub d_Words_meaning_7 ?_
  refine r_istore_n d_Words_meaning_8 (by decide) ?_
  exact h
theorem L_Words_meaning_9 {xs : List Int32} {i1 : Int32} {i2 : Int32} {M : Mem} {L : Int64} {Q : Option Value → Mem → Int64 → Prop} 
    (h : ((i2 < 0 → Q (some (.int (M 3 0))) M L) ∧ (¬ (i2 < 0) → (vp_in i2 24 ∧ RX xs md_Compass_isPoint 0 [.int (M 2 i2.toNatClampNeg)] [] M L (fun r M_3 L_4 => ∃ v_5 : Int32, r = some (.int v_5) ∧ ((v_5 = 0 → (((M 2 i2.toNatClampNeg) = 301 → ((i1 < 2 → ((i1 < 1 → RX xs md_Words_meaning 9 [.ref 1, .int i1, .int (i2 + (-1)), .null] [] M_3 L_4 Q) ∧ (¬ (i1 < 1) → (vp_in (i1 - 1) 24 ∧ RX xs md_Words_turnOf 0 [.int (M 2 i2.toNatClampNeg)] [] M_3 L_4 (fun r M_19 L_20 => ∃ v_21 : Int32, r = some (.int v_21) ∧ RX xs md_Compass_turned 0 [.int (M_3 3 (i1 - 1).toNatClampNeg), .int v_21] [] M_19 L_20 (fun r M_22 L_23 => ∃ v_24 : Int32, r = some (.int v_24) ∧ RX xs md_Words_meaning 9 [.ref 1, .int i1, .int (i2 + (-1)), .null] [] (up M_22 3 (i1 - 1).toNatClampNeg v_24) L_23 Q)))))) ∧ (¬ (i1 < 2) → (vp_in (i1 + (-1)) 24 ∧ (vp_in ((i1 + (-1)) - 1) 24 ∧ RX xs md_Words_halfway 0 [.int (M_3 3 (i1 + (-1)).toNatClampNeg), .int (M_3 3 ((i1 + (-1)) - 1).toNatClampNeg)] [] M_3 L_4 (fun r M_27 L_28 => ∃ v_29 : Int32, r = some (.int v_29) ∧ RX xs md_Words_meaning 9 [.ref 1, .int (i1 + (-1)), .int (i2 + (-1)), .null] [] (up M_27 3 ((i1 + (-1)) - 1).toNatClampNeg v_29) L_28 Q)))))) ∧ (¬ ((M 2 i2.toNatClampNeg) = 301) → ((i1 < 1 → RX xs md_Words_meaning 9 [.ref 1, .int i1, .int (i2 + (-1)), .null] [] M_3 L_4 Q) ∧ (¬ (i1 < 1) → (vp_in (i1 - 1) 24 ∧ RX xs md_Words_turnOf 0 [.int (M 2 i2.toNatClampNeg)] [] M_3 L_4 (fun r M_10 L_11 => ∃ v_12 : Int32, r = some (.int v_12) ∧ RX xs md_Compass_turned 0 [.int (M_3 3 (i1 - 1).toNatClampNeg), .int v_12] [] M_10 L_11 (fun r M_13 L_14 => ∃ v_15 : Int32, r = some (.int v_15) ∧ RX xs md_Words_meaning 9 [.ref 1, .int i1, .int (i2 + (-1)), .null] [] (up M_13 3 (i1 - 1).toNatClampNeg v_15) L_14 Q)))))))) ∧ (¬ (v_5 = 0) → (vp_in i1 24 ∧ RX xs md_Words_meaning 9 [.ref 1, .int (i1 + 1), .int (i2 + (-1)), .null] [] (up M_3 3 i1.toNatClampNeg (M 2 i2.toNatClampNeg)) L_4 Q)))))))) : RX xs md_Words_meaning 9 [.ref 1, .int i1, .int i2, .null] [] M L Q := by
  refine r_iload_n d_Words_meaning_9 rfl ?_
  refine r_if_lt d_Words_meaning_10 (fun c_1 => ?_) (fun c_1 => ?_)
  · have h9 := h.1 c_1
    refine r_aload_n d_Words_meaning_117 rfl ?_
    refine x_getR d_Words_meaning_118 fl_Words_15 gR_1_1 ?_
    refine r_iconst (v := 0) d_Words_meaning_121 (by decide) ?_
    refine x_iald d_Words_meaning_122 aI_3 (by decide) ?_
    exact r_iret ⟨d_Words_meaning_123, _, rfl, rfl⟩ ⟨_, _, rfl, h9⟩
  · have h9 := h.2 c_1
    refine r_aload_n d_Words_meaning_13 rfl ?_
    refine x_getR d_Words_meaning_14 fl_Words_11 gR_1_0 ?_
    refine r_iload_n d_Words_meaning_17 rfl ?_
    obtain ⟨o_2, h9⟩ := h9
    refine x_iald d_Words_meaning_18 aI_2 o_2 ?_
    refine r_istore_n d_Words_meaning_19 (by decide) ?_
    refine r_iload_n d_Words_meaning_20 rfl ?_
    refine x_callS (as := [.int (M 2 i2.toNatClampNeg)]) (st := []) d_Words_meaning_21 ml_Words_26 mc_Compass_isPoint ms_Compass_isPoint ⟨by decide, by decide⟩ rfl (Nat.le_of_ble_eq_true rfl) (Nat.le_of_ble_eq_true rfl) h9 ?_
    rintro _ M_3 L_4 ⟨v_5, rfl, h9⟩
    refine r_if_eq d_Words_meaning_24 (fun c_6 => ?_) (fun c_6 => ?_)
    · have h9 := h9.1 c_6
      refine r_iload_n d_Words_meaning_40 rfl ?_
      refine r_sipush (v := 301) d_Words_meaning_41 (by decide) ?_
      refine r_ic_ne d_Words_meaning_44 (fun c_7 => ?_) (fun c_7 => ?_)
      · have h9 := h9.2 c_7
        refine r_iload_n d_Words_meaning_83 rfl ?_
        refine r_iconst (v := 1) d_Words_meaning_84 (by decide) ?_
        refine r_ic_lt d_Words_meaning_85 (fun c_8 => ?_) (fun c_8 => ?_)
        · have h9 := h9.1 c_8
          refine r_iinc (v := i2 + (-1)) d_Words_meaning_111 rfl rfl (by decide) ?_
          refine r_goto d_Words_meaning_114 ?_
          refine r_weak (lv' := [.ref 1, .int i1, .int (i2 + (-1)), .null]) (by repeat (first | exact trivial | refine ⟨rfl, ?_⟩ | exact lle_nil)) ?_
          exact h9
        · have h9 := h9.2 c_8
          refine r_aload_n d_Words_meaning_88 rfl ?_
          refine x_getR d_Words_meaning_89 fl_Words_15 gR_1_1 ?_
          refine r_iload_n d_Words_meaning_92 rfl ?_
          refine r_iconst (v := 1) d_Words_meaning_93 (by decide) ?_
          refine r_isub d_Words_meaning_94 ?_
          refine r_aload_n d_Words_meaning_95 rfl ?_
          refine x_getR d_Words_meaning_96 fl_Words_15 gR_1_1 ?_
          refine r_iload_n d_Words_meaning_99 rfl ?_
          refine r_iconst (v := 1) d_Words_meaning_100 (by decide) ?_
          refine r_isub d_Words_meaning_101 ?_
          obtain ⟨o_9, h9⟩ := h9
          refine x_iald d_Words_meaning_102 aI_3 o_9 ?_
          refine r_iload_n d_Words_meaning_103 rfl ?_
          refine x_callS (as := [.int (M 2 i2.toNatClampNeg)]) (st := [.int (M_3 3 (i1 - 1).toNatClampNeg), .int (i1 - 1), .ref 3]) d_Words_meaning_104 ml_Words_35 mc_Words_turnOf ms_Words_turnOf ⟨by decide, by decide⟩ rfl (Nat.le_of_ble_eq_true rfl) (Nat.le_of_ble_eq_true rfl) h9 ?_
          rintro _ M_10 L_11 ⟨v_12, rfl, h9⟩
          refine x_callS (as := [.int (M_3 3 (i1 - 1).toNatClampNeg), .int v_12]) (st := [.int (i1 - 1), .ref 3]) d_Words_meaning_107 ml_Words_39 mc_Compass_turned ms_Compass_turned ⟨by decide, by decide⟩ rfl (Nat.le_of_ble_eq_true rfl) (Nat.le_of_ble_eq_true rfl) h9 ?_
          rintro _ M_13 L_14 ⟨v_15, rfl, h9⟩
          refine x_iast d_Words_meaning_110 aI_3 o_9 ?_
          refine r_iinc (v := i2 + (-1)) d_Words_meaning_111 rfl rfl (by decide) ?_
          refine r_goto d_Words_meaning_114 ?_
          refine r_weak (lv' := [.ref 1, .int i1, .int (i2 + (-1)), .null]) (by repeat (first | exact trivial | refine ⟨rfl, ?_⟩ | exact lle_nil)) ?_
          exact h9
      · have h9 := h9.1 c_7
        refine r_iload_n d_Words_meaning_47 rfl ?_
        refine r_iconst (v := 2) d_Words_meaning_48 (by decide) ?_
        refine r_ic_lt d_Words_meaning_49 (fun c_16 => ?_) (fun c_16 => ?_)
        · have h9 := h9.1 c_16
          refine r_iload_n d_Words_meaning_83 rfl ?_
          refine r_iconst (v := 1) d_Words_meaning_84 (by decide) ?_
          refine r_ic_lt d_Words_meaning_85 (fun c_17 => ?_) (fun c_17 => ?_)
          · have h9 := h9.1 c_17
            refine r_iinc (v := i2 + (-1)) d_Words_meaning_111 rfl rfl (by decide) ?_
            refine r_goto d_Words_meaning_114 ?_
            refine r_weak (lv' := [.ref 1, .int i1, .int (i2 + (-1)), .null]) (by repeat (first | exact trivial | refine ⟨rfl, ?_⟩ | exact lle_nil)) ?_
            exact h9
          · have h9 := h9.2 c_17
            refine r_aload_n d_Words_meaning_88 rfl ?_
            refine x_getR d_Words_meaning_89 fl_Words_15 gR_1_1 ?_
            refine r_iload_n d_Words_meaning_92 rfl ?_
            refine r_iconst (v := 1) d_Words_meaning_93 (by decide) ?_
            refine r_isub d_Words_meaning_94 ?_
            refine r_aload_n d_Words_meaning_95 rfl ?_
            refine x_getR d_Words_meaning_96 fl_Words_15 gR_1_1 ?_
            refine r_iload_n d_Words_meaning_99 rfl ?_
            refine r_iconst (v := 1) d_Words_meaning_100 (by decide) ?_
            refine r_isub d_Words_meaning_101 ?_
            obtain ⟨o_18, h9⟩ := h9
            refine x_iald d_Words_meaning_102 aI_3 o_18 ?_
            refine r_iload_n d_Words_meaning_103 rfl ?_
            refine x_callS (as := [.int (M 2 i2.toNatClampNeg)]) (st := [.int (M_3 3 (i1 - 1).toNatClampNeg), .int (i1 - 1), .ref 3]) d_Words_meaning_104 ml_Words_35 mc_Words_turnOf ms_Words_turnOf ⟨by decide, by decide⟩ rfl (Nat.le_of_ble_eq_true rfl) (Nat.le_of_ble_eq_true rfl) h9 ?_
            rintro _ M_19 L_20 ⟨v_21, rfl, h9⟩
            refine x_callS (as := [.int (M_3 3 (i1 - 1).toNatClampNeg), .int v_21]) (st := [.int (i1 - 1), .ref 3]) d_Words_meaning_107 ml_Words_39 mc_Compass_turned ms_Compass_turned ⟨by decide, by decide⟩ rfl (Nat.le_of_ble_eq_true rfl) (Nat.le_of_ble_eq_true rfl) h9 ?_
            rintro _ M_22 L_23 ⟨v_24, rfl, h9⟩
            refine x_iast d_Words_meaning_110 aI_3 o_18 ?_
            refine r_iinc (v := i2 + (-1)) d_Words_meaning_111 rfl rfl (by decide) ?_
            refine r_goto d_Words_meaning_114 ?_
            refine r_weak (lv' := [.ref 1, .int i1, .int (i2 + (-1)), .null]) (by repeat (first | exact trivial | refine ⟨rfl, ?_⟩ | exact lle_nil)) ?_
            exact h9
        · have h9 := h9.2 c_16
          refine r_iinc (v := i1 + (-1)) d_Words_meaning_52 rfl rfl (by decide) ?_
          refine r_aload_n d_Words_meaning_55 rfl ?_
          refine x_getR d_Words_meaning_56 fl_Words_15 gR_1_1 ?_
          refine r_iload_n d_Words_meaning_59 rfl ?_
          refine r_iconst (v := 1) d_Words_meaning_60 (by decide) ?_
          refine r_isub d_Words_meaning_61 ?_
          refine r_aload_n d_Words_meaning_62 rfl ?_
          refine x_getR d_Words_meaning_63 fl_Words_15 gR_1_1 ?_
          refine r_iload_n d_Words_meaning_66 rfl ?_
          obtain ⟨o_25, h9⟩ := h9
          refine x_iald d_Words_meaning_67 aI_3 o_25 ?_
          refine r_aload_n d_Words_meaning_68 rfl ?_
          refine x_getR d_Words_meaning_69 fl_Words_15 gR_1_1 ?_
          refine r_iload_n d_Words_meaning_72 rfl ?_
          refine r_iconst (v := 1) d_Words_meaning_73 (by decide) ?_
          refine r_isub d_Words_meaning_74 ?_
          obtain ⟨o_26, h9⟩ := h9
          refine x_iald d_Words_meaning_75 aI_3 o_26 ?_
          refine x_callS (as := [.int (M_3 3 (i1 + (-1)).toNatClampNeg), .int (M_3 3 ((i1 + (-1)) - 1).toNatClampNeg)]) (st := [.int ((i1 + (-1)) - 1), .ref 3]) d_Words_meaning_76 ml_Words_31 mc_Words_halfway ms_Words_halfway ⟨by decide, by decide⟩ rfl (Nat.le_of_ble_eq_true rfl) (Nat.le_of_ble_eq_true rfl) h9 ?_
          rintro _ M_27 L_28 ⟨v_29, rfl, h9⟩
          refine x_iast d_Words_meaning_79 aI_3 o_26 ?_
          refine r_goto d_Words_meaning_80 ?_
          refine r_iinc (v := i2 + (-1)) d_Words_meaning_111 rfl rfl (by decide) ?_
          refine r_goto d_Words_meaning_114 ?_
          refine r_weak (lv' := [.ref 1, .int (i1 + (-1)), .int (i2 + (-1)), .null]) (by repeat (first | exact trivial | refine ⟨rfl, ?_⟩ | exact lle_nil)) ?_
          exact h9
    · have h9 := h9.2 c_6
      refine r_aload_n d_Words_meaning_27 rfl ?_
      refine x_getR d_Words_meaning_28 fl_Words_15 gR_1_1 ?_
      refine r_iload_n d_Words_meaning_31 rfl ?_
      refine r_iload_n d_Words_meaning_32 rfl ?_
      obtain ⟨o_30, h9⟩ := h9
      refine x_iast d_Words_meaning_33 aI_3 o_30 ?_
      refine r_iinc (v := i1 + 1) d_Words_meaning_34 rfl rfl (by decide) ?_
      refine r_goto d_Words_meaning_37 ?_
      refine r_iinc (v := i2 + (-1)) d_Words_meaning_111 rfl rfl (by decide) ?_
      refine r_goto d_Words_meaning_114 ?_
      refine r_weak (lv' := [.ref 1, .int (i1 + 1), .int (i2 + (-1)), .null]) (by repeat (first | exact trivial | refine ⟨rfl, ?_⟩ | exact lle_nil)) ?_
      exact h9
theorem L_Words_halfway_0 {xs : List Int32} {i0 : Int32} {i1 : Int32} {M : Mem} {L : Int64} {Q : Option Value → Mem → Int64 → Prop} 
    (h : RX xs md_Compass_turnsBetween 0 [.int i0, .int i1] [] M L (fun r M_1 L_2 => ∃ v_3 : Int32, r = some (.int v_3) ∧ RX xs md_Compass_turned 0 [.int i0, .int (v_3 / 2)] [] M_1 L_2 (fun r M_4 L_5 => ∃ v_6 : Int32, r = some (.int v_6) ∧ Q (some (.int v_6)) M_4 L_5))) : RX xs md_Words_halfway 0 [.int i0, .int i1] [] M L Q := by
  refine r_iload_n d_Words_halfway_0 rfl ?_
  refine r_iload_n d_Words_halfway_1 rfl ?_
  refine r_iload_n d_Words_halfway_2 rfl ?_
  refine x_callS (as := [.int i0, .int i1]) (st := [.int i0]) d_Words_halfway_3 ml_Words_50 mc_Compass_turnsBetween ms_Compass_turnsBetween ⟨by decide, by decide⟩ rfl (Nat.le_of_ble_eq_true rfl) (Nat.le_of_ble_eq_true rfl) h ?_
  rintro _ M_1 L_2 ⟨v_3, rfl, h9⟩
  refine r_iconst (v := 2) d_Words_halfway_6 (by decide) ?_
  refine r_idiv d_Words_halfway_7 (by decide) ?_
  refine x_callS (as := [.int i0, .int (v_3 / 2)]) (st := []) d_Words_halfway_8 ml_Words_39 mc_Compass_turned ms_Compass_turned ⟨by decide, by decide⟩ rfl (Nat.le_of_ble_eq_true rfl) (Nat.le_of_ble_eq_true rfl) h9 ?_
  rintro _ M_4 L_5 ⟨v_6, rfl, h9⟩
  exact r_iret ⟨d_Words_halfway_11, _, rfl, rfl⟩ ⟨_, _, rfl, h9⟩
theorem L_Compass_pointsFarther_0 {xs : List Int32} {i0 : Int32} {i1 : Int32} {i2 : Int32} {M : Mem} {L : Int64} {Q : Option Value → Mem → Int64 → Prop} 
    (h : ((i2 = 0 → Q (some (.int 0)) M L) ∧ (¬ (i2 = 0) → RX xs md_Compass_angle 0 [.int i0, .int i1] [] M L (fun r M_2 L_3 => ∃ v_4 : Int32, r = some (.int v_4) ∧ ((6 ≤ v_4 → ((8 ≤ v_4 → ((12 ≤ v_4 → Q (some (.int 0)) M_2 L_3) ∧ (¬ (12 ≤ v_4) → Q (some (.int (2 - i2))) M_2 L_3))) ∧ (¬ (8 ≤ v_4) → Q (some (.int (3 - i2))) M_2 L_3))) ∧ (¬ (6 ≤ v_4) → Q (some (.int (-1))) M_2 L_3)))))) : RX xs md_Compass_pointsFarther 0 [.int i0, .int i1, .int i2, .null] [] M L Q := by
  refine r_iload_n d_Compass_pointsFarther_0 rfl ?_
  refine r_if_ne d_Compass_pointsFarther_1 (fun c_1 => ?_) (fun c_1 => ?_)
  · have h9 := h.2 c_1
    refine r_iload_n d_Compass_pointsFarther_6 rfl ?_
    refine r_iload_n d_Compass_pointsFarther_7 rfl ?_
    refine x_callS (as := [.int i0, .int i1]) (st := []) d_Compass_pointsFarther_8 ml_Compass_20 mc_Compass_angle ms_Compass_angle ⟨by decide, by decide⟩ rfl (Nat.le_of_ble_eq_true rfl) (Nat.le_of_ble_eq_true rfl) h9 ?_
    rintro _ M_2 L_3 ⟨v_4, rfl, h9⟩
    refine r_istore_n d_Compass_pointsFarther_11 (by decide) ?_
    refine r_iload_n d_Compass_pointsFarther_12 rfl ?_
    refine r_bipush (v := 6) d_Compass_pointsFarther_13 (by decide) ?_
    refine r_ic_ge d_Compass_pointsFarther_15 (fun c_5 => ?_) (fun c_5 => ?_)
    · have h9 := h9.1 c_5
      refine r_iload_n d_Compass_pointsFarther_20 rfl ?_
      refine r_bipush (v := 8) d_Compass_pointsFarther_21 (by decide) ?_
      refine r_ic_ge d_Compass_pointsFarther_23 (fun c_6 => ?_) (fun c_6 => ?_)
      · have h9 := h9.1 c_6
        refine r_iload_n d_Compass_pointsFarther_30 rfl ?_
        refine r_bipush (v := 12) d_Compass_pointsFarther_31 (by decide) ?_
        refine r_ic_ge d_Compass_pointsFarther_33 (fun c_7 => ?_) (fun c_7 => ?_)
        · have h9 := h9.1 c_7
          refine r_iconst (v := 0) d_Compass_pointsFarther_42 (by decide) ?_
          exact r_iret ⟨d_Compass_pointsFarther_43, _, rfl, rfl⟩ ⟨_, _, rfl, h9⟩
        · have h9 := h9.2 c_7
          refine r_iconst (v := 2) d_Compass_pointsFarther_36 (by decide) ?_
          refine r_iload_n d_Compass_pointsFarther_37 rfl ?_
          refine r_isub d_Compass_pointsFarther_38 ?_
          refine r_goto d_Compass_pointsFarther_39 ?_
          exact r_iret ⟨d_Compass_pointsFarther_43, _, rfl, rfl⟩ ⟨_, _, rfl, h9⟩
      · have h9 := h9.2 c_6
        refine r_iconst (v := 3) d_Compass_pointsFarther_26 (by decide) ?_
        refine r_iload_n d_Compass_pointsFarther_27 rfl ?_
        refine r_isub d_Compass_pointsFarther_28 ?_
        exact r_iret ⟨d_Compass_pointsFarther_29, _, rfl, rfl⟩ ⟨_, _, rfl, h9⟩
    · have h9 := h9.2 c_5
      refine r_iconst (v := (-1)) d_Compass_pointsFarther_18 (by decide) ?_
      exact r_iret ⟨d_Compass_pointsFarther_19, _, rfl, rfl⟩ ⟨_, _, rfl, h9⟩
  · have h9 := h.1 c_1
    refine r_iconst (v := 0) d_Compass_pointsFarther_4 (by decide) ?_
    exact r_iret ⟨d_Compass_pointsFarther_5, _, rfl, rfl⟩ ⟨_, _, rfl, h9⟩
theorem L_JMath_floorDiv_0 {xs : List Int32} {i0 : Int32} {i1 : Int32} {M : Mem} {L : Int64} {Q : Option Value → Mem → Int64 → Prop} 
    (h : (¬ i1 = 0 ∧ ((0 ≤ (i0 ^^^ i1) → Q (some (.int (i0 / i1))) M L) ∧ (¬ (0 ≤ (i0 ^^^ i1)) → ((((i0 / i1) * i1) = i0 → Q (some (.int (i0 / i1))) M L) ∧ (¬ (((i0 / i1) * i1) = i0) → Q (some (.int ((i0 / i1) - 1))) M L)))))) : RX xs md_JMath_floorDiv 0 [.int i0, .int i1, .null] [] M L Q := by
  refine r_iload_n d_JMath_floorDiv_0 rfl ?_
  refine r_iload_n d_JMath_floorDiv_1 rfl ?_
  obtain ⟨o_1, h9⟩ := h
  refine r_idiv d_JMath_floorDiv_2 o_1 ?_
  refine r_istore_n d_JMath_floorDiv_3 (by decide) ?_
  refine r_iload_n d_JMath_floorDiv_4 rfl ?_
  refine r_iload_n d_JMath_floorDiv_5 rfl ?_
  refine r_ixor d_JMath_floorDiv_6 ?_
  refine r_if_ge d_JMath_floorDiv_7 (fun c_2 => ?_) (fun c_2 => ?_)
  · have h9 := h9.1 c_2
    refine r_iload_n d_JMath_floorDiv_21 rfl ?_
    exact r_iret ⟨d_JMath_floorDiv_22, _, rfl, rfl⟩ ⟨_, _, rfl, h9⟩
  · have h9 := h9.2 c_2
    refine r_iload_n d_JMath_floorDiv_10 rfl ?_
    refine r_iload_n d_JMath_floorDiv_11 rfl ?_
    refine r_imul d_JMath_floorDiv_12 ?_
    refine r_iload_n d_JMath_floorDiv_13 rfl ?_
    refine r_ic_eq d_JMath_floorDiv_14 (fun c_3 => ?_) (fun c_3 => ?_)
    · have h9 := h9.1 c_3
      refine r_iload_n d_JMath_floorDiv_21 rfl ?_
      exact r_iret ⟨d_JMath_floorDiv_22, _, rfl, rfl⟩ ⟨_, _, rfl, h9⟩
    · have h9 := h9.2 c_3
      refine r_iload_n d_JMath_floorDiv_17 rfl ?_
      refine r_iconst (v := 1) d_JMath_floorDiv_18 (by decide) ?_
      refine r_isub d_JMath_floorDiv_19 ?_
      exact r_iret ⟨d_JMath_floorDiv_20, _, rfl, rfl⟩ ⟨_, _, rfl, h9⟩
theorem L_Patch_holds_0 {xs : List Int32} {p0 : Nat} {i1 : Int32} {i2 : Int32} {M : Mem} {L : Int64} {Q : Option Value → Mem → Int64 → Prop} (hp0 : isP p0)
    (h : RX xs md_Peg_isWithin 0 [.int i2, .int 0, .int 19] [] M L (fun r M_1 L_2 => ∃ v_3 : Int32, r = some (.int v_3) ∧ ((v_3 = 0 → Q (some (.int 0)) M_1 L_2) ∧ (¬ (v_3 = 0) → RX xs md_Peg_isWithin 0 [.int i1, .int 0, .int 19] [] M_1 L_2 (fun r M_5 L_6 => ∃ v_7 : Int32, r = some (.int v_7) ∧ ((v_7 = 0 → Q (some (.int 0)) M_5 L_6) ∧ (¬ (v_7 = 0) → (vp_in i2 20 ∧ (((((M_5 (p0 + 1) i2.toNatClampNeg) >>> (i1 &&& 31)) &&& 1) = 1 → Q (some (.int 1)) M_5 L_6) ∧ (¬ ((((M_5 (p0 + 1) i2.toNatClampNeg) >>> (i1 &&& 31)) &&& 1) = 1) → Q (some (.int 0)) M_5 L_6)))))))))) : RX xs md_Patch_holds 0 [.ref p0, .int i1, .int i2] [] M L Q := by
  refine r_iload_n d_Patch_holds_0 rfl ?_
  refine r_iconst (v := 0) d_Patch_holds_1 (by decide) ?_
  refine r_bipush (v := 19) d_Patch_holds_2 (by decide) ?_
  refine x_callS (as := [.int i2, .int 0, .int 19]) (st := []) d_Patch_holds_4 ml_Patch_33 mc_Peg_isWithin ms_Peg_isWithin ⟨by decide, by decide⟩ rfl (Nat.le_of_ble_eq_true rfl) (Nat.le_of_ble_eq_true rfl) h ?_
  rintro _ M_1 L_2 ⟨v_3, rfl, h9⟩
  refine r_if_eq d_Patch_holds_7 (fun c_4 => ?_) (fun c_4 => ?_)
  · have h9 := h9.1 c_4
    refine r_iconst (v := 0) d_Patch_holds_38 (by decide) ?_
    exact r_iret ⟨d_Patch_holds_39, _, rfl, rfl⟩ ⟨_, _, rfl, h9⟩
  · have h9 := h9.2 c_4
    refine r_iload_n d_Patch_holds_10 rfl ?_
    refine r_iconst (v := 0) d_Patch_holds_11 (by decide) ?_
    refine r_bipush (v := 19) d_Patch_holds_12 (by decide) ?_
    refine x_callS (as := [.int i1, .int 0, .int 19]) (st := []) d_Patch_holds_14 ml_Patch_33 mc_Peg_isWithin ms_Peg_isWithin ⟨by decide, by decide⟩ rfl (Nat.le_of_ble_eq_true rfl) (Nat.le_of_ble_eq_true rfl) h9 ?_
    rintro _ M_5 L_6 ⟨v_7, rfl, h9⟩
    refine r_if_eq d_Patch_holds_17 (fun c_8 => ?_) (fun c_8 => ?_)
    · have h9 := h9.1 c_8
      refine r_iconst (v := 0) d_Patch_holds_38 (by decide) ?_
      exact r_iret ⟨d_Patch_holds_39, _, rfl, rfl⟩ ⟨_, _, rfl, h9⟩
    · have h9 := h9.2 c_8
      refine r_aload_n d_Patch_holds_20 rfl ?_
      refine x_getR d_Patch_holds_21 fl_Patch_9 (isP_R hp0) ?_
      refine r_iload_n d_Patch_holds_24 rfl ?_
      obtain ⟨o_9, h9⟩ := h9
      refine x_iald d_Patch_holds_25 (isP_A hp0) o_9 ?_
      refine r_iload_n d_Patch_holds_26 rfl ?_
      refine r_ishr d_Patch_holds_27 ?_
      refine r_iconst (v := 1) d_Patch_holds_28 (by decide) ?_
      refine r_iand d_Patch_holds_29 ?_
      refine r_iconst (v := 1) d_Patch_holds_30 (by decide) ?_
      refine r_ic_ne d_Patch_holds_31 (fun c_10 => ?_) (fun c_10 => ?_)
      · have h9 := h9.2 c_10
        refine r_iconst (v := 0) d_Patch_holds_38 (by decide) ?_
        exact r_iret ⟨d_Patch_holds_39, _, rfl, rfl⟩ ⟨_, _, rfl, h9⟩
      · have h9 := h9.1 c_10
        refine r_iconst (v := 1) d_Patch_holds_34 (by decide) ?_
        refine r_goto d_Patch_holds_35 ?_
        exact r_iret ⟨d_Patch_holds_39, _, rfl, rfl⟩ ⟨_, _, rfl, h9⟩
theorem L_Patch_cutTo_0 {xs : List Int32} {p0 : Nat} {p1 : Nat} {M : Mem} {L : Int64} {Q : Option Value → Mem → Int64 → Prop} (hp0 : isP p0) (hp1 : isP p1)
    (h : RX xs md_Patch_cutTo 2 [.ref p0, .ref p1, .int 0] [] M L Q) : RX xs md_Patch_cutTo 0 [.ref p0, .ref p1, .null] [] M L Q := by
  refine r_iconst (v := 0) d_Patch_cutTo_0 (by decide) ?_
  refine r_istore_n d_Patch_cutTo_1 (by decide) ?_
  exact h
theorem L_Patch_cutTo_2 {xs : List Int32} {p0 : Nat} {p1 : Nat} {i2 : Int32} {M : Mem} {L : Int64} {Q : Option Value → Mem → Int64 → Prop} (hp0 : isP p0) (hp1 : isP p1)
    (h : ((20 ≤ i2 → Q none M L) ∧ (¬ (20 ≤ i2) → (vp_in i2 20 ∧ RX xs md_Patch_cutTo 2 [.ref p0, .ref p1, .int (i2 + 1)] [] (up M (p0 + 1) i2.toNatClampNeg ((M (p0 + 1) i2.toNatClampNeg) &&& (M (p1 + 1) i2.toNatClampNeg))) L Q)))) : RX xs md_Patch_cutTo 2 [.ref p0, .ref p1, .int i2] [] M L Q := by
  refine r_iload_n d_Patch_cutTo_2 rfl ?_
  refine r_bipush (v := 20) d_Patch_cutTo_3 (by decide) ?_
  refine r_ic_ge d_Patch_cutTo_5 (fun c_1 => ?_) (fun c_1 => ?_)
  · have h9 := h.1 c_1
    exact r_vret ⟨d_Patch_cutTo_29, rfl⟩ ⟨M, L, rfl, h9⟩
  · have h9 := h.2 c_1
    refine r_aload_n d_Patch_cutTo_8 rfl ?_
    refine x_getR d_Patch_cutTo_9 fl_Patch_9 (isP_R hp0) ?_
    refine r_iload_n d_Patch_cutTo_12 rfl ?_
    refine r_dup2 d_Patch_cutTo_13 rfl rfl ?_
    obtain ⟨o_2, h9⟩ := h9
    refine x_iald d_Patch_cutTo_14 (isP_A hp0) o_2 ?_
    refine r_aload_n d_Patch_cutTo_15 rfl ?_
    refine x_getR d_Patch_cutTo_16 fl_Patch_9 (isP_R hp1) ?_
    refine r_iload_n d_Patch_cutTo_19 rfl ?_
    refine x_iald d_Patch_cutTo_20 (isP_A hp1) o_2 ?_
    refine r_iand d_Patch_cutTo_21 ?_
    refine x_iast d_Patch_cutTo_22 (isP_A hp0) o_2 ?_
    refine r_iinc (v := i2 + 1) d_Patch_cutTo_23 rfl rfl (by decide) ?_
    refine r_goto d_Patch_cutTo_26 ?_
    exact h9
theorem L_Patch_size_0 {xs : List Int32} {p0 : Nat} {M : Mem} {L : Int64} {Q : Option Value → Mem → Int64 → Prop} (hp0 : isP p0)
    (h : RX xs md_Patch_size 4 [.ref p0, .int 0, .int 0] [] M L Q) : RX xs md_Patch_size 0 [.ref p0, .null, .null] [] M L Q := by
  refine r_iconst (v := 0) d_Patch_size_0 (by decide) ?_
  refine r_istore_n d_Patch_size_1 (by decide) ?_
  refine r_iconst (v := 0) d_Patch_size_2 (by decide) ?_
  refine r_istore_n d_Patch_size_3 (by decide) ?_
  exact h
theorem L_Patch_size_4 {xs : List Int32} {p0 : Nat} {i1 : Int32} {i2 : Int32} {M : Mem} {L : Int64} {Q : Option Value → Mem → Int64 → Prop} (hp0 : isP p0)
    (h : ((20 ≤ i2 → Q (some (.int i1)) M L) ∧ (¬ (20 ≤ i2) → (vp_in i2 20 ∧ RX xs md_JInteger_bitCount 0 [.int (M (p0 + 1) i2.toNatClampNeg)] [] M L (fun r M_3 L_4 => ∃ v_5 : Int32, r = some (.int v_5) ∧ RX xs md_Patch_size 4 [.ref p0, .int (i1 + v_5), .int (i2 + 1)] [] M_3 L_4 Q))))) : RX xs md_Patch_size 4 [.ref p0, .int i1, .int i2] [] M L Q := by
  refine r_iload_n d_Patch_size_4 rfl ?_
  refine r_bipush (v := 20) d_Patch_size_5 (by decide) ?_
  refine r_ic_ge d_Patch_size_7 (fun c_1 => ?_) (fun c_1 => ?_)
  · have h9 := h.1 c_1
    refine r_iload_n d_Patch_size_28 rfl ?_
    exact r_iret ⟨d_Patch_size_29, _, rfl, rfl⟩ ⟨_, _, rfl, h9⟩
  · have h9 := h.2 c_1
    refine r_iload_n d_Patch_size_10 rfl ?_
    refine r_aload_n d_Patch_size_11 rfl ?_
    refine x_getR d_Patch_size_12 fl_Patch_9 (isP_R hp0) ?_
    refine r_iload_n d_Patch_size_15 rfl ?_
    obtain ⟨o_2, h9⟩ := h9
    refine x_iald d_Patch_size_16 (isP_A hp0) o_2 ?_
    refine x_callS (as := [.int (M (p0 + 1) i2.toNatClampNeg)]) (st := [.int i1]) d_Patch_size_17 ml_Patch_27 mc_JInteger_bitCount ms_JInteger_bitCount ⟨by decide, by decide⟩ rfl (Nat.le_of_ble_eq_true rfl) (Nat.le_of_ble_eq_true rfl) h9 ?_
    rintro _ M_3 L_4 ⟨v_5, rfl, h9⟩
    refine r_iadd d_Patch_size_20 ?_
    refine r_istore_n d_Patch_size_21 (by decide) ?_
    refine r_iinc (v := i2 + 1) d_Patch_size_22 rfl rfl (by decide) ?_
    refine r_goto d_Patch_size_25 ?_
    exact h9
theorem L_JInteger_bitCount_0 {xs : List Int32} {i0 : Int32} {M : Mem} {L : Int64} {Q : Option Value → Mem → Int64 → Prop} 
    (h : Q (some (.int ((((((((i0 - (((i0.toUInt32 >>> ((1 : Int32).toUInt32 &&& Int32.toUInt32 31)).toInt32) &&& 1431655765)) &&& 858993459) + ((((i0 - (((i0.toUInt32 >>> ((1 : Int32).toUInt32 &&& Int32.toUInt32 31)).toInt32) &&& 1431655765)).toUInt32 >>> ((2 : Int32).toUInt32 &&& Int32.toUInt32 31)).toInt32) &&& 858993459)) + (((((i0 - (((i0.toUInt32 >>> ((1 : Int32).toUInt32 &&& Int32.toUInt32 31)).toInt32) &&& 1431655765)) &&& 858993459) + ((((i0 - (((i0.toUInt32 >>> ((1 : Int32).toUInt32 &&& Int32.toUInt32 31)).toInt32) &&& 1431655765)).toUInt32 >>> ((2 : Int32).toUInt32 &&& Int32.toUInt32 31)).toInt32) &&& 858993459)).toUInt32 >>> ((4 : Int32).toUInt32 &&& Int32.toUInt32 31)).toInt32)) &&& 252645135) + (((((((i0 - (((i0.toUInt32 >>> ((1 : Int32).toUInt32 &&& Int32.toUInt32 31)).toInt32) &&& 1431655765)) &&& 858993459) + ((((i0 - (((i0.toUInt32 >>> ((1 : Int32).toUInt32 &&& Int32.toUInt32 31)).toInt32) &&& 1431655765)).toUInt32 >>> ((2 : Int32).toUInt32 &&& Int32.toUInt32 31)).toInt32) &&& 858993459)) + (((((i0 - (((i0.toUInt32 >>> ((1 : Int32).toUInt32 &&& Int32.toUInt32 31)).toInt32) &&& 1431655765)) &&& 858993459) + ((((i0 - (((i0.toUInt32 >>> ((1 : Int32).toUInt32 &&& Int32.toUInt32 31)).toInt32) &&& 1431655765)).toUInt32 >>> ((2 : Int32).toUInt32 &&& Int32.toUInt32 31)).toInt32) &&& 858993459)).toUInt32 >>> ((4 : Int32).toUInt32 &&& Int32.toUInt32 31)).toInt32)) &&& 252645135).toUInt32 >>> ((8 : Int32).toUInt32 &&& Int32.toUInt32 31)).toInt32)) + ((((((((i0 - (((i0.toUInt32 >>> ((1 : Int32).toUInt32 &&& Int32.toUInt32 31)).toInt32) &&& 1431655765)) &&& 858993459) + ((((i0 - (((i0.toUInt32 >>> ((1 : Int32).toUInt32 &&& Int32.toUInt32 31)).toInt32) &&& 1431655765)).toUInt32 >>> ((2 : Int32).toUInt32 &&& Int32.toUInt32 31)).toInt32) &&& 858993459)) + (((((i0 - (((i0.toUInt32 >>> ((1 : Int32).toUInt32 &&& Int32.toUInt32 31)).toInt32) &&& 1431655765)) &&& 858993459) + ((((i0 - (((i0.toUInt32 >>> ((1 : Int32).toUInt32 &&& Int32.toUInt32 31)).toInt32) &&& 1431655765)).toUInt32 >>> ((2 : Int32).toUInt32 &&& Int32.toUInt32 31)).toInt32) &&& 858993459)).toUInt32 >>> ((4 : Int32).toUInt32 &&& Int32.toUInt32 31)).toInt32)) &&& 252645135) + (((((((i0 - (((i0.toUInt32 >>> ((1 : Int32).toUInt32 &&& Int32.toUInt32 31)).toInt32) &&& 1431655765)) &&& 858993459) + ((((i0 - (((i0.toUInt32 >>> ((1 : Int32).toUInt32 &&& Int32.toUInt32 31)).toInt32) &&& 1431655765)).toUInt32 >>> ((2 : Int32).toUInt32 &&& Int32.toUInt32 31)).toInt32) &&& 858993459)) + (((((i0 - (((i0.toUInt32 >>> ((1 : Int32).toUInt32 &&& Int32.toUInt32 31)).toInt32) &&& 1431655765)) &&& 858993459) + ((((i0 - (((i0.toUInt32 >>> ((1 : Int32).toUInt32 &&& Int32.toUInt32 31)).toInt32) &&& 1431655765)).toUInt32 >>> ((2 : Int32).toUInt32 &&& Int32.toUInt32 31)).toInt32) &&& 858993459)).toUInt32 >>> ((4 : Int32).toUInt32 &&& Int32.toUInt32 31)).toInt32)) &&& 252645135).toUInt32 >>> ((8 : Int32).toUInt32 &&& Int32.toUInt32 31)).toInt32)).toUInt32 >>> ((16 : Int32).toUInt32 &&& Int32.toUInt32 31)).toInt32)) &&& 63))) M L) : RX xs md_JInteger_bitCount 0 [.int i0] [] M L Q := by
  refine r_iload_n d_JInteger_bitCount_0 rfl ?_
  refine r_iload_n d_JInteger_bitCount_1 rfl ?_
  refine r_iconst (v := 1) d_JInteger_bitCount_2 (by decide) ?_
  refine r_iushr d_JInteger_bitCount_3 ?_
  refine r_ldcw (v := 1431655765) d_JInteger_bitCount_4 ck_JInteger_265 ?_
  refine r_iand d_JInteger_bitCount_7 ?_
  refine r_isub d_JInteger_bitCount_8 ?_
  refine r_istore_n d_JInteger_bitCount_9 (by decide) ?_
  refine r_iload_n d_JInteger_bitCount_10 rfl ?_
  refine r_ldcw (v := 858993459) d_JInteger_bitCount_11 ck_JInteger_266 ?_
  refine r_iand d_JInteger_bitCount_14 ?_
  refine r_iload_n d_JInteger_bitCount_15 rfl ?_
  refine r_iconst (v := 2) d_JInteger_bitCount_16 (by decide) ?_
  refine r_iushr d_JInteger_bitCount_17 ?_
  refine r_ldcw (v := 858993459) d_JInteger_bitCount_18 ck_JInteger_266 ?_
  refine r_iand d_JInteger_bitCount_21 ?_
  refine r_iadd d_JInteger_bitCount_22 ?_
  refine r_istore_n d_JInteger_bitCount_23 (by decide) ?_
  refine r_iload_n d_JInteger_bitCount_24 rfl ?_
  refine r_iload_n d_JInteger_bitCount_25 rfl ?_
  refine r_iconst (v := 4) d_JInteger_bitCount_26 (by decide) ?_
  refine r_iushr d_JInteger_bitCount_27 ?_
  refine r_iadd d_JInteger_bitCount_28 ?_
  refine r_ldcw (v := 252645135) d_JInteger_bitCount_29 ck_JInteger_267 ?_
  refine r_iand d_JInteger_bitCount_32 ?_
  refine r_istore_n d_JInteger_bitCount_33 (by decide) ?_
  refine r_iload_n d_JInteger_bitCount_34 rfl ?_
  refine r_iload_n d_JInteger_bitCount_35 rfl ?_
  refine r_bipush (v := 8) d_JInteger_bitCount_36 (by decide) ?_
  refine r_iushr d_JInteger_bitCount_38 ?_
  refine r_iadd d_JInteger_bitCount_39 ?_
  refine r_istore_n d_JInteger_bitCount_40 (by decide) ?_
  refine r_iload_n d_JInteger_bitCount_41 rfl ?_
  refine r_iload_n d_JInteger_bitCount_42 rfl ?_
  refine r_bipush (v := 16) d_JInteger_bitCount_43 (by decide) ?_
  refine r_iushr d_JInteger_bitCount_45 ?_
  refine r_iadd d_JInteger_bitCount_46 ?_
  refine r_istore_n d_JInteger_bitCount_47 (by decide) ?_
  refine r_iload_n d_JInteger_bitCount_48 rfl ?_
  refine r_bipush (v := 63) d_JInteger_bitCount_49 (by decide) ?_
  refine r_iand d_JInteger_bitCount_51 ?_
  exact r_iret ⟨d_JInteger_bitCount_52, _, rfl, rfl⟩ ⟨_, _, rfl, h⟩
theorem L_Row_isSign_0 {xs : List Int32} {i0 : Int32} {i1 : Int32} {i2 : Int32} {M : Mem} {L : Int64} {Q : Option Value → Mem → Int64 → Prop} 
    (h : RX xs md_Peg_isWithin 0 [.int i0, .int 0, .int 5] [] M L (fun r M_1 L_2 => ∃ v_3 : Int32, r = some (.int v_3) ∧ ((v_3 = 0 → Q (some (.int 0)) M_1 L_2) ∧ (¬ (v_3 = 0) → ((i0 = 2 → RX xs md_Row_needsFirst 0 [.int i0] [] M_1 L_2 (fun r M_6 L_7 => ∃ v_8 : Int32, r = some (.int v_8) ∧ ((v_8 = 0 → RX xs md_Row_needsSecond 0 [.int i0] [] M_6 L_7 (fun r M_10 L_11 => ∃ v_12 : Int32, r = some (.int v_12) ∧ ((v_12 = 0 → Q (some (.int 1)) M_10 L_11) ∧ (¬ (v_12 = 0) → RX xs md_Peg_isWithin 0 [.int i2, .int i1, .int 8] [] M_10 L_11 (fun r M_14 L_15 => ∃ v_16 : Int32, r = some (.int v_16) ∧ ((v_16 = 0 → Q (some (.int 0)) M_14 L_15) ∧ (¬ (v_16 = 0) → Q (some (.int 1)) M_14 L_15))))))) ∧ (¬ (v_8 = 0) → RX xs md_Peg_isWithin 0 [.int i1, .int 0, .int 8] [] M_6 L_7 (fun r M_18 L_19 => ∃ v_20 : Int32, r = some (.int v_20) ∧ ((v_20 = 0 → Q (some (.int 0)) M_18 L_19) ∧ (¬ (v_20 = 0) → RX xs md_Row_needsSecond 0 [.int i0] [] M_18 L_19 (fun r M_22 L_23 => ∃ v_24 : Int32, r = some (.int v_24) ∧ ((v_24 = 0 → Q (some (.int 1)) M_22 L_23) ∧ (¬ (v_24 = 0) → RX xs md_Peg_isWithin 0 [.int i2, .int i1, .int 8] [] M_22 L_23 (fun r M_26 L_27 => ∃ v_28 : Int32, r = some (.int v_28) ∧ ((v_28 = 0 → Q (some (.int 0)) M_26 L_27) ∧ (¬ (v_28 = 0) → Q (some (.int 1)) M_26 L_27))))))))))))) ∧ (¬ (i0 = 2) → ((i0 = 5 → RX xs md_Row_needsFirst 0 [.int i0] [] M_1 L_2 (fun r M_55 L_56 => ∃ v_57 : Int32, r = some (.int v_57) ∧ ((v_57 = 0 → RX xs md_Row_needsSecond 0 [.int i0] [] M_55 L_56 (fun r M_59 L_60 => ∃ v_61 : Int32, r = some (.int v_61) ∧ ((v_61 = 0 → Q (some (.int 1)) M_59 L_60) ∧ (¬ (v_61 = 0) → RX xs md_Peg_isWithin 0 [.int i2, .int i1, .int 8] [] M_59 L_60 (fun r M_63 L_64 => ∃ v_65 : Int32, r = some (.int v_65) ∧ ((v_65 = 0 → Q (some (.int 0)) M_63 L_64) ∧ (¬ (v_65 = 0) → Q (some (.int 1)) M_63 L_64))))))) ∧ (¬ (v_57 = 0) → RX xs md_Peg_isWithin 0 [.int i1, .int 0, .int 8] [] M_55 L_56 (fun r M_67 L_68 => ∃ v_69 : Int32, r = some (.int v_69) ∧ ((v_69 = 0 → Q (some (.int 0)) M_67 L_68) ∧ (¬ (v_69 = 0) → RX xs md_Row_needsSecond 0 [.int i0] [] M_67 L_68 (fun r M_71 L_72 => ∃ v_73 : Int32, r = some (.int v_73) ∧ ((v_73 = 0 → Q (some (.int 1)) M_71 L_72) ∧ (¬ (v_73 = 0) → RX xs md_Peg_isWithin 0 [.int i2, .int i1, .int 8] [] M_71 L_72 (fun r M_75 L_76 => ∃ v_77 : Int32, r = some (.int v_77) ∧ ((v_77 = 0 → Q (some (.int 0)) M_75 L_76) ∧ (¬ (v_77 = 0) → Q (some (.int 1)) M_75 L_76))))))))))))) ∧ (¬ (i0 = 5) → RX xs md_Row_needsFirst 0 [.int i0] [] M_1 L_2 (fun r M_31 L_32 => ∃ v_33 : Int32, r = some (.int v_33) ∧ ((v_33 = 0 → RX xs md_Row_needsSecond 0 [.int i0] [] M_31 L_32 (fun r M_35 L_36 => ∃ v_37 : Int32, r = some (.int v_37) ∧ ((v_37 = 0 → Q (some (.int 1)) M_35 L_36) ∧ (¬ (v_37 = 0) → RX xs md_Peg_isWithin 0 [.int i2, .int i1, .int 99] [] M_35 L_36 (fun r M_39 L_40 => ∃ v_41 : Int32, r = some (.int v_41) ∧ ((v_41 = 0 → Q (some (.int 0)) M_39 L_40) ∧ (¬ (v_41 = 0) → Q (some (.int 1)) M_39 L_40))))))) ∧ (¬ (v_33 = 0) → RX xs md_Peg_isWithin 0 [.int i1, .int 0, .int 99] [] M_31 L_32 (fun r M_43 L_44 => ∃ v_45 : Int32, r = some (.int v_45) ∧ ((v_45 = 0 → Q (some (.int 0)) M_43 L_44) ∧ (¬ (v_45 = 0) → RX xs md_Row_needsSecond 0 [.int i0] [] M_43 L_44 (fun r M_47 L_48 => ∃ v_49 : Int32, r = some (.int v_49) ∧ ((v_49 = 0 → Q (some (.int 1)) M_47 L_48) ∧ (¬ (v_49 = 0) → RX xs md_Peg_isWithin 0 [.int i2, .int i1, .int 99] [] M_47 L_48 (fun r M_51 L_52 => ∃ v_53 : Int32, r = some (.int v_53) ∧ ((v_53 = 0 → Q (some (.int 0)) M_51 L_52) ∧ (¬ (v_53 = 0) → Q (some (.int 1)) M_51 L_52)))))))))))))))))))) : RX xs md_Row_isSign 0 [.int i0, .int i1, .int i2, .null] [] M L Q := by
  refine r_iload_n d_Row_isSign_0 rfl ?_
  refine r_iconst (v := 0) d_Row_isSign_1 (by decide) ?_
  refine r_iconst (v := 5) d_Row_isSign_2 (by decide) ?_
  refine x_callS (as := [.int i0, .int 0, .int 5]) (st := []) d_Row_isSign_3 ml_Row_32 mc_Peg_isWithin ms_Peg_isWithin ⟨by decide, by decide⟩ rfl (Nat.le_of_ble_eq_true rfl) (Nat.le_of_ble_eq_true rfl) h ?_
  rintro _ M_1 L_2 ⟨v_3, rfl, h9⟩
  refine r_if_ne d_Row_isSign_6 (fun c_4 => ?_) (fun c_4 => ?_)
  · have h9 := h9.2 c_4
    refine r_iload_n d_Row_isSign_11 rfl ?_
    refine r_iconst (v := 2) d_Row_isSign_12 (by decide) ?_
    refine r_ic_eq d_Row_isSign_13 (fun c_5 => ?_) (fun c_5 => ?_)
    · have h9 := h9.1 c_5
      refine r_bipush (v := 8) d_Row_isSign_21 (by decide) ?_
      refine r_goto d_Row_isSign_23 ?_
      refine r_istore_n d_Row_isSign_28 (by decide) ?_
      refine r_iload_n d_Row_isSign_29 rfl ?_
      refine x_callS (as := [.int i0]) (st := []) d_Row_isSign_30 ml_Row_38 mc_Row_needsFirst ms_Row_needsFirst ⟨by decide, by decide⟩ rfl (Nat.le_of_ble_eq_true rfl) (Nat.le_of_ble_eq_true rfl) h9 ?_
      rintro _ M_6 L_7 ⟨v_8, rfl, h9⟩
      refine r_if_eq d_Row_isSign_33 (fun c_9 => ?_) (fun c_9 => ?_)
      · have h9 := h9.1 c_9
        refine r_iload_n d_Row_isSign_47 rfl ?_
        refine x_callS (as := [.int i0]) (st := []) d_Row_isSign_48 ml_Row_42 mc_Row_needsSecond ms_Row_needsSecond ⟨by decide, by decide⟩ rfl (Nat.le_of_ble_eq_true rfl) (Nat.le_of_ble_eq_true rfl) h9 ?_
        rintro _ M_10 L_11 ⟨v_12, rfl, h9⟩
        refine r_if_eq d_Row_isSign_51 (fun c_13 => ?_) (fun c_13 => ?_)
        · have h9 := h9.1 c_13
          refine r_iconst (v := 1) d_Row_isSign_63 (by decide) ?_
          refine r_goto d_Row_isSign_64 ?_
          exact r_iret ⟨d_Row_isSign_68, _, rfl, rfl⟩ ⟨_, _, rfl, h9⟩
        · have h9 := h9.2 c_13
          refine r_iload_n d_Row_isSign_54 rfl ?_
          refine r_iload_n d_Row_isSign_55 rfl ?_
          refine r_iload_n d_Row_isSign_56 rfl ?_
          refine x_callS (as := [.int i2, .int i1, .int 8]) (st := []) d_Row_isSign_57 ml_Row_32 mc_Peg_isWithin ms_Peg_isWithin ⟨by decide, by decide⟩ rfl (Nat.le_of_ble_eq_true rfl) (Nat.le_of_ble_eq_true rfl) h9 ?_
          rintro _ M_14 L_15 ⟨v_16, rfl, h9⟩
          refine r_if_eq d_Row_isSign_60 (fun c_17 => ?_) (fun c_17 => ?_)
          · have h9 := h9.1 c_17
            refine r_iconst (v := 0) d_Row_isSign_67 (by decide) ?_
            exact r_iret ⟨d_Row_isSign_68, _, rfl, rfl⟩ ⟨_, _, rfl, h9⟩
          · have h9 := h9.2 c_17
            refine r_iconst (v := 1) d_Row_isSign_63 (by decide) ?_
            refine r_goto d_Row_isSign_64 ?_
            exact r_iret ⟨d_Row_isSign_68, _, rfl, rfl⟩ ⟨_, _, rfl, h9⟩
      · have h9 := h9.2 c_9
        refine r_iload_n d_Row_isSign_36 rfl ?_
        refine r_iconst (v := 0) d_Row_isSign_37 (by decide) ?_
        refine r_iload_n d_Row_isSign_38 rfl ?_
        refine x_callS (as := [.int i1, .int 0, .int 8]) (st := []) d_Row_isSign_39 ml_Row_32 mc_Peg_isWithin ms_Peg_isWithin ⟨by decide, by decide⟩ rfl (Nat.le_of_ble_eq_true rfl) (Nat.le_of_ble_eq_true rfl) h9 ?_
        rintro _ M_18 L_19 ⟨v_20, rfl, h9⟩
        refine r_if_ne d_Row_isSign_42 (fun c_21 => ?_) (fun c_21 => ?_)
        · have h9 := h9.2 c_21
          refine r_iload_n d_Row_isSign_47 rfl ?_
          refine x_callS (as := [.int i0]) (st := []) d_Row_isSign_48 ml_Row_42 mc_Row_needsSecond ms_Row_needsSecond ⟨by decide, by decide⟩ rfl (Nat.le_of_ble_eq_true rfl) (Nat.le_of_ble_eq_true rfl) h9 ?_
          rintro _ M_22 L_23 ⟨v_24, rfl, h9⟩
          refine r_if_eq d_Row_isSign_51 (fun c_25 => ?_) (fun c_25 => ?_)
          · have h9 := h9.1 c_25
            refine r_iconst (v := 1) d_Row_isSign_63 (by decide) ?_
            refine r_goto d_Row_isSign_64 ?_
            exact r_iret ⟨d_Row_isSign_68, _, rfl, rfl⟩ ⟨_, _, rfl, h9⟩
          · have h9 := h9.2 c_25
            refine r_iload_n d_Row_isSign_54 rfl ?_
            refine r_iload_n d_Row_isSign_55 rfl ?_
            refine r_iload_n d_Row_isSign_56 rfl ?_
            refine x_callS (as := [.int i2, .int i1, .int 8]) (st := []) d_Row_isSign_57 ml_Row_32 mc_Peg_isWithin ms_Peg_isWithin ⟨by decide, by decide⟩ rfl (Nat.le_of_ble_eq_true rfl) (Nat.le_of_ble_eq_true rfl) h9 ?_
            rintro _ M_26 L_27 ⟨v_28, rfl, h9⟩
            refine r_if_eq d_Row_isSign_60 (fun c_29 => ?_) (fun c_29 => ?_)
            · have h9 := h9.1 c_29
              refine r_iconst (v := 0) d_Row_isSign_67 (by decide) ?_
              exact r_iret ⟨d_Row_isSign_68, _, rfl, rfl⟩ ⟨_, _, rfl, h9⟩
            · have h9 := h9.2 c_29
              refine r_iconst (v := 1) d_Row_isSign_63 (by decide) ?_
              refine r_goto d_Row_isSign_64 ?_
              exact r_iret ⟨d_Row_isSign_68, _, rfl, rfl⟩ ⟨_, _, rfl, h9⟩
        · have h9 := h9.1 c_21
          refine r_iconst (v := 0) d_Row_isSign_45 (by decide) ?_
          exact r_iret ⟨d_Row_isSign_46, _, rfl, rfl⟩ ⟨_, _, rfl, h9⟩
    · have h9 := h9.2 c_5
      refine r_iload_n d_Row_isSign_16 rfl ?_
      refine r_iconst (v := 5) d_Row_isSign_17 (by decide) ?_
      refine r_ic_ne d_Row_isSign_18 (fun c_30 => ?_) (fun c_30 => ?_)
      · have h9 := h9.2 c_30
        refine r_bipush (v := 99) d_Row_isSign_26 (by decide) ?_
        refine r_istore_n d_Row_isSign_28 (by decide) ?_
        refine r_iload_n d_Row_isSign_29 rfl ?_
        refine x_callS (as := [.int i0]) (st := []) d_Row_isSign_30 ml_Row_38 mc_Row_needsFirst ms_Row_needsFirst ⟨by decide, by decide⟩ rfl (Nat.le_of_ble_eq_true rfl) (Nat.le_of_ble_eq_true rfl) h9 ?_
        rintro _ M_31 L_32 ⟨v_33, rfl, h9⟩
        refine r_if_eq d_Row_isSign_33 (fun c_34 => ?_) (fun c_34 => ?_)
        · have h9 := h9.1 c_34
          refine r_iload_n d_Row_isSign_47 rfl ?_
          refine x_callS (as := [.int i0]) (st := []) d_Row_isSign_48 ml_Row_42 mc_Row_needsSecond ms_Row_needsSecond ⟨by decide, by decide⟩ rfl (Nat.le_of_ble_eq_true rfl) (Nat.le_of_ble_eq_true rfl) h9 ?_
          rintro _ M_35 L_36 ⟨v_37, rfl, h9⟩
          refine r_if_eq d_Row_isSign_51 (fun c_38 => ?_) (fun c_38 => ?_)
          · have h9 := h9.1 c_38
            refine r_iconst (v := 1) d_Row_isSign_63 (by decide) ?_
            refine r_goto d_Row_isSign_64 ?_
            exact r_iret ⟨d_Row_isSign_68, _, rfl, rfl⟩ ⟨_, _, rfl, h9⟩
          · have h9 := h9.2 c_38
            refine r_iload_n d_Row_isSign_54 rfl ?_
            refine r_iload_n d_Row_isSign_55 rfl ?_
            refine r_iload_n d_Row_isSign_56 rfl ?_
            refine x_callS (as := [.int i2, .int i1, .int 99]) (st := []) d_Row_isSign_57 ml_Row_32 mc_Peg_isWithin ms_Peg_isWithin ⟨by decide, by decide⟩ rfl (Nat.le_of_ble_eq_true rfl) (Nat.le_of_ble_eq_true rfl) h9 ?_
            rintro _ M_39 L_40 ⟨v_41, rfl, h9⟩
            refine r_if_eq d_Row_isSign_60 (fun c_42 => ?_) (fun c_42 => ?_)
            · have h9 := h9.1 c_42
              refine r_iconst (v := 0) d_Row_isSign_67 (by decide) ?_
              exact r_iret ⟨d_Row_isSign_68, _, rfl, rfl⟩ ⟨_, _, rfl, h9⟩
            · have h9 := h9.2 c_42
              refine r_iconst (v := 1) d_Row_isSign_63 (by decide) ?_
              refine r_goto d_Row_isSign_64 ?_
              exact r_iret ⟨d_Row_isSign_68, _, rfl, rfl⟩ ⟨_, _, rfl, h9⟩
        · have h9 := h9.2 c_34
          refine r_iload_n d_Row_isSign_36 rfl ?_
          refine r_iconst (v := 0) d_Row_isSign_37 (by decide) ?_
          refine r_iload_n d_Row_isSign_38 rfl ?_
          refine x_callS (as := [.int i1, .int 0, .int 99]) (st := []) d_Row_isSign_39 ml_Row_32 mc_Peg_isWithin ms_Peg_isWithin ⟨by decide, by decide⟩ rfl (Nat.le_of_ble_eq_true rfl) (Nat.le_of_ble_eq_true rfl) h9 ?_
          rintro _ M_43 L_44 ⟨v_45, rfl, h9⟩
          refine r_if_ne d_Row_isSign_42 (fun c_46 => ?_) (fun c_46 => ?_)
          · have h9 := h9.2 c_46
            refine r_iload_n d_Row_isSign_47 rfl ?_
            refine x_callS (as := [.int i0]) (st := []) d_Row_isSign_48 ml_Row_42 mc_Row_needsSecond ms_Row_needsSecond ⟨by decide, by decide⟩ rfl (Nat.le_of_ble_eq_true rfl) (Nat.le_of_ble_eq_true rfl) h9 ?_
            rintro _ M_47 L_48 ⟨v_49, rfl, h9⟩
            refine r_if_eq d_Row_isSign_51 (fun c_50 => ?_) (fun c_50 => ?_)
            · have h9 := h9.1 c_50
              refine r_iconst (v := 1) d_Row_isSign_63 (by decide) ?_
              refine r_goto d_Row_isSign_64 ?_
              exact r_iret ⟨d_Row_isSign_68, _, rfl, rfl⟩ ⟨_, _, rfl, h9⟩
            · have h9 := h9.2 c_50
              refine r_iload_n d_Row_isSign_54 rfl ?_
              refine r_iload_n d_Row_isSign_55 rfl ?_
              refine r_iload_n d_Row_isSign_56 rfl ?_
              refine x_callS (as := [.int i2, .int i1, .int 99]) (st := []) d_Row_isSign_57 ml_Row_32 mc_Peg_isWithin ms_Peg_isWithin ⟨by decide, by decide⟩ rfl (Nat.le_of_ble_eq_true rfl) (Nat.le_of_ble_eq_true rfl) h9 ?_
              rintro _ M_51 L_52 ⟨v_53, rfl, h9⟩
              refine r_if_eq d_Row_isSign_60 (fun c_54 => ?_) (fun c_54 => ?_)
              · have h9 := h9.1 c_54
                refine r_iconst (v := 0) d_Row_isSign_67 (by decide) ?_
                exact r_iret ⟨d_Row_isSign_68, _, rfl, rfl⟩ ⟨_, _, rfl, h9⟩
              · have h9 := h9.2 c_54
                refine r_iconst (v := 1) d_Row_isSign_63 (by decide) ?_
                refine r_goto d_Row_isSign_64 ?_
                exact r_iret ⟨d_Row_isSign_68, _, rfl, rfl⟩ ⟨_, _, rfl, h9⟩
          · have h9 := h9.1 c_46
            refine r_iconst (v := 0) d_Row_isSign_45 (by decide) ?_
            exact r_iret ⟨d_Row_isSign_46, _, rfl, rfl⟩ ⟨_, _, rfl, h9⟩
      · have h9 := h9.1 c_30
        refine r_bipush (v := 8) d_Row_isSign_21 (by decide) ?_
        refine r_goto d_Row_isSign_23 ?_
        refine r_istore_n d_Row_isSign_28 (by decide) ?_
        refine r_iload_n d_Row_isSign_29 rfl ?_
        refine x_callS (as := [.int i0]) (st := []) d_Row_isSign_30 ml_Row_38 mc_Row_needsFirst ms_Row_needsFirst ⟨by decide, by decide⟩ rfl (Nat.le_of_ble_eq_true rfl) (Nat.le_of_ble_eq_true rfl) h9 ?_
        rintro _ M_55 L_56 ⟨v_57, rfl, h9⟩
        refine r_if_eq d_Row_isSign_33 (fun c_58 => ?_) (fun c_58 => ?_)
        · have h9 := h9.1 c_58
          refine r_iload_n d_Row_isSign_47 rfl ?_
          refine x_callS (as := [.int i0]) (st := []) d_Row_isSign_48 ml_Row_42 mc_Row_needsSecond ms_Row_needsSecond ⟨by decide, by decide⟩ rfl (Nat.le_of_ble_eq_true rfl) (Nat.le_of_ble_eq_true rfl) h9 ?_
          rintro _ M_59 L_60 ⟨v_61, rfl, h9⟩
          refine r_if_eq d_Row_isSign_51 (fun c_62 => ?_) (fun c_62 => ?_)
          · have h9 := h9.1 c_62
            refine r_iconst (v := 1) d_Row_isSign_63 (by decide) ?_
            refine r_goto d_Row_isSign_64 ?_
            exact r_iret ⟨d_Row_isSign_68, _, rfl, rfl⟩ ⟨_, _, rfl, h9⟩
          · have h9 := h9.2 c_62
            refine r_iload_n d_Row_isSign_54 rfl ?_
            refine r_iload_n d_Row_isSign_55 rfl ?_
            refine r_iload_n d_Row_isSign_56 rfl ?_
            refine x_callS (as := [.int i2, .int i1, .int 8]) (st := []) d_Row_isSign_57 ml_Row_32 mc_Peg_isWithin ms_Peg_isWithin ⟨by decide, by decide⟩ rfl (Nat.le_of_ble_eq_true rfl) (Nat.le_of_ble_eq_true rfl) h9 ?_
            rintro _ M_63 L_64 ⟨v_65, rfl, h9⟩
            refine r_if_eq d_Row_isSign_60 (fun c_66 => ?_) (fun c_66 => ?_)
            · have h9 := h9.1 c_66
              refine r_iconst (v := 0) d_Row_isSign_67 (by decide) ?_
              exact r_iret ⟨d_Row_isSign_68, _, rfl, rfl⟩ ⟨_, _, rfl, h9⟩
            · have h9 := h9.2 c_66
              refine r_iconst (v := 1) d_Row_isSign_63 (by decide) ?_
              refine r_goto d_Row_isSign_64 ?_
              exact r_iret ⟨d_Row_isSign_68, _, rfl, rfl⟩ ⟨_, _, rfl, h9⟩
        · have h9 := h9.2 c_58
          refine r_iload_n d_Row_isSign_36 rfl ?_
          refine r_iconst (v := 0) d_Row_isSign_37 (by decide) ?_
          refine r_iload_n d_Row_isSign_38 rfl ?_
          refine x_callS (as := [.int i1, .int 0, .int 8]) (st := []) d_Row_isSign_39 ml_Row_32 mc_Peg_isWithin ms_Peg_isWithin ⟨by decide, by decide⟩ rfl (Nat.le_of_ble_eq_true rfl) (Nat.le_of_ble_eq_true rfl) h9 ?_
          rintro _ M_67 L_68 ⟨v_69, rfl, h9⟩
          refine r_if_ne d_Row_isSign_42 (fun c_70 => ?_) (fun c_70 => ?_)
          · have h9 := h9.2 c_70
            refine r_iload_n d_Row_isSign_47 rfl ?_
            refine x_callS (as := [.int i0]) (st := []) d_Row_isSign_48 ml_Row_42 mc_Row_needsSecond ms_Row_needsSecond ⟨by decide, by decide⟩ rfl (Nat.le_of_ble_eq_true rfl) (Nat.le_of_ble_eq_true rfl) h9 ?_
            rintro _ M_71 L_72 ⟨v_73, rfl, h9⟩
            refine r_if_eq d_Row_isSign_51 (fun c_74 => ?_) (fun c_74 => ?_)
            · have h9 := h9.1 c_74
              refine r_iconst (v := 1) d_Row_isSign_63 (by decide) ?_
              refine r_goto d_Row_isSign_64 ?_
              exact r_iret ⟨d_Row_isSign_68, _, rfl, rfl⟩ ⟨_, _, rfl, h9⟩
            · have h9 := h9.2 c_74
              refine r_iload_n d_Row_isSign_54 rfl ?_
              refine r_iload_n d_Row_isSign_55 rfl ?_
              refine r_iload_n d_Row_isSign_56 rfl ?_
              refine x_callS (as := [.int i2, .int i1, .int 8]) (st := []) d_Row_isSign_57 ml_Row_32 mc_Peg_isWithin ms_Peg_isWithin ⟨by decide, by decide⟩ rfl (Nat.le_of_ble_eq_true rfl) (Nat.le_of_ble_eq_true rfl) h9 ?_
              rintro _ M_75 L_76 ⟨v_77, rfl, h9⟩
              refine r_if_eq d_Row_isSign_60 (fun c_78 => ?_) (fun c_78 => ?_)
              · have h9 := h9.1 c_78
                refine r_iconst (v := 0) d_Row_isSign_67 (by decide) ?_
                exact r_iret ⟨d_Row_isSign_68, _, rfl, rfl⟩ ⟨_, _, rfl, h9⟩
              · have h9 := h9.2 c_78
                refine r_iconst (v := 1) d_Row_isSign_63 (by decide) ?_
                refine r_goto d_Row_isSign_64 ?_
                exact r_iret ⟨d_Row_isSign_68, _, rfl, rfl⟩ ⟨_, _, rfl, h9⟩
          · have h9 := h9.1 c_70
            refine r_iconst (v := 0) d_Row_isSign_45 (by decide) ?_
            exact r_iret ⟨d_Row_isSign_46, _, rfl, rfl⟩ ⟨_, _, rfl, h9⟩
  · have h9 := h9.1 c_4
    refine r_iconst (v := 0) d_Row_isSign_9 (by decide) ?_
    exact r_iret ⟨d_Row_isSign_10, _, rfl, rfl⟩ ⟨_, _, rfl, h9⟩
theorem L_Row_needsFirst_0 {xs : List Int32} {i0 : Int32} {M : Mem} {L : Int64} {Q : Option Value → Mem → Int64 → Prop} 
    (h : ((i0 = 3 → Q (some (.int 0)) M L) ∧ (¬ (i0 = 3) → Q (some (.int 1)) M L))) : RX xs md_Row_needsFirst 0 [.int i0] [] M L Q := by
  refine r_iload_n d_Row_needsFirst_0 rfl ?_
  refine r_iconst (v := 3) d_Row_needsFirst_1 (by decide) ?_
  refine r_ic_eq d_Row_needsFirst_2 (fun c_1 => ?_) (fun c_1 => ?_)
  · have h9 := h.1 c_1
    refine r_iconst (v := 0) d_Row_needsFirst_9 (by decide) ?_
    exact r_iret ⟨d_Row_needsFirst_10, _, rfl, rfl⟩ ⟨_, _, rfl, h9⟩
  · have h9 := h.2 c_1
    refine r_iconst (v := 1) d_Row_needsFirst_5 (by decide) ?_
    refine r_goto d_Row_needsFirst_6 ?_
    exact r_iret ⟨d_Row_needsFirst_10, _, rfl, rfl⟩ ⟨_, _, rfl, h9⟩
theorem L_Row_needsSecond_0 {xs : List Int32} {i0 : Int32} {M : Mem} {L : Int64} {Q : Option Value → Mem → Int64 → Prop} 
    (h : ((i0 = 0 → Q (some (.int 1)) M L) ∧ (¬ (i0 = 0) → ((i0 = 4 → Q (some (.int 1)) M L) ∧ (¬ (i0 = 4) → Q (some (.int 0)) M L))))) : RX xs md_Row_needsSecond 0 [.int i0] [] M L Q := by
  refine r_iload_n d_Row_needsSecond_0 rfl ?_
  refine r_if_eq d_Row_needsSecond_1 (fun c_1 => ?_) (fun c_1 => ?_)
  · have h9 := h.1 c_1
    refine r_iconst (v := 1) d_Row_needsSecond_9 (by decide) ?_
    refine r_goto d_Row_needsSecond_10 ?_
    exact r_iret ⟨d_Row_needsSecond_14, _, rfl, rfl⟩ ⟨_, _, rfl, h9⟩
  · have h9 := h.2 c_1
    refine r_iload_n d_Row_needsSecond_4 rfl ?_
    refine r_iconst (v := 4) d_Row_needsSecond_5 (by decide) ?_
    refine r_ic_ne d_Row_needsSecond_6 (fun c_2 => ?_) (fun c_2 => ?_)
    · have h9 := h9.2 c_2
      refine r_iconst (v := 0) d_Row_needsSecond_13 (by decide) ?_
      exact r_iret ⟨d_Row_needsSecond_14, _, rfl, rfl⟩ ⟨_, _, rfl, h9⟩
    · have h9 := h9.1 c_2
      refine r_iconst (v := 1) d_Row_needsSecond_9 (by decide) ?_
      refine r_goto d_Row_needsSecond_10 ?_
      exact r_iret ⟨d_Row_needsSecond_14, _, rfl, rfl⟩ ⟨_, _, rfl, h9⟩
theorem L_Row_fact_0 {xs : List Int32} {t0 : Nat} {i1 : Int32} {M : Mem} {L : Int64} {Q : Option Value → Mem → Int64 → Prop} (ht0 : t0 < 40)
    (h : ((i1 = 0 ∧ Q (some (.int (M (136 + 5 * t0) 3))) M L) ∨ (i1 = 1 ∧ Q (some (.int (M (136 + 5 * t0) 4))) M L) ∨ (i1 = 2 ∧ Q (some (.int (M (136 + 5 * t0) 5))) M L) ∨ (i1 = 3 ∧ Q (some (.int (M (136 + 5 * t0) 6))) M L) ∨ ((i1 < 0 ∨ 3 < i1) ∧ RX xs md_Peg_asNumber 0 [.int (M (136 + 5 * t0) 7)] [] M L (fun r M_1 L_2 => ∃ v_3 : Int32, r = some (.int v_3) ∧ Q (some (.int v_3)) M_1 L_2)))) : RX xs md_Row_fact 0 [.ref (136 + 5 * t0), .int i1] [] M L Q := by
  refine r_iload_n d_Row_fact_0 rfl ?_
  rcases h with h9 | h9 | h9 | h9 | h9
  · obtain ⟨c9, h9⟩ := h9
    refine r_switch (tgt := 32) ⟨_, _, _, _, _, d_Row_fact_1, Or.inr ⟨by rw [c9]; decide, by rw [c9]; decide, 31, by rw [c9]; rfl, by decide⟩⟩ ?_
    refine r_aload_n d_Row_fact_32 rfl ?_
    refine x_getI d_Row_fact_33 fl_Row_45 (rw_I ht0 3 (by decide) (by decide)) ?_
    exact r_iret ⟨d_Row_fact_36, _, rfl, rfl⟩ ⟨_, _, rfl, h9⟩
  · obtain ⟨c9, h9⟩ := h9
    refine r_switch (tgt := 37) ⟨_, _, _, _, _, d_Row_fact_1, Or.inr ⟨by rw [c9]; decide, by rw [c9]; decide, 36, by rw [c9]; rfl, by decide⟩⟩ ?_
    refine r_aload_n d_Row_fact_37 rfl ?_
    refine x_getI d_Row_fact_38 fl_Row_49 (rw_I ht0 4 (by decide) (by decide)) ?_
    exact r_iret ⟨d_Row_fact_41, _, rfl, rfl⟩ ⟨_, _, rfl, h9⟩
  · obtain ⟨c9, h9⟩ := h9
    refine r_switch (tgt := 42) ⟨_, _, _, _, _, d_Row_fact_1, Or.inr ⟨by rw [c9]; decide, by rw [c9]; decide, 41, by rw [c9]; rfl, by decide⟩⟩ ?_
    refine r_aload_n d_Row_fact_42 rfl ?_
    refine x_getI d_Row_fact_43 fl_Row_52 (rw_I ht0 5 (by decide) (by decide)) ?_
    exact r_iret ⟨d_Row_fact_46, _, rfl, rfl⟩ ⟨_, _, rfl, h9⟩
  · obtain ⟨c9, h9⟩ := h9
    refine r_switch (tgt := 47) ⟨_, _, _, _, _, d_Row_fact_1, Or.inr ⟨by rw [c9]; decide, by rw [c9]; decide, 46, by rw [c9]; rfl, by decide⟩⟩ ?_
    refine r_aload_n d_Row_fact_47 rfl ?_
    refine x_getI d_Row_fact_48 fl_Row_55 (rw_I ht0 6 (by decide) (by decide)) ?_
    exact r_iret ⟨d_Row_fact_51, _, rfl, rfl⟩ ⟨_, _, rfl, h9⟩
  · obtain ⟨c9, h9⟩ := h9
    refine r_switch (tgt := 52) ⟨_, _, _, _, _, d_Row_fact_1, Or.inl ⟨sw_out c9 (by decide) (by decide), by decide⟩⟩ ?_
    refine r_aload_n d_Row_fact_52 rfl ?_
    refine x_getI d_Row_fact_53 fl_Row_58 (rw_I ht0 7 (by decide) (by decide)) ?_
    refine x_callS (as := [.int (M (136 + 5 * t0) 7)]) (st := []) d_Row_fact_56 ml_Row_62 mc_Peg_asNumber ms_Peg_asNumber ⟨by decide, by decide⟩ rfl (Nat.le_of_ble_eq_true rfl) (Nat.le_of_ble_eq_true rfl) h9 ?_
    rintro _ M_1 L_2 ⟨v_3, rfl, h9⟩
    exact r_iret ⟨d_Row_fact_59, _, rfl, rfl⟩ ⟨_, _, rfl, h9⟩
theorem L_Row_isWatch_0 {xs : List Int32} {t0 : Nat} {M : Mem} {L : Int64} {Q : Option Value → Mem → Int64 → Prop} (ht0 : t0 < 40)
    (h : (((M (136 + 5 * t0) 3) = (-1) → Q (some (.int 0)) M L) ∧ (¬ ((M (136 + 5 * t0) 3) = (-1)) → Q (some (.int 1)) M L))) : RX xs md_Row_isWatch 0 [.ref (136 + 5 * t0)] [] M L Q := by
  refine r_aload_n d_Row_isWatch_0 rfl ?_
  refine x_getI d_Row_isWatch_1 fl_Row_45 (rw_I ht0 3 (by decide) (by decide)) ?_
  refine r_iconst (v := (-1)) d_Row_isWatch_4 (by decide) ?_
  refine r_ic_eq d_Row_isWatch_5 (fun c_1 => ?_) (fun c_1 => ?_)
  · have h9 := h.1 c_1
    refine r_iconst (v := 0) d_Row_isWatch_12 (by decide) ?_
    exact r_iret ⟨d_Row_isWatch_13, _, rfl, rfl⟩ ⟨_, _, rfl, h9⟩
  · have h9 := h.2 c_1
    refine r_iconst (v := 1) d_Row_isWatch_8 (by decide) ?_
    refine r_goto d_Row_isWatch_9 ?_
    exact r_iret ⟨d_Row_isWatch_13, _, rfl, rfl⟩ ⟨_, _, rfl, h9⟩
theorem L_Reach_cellsDown_0 {xs : List Int32} {i0 : Int32} {M : Mem} {L : Int64} {Q : Option Value → Mem → Int64 → Prop} 
    (h : RX xs md_JMath_floorDiv 0 [.int i0, .int 8000] [] M L (fun r M_1 L_2 => ∃ v_3 : Int32, r = some (.int v_3) ∧ Q (some (.int v_3)) M_1 L_2)) : RX xs md_Reach_cellsDown 0 [.int i0] [] M L Q := by
  refine r_iload_n d_Reach_cellsDown_0 rfl ?_
  refine r_sipush (v := 8000) d_Reach_cellsDown_1 (by decide) ?_
  refine x_callS (as := [.int i0, .int 8000]) (st := []) d_Reach_cellsDown_4 ml_Reach_24 mc_JMath_floorDiv ms_JMath_floorDiv ⟨by decide, by decide⟩ rfl (Nat.le_of_ble_eq_true rfl) (Nat.le_of_ble_eq_true rfl) h ?_
  rintro _ M_1 L_2 ⟨v_3, rfl, h9⟩
  exact r_iret ⟨d_Reach_cellsDown_7, _, rfl, rfl⟩ ⟨_, _, rfl, h9⟩
theorem L_Reach_cellsUp_0 {xs : List Int32} {i0 : Int32} {M : Mem} {L : Int64} {Q : Option Value → Mem → Int64 → Prop} 
    (h : RX xs md_JMath_floorDiv 0 [.int (-i0), .int 8000] [] M L (fun r M_1 L_2 => ∃ v_3 : Int32, r = some (.int v_3) ∧ Q (some (.int (-v_3))) M_1 L_2)) : RX xs md_Reach_cellsUp 0 [.int i0] [] M L Q := by
  refine r_iload_n d_Reach_cellsUp_0 rfl ?_
  refine r_ineg d_Reach_cellsUp_1 ?_
  refine r_sipush (v := 8000) d_Reach_cellsUp_2 (by decide) ?_
  refine x_callS (as := [.int (-i0), .int 8000]) (st := []) d_Reach_cellsUp_5 ml_Reach_24 mc_JMath_floorDiv ms_JMath_floorDiv ⟨by decide, by decide⟩ rfl (Nat.le_of_ble_eq_true rfl) (Nat.le_of_ble_eq_true rfl) h ?_
  rintro _ M_1 L_2 ⟨v_3, rfl, h9⟩
  refine r_ineg d_Reach_cellsUp_8 ?_
  exact r_iret ⟨d_Reach_cellsUp_9, _, rfl, rfl⟩ ⟨_, _, rfl, h9⟩
theorem L_Reach_become_0 {xs : List Int32} {p0 : Nat} {i1 : Int32} {i2 : Int32} {i3 : Int32} {i4 : Int32} {M : Mem} {L : Int64} {Q : Option Value → Mem → Int64 → Prop} (hp0 : isRe p0)
    (h : (((M p0 0) = i1 → (((M p0 1) = i2 → (((M p0 2) = i3 → (((M p0 3) = i4 → (((1 : Int32) = 0 → Q (some (.int 1)) (up (up (up (up M p0 0 i1) p0 1 i2) p0 2 i3) p0 3 i4) L) ∧ (¬ ((1 : Int32) = 0) → Q (some (.int 0)) (up (up (up (up M p0 0 i1) p0 1 i2) p0 2 i3) p0 3 i4) L))) ∧ (¬ ((M p0 3) = i4) → (((0 : Int32) = 0 → Q (some (.int 1)) (up (up (up (up M p0 0 i1) p0 1 i2) p0 2 i3) p0 3 i4) L) ∧ (¬ ((0 : Int32) = 0) → Q (some (.int 0)) (up (up (up (up M p0 0 i1) p0 1 i2) p0 2 i3) p0 3 i4) L))))) ∧ (¬ ((M p0 2) = i3) → (((0 : Int32) = 0 → Q (some (.int 1)) (up (up (up (up M p0 0 i1) p0 1 i2) p0 2 i3) p0 3 i4) L) ∧ (¬ ((0 : Int32) = 0) → Q (some (.int 0)) (up (up (up (up M p0 0 i1) p0 1 i2) p0 2 i3) p0 3 i4) L))))) ∧ (¬ ((M p0 1) = i2) → (((0 : Int32) = 0 → Q (some (.int 1)) (up (up (up (up M p0 0 i1) p0 1 i2) p0 2 i3) p0 3 i4) L) ∧ (¬ ((0 : Int32) = 0) → Q (some (.int 0)) (up (up (up (up M p0 0 i1) p0 1 i2) p0 2 i3) p0 3 i4) L))))) ∧ (¬ ((M p0 0) = i1) → (((0 : Int32) = 0 → Q (some (.int 1)) (up (up (up (up M p0 0 i1) p0 1 i2) p0 2 i3) p0 3 i4) L) ∧ (¬ ((0 : Int32) = 0) → Q (some (.int 0)) (up (up (up (up M p0 0 i1) p0 1 i2) p0 2 i3) p0 3 i4) L))))) : RX xs md_Reach_become 0 [.ref p0, .int i1, .int i2, .int i3, .int i4, .null] [] M L Q := by
  refine r_aload_n d_Reach_become_0 rfl ?_
  refine x_getI d_Reach_become_1 fl_Reach_7 (isRe_I hp0 0 (by decide)) ?_
  refine r_iload_n d_Reach_become_4 rfl ?_
  refine r_ic_ne d_Reach_become_5 (fun c_1 => ?_) (fun c_1 => ?_)
  · have h9 := h.2 c_1
    refine r_iconst (v := 0) d_Reach_become_37 (by decide) ?_
    refine r_istore d_Reach_become_38 (by decide) ?_
    refine r_aload_n d_Reach_become_40 rfl ?_
    refine r_iload_n d_Reach_become_41 rfl ?_
    refine x_putI d_Reach_become_42 fl_Reach_7 (fun r hr => by cases hr; rfl) (isRe_I hp0 0 (by decide)) (VOk_int _) ?_
    refine r_aload_n d_Reach_become_45 rfl ?_
    refine r_iload_n d_Reach_become_46 rfl ?_
    refine x_putI d_Reach_become_47 fl_Reach_13 (fun r hr => by cases hr; rfl) (isRe_I hp0 1 (by decide)) (VOk_int _) ?_
    refine r_aload_n d_Reach_become_50 rfl ?_
    refine r_iload_n d_Reach_become_51 rfl ?_
    refine x_putI d_Reach_become_52 fl_Reach_16 (fun r hr => by cases hr; rfl) (isRe_I hp0 2 (by decide)) (VOk_int _) ?_
    refine r_aload_n d_Reach_become_55 rfl ?_
    refine r_iload d_Reach_become_56 rfl ?_
    refine x_putI d_Reach_become_58 fl_Reach_19 (fun r hr => by cases hr; rfl) (isRe_I hp0 3 (by decide)) (VOk_int _) ?_
    refine r_iload d_Reach_become_61 rfl ?_
    refine r_if_ne d_Reach_become_63 (fun c_2 => ?_) (fun c_2 => ?_)
    · have h9 := h9.2 c_2
      refine r_iconst (v := 0) d_Reach_become_70 (by decide) ?_
      exact r_iret ⟨d_Reach_become_71, _, rfl, rfl⟩ ⟨_, _, rfl, h9⟩
    · have h9 := h9.1 c_2
      refine r_iconst (v := 1) d_Reach_become_66 (by decide) ?_
      refine r_goto d_Reach_become_67 ?_
      exact r_iret ⟨d_Reach_become_71, _, rfl, rfl⟩ ⟨_, _, rfl, h9⟩
  · have h9 := h.1 c_1
    refine r_aload_n d_Reach_become_8 rfl ?_
    refine x_getI d_Reach_become_9 fl_Reach_13 (isRe_I hp0 1 (by decide)) ?_
    refine r_iload_n d_Reach_become_12 rfl ?_
    refine r_ic_ne d_Reach_become_13 (fun c_3 => ?_) (fun c_3 => ?_)
    · have h9 := h9.2 c_3
      refine r_iconst (v := 0) d_Reach_become_37 (by decide) ?_
      refine r_istore d_Reach_become_38 (by decide) ?_
      refine r_aload_n d_Reach_become_40 rfl ?_
      refine r_iload_n d_Reach_become_41 rfl ?_
      refine x_putI d_Reach_become_42 fl_Reach_7 (fun r hr => by cases hr; rfl) (isRe_I hp0 0 (by decide)) (VOk_int _) ?_
      refine r_aload_n d_Reach_become_45 rfl ?_
      refine r_iload_n d_Reach_become_46 rfl ?_
      refine x_putI d_Reach_become_47 fl_Reach_13 (fun r hr => by cases hr; rfl) (isRe_I hp0 1 (by decide)) (VOk_int _) ?_
      refine r_aload_n d_Reach_become_50 rfl ?_
      refine r_iload_n d_Reach_become_51 rfl ?_
      refine x_putI d_Reach_become_52 fl_Reach_16 (fun r hr => by cases hr; rfl) (isRe_I hp0 2 (by decide)) (VOk_int _) ?_
      refine r_aload_n d_Reach_become_55 rfl ?_
      refine r_iload d_Reach_become_56 rfl ?_
      refine x_putI d_Reach_become_58 fl_Reach_19 (fun r hr => by cases hr; rfl) (isRe_I hp0 3 (by decide)) (VOk_int _) ?_
      refine r_iload d_Reach_become_61 rfl ?_
      refine r_if_ne d_Reach_become_63 (fun c_4 => ?_) (fun c_4 => ?_)
      · have h9 := h9.2 c_4
        refine r_iconst (v := 0) d_Reach_become_70 (by decide) ?_
        exact r_iret ⟨d_Reach_become_71, _, rfl, rfl⟩ ⟨_, _, rfl, h9⟩
      · have h9 := h9.1 c_4
        refine r_iconst (v := 1) d_Reach_become_66 (by decide) ?_
        refine r_goto d_Reach_become_67 ?_
        exact r_iret ⟨d_Reach_become_71, _, rfl, rfl⟩ ⟨_, _, rfl, h9⟩
    · have h9 := h9.1 c_3
      refine r_aload_n d_Reach_become_16 rfl ?_
      refine x_getI d_Reach_become_17 fl_Reach_16 (isRe_I hp0 2 (by decide)) ?_
      refine r_iload_n d_Reach_become_20 rfl ?_
      refine r_ic_ne d_Reach_become_21 (fun c_5 => ?_) (fun c_5 => ?_)
      · have h9 := h9.2 c_5
        refine r_iconst (v := 0) d_Reach_become_37 (by decide) ?_
        refine r_istore d_Reach_become_38 (by decide) ?_
        refine r_aload_n d_Reach_become_40 rfl ?_
        refine r_iload_n d_Reach_become_41 rfl ?_
        refine x_putI d_Reach_become_42 fl_Reach_7 (fun r hr => by cases hr; rfl) (isRe_I hp0 0 (by decide)) (VOk_int _) ?_
        refine r_aload_n d_Reach_become_45 rfl ?_
        refine r_iload_n d_Reach_become_46 rfl ?_
        refine x_putI d_Reach_become_47 fl_Reach_13 (fun r hr => by cases hr; rfl) (isRe_I hp0 1 (by decide)) (VOk_int _) ?_
        refine r_aload_n d_Reach_become_50 rfl ?_
        refine r_iload_n d_Reach_become_51 rfl ?_
        refine x_putI d_Reach_become_52 fl_Reach_16 (fun r hr => by cases hr; rfl) (isRe_I hp0 2 (by decide)) (VOk_int _) ?_
        refine r_aload_n d_Reach_become_55 rfl ?_
        refine r_iload d_Reach_become_56 rfl ?_
        refine x_putI d_Reach_become_58 fl_Reach_19 (fun r hr => by cases hr; rfl) (isRe_I hp0 3 (by decide)) (VOk_int _) ?_
        refine r_iload d_Reach_become_61 rfl ?_
        refine r_if_ne d_Reach_become_63 (fun c_6 => ?_) (fun c_6 => ?_)
        · have h9 := h9.2 c_6
          refine r_iconst (v := 0) d_Reach_become_70 (by decide) ?_
          exact r_iret ⟨d_Reach_become_71, _, rfl, rfl⟩ ⟨_, _, rfl, h9⟩
        · have h9 := h9.1 c_6
          refine r_iconst (v := 1) d_Reach_become_66 (by decide) ?_
          refine r_goto d_Reach_become_67 ?_
          exact r_iret ⟨d_Reach_become_71, _, rfl, rfl⟩ ⟨_, _, rfl, h9⟩
      · have h9 := h9.1 c_5
        refine r_aload_n d_Reach_become_24 rfl ?_
        refine x_getI d_Reach_become_25 fl_Reach_19 (isRe_I hp0 3 (by decide)) ?_
        refine r_iload d_Reach_become_28 rfl ?_
        refine r_ic_ne d_Reach_become_30 (fun c_7 => ?_) (fun c_7 => ?_)
        · have h9 := h9.2 c_7
          refine r_iconst (v := 0) d_Reach_become_37 (by decide) ?_
          refine r_istore d_Reach_become_38 (by decide) ?_
          refine r_aload_n d_Reach_become_40 rfl ?_
          refine r_iload_n d_Reach_become_41 rfl ?_
          refine x_putI d_Reach_become_42 fl_Reach_7 (fun r hr => by cases hr; rfl) (isRe_I hp0 0 (by decide)) (VOk_int _) ?_
          refine r_aload_n d_Reach_become_45 rfl ?_
          refine r_iload_n d_Reach_become_46 rfl ?_
          refine x_putI d_Reach_become_47 fl_Reach_13 (fun r hr => by cases hr; rfl) (isRe_I hp0 1 (by decide)) (VOk_int _) ?_
          refine r_aload_n d_Reach_become_50 rfl ?_
          refine r_iload_n d_Reach_become_51 rfl ?_
          refine x_putI d_Reach_become_52 fl_Reach_16 (fun r hr => by cases hr; rfl) (isRe_I hp0 2 (by decide)) (VOk_int _) ?_
          refine r_aload_n d_Reach_become_55 rfl ?_
          refine r_iload d_Reach_become_56 rfl ?_
          refine x_putI d_Reach_become_58 fl_Reach_19 (fun r hr => by cases hr; rfl) (isRe_I hp0 3 (by decide)) (VOk_int _) ?_
          refine r_iload d_Reach_become_61 rfl ?_
          refine r_if_ne d_Reach_become_63 (fun c_8 => ?_) (fun c_8 => ?_)
          · have h9 := h9.2 c_8
            refine r_iconst (v := 0) d_Reach_become_70 (by decide) ?_
            exact r_iret ⟨d_Reach_become_71, _, rfl, rfl⟩ ⟨_, _, rfl, h9⟩
          · have h9 := h9.1 c_8
            refine r_iconst (v := 1) d_Reach_become_66 (by decide) ?_
            refine r_goto d_Reach_become_67 ?_
            exact r_iret ⟨d_Reach_become_71, _, rfl, rfl⟩ ⟨_, _, rfl, h9⟩
        · have h9 := h9.1 c_7
          refine r_iconst (v := 1) d_Reach_become_33 (by decide) ?_
          refine r_goto d_Reach_become_34 ?_
          refine r_istore d_Reach_become_38 (by decide) ?_
          refine r_aload_n d_Reach_become_40 rfl ?_
          refine r_iload_n d_Reach_become_41 rfl ?_
          refine x_putI d_Reach_become_42 fl_Reach_7 (fun r hr => by cases hr; rfl) (isRe_I hp0 0 (by decide)) (VOk_int _) ?_
          refine r_aload_n d_Reach_become_45 rfl ?_
          refine r_iload_n d_Reach_become_46 rfl ?_
          refine x_putI d_Reach_become_47 fl_Reach_13 (fun r hr => by cases hr; rfl) (isRe_I hp0 1 (by decide)) (VOk_int _) ?_
          refine r_aload_n d_Reach_become_50 rfl ?_
          refine r_iload_n d_Reach_become_51 rfl ?_
          refine x_putI d_Reach_become_52 fl_Reach_16 (fun r hr => by cases hr; rfl) (isRe_I hp0 2 (by decide)) (VOk_int _) ?_
          refine r_aload_n d_Reach_become_55 rfl ?_
          refine r_iload d_Reach_become_56 rfl ?_
          refine x_putI d_Reach_become_58 fl_Reach_19 (fun r hr => by cases hr; rfl) (isRe_I hp0 3 (by decide)) (VOk_int _) ?_
          refine r_iload d_Reach_become_61 rfl ?_
          refine r_if_ne d_Reach_become_63 (fun c_9 => ?_) (fun c_9 => ?_)
          · have h9 := h9.2 c_9
            refine r_iconst (v := 0) d_Reach_become_70 (by decide) ?_
            exact r_iret ⟨d_Reach_become_71, _, rfl, rfl⟩ ⟨_, _, rfl, h9⟩
          · have h9 := h9.1 c_9
            refine r_iconst (v := 1) d_Reach_become_66 (by decide) ?_
            refine r_goto d_Reach_become_67 ?_
            exact r_iret ⟨d_Reach_become_71, _, rfl, rfl⟩ ⟨_, _, rfl, h9⟩
theorem L_Row_findStaying_0 {xs : List Int32} {t0 : Nat} {M : Mem} {L : Int64} {Q : Option Value → Mem → Int64 → Prop} (ht0 : t0 < 40)
    (h : (((M (136 + 5 * t0) 4) = 0 ∧ RX xs md_Chart_findDepths 0 [.ref 126, .int (M (136 + 5 * t0) 5), .int (M (136 + 5 * t0) 6), .ref (136 + 5 * t0 + 3)] [] M L (fun r M_1 L_2 => r = none ∧ Q none M_1 L_2)) ∨ ((M (136 + 5 * t0) 4) = 1 ∧ RX xs md_Chart_findDepths 0 [.ref 126, .int ((M (136 + 5 * t0) 5) + 1), .int 99, .ref (136 + 5 * t0 + 3)] [] M L (fun r M_3 L_4 => r = none ∧ Q none M_3 L_4)) ∨ ((M (136 + 5 * t0) 4) = 2 ∧ RX xs md_Chart_findNear 0 [.ref 126, .int (M (136 + 5 * t0) 5), .ref (136 + 5 * t0 + 3)] [] M L (fun r M_5 L_6 => r = none ∧ Q none M_5 L_6)) ∨ ((M (136 + 5 * t0) 4) = 3 ∧ RX xs md_Patch_copy 0 [.ref (136 + 5 * t0 + 3), .ref 132] [] M L (fun r M_7 L_8 => r = none ∧ Q none M_7 L_8)) ∨ ((M (136 + 5 * t0) 4) = 4 ∧ RX xs md_Patch_clear 0 [.ref (136 + 5 * t0 + 3)] [] M L (fun r M_9 L_10 => r = none ∧ RX xs md_Patch_put 0 [.ref (136 + 5 * t0 + 3), .int 0, .int (M_9 (136 + 5 * t0) 5), .int ((M_9 126 4) - 1), .int (M_9 (136 + 5 * t0) 6), .int 1] [] M_9 L_10 (fun r M_11 L_12 => r = none ∧ Q none M_11 L_12))) ∨ (((M (136 + 5 * t0) 4) < 0 ∨ 4 < (M (136 + 5 * t0) 4)) ∧ RX xs md_Chart_findNear 0 [.ref 126, .int (M (136 + 5 * t0) 5), .ref (136 + 5 * t0 + 3)] [] M L (fun r M_13 L_14 => r = none ∧ RX xs md_Patch_turnOver 0 [.ref (136 + 5 * t0 + 3), .ref 128] [] M_13 L_14 (fun r M_15 L_16 => r = none ∧ Q none M_15 L_16))))) : RX xs md_Row_findStaying 0 [.ref (136 + 5 * t0), .ref 126] [] M L Q := by
  refine r_aload_n d_Row_findStaying_0 rfl ?_
  refine x_getI d_Row_findStaying_1 fl_Row_49 (rw_I ht0 4 (by decide) (by decide)) ?_
  rcases h with h9 | h9 | h9 | h9 | h9 | h9
  · obtain ⟨c9, h9⟩ := h9
    refine r_switch (tgt := 40) ⟨_, _, _, _, _, d_Row_findStaying_4, Or.inr ⟨by rw [c9]; decide, by rw [c9]; decide, 36, by rw [c9]; rfl, by decide⟩⟩ ?_
    refine r_aload_n d_Row_findStaying_40 rfl ?_
    refine r_aload_n d_Row_findStaying_41 rfl ?_
    refine x_getI d_Row_findStaying_42 fl_Row_52 (rw_I ht0 5 (by decide) (by decide)) ?_
    refine r_aload_n d_Row_findStaying_45 rfl ?_
    refine x_getI d_Row_findStaying_46 fl_Row_55 (rw_I ht0 6 (by decide) (by decide)) ?_
    refine r_aload_n d_Row_findStaying_49 rfl ?_
    refine x_getR d_Row_findStaying_50 fl_Row_24 (rw_R2 ht0) ?_
    refine x_callV (as := [.int (M (136 + 5 * t0) 5), .int (M (136 + 5 * t0) 6), .ref (136 + 5 * t0 + 3)]) (st := []) d_Row_findStaying_53 ml_Row_66 mc_Chart_findDepths mv_Chart_findDepths ⟨by decide, by decide⟩ gO_126 ⟨_, rfl, rfl⟩ rfl (Nat.le_of_ble_eq_true rfl) (Nat.le_of_ble_eq_true rfl) h9 ?_
    rintro _ M_1 L_2 ⟨rfl, h9⟩
    refine r_goto d_Row_findStaying_56 ?_
    exact r_vret ⟨d_Row_findStaying_163, rfl⟩ ⟨M_1, L_2, rfl, h9⟩
  · obtain ⟨c9, h9⟩ := h9
    refine r_switch (tgt := 59) ⟨_, _, _, _, _, d_Row_findStaying_4, Or.inr ⟨by rw [c9]; decide, by rw [c9]; decide, 55, by rw [c9]; rfl, by decide⟩⟩ ?_
    refine r_aload_n d_Row_findStaying_59 rfl ?_
    refine r_aload_n d_Row_findStaying_60 rfl ?_
    refine x_getI d_Row_findStaying_61 fl_Row_52 (rw_I ht0 5 (by decide) (by decide)) ?_
    refine r_iconst (v := 1) d_Row_findStaying_64 (by decide) ?_
    refine r_iadd d_Row_findStaying_65 ?_
    refine r_bipush (v := 99) d_Row_findStaying_66 (by decide) ?_
    refine r_aload_n d_Row_findStaying_68 rfl ?_
    refine x_getR d_Row_findStaying_69 fl_Row_24 (rw_R2 ht0) ?_
    refine x_callV (as := [.int ((M (136 + 5 * t0) 5) + 1), .int 99, .ref (136 + 5 * t0 + 3)]) (st := []) d_Row_findStaying_72 ml_Row_66 mc_Chart_findDepths mv_Chart_findDepths ⟨by decide, by decide⟩ gO_126 ⟨_, rfl, rfl⟩ rfl (Nat.le_of_ble_eq_true rfl) (Nat.le_of_ble_eq_true rfl) h9 ?_
    rintro _ M_3 L_4 ⟨rfl, h9⟩
    refine r_goto d_Row_findStaying_75 ?_
    exact r_vret ⟨d_Row_findStaying_163, rfl⟩ ⟨M_3, L_4, rfl, h9⟩
  · obtain ⟨c9, h9⟩ := h9
    refine r_switch (tgt := 78) ⟨_, _, _, _, _, d_Row_findStaying_4, Or.inr ⟨by rw [c9]; decide, by rw [c9]; decide, 74, by rw [c9]; rfl, by decide⟩⟩ ?_
    refine r_aload_n d_Row_findStaying_78 rfl ?_
    refine r_aload_n d_Row_findStaying_79 rfl ?_
    refine x_getI d_Row_findStaying_80 fl_Row_52 (rw_I ht0 5 (by decide) (by decide)) ?_
    refine r_aload_n d_Row_findStaying_83 rfl ?_
    refine x_getR d_Row_findStaying_84 fl_Row_24 (rw_R2 ht0) ?_
    refine x_callV (as := [.int (M (136 + 5 * t0) 5), .ref (136 + 5 * t0 + 3)]) (st := []) d_Row_findStaying_87 ml_Row_70 mc_Chart_findNear mv_Chart_findNear ⟨by decide, by decide⟩ gO_126 ⟨_, rfl, rfl⟩ rfl (Nat.le_of_ble_eq_true rfl) (Nat.le_of_ble_eq_true rfl) h9 ?_
    rintro _ M_5 L_6 ⟨rfl, h9⟩
    refine r_goto d_Row_findStaying_90 ?_
    exact r_vret ⟨d_Row_findStaying_163, rfl⟩ ⟨M_5, L_6, rfl, h9⟩
  · obtain ⟨c9, h9⟩ := h9
    refine r_switch (tgt := 93) ⟨_, _, _, _, _, d_Row_findStaying_4, Or.inr ⟨by rw [c9]; decide, by rw [c9]; decide, 89, by rw [c9]; rfl, by decide⟩⟩ ?_
    refine r_aload_n d_Row_findStaying_93 rfl ?_
    refine x_getR d_Row_findStaying_94 fl_Row_24 (rw_R2 ht0) ?_
    refine r_aload_n d_Row_findStaying_97 rfl ?_
    refine x_getR d_Row_findStaying_98 fl_Row_74 gR_126_3 ?_
    refine x_callV (as := [.ref 132]) (st := []) d_Row_findStaying_101 ml_Row_77 mc_Patch_copy mv_Patch_copy ⟨by decide, by decide⟩ (isP_O (rw_p ht0)) ⟨_, rfl, rfl⟩ rfl (Nat.le_of_ble_eq_true rfl) (Nat.le_of_ble_eq_true rfl) h9 ?_
    rintro _ M_7 L_8 ⟨rfl, h9⟩
    refine r_goto d_Row_findStaying_104 ?_
    exact r_vret ⟨d_Row_findStaying_163, rfl⟩ ⟨M_7, L_8, rfl, h9⟩
  · obtain ⟨c9, h9⟩ := h9
    refine r_switch (tgt := 107) ⟨_, _, _, _, _, d_Row_findStaying_4, Or.inr ⟨by rw [c9]; decide, by rw [c9]; decide, 103, by rw [c9]; rfl, by decide⟩⟩ ?_
    refine r_aload_n d_Row_findStaying_107 rfl ?_
    refine x_getR d_Row_findStaying_108 fl_Row_24 (rw_R2 ht0) ?_
    refine x_callV (as := []) (st := []) d_Row_findStaying_111 ml_Row_81 mc_Patch_clear mv_Patch_clear ⟨by decide, by decide⟩ (isP_O (rw_p ht0)) ⟨_, rfl, rfl⟩ rfl (Nat.le_of_ble_eq_true rfl) (Nat.le_of_ble_eq_true rfl) h9 ?_
    rintro _ M_9 L_10 ⟨rfl, h9⟩
    refine r_aload_n d_Row_findStaying_114 rfl ?_
    refine x_getR d_Row_findStaying_115 fl_Row_24 (rw_R2 ht0) ?_
    refine r_iconst (v := 0) d_Row_findStaying_118 (by decide) ?_
    refine r_aload_n d_Row_findStaying_119 rfl ?_
    refine x_getI d_Row_findStaying_120 fl_Row_52 (rw_I ht0 5 (by decide) (by decide)) ?_
    refine r_aload_n d_Row_findStaying_123 rfl ?_
    refine x_getI d_Row_findStaying_124 fl_Row_84 gI_126_4 ?_
    refine r_iconst (v := 1) d_Row_findStaying_127 (by decide) ?_
    refine r_isub d_Row_findStaying_128 ?_
    refine r_aload_n d_Row_findStaying_129 rfl ?_
    refine x_getI d_Row_findStaying_130 fl_Row_55 (rw_I ht0 6 (by decide) (by decide)) ?_
    refine r_iconst (v := 1) d_Row_findStaying_133 (by decide) ?_
    refine x_callV (as := [.int 0, .int (M_9 (136 + 5 * t0) 5), .int ((M_9 126 4) - 1), .int (M_9 (136 + 5 * t0) 6), .int 1]) (st := []) d_Row_findStaying_134 ml_Row_87 mc_Patch_put mv_Patch_put ⟨by decide, by decide⟩ (isP_O (rw_p ht0)) ⟨_, rfl, rfl⟩ rfl (Nat.le_of_ble_eq_true rfl) (Nat.le_of_ble_eq_true rfl) h9 ?_
    rintro _ M_11 L_12 ⟨rfl, h9⟩
    refine r_goto d_Row_findStaying_137 ?_
    exact r_vret ⟨d_Row_findStaying_163, rfl⟩ ⟨M_11, L_12, rfl, h9⟩
  · obtain ⟨c9, h9⟩ := h9
    refine r_switch (tgt := 140) ⟨_, _, _, _, _, d_Row_findStaying_4, Or.inl ⟨sw_out c9 (by decide) (by decide), by decide⟩⟩ ?_
    refine r_aload_n d_Row_findStaying_140 rfl ?_
    refine r_aload_n d_Row_findStaying_141 rfl ?_
    refine x_getI d_Row_findStaying_142 fl_Row_52 (rw_I ht0 5 (by decide) (by decide)) ?_
    refine r_aload_n d_Row_findStaying_145 rfl ?_
    refine x_getR d_Row_findStaying_146 fl_Row_24 (rw_R2 ht0) ?_
    refine x_callV (as := [.int (M (136 + 5 * t0) 5), .ref (136 + 5 * t0 + 3)]) (st := []) d_Row_findStaying_149 ml_Row_70 mc_Chart_findNear mv_Chart_findNear ⟨by decide, by decide⟩ gO_126 ⟨_, rfl, rfl⟩ rfl (Nat.le_of_ble_eq_true rfl) (Nat.le_of_ble_eq_true rfl) h9 ?_
    rintro _ M_13 L_14 ⟨rfl, h9⟩
    refine r_aload_n d_Row_findStaying_152 rfl ?_
    refine x_getR d_Row_findStaying_153 fl_Row_24 (rw_R2 ht0) ?_
    refine r_aload_n d_Row_findStaying_156 rfl ?_
    refine x_getR d_Row_findStaying_157 fl_Row_91 gR_126_1 ?_
    refine x_callV (as := [.ref 128]) (st := []) d_Row_findStaying_160 ml_Row_94 mc_Patch_turnOver mv_Patch_turnOver ⟨by decide, by decide⟩ (isP_O (rw_p ht0)) ⟨_, rfl, rfl⟩ rfl (Nat.le_of_ble_eq_true rfl) (Nat.le_of_ble_eq_true rfl) h9 ?_
    rintro _ M_15 L_16 ⟨rfl, h9⟩
    exact r_vret ⟨d_Row_findStaying_163, rfl⟩ ⟨M_15, L_16, rfl, h9⟩
theorem L_Patch_becomeReached_0 {xs : List Int32} {p0 : Nat} {p1 : Nat} {i2 : Int32} {i3 : Int32} {i4 : Int32} {i5 : Int32} {M : Mem} {L : Int64} {Q : Option Value → Mem → Int64 → Prop} (hp0 : isP p0) (hp1 : isP p1)
    (h : RX xs md_JArrays_fill 0 [.ref (p0 + 1), .int 0] [] M L (fun r M_1 L_2 => r = none ∧ RX xs md_JMath_max 0 [.int i2, .int (1 - (M_1 126 4))] [] M_1 L_2 (fun r M_3 L_4 => ∃ v_5 : Int32, r = some (.int v_5) ∧ RX xs md_JMath_min 0 [.int i3, .int ((M_3 126 4) - 1)] [] M_3 L_4 (fun r M_6 L_7 => ∃ v_8 : Int32, r = some (.int v_8) ∧ ((v_5 ≤ v_8 → RX xs md_Patch_becomeReached 45 [.ref p0, .ref p1, .null, .null, .int i4, .int i5, .ref 126, .int v_5, .int v_8, .int 0, .null, .null, .null, .null] [] M_6 L_7 Q) ∧ (¬ (v_5 ≤ v_8) → Q none M_6 L_7)))))) : RX xs md_Patch_becomeReached 0 [.ref p0, .ref p1, .int i2, .int i3, .int i4, .int i5, .ref 126, .null, .null, .null, .null, .null, .null, .null] [] M L Q := by
  refine r_aload_n d_Patch_becomeReached_0 rfl ?_
  refine x_getR d_Patch_becomeReached_1 fl_Patch_9 (isP_R hp0) ?_
  refine r_iconst (v := 0) d_Patch_becomeReached_4 (by decide) ?_
  refine x_callS (as := [.ref (p0 + 1), .int 0]) (st := []) d_Patch_becomeReached_5 ml_Patch_15 mc_JArrays_fill ms_JArrays_fill ⟨by decide, by decide⟩ rfl (Nat.le_of_ble_eq_true rfl) (Nat.le_of_ble_eq_true rfl) h ?_
  rintro _ M_1 L_2 ⟨rfl, h9⟩
  refine r_iload_n d_Patch_becomeReached_8 rfl ?_
  refine r_iconst (v := 1) d_Patch_becomeReached_9 (by decide) ?_
  refine r_aload d_Patch_becomeReached_10 rfl ?_
  refine x_getI d_Patch_becomeReached_12 fl_Patch_51 gI_126_4 ?_
  refine r_isub d_Patch_becomeReached_15 ?_
  refine x_callS (as := [.int i2, .int (1 - (M_1 126 4))]) (st := []) d_Patch_becomeReached_16 ml_Patch_39 mc_JMath_max ms_JMath_max ⟨by decide, by decide⟩ rfl (Nat.le_of_ble_eq_true rfl) (Nat.le_of_ble_eq_true rfl) h9 ?_
  rintro _ M_3 L_4 ⟨v_5, rfl, h9⟩
  refine r_istore d_Patch_becomeReached_19 (by decide) ?_
  refine r_iload_n d_Patch_becomeReached_21 rfl ?_
  refine r_aload d_Patch_becomeReached_22 rfl ?_
  refine x_getI d_Patch_becomeReached_24 fl_Patch_51 gI_126_4 ?_
  refine r_iconst (v := 1) d_Patch_becomeReached_27 (by decide) ?_
  refine r_isub d_Patch_becomeReached_28 ?_
  refine x_callS (as := [.int i3, .int ((M_3 126 4) - 1)]) (st := []) d_Patch_becomeReached_29 ml_Patch_45 mc_JMath_min ms_JMath_min ⟨by decide, by decide⟩ rfl (Nat.le_of_ble_eq_true rfl) (Nat.le_of_ble_eq_true rfl) h9 ?_
  rintro _ M_6 L_7 ⟨v_8, rfl, h9⟩
  refine r_istore d_Patch_becomeReached_32 (by decide) ?_
  refine r_iload d_Patch_becomeReached_34 rfl ?_
  refine r_iload d_Patch_becomeReached_36 rfl ?_
  refine r_ic_le d_Patch_becomeReached_38 (fun c_9 => ?_) (fun c_9 => ?_)
  · have h9 := h9.1 c_9
    refine r_iconst (v := 0) d_Patch_becomeReached_42 (by decide) ?_
    refine r_istore d_Patch_becomeReached_43 (by decide) ?_
    refine r_weak (lv' := [.ref p0, .ref p1, .null, .null, .int i4, .int i5, .ref 126, .int v_5, .int v_8, .int 0, .null, .null, .null, .null]) (by repeat (first | exact trivial | refine ⟨rfl, ?_⟩ | exact lle_nil)) ?_
    exact h9
  · have h9 := h9.2 c_9
    exact r_vret ⟨d_Patch_becomeReached_41, rfl⟩ ⟨M_6, L_7, rfl, h9⟩
theorem L_Patch_becomeReached_45 {xs : List Int32} {p0 : Nat} {p1 : Nat} {i2 : Int32} {i3 : Int32} {i4 : Int32} {i5 : Int32} {i7 : Int32} {i8 : Int32} {i9 : Int32} {M : Mem} {L : Int64} {Q : Option Value → Mem → Int64 → Prop} (hp0 : isP p0) (hp1 : isP p1)
    (h : (((M 126 5) ≤ i9 → Q none M L) ∧ (¬ ((M 126 5) ≤ i9) → (vp_in i9 20 ∧ (((M (p1 + 1) i9.toNatClampNeg) = 0 → RX xs md_Patch_becomeReached 45 [.ref p0, .ref p1, .null, .null, .int i4, .int i5, .ref 126, .int i7, .int i8, .int (i9 + 1), .null, .null, .null, .null] [] M L Q) ∧ (¬ ((M (p1 + 1) i9.toNatClampNeg) = 0) → RX xs md_Patch_smear 0 [.int (M (p1 + 1) i9.toNatClampNeg), .int i7, .int i8] [] M L (fun r M_13 L_14 => ∃ v_15 : Int32, r = some (.int v_15) ∧ RX xs md_Patch_firstBits 0 [.int (M_13 126 4)] [] M_13 L_14 (fun r M_16 L_17 => ∃ v_18 : Int32, r = some (.int v_18) ∧ RX xs md_JMath_max 0 [.int (i9 + i4), .int 0] [] M_16 L_17 (fun r M_19 L_20 => ∃ v_21 : Int32, r = some (.int v_21) ∧ RX xs md_JMath_min 0 [.int (i9 + i5), .int ((M_19 126 5) - 1)] [] M_19 L_20 (fun r M_22 L_23 => ∃ v_24 : Int32, r = some (.int v_24) ∧ RX xs md_Patch_becomeReached 122 [.ref p0, .ref p1, .null, .null, .int i4, .int i5, .ref 126, .int i7, .int i8, .int i9, .int (v_15 &&& v_18), .null, .int v_24, .int v_21] [] M_22 L_23 Q)))))))))) : RX xs md_Patch_becomeReached 45 [.ref p0, .ref p1, .null, .null, .int i4, .int i5, .ref 126, .int i7, .int i8, .int i9, .null, .null, .null, .null] [] M L Q := by
  refine r_iload d_Patch_becomeReached_45 rfl ?_
  refine r_aload d_Patch_becomeReached_47 rfl ?_
  refine x_getI d_Patch_becomeReached_49 fl_Patch_55 gI_126_5 ?_
  refine r_ic_ge d_Patch_becomeReached_52 (fun c_10 => ?_) (fun c_10 => ?_)
  · have h9 := h.1 c_10
    exact r_vret ⟨d_Patch_becomeReached_153, rfl⟩ ⟨M, L, rfl, h9⟩
  · have h9 := h.2 c_10
    refine r_aload_n d_Patch_becomeReached_55 rfl ?_
    refine x_getR d_Patch_becomeReached_56 fl_Patch_9 (isP_R hp1) ?_
    refine r_iload d_Patch_becomeReached_59 rfl ?_
    obtain ⟨o_11, h9⟩ := h9
    refine x_iald d_Patch_becomeReached_61 (isP_A hp1) o_11 ?_
    refine r_if_eq d_Patch_becomeReached_62 (fun c_12 => ?_) (fun c_12 => ?_)
    · have h9 := h9.1 c_12
      refine r_iinc (v := i9 + 1) d_Patch_becomeReached_147 rfl rfl (by decide) ?_
      refine r_goto d_Patch_becomeReached_150 ?_
      exact h9
    · have h9 := h9.2 c_12
      refine r_aload_n d_Patch_becomeReached_65 rfl ?_
      refine x_getR d_Patch_becomeReached_66 fl_Patch_9 (isP_R hp1) ?_
      refine r_iload d_Patch_becomeReached_69 rfl ?_
      refine x_iald d_Patch_becomeReached_71 (isP_A hp1) o_11 ?_
      refine r_iload d_Patch_becomeReached_72 rfl ?_
      refine r_iload d_Patch_becomeReached_74 rfl ?_
      refine x_callS (as := [.int (M (p1 + 1) i9.toNatClampNeg), .int i7, .int i8]) (st := []) d_Patch_becomeReached_76 ml_Patch_58 mc_Patch_smear ms_Patch_smear ⟨by decide, by decide⟩ rfl (Nat.le_of_ble_eq_true rfl) (Nat.le_of_ble_eq_true rfl) h9 ?_
      rintro _ M_13 L_14 ⟨v_15, rfl, h9⟩
      refine r_aload d_Patch_becomeReached_79 rfl ?_
      refine x_getI d_Patch_becomeReached_81 fl_Patch_51 gI_126_4 ?_
      refine x_callS (as := [.int (M_13 126 4)]) (st := [.int v_15]) d_Patch_becomeReached_84 ml_Patch_48 mc_Patch_firstBits ms_Patch_firstBits ⟨by decide, by decide⟩ rfl (Nat.le_of_ble_eq_true rfl) (Nat.le_of_ble_eq_true rfl) h9 ?_
      rintro _ M_16 L_17 ⟨v_18, rfl, h9⟩
      refine r_iand d_Patch_becomeReached_87 ?_
      refine r_istore d_Patch_becomeReached_88 (by decide) ?_
      refine r_iload d_Patch_becomeReached_90 rfl ?_
      refine r_iload d_Patch_becomeReached_92 rfl ?_
      refine r_iadd d_Patch_becomeReached_94 ?_
      refine r_iconst (v := 0) d_Patch_becomeReached_95 (by decide) ?_
      refine x_callS (as := [.int (i9 + i4), .int 0]) (st := []) d_Patch_becomeReached_96 ml_Patch_39 mc_JMath_max ms_JMath_max ⟨by decide, by decide⟩ rfl (Nat.le_of_ble_eq_true rfl) (Nat.le_of_ble_eq_true rfl) h9 ?_
      rintro _ M_19 L_20 ⟨v_21, rfl, h9⟩
      refine r_istore d_Patch_becomeReached_99 (by decide) ?_
      refine r_iload d_Patch_becomeReached_101 rfl ?_
      refine r_iload d_Patch_becomeReached_103 rfl ?_
      refine r_iadd d_Patch_becomeReached_105 ?_
      refine r_aload d_Patch_becomeReached_106 rfl ?_
      refine x_getI d_Patch_becomeReached_108 fl_Patch_55 gI_126_5 ?_
      refine r_iconst (v := 1) d_Patch_becomeReached_111 (by decide) ?_
      refine r_isub d_Patch_becomeReached_112 ?_
      refine x_callS (as := [.int (i9 + i5), .int ((M_19 126 5) - 1)]) (st := []) d_Patch_becomeReached_113 ml_Patch_45 mc_JMath_min ms_JMath_min ⟨by decide, by decide⟩ rfl (Nat.le_of_ble_eq_true rfl) (Nat.le_of_ble_eq_true rfl) h9 ?_
      rintro _ M_22 L_23 ⟨v_24, rfl, h9⟩
      refine r_istore d_Patch_becomeReached_116 (by decide) ?_
      refine r_iload d_Patch_becomeReached_118 rfl ?_
      refine r_istore d_Patch_becomeReached_120 (by decide) ?_
      refine r_weak (lv' := [.ref p0, .ref p1, .null, .null, .int i4, .int i5, .ref 126, .int i7, .int i8, .int i9, .int (v_15 &&& v_18), .null, .int v_24, .int v_21]) (by repeat (first | exact trivial | refine ⟨rfl, ?_⟩ | exact lle_nil)) ?_
      exact h9
theorem L_Patch_becomeReached_122 {xs : List Int32} {p0 : Nat} {p1 : Nat} {i2 : Int32} {i3 : Int32} {i4 : Int32} {i5 : Int32} {i7 : Int32} {i8 : Int32} {i9 : Int32} {i10 : Int32} {i12 : Int32} {i13 : Int32} {M : Mem} {L : Int64} {Q : Option Value → Mem → Int64 → Prop} (hp0 : isP p0) (hp1 : isP p1)
    (h : ((i12 < i13 → RX xs md_Patch_becomeReached 45 [.ref p0, .ref p1, .null, .null, .int i4, .int i5, .ref 126, .int i7, .int i8, .int (i9 + 1), .null, .null, .null, .null] [] M L Q) ∧ (¬ (i12 < i13) → (vp_in i13 20 ∧ RX xs md_Patch_becomeReached 122 [.ref p0, .ref p1, .null, .null, .int i4, .int i5, .ref 126, .int i7, .int i8, .int i9, .int i10, .null, .int i12, .int (i13 + 1)] [] (up M (p0 + 1) i13.toNatClampNeg ((M (p0 + 1) i13.toNatClampNeg) ||| i10)) L Q)))) : RX xs md_Patch_becomeReached 122 [.ref p0, .ref p1, .null, .null, .int i4, .int i5, .ref 126, .int i7, .int i8, .int i9, .int i10, .null, .int i12, .int i13] [] M L Q := by
  refine r_iload d_Patch_becomeReached_122 rfl ?_
  refine r_iload d_Patch_becomeReached_124 rfl ?_
  refine r_ic_gt d_Patch_becomeReached_126 (fun c_25 => ?_) (fun c_25 => ?_)
  · have h9 := h.1 c_25
    refine r_iinc (v := i9 + 1) d_Patch_becomeReached_147 rfl rfl (by decide) ?_
    refine r_goto d_Patch_becomeReached_150 ?_
    refine r_weak (lv' := [.ref p0, .ref p1, .null, .null, .int i4, .int i5, .ref 126, .int i7, .int i8, .int (i9 + 1), .null, .null, .null, .null]) (by repeat (first | exact trivial | refine ⟨rfl, ?_⟩ | exact lle_nil)) ?_
    exact h9
  · have h9 := h.2 c_25
    refine r_aload_n d_Patch_becomeReached_129 rfl ?_
    refine x_getR d_Patch_becomeReached_130 fl_Patch_9 (isP_R hp0) ?_
    refine r_iload d_Patch_becomeReached_133 rfl ?_
    refine r_dup2 d_Patch_becomeReached_135 rfl rfl ?_
    obtain ⟨o_26, h9⟩ := h9
    refine x_iald d_Patch_becomeReached_136 (isP_A hp0) o_26 ?_
    refine r_iload d_Patch_becomeReached_137 rfl ?_
    refine r_ior d_Patch_becomeReached_139 ?_
    refine x_iast d_Patch_becomeReached_140 (isP_A hp0) o_26 ?_
    refine r_iinc (v := i13 + 1) d_Patch_becomeReached_141 rfl rfl (by decide) ?_
    refine r_goto d_Patch_becomeReached_144 ?_
    exact h9
theorem L_Patch_smear_0 {xs : List Int32} {i0 : Int32} {i1 : Int32} {i2 : Int32} {M : Mem} {L : Int64} {Q : Option Value → Mem → Int64 → Prop} 
    (h : RX xs md_Patch_smear 13 [.null, .int i1, .null, .int ((i2 - i1) + 1), .long ((i0 : Int32).toInt64), .null, .int 1] [] M L Q) : RX xs md_Patch_smear 0 [.int i0, .int i1, .int i2, .null, .null, .null, .null] [] M L Q := by
  refine r_iload_n d_Patch_smear_0 rfl ?_
  refine r_iload_n d_Patch_smear_1 rfl ?_
  refine r_isub d_Patch_smear_2 ?_
  refine r_iconst (v := 1) d_Patch_smear_3 (by decide) ?_
  refine r_iadd d_Patch_smear_4 ?_
  refine r_istore_n d_Patch_smear_5 (by decide) ?_
  refine r_iload_n d_Patch_smear_6 rfl ?_
  refine r_i2l d_Patch_smear_7 ?_
  refine r_lstore d_Patch_smear_8 (by decide) ?_
  refine r_iconst (v := 1) d_Patch_smear_10 (by decide) ?_
  refine r_istore d_Patch_smear_11 (by decide) ?_
  refine r_weak (lv' := [.null, .int i1, .null, .int ((i2 - i1) + 1), .long ((i0 : Int32).toInt64), .null, .int 1]) (by repeat (first | exact trivial | refine ⟨rfl, ?_⟩ | exact lle_nil)) ?_
  exact h
theorem L_Patch_smear_13 {xs : List Int32} {i0 : Int32} {i1 : Int32} {i2 : Int32} {i3 : Int32} {l4 : Int64} {i6 : Int32} {M : Mem} {L : Int64} {Q : Option Value → Mem → Int64 → Prop} 
    (h : ((i3 ≤ i6 → ((0 ≤ i1 → Q (some (.int ((l4 <<< ((i1 : Int32).toInt64 &&& 63)).toInt32))) M L) ∧ (¬ (0 ≤ i1) → Q (some (.int ((l4 >>> ((-i1 : Int32).toInt64 &&& 63)).toInt32))) M L))) ∧ (¬ (i3 ≤ i6) → (((i3 - i6) < i6 → RX xs md_Patch_smear 13 [.null, .int i1, .null, .int i3, .long (l4 ||| (l4 <<< ((i3 - i6 : Int32).toInt64 &&& 63))), .null, .int (i6 + i6)] [] M L Q) ∧ (¬ ((i3 - i6) < i6) → RX xs md_Patch_smear 13 [.null, .int i1, .null, .int i3, .long (l4 ||| (l4 <<< ((i6 : Int32).toInt64 &&& 63))), .null, .int (i6 + i6)] [] M L Q))))) : RX xs md_Patch_smear 13 [.null, .int i1, .null, .int i3, .long l4, .null, .int i6] [] M L Q := by
  refine r_iload d_Patch_smear_13 rfl ?_
  refine r_iload_n d_Patch_smear_15 rfl ?_
  refine r_ic_ge d_Patch_smear_16 (fun c_1 => ?_) (fun c_1 => ?_)
  · have h9 := h.1 c_1
    refine r_iload_n d_Patch_smear_55 rfl ?_
    refine r_if_ge d_Patch_smear_56 (fun c_2 => ?_) (fun c_2 => ?_)
    · have h9 := h9.1 c_2
      refine r_lload d_Patch_smear_67 rfl ?_
      refine r_iload_n d_Patch_smear_69 rfl ?_
      refine r_lshl d_Patch_smear_70 ?_
      refine r_l2i d_Patch_smear_71 ?_
      exact r_iret ⟨d_Patch_smear_72, _, rfl, rfl⟩ ⟨_, _, rfl, h9⟩
    · have h9 := h9.2 c_2
      refine r_lload d_Patch_smear_59 rfl ?_
      refine r_iload_n d_Patch_smear_61 rfl ?_
      refine r_ineg d_Patch_smear_62 ?_
      refine r_lshr d_Patch_smear_63 ?_
      refine r_goto d_Patch_smear_64 ?_
      refine r_l2i d_Patch_smear_71 ?_
      exact r_iret ⟨d_Patch_smear_72, _, rfl, rfl⟩ ⟨_, _, rfl, h9⟩
  · have h9 := h.2 c_1
    refine r_lload d_Patch_smear_19 rfl ?_
    refine r_lload d_Patch_smear_21 rfl ?_
    refine r_iload d_Patch_smear_23 rfl ?_
    refine r_iload_n d_Patch_smear_25 rfl ?_
    refine r_iload d_Patch_smear_26 rfl ?_
    refine r_isub d_Patch_smear_28 ?_
    refine r_ic_gt d_Patch_smear_29 (fun c_3 => ?_) (fun c_3 => ?_)
    · have h9 := h9.1 c_3
      refine r_iload_n d_Patch_smear_37 rfl ?_
      refine r_iload d_Patch_smear_38 rfl ?_
      refine r_isub d_Patch_smear_40 ?_
      refine r_lshl d_Patch_smear_41 ?_
      refine r_lor d_Patch_smear_42 ?_
      refine r_lstore d_Patch_smear_43 (by decide) ?_
      refine r_iload d_Patch_smear_45 rfl ?_
      refine r_iload d_Patch_smear_47 rfl ?_
      refine r_iadd d_Patch_smear_49 ?_
      refine r_istore d_Patch_smear_50 (by decide) ?_
      refine r_goto d_Patch_smear_52 ?_
      exact h9
    · have h9 := h9.2 c_3
      refine r_iload d_Patch_smear_32 rfl ?_
      refine r_goto d_Patch_smear_34 ?_
      refine r_lshl d_Patch_smear_41 ?_
      refine r_lor d_Patch_smear_42 ?_
      refine r_lstore d_Patch_smear_43 (by decide) ?_
      refine r_iload d_Patch_smear_45 rfl ?_
      refine r_iload d_Patch_smear_47 rfl ?_
      refine r_iadd d_Patch_smear_49 ?_
      refine r_istore d_Patch_smear_50 (by decide) ?_
      refine r_goto d_Patch_smear_52 ?_
      exact h9
theorem L_Patch_copy_0 {xs : List Int32} {p0 : Nat} {p1 : Nat} {M : Mem} {L : Int64} {Q : Option Value → Mem → Int64 → Prop} (hp0 : isP p0) (hp1 : isP p1)
    (h : Q none (cpR M (p0 + 1) (p1 + 1) (20 : Int32).toNatClampNeg) L) : RX xs md_Patch_copy 0 [.ref p0, .ref p1] [] M L Q := by
  refine r_aload_n d_Patch_copy_0 rfl ?_
  refine x_getR d_Patch_copy_1 fl_Patch_9 (isP_R hp1) ?_
  refine r_iconst (v := 0) d_Patch_copy_4 (by decide) ?_
  refine r_aload_n d_Patch_copy_5 rfl ?_
  refine x_getR d_Patch_copy_6 fl_Patch_9 (isP_R hp0) ?_
  refine r_iconst (v := 0) d_Patch_copy_9 (by decide) ?_
  refine r_bipush (v := 20) d_Patch_copy_10 (by decide) ?_
  refine x_copy d_Patch_copy_12 ml_Patch_21 (isP_A hp1) (isP_A hp0) (by decide) (by decide) (by decide) (by decide) (by decide) ?_
  exact r_vret ⟨d_Patch_copy_15, rfl⟩ ⟨cpR M (p0 + 1) (p1 + 1) (20 : Int32).toNatClampNeg, L, rfl, h⟩
theorem L_Patch_turnOver_0 {xs : List Int32} {p0 : Nat} {p1 : Nat} {M : Mem} {L : Int64} {Q : Option Value → Mem → Int64 → Prop} (hp0 : isP p0) (hp1 : isP p1)
    (h : RX xs md_Patch_turnOver 2 [.ref p0, .ref p1, .int 0] [] M L Q) : RX xs md_Patch_turnOver 0 [.ref p0, .ref p1, .null] [] M L Q := by
  refine r_iconst (v := 0) d_Patch_turnOver_0 (by decide) ?_
  refine r_istore_n d_Patch_turnOver_1 (by decide) ?_
  exact h
theorem L_Patch_turnOver_2 {xs : List Int32} {p0 : Nat} {p1 : Nat} {i2 : Int32} {M : Mem} {L : Int64} {Q : Option Value → Mem → Int64 → Prop} (hp0 : isP p0) (hp1 : isP p1)
    (h : ((20 ≤ i2 → Q none M L) ∧ (¬ (20 ≤ i2) → (vp_in i2 20 ∧ RX xs md_Patch_turnOver 2 [.ref p0, .ref p1, .int (i2 + 1)] [] (up M (p0 + 1) i2.toNatClampNeg ((M (p1 + 1) i2.toNatClampNeg) &&& ((M (p0 + 1) i2.toNatClampNeg) ^^^ (-1)))) L Q)))) : RX xs md_Patch_turnOver 2 [.ref p0, .ref p1, .int i2] [] M L Q := by
  refine r_iload_n d_Patch_turnOver_2 rfl ?_
  refine r_bipush (v := 20) d_Patch_turnOver_3 (by decide) ?_
  refine r_ic_ge d_Patch_turnOver_5 (fun c_1 => ?_) (fun c_1 => ?_)
  · have h9 := h.1 c_1
    exact r_vret ⟨d_Patch_turnOver_35, rfl⟩ ⟨M, L, rfl, h9⟩
  · have h9 := h.2 c_1
    refine r_aload_n d_Patch_turnOver_8 rfl ?_
    refine x_getR d_Patch_turnOver_9 fl_Patch_9 (isP_R hp0) ?_
    refine r_iload_n d_Patch_turnOver_12 rfl ?_
    refine r_aload_n d_Patch_turnOver_13 rfl ?_
    refine x_getR d_Patch_turnOver_14 fl_Patch_9 (isP_R hp1) ?_
    refine r_iload_n d_Patch_turnOver_17 rfl ?_
    obtain ⟨o_2, h9⟩ := h9
    refine x_iald d_Patch_turnOver_18 (isP_A hp1) o_2 ?_
    refine r_aload_n d_Patch_turnOver_19 rfl ?_
    refine x_getR d_Patch_turnOver_20 fl_Patch_9 (isP_R hp0) ?_
    refine r_iload_n d_Patch_turnOver_23 rfl ?_
    refine x_iald d_Patch_turnOver_24 (isP_A hp0) o_2 ?_
    refine r_iconst (v := (-1)) d_Patch_turnOver_25 (by decide) ?_
    refine r_ixor d_Patch_turnOver_26 ?_
    refine r_iand d_Patch_turnOver_27 ?_
    refine x_iast d_Patch_turnOver_28 (isP_A hp0) o_2 ?_
    refine r_iinc (v := i2 + 1) d_Patch_turnOver_29 rfl rfl (by decide) ?_
    refine r_goto d_Patch_turnOver_32 ?_
    exact h9
theorem L_Row_takeOn_0 {xs : List Int32} {t0 : Nat} {i1 : Int32} {p2 : Nat} {p3 : Nat} {M : Mem} {L : Int64} {Q : Option Value → Mem → Int64 → Prop} (ht0 : t0 < 40) (hp2 : isP p2) (hp3 : isP p3)
    (h : RX xs md_Row_isWatch 0 [.ref (136 + 5 * t0)] [] M L (fun r M_1 L_2 => ∃ v_3 : Int32, r = some (.int v_3) ∧ ((v_3 = 0 → RX xs md_Row_cut 0 [.ref (136 + 5 * t0), .int i1, .ref p2, .ref p3] [] M_1 L_2 (fun r M_5 L_6 => r = none ∧ Q none M_5 L_6)) ∧ (¬ (v_3 = 0) → ((i1 = 0 → RX xs md_Patch_becomeReached 0 [.ref p3, .ref p2, .int (M_1 (136 + 5 * t0 + 2) 0), .int (M_1 (136 + 5 * t0 + 2) 1), .int (M_1 (136 + 5 * t0 + 2) 2), .int (M_1 (136 + 5 * t0 + 2) 3), .ref 126] [] M_1 L_2 (fun r M_8 L_9 => r = none ∧ RX xs md_Patch_cutTo 0 [.ref p3, .ref 128] [] M_8 L_9 (fun r M_10 L_11 => r = none ∧ Q none M_10 L_11))) ∧ (¬ (i1 = 0) → RX xs md_Patch_becomeReached 0 [.ref p3, .ref p2, .int (M_1 (136 + 5 * t0 + 1) 0), .int (M_1 (136 + 5 * t0 + 1) 1), .int (M_1 (136 + 5 * t0 + 1) 2), .int (M_1 (136 + 5 * t0 + 1) 3), .ref 126] [] M_1 L_2 (fun r M_12 L_13 => r = none ∧ RX xs md_Patch_cutTo 0 [.ref p3, .ref 128] [] M_12 L_13 (fun r M_14 L_15 => r = none ∧ Q none M_14 L_15)))))))) : RX xs md_Row_takeOn 0 [.ref (136 + 5 * t0), .int i1, .ref p2, .ref p3, .ref 126, .null] [] M L Q := by
  refine r_aload_n d_Row_takeOn_0 rfl ?_
  refine x_callV (as := []) (st := []) d_Row_takeOn_1 ml_Row_97 mc_Row_isWatch mv_Row_isWatch ⟨by decide, by decide⟩ (rw_O ht0) ⟨_, rfl, rfl⟩ rfl (Nat.le_of_ble_eq_true rfl) (Nat.le_of_ble_eq_true rfl) h ?_
  rintro _ M_1 L_2 ⟨v_3, rfl, h9⟩
  refine r_if_eq d_Row_takeOn_4 (fun c_4 => ?_) (fun c_4 => ?_)
  · have h9 := h9.1 c_4
    refine r_aload_n d_Row_takeOn_63 rfl ?_
    refine r_iload_n d_Row_takeOn_64 rfl ?_
    refine r_aload_n d_Row_takeOn_65 rfl ?_
    refine r_aload_n d_Row_takeOn_66 rfl ?_
    refine x_callV (as := [.int i1, .ref p2, .ref p3]) (st := []) d_Row_takeOn_67 ml_Row_120 mc_Row_cut mv_Row_cut ⟨by decide, by decide⟩ (rw_O ht0) ⟨_, rfl, rfl⟩ rfl (Nat.le_of_ble_eq_true rfl) (Nat.le_of_ble_eq_true rfl) h9 ?_
    rintro _ M_5 L_6 ⟨rfl, h9⟩
    exact r_vret ⟨d_Row_takeOn_70, rfl⟩ ⟨M_5, L_6, rfl, h9⟩
  · have h9 := h9.2 c_4
    refine r_iload_n d_Row_takeOn_7 rfl ?_
    refine r_if_eq d_Row_takeOn_8 (fun c_7 => ?_) (fun c_7 => ?_)
    · have h9 := h9.1 c_7
      refine r_aload_n d_Row_takeOn_18 rfl ?_
      refine x_getR d_Row_takeOn_19 fl_Row_18 (rw_R1 ht0) ?_
      refine r_astore d_Row_takeOn_22 (by decide) ?_
      refine r_aload_n d_Row_takeOn_24 rfl ?_
      refine r_aload_n d_Row_takeOn_25 rfl ?_
      refine r_aload d_Row_takeOn_26 rfl ?_
      refine x_getI d_Row_takeOn_28 fl_Row_101 (isRe_I (rw_re2 ht0) 0 (by decide)) ?_
      refine r_aload d_Row_takeOn_31 rfl ?_
      refine x_getI d_Row_takeOn_33 fl_Row_104 (isRe_I (rw_re2 ht0) 1 (by decide)) ?_
      refine r_aload d_Row_takeOn_36 rfl ?_
      refine x_getI d_Row_takeOn_38 fl_Row_107 (isRe_I (rw_re2 ht0) 2 (by decide)) ?_
      refine r_aload d_Row_takeOn_41 rfl ?_
      refine x_getI d_Row_takeOn_43 fl_Row_110 (isRe_I (rw_re2 ht0) 3 (by decide)) ?_
      refine r_aload d_Row_takeOn_46 rfl ?_
      refine x_callV (as := [.ref p2, .int (M_1 (136 + 5 * t0 + 2) 0), .int (M_1 (136 + 5 * t0 + 2) 1), .int (M_1 (136 + 5 * t0 + 2) 2), .int (M_1 (136 + 5 * t0 + 2) 3), .ref 126]) (st := []) d_Row_takeOn_48 ml_Row_113 mc_Patch_becomeReached mv_Patch_becomeReached ⟨by decide, by decide⟩ (isP_O hp3) ⟨_, rfl, rfl⟩ rfl (Nat.le_of_ble_eq_true rfl) (Nat.le_of_ble_eq_true rfl) h9 ?_
      rintro _ M_8 L_9 ⟨rfl, h9⟩
      refine r_aload_n d_Row_takeOn_51 rfl ?_
      refine r_aload d_Row_takeOn_52 rfl ?_
      refine x_getR d_Row_takeOn_54 fl_Row_91 gR_126_1 ?_
      refine x_callV (as := [.ref 128]) (st := []) d_Row_takeOn_57 ml_Row_117 mc_Patch_cutTo mv_Patch_cutTo ⟨by decide, by decide⟩ (isP_O hp3) ⟨_, rfl, rfl⟩ rfl (Nat.le_of_ble_eq_true rfl) (Nat.le_of_ble_eq_true rfl) h9 ?_
      rintro _ M_10 L_11 ⟨rfl, h9⟩
      refine r_goto d_Row_takeOn_60 ?_
      exact r_vret ⟨d_Row_takeOn_70, rfl⟩ ⟨M_10, L_11, rfl, h9⟩
    · have h9 := h9.2 c_7
      refine r_aload_n d_Row_takeOn_11 rfl ?_
      refine x_getR d_Row_takeOn_12 fl_Row_12 (rw_R0 ht0) ?_
      refine r_goto d_Row_takeOn_15 ?_
      refine r_astore d_Row_takeOn_22 (by decide) ?_
      refine r_aload_n d_Row_takeOn_24 rfl ?_
      refine r_aload_n d_Row_takeOn_25 rfl ?_
      refine r_aload d_Row_takeOn_26 rfl ?_
      refine x_getI d_Row_takeOn_28 fl_Row_101 (isRe_I (rw_re1 ht0) 0 (by decide)) ?_
      refine r_aload d_Row_takeOn_31 rfl ?_
      refine x_getI d_Row_takeOn_33 fl_Row_104 (isRe_I (rw_re1 ht0) 1 (by decide)) ?_
      refine r_aload d_Row_takeOn_36 rfl ?_
      refine x_getI d_Row_takeOn_38 fl_Row_107 (isRe_I (rw_re1 ht0) 2 (by decide)) ?_
      refine r_aload d_Row_takeOn_41 rfl ?_
      refine x_getI d_Row_takeOn_43 fl_Row_110 (isRe_I (rw_re1 ht0) 3 (by decide)) ?_
      refine r_aload d_Row_takeOn_46 rfl ?_
      refine x_callV (as := [.ref p2, .int (M_1 (136 + 5 * t0 + 1) 0), .int (M_1 (136 + 5 * t0 + 1) 1), .int (M_1 (136 + 5 * t0 + 1) 2), .int (M_1 (136 + 5 * t0 + 1) 3), .ref 126]) (st := []) d_Row_takeOn_48 ml_Row_113 mc_Patch_becomeReached mv_Patch_becomeReached ⟨by decide, by decide⟩ (isP_O hp3) ⟨_, rfl, rfl⟩ rfl (Nat.le_of_ble_eq_true rfl) (Nat.le_of_ble_eq_true rfl) h9 ?_
      rintro _ M_12 L_13 ⟨rfl, h9⟩
      refine r_aload_n d_Row_takeOn_51 rfl ?_
      refine r_aload d_Row_takeOn_52 rfl ?_
      refine x_getR d_Row_takeOn_54 fl_Row_91 gR_126_1 ?_
      refine x_callV (as := [.ref 128]) (st := []) d_Row_takeOn_57 ml_Row_117 mc_Patch_cutTo mv_Patch_cutTo ⟨by decide, by decide⟩ (isP_O hp3) ⟨_, rfl, rfl⟩ rfl (Nat.le_of_ble_eq_true rfl) (Nat.le_of_ble_eq_true rfl) h9 ?_
      rintro _ M_14 L_15 ⟨rfl, h9⟩
      refine r_goto d_Row_takeOn_60 ?_
      exact r_vret ⟨d_Row_takeOn_70, rfl⟩ ⟨M_14, L_15, rfl, h9⟩
theorem L_Row_cut_0 {xs : List Int32} {t0 : Nat} {i1 : Int32} {p2 : Nat} {p3 : Nat} {M : Mem} {L : Int64} {Q : Option Value → Mem → Int64 → Prop} (ht0 : t0 < 40) (hp2 : isP p2) (hp3 : isP p3)
    (h : RX xs md_Patch_copy 0 [.ref p3, .ref p2] [] M L (fun r M_1 L_2 => r = none ∧ ((i1 = 0 → Q none M_1 L_2) ∧ (¬ (i1 = 0) → RX xs md_Patch_cutTo 0 [.ref p3, .ref (136 + 5 * t0 + 3)] [] M_1 L_2 (fun r M_4 L_5 => r = none ∧ Q none M_4 L_5))))) : RX xs md_Row_cut 0 [.ref (136 + 5 * t0), .int i1, .ref p2, .ref p3] [] M L Q := by
  refine r_aload_n d_Row_cut_0 rfl ?_
  refine r_aload_n d_Row_cut_1 rfl ?_
  refine x_callV (as := [.ref p2]) (st := []) d_Row_cut_2 ml_Row_77 mc_Patch_copy mv_Patch_copy ⟨by decide, by decide⟩ (isP_O hp3) ⟨_, rfl, rfl⟩ rfl (Nat.le_of_ble_eq_true rfl) (Nat.le_of_ble_eq_true rfl) h ?_
  rintro _ M_1 L_2 ⟨rfl, h9⟩
  refine r_iload_n d_Row_cut_5 rfl ?_
  refine r_if_eq d_Row_cut_6 (fun c_3 => ?_) (fun c_3 => ?_)
  · have h9 := h9.1 c_3
    exact r_vret ⟨d_Row_cut_17, rfl⟩ ⟨M_1, L_2, rfl, h9⟩
  · have h9 := h9.2 c_3
    refine r_aload_n d_Row_cut_9 rfl ?_
    refine r_aload_n d_Row_cut_10 rfl ?_
    refine x_getR d_Row_cut_11 fl_Row_24 (rw_R2 ht0) ?_
    refine x_callV (as := [.ref (136 + 5 * t0 + 3)]) (st := []) d_Row_cut_14 ml_Row_117 mc_Patch_cutTo mv_Patch_cutTo ⟨by decide, by decide⟩ (isP_O hp3) ⟨_, rfl, rfl⟩ rfl (Nat.le_of_ble_eq_true rfl) (Nat.le_of_ble_eq_true rfl) h9 ?_
    rintro _ M_4 L_5 ⟨rfl, h9⟩
    exact r_vret ⟨d_Row_cut_17, rfl⟩ ⟨M_4, L_5, rfl, h9⟩
theorem L_Row_takeBack_0 {xs : List Int32} {t0 : Nat} {p1 : Nat} {p2 : Nat} {M : Mem} {L : Int64} {Q : Option Value → Mem → Int64 → Prop} (ht0 : t0 < 40) (hp1 : isP p1) (hp2 : isP p2)
    (h : RX xs md_Row_isWatch 0 [.ref (136 + 5 * t0)] [] M L (fun r M_1 L_2 => ∃ v_3 : Int32, r = some (.int v_3) ∧ ((v_3 = 0 → RX xs md_Row_cut 0 [.ref (136 + 5 * t0), .int (M_1 (136 + 5 * t0) 7), .ref p1, .ref p2] [] M_1 L_2 (fun r M_5 L_6 => r = none ∧ Q none M_5 L_6)) ∧ (¬ (v_3 = 0) → (((M_1 (136 + 5 * t0) 7) = 0 → RX xs md_Patch_becomeReached 0 [.ref p2, .ref p1, .int (-(M_1 (136 + 5 * t0 + 2) 1)), .int (-(M_1 (136 + 5 * t0 + 2) 0)), .int (-(M_1 (136 + 5 * t0 + 2) 3)), .int (-(M_1 (136 + 5 * t0 + 2) 2)), .ref 126] [] M_1 L_2 (fun r M_8 L_9 => r = none ∧ RX xs md_Patch_cutTo 0 [.ref p2, .ref 128] [] M_8 L_9 (fun r M_10 L_11 => r = none ∧ Q none M_10 L_11))) ∧ (¬ ((M_1 (136 + 5 * t0) 7) = 0) → RX xs md_Patch_becomeReached 0 [.ref p2, .ref p1, .int (-(M_1 (136 + 5 * t0 + 1) 1)), .int (-(M_1 (136 + 5 * t0 + 1) 0)), .int (-(M_1 (136 + 5 * t0 + 1) 3)), .int (-(M_1 (136 + 5 * t0 + 1) 2)), .ref 126] [] M_1 L_2 (fun r M_12 L_13 => r = none ∧ RX xs md_Patch_cutTo 0 [.ref p2, .ref 128] [] M_12 L_13 (fun r M_14 L_15 => r = none ∧ Q none M_14 L_15)))))))) : RX xs md_Row_takeBack 0 [.ref (136 + 5 * t0), .ref p1, .ref p2, .ref 126, .null] [] M L Q := by
  refine r_aload_n d_Row_takeBack_0 rfl ?_
  refine x_callV (as := []) (st := []) d_Row_takeBack_1 ml_Row_97 mc_Row_isWatch mv_Row_isWatch ⟨by decide, by decide⟩ (rw_O ht0) ⟨_, rfl, rfl⟩ rfl (Nat.le_of_ble_eq_true rfl) (Nat.le_of_ble_eq_true rfl) h ?_
  rintro _ M_1 L_2 ⟨v_3, rfl, h9⟩
  refine r_if_eq d_Row_takeBack_4 (fun c_4 => ?_) (fun c_4 => ?_)
  · have h9 := h9.1 c_4
    refine r_aload_n d_Row_takeBack_68 rfl ?_
    refine r_aload_n d_Row_takeBack_69 rfl ?_
    refine x_getI d_Row_takeBack_70 fl_Row_58 (rw_I ht0 7 (by decide) (by decide)) ?_
    refine r_aload_n d_Row_takeBack_73 rfl ?_
    refine r_aload_n d_Row_takeBack_74 rfl ?_
    refine x_callV (as := [.int (M_1 (136 + 5 * t0) 7), .ref p1, .ref p2]) (st := []) d_Row_takeBack_75 ml_Row_120 mc_Row_cut mv_Row_cut ⟨by decide, by decide⟩ (rw_O ht0) ⟨_, rfl, rfl⟩ rfl (Nat.le_of_ble_eq_true rfl) (Nat.le_of_ble_eq_true rfl) h9 ?_
    rintro _ M_5 L_6 ⟨rfl, h9⟩
    exact r_vret ⟨d_Row_takeBack_78, rfl⟩ ⟨M_5, L_6, rfl, h9⟩
  · have h9 := h9.2 c_4
    refine r_aload_n d_Row_takeBack_7 rfl ?_
    refine x_getI d_Row_takeBack_8 fl_Row_58 (rw_I ht0 7 (by decide) (by decide)) ?_
    refine r_if_eq d_Row_takeBack_11 (fun c_7 => ?_) (fun c_7 => ?_)
    · have h9 := h9.1 c_7
      refine r_aload_n d_Row_takeBack_21 rfl ?_
      refine x_getR d_Row_takeBack_22 fl_Row_18 (rw_R1 ht0) ?_
      refine r_astore d_Row_takeBack_25 (by decide) ?_
      refine r_aload_n d_Row_takeBack_27 rfl ?_
      refine r_aload_n d_Row_takeBack_28 rfl ?_
      refine r_aload d_Row_takeBack_29 rfl ?_
      refine x_getI d_Row_takeBack_31 fl_Row_104 (isRe_I (rw_re2 ht0) 1 (by decide)) ?_
      refine r_ineg d_Row_takeBack_34 ?_
      refine r_aload d_Row_takeBack_35 rfl ?_
      refine x_getI d_Row_takeBack_37 fl_Row_101 (isRe_I (rw_re2 ht0) 0 (by decide)) ?_
      refine r_ineg d_Row_takeBack_40 ?_
      refine r_aload d_Row_takeBack_41 rfl ?_
      refine x_getI d_Row_takeBack_43 fl_Row_110 (isRe_I (rw_re2 ht0) 3 (by decide)) ?_
      refine r_ineg d_Row_takeBack_46 ?_
      refine r_aload d_Row_takeBack_47 rfl ?_
      refine x_getI d_Row_takeBack_49 fl_Row_107 (isRe_I (rw_re2 ht0) 2 (by decide)) ?_
      refine r_ineg d_Row_takeBack_52 ?_
      refine r_aload_n d_Row_takeBack_53 rfl ?_
      refine x_callV (as := [.ref p1, .int (-(M_1 (136 + 5 * t0 + 2) 1)), .int (-(M_1 (136 + 5 * t0 + 2) 0)), .int (-(M_1 (136 + 5 * t0 + 2) 3)), .int (-(M_1 (136 + 5 * t0 + 2) 2)), .ref 126]) (st := []) d_Row_takeBack_54 ml_Row_113 mc_Patch_becomeReached mv_Patch_becomeReached ⟨by decide, by decide⟩ (isP_O hp2) ⟨_, rfl, rfl⟩ rfl (Nat.le_of_ble_eq_true rfl) (Nat.le_of_ble_eq_true rfl) h9 ?_
      rintro _ M_8 L_9 ⟨rfl, h9⟩
      refine r_aload_n d_Row_takeBack_57 rfl ?_
      refine r_aload_n d_Row_takeBack_58 rfl ?_
      refine x_getR d_Row_takeBack_59 fl_Row_91 gR_126_1 ?_
      refine x_callV (as := [.ref 128]) (st := []) d_Row_takeBack_62 ml_Row_117 mc_Patch_cutTo mv_Patch_cutTo ⟨by decide, by decide⟩ (isP_O hp2) ⟨_, rfl, rfl⟩ rfl (Nat.le_of_ble_eq_true rfl) (Nat.le_of_ble_eq_true rfl) h9 ?_
      rintro _ M_10 L_11 ⟨rfl, h9⟩
      refine r_goto d_Row_takeBack_65 ?_
      exact r_vret ⟨d_Row_takeBack_78, rfl⟩ ⟨M_10, L_11, rfl, h9⟩
    · have h9 := h9.2 c_7
      refine r_aload_n d_Row_takeBack_14 rfl ?_
      refine x_getR d_Row_takeBack_15 fl_Row_12 (rw_R0 ht0) ?_
      refine r_goto d_Row_takeBack_18 ?_
      refine r_astore d_Row_takeBack_25 (by decide) ?_
      refine r_aload_n d_Row_takeBack_27 rfl ?_
      refine r_aload_n d_Row_takeBack_28 rfl ?_
      refine r_aload d_Row_takeBack_29 rfl ?_
      refine x_getI d_Row_takeBack_31 fl_Row_104 (isRe_I (rw_re1 ht0) 1 (by decide)) ?_
      refine r_ineg d_Row_takeBack_34 ?_
      refine r_aload d_Row_takeBack_35 rfl ?_
      refine x_getI d_Row_takeBack_37 fl_Row_101 (isRe_I (rw_re1 ht0) 0 (by decide)) ?_
      refine r_ineg d_Row_takeBack_40 ?_
      refine r_aload d_Row_takeBack_41 rfl ?_
      refine x_getI d_Row_takeBack_43 fl_Row_110 (isRe_I (rw_re1 ht0) 3 (by decide)) ?_
      refine r_ineg d_Row_takeBack_46 ?_
      refine r_aload d_Row_takeBack_47 rfl ?_
      refine x_getI d_Row_takeBack_49 fl_Row_107 (isRe_I (rw_re1 ht0) 2 (by decide)) ?_
      refine r_ineg d_Row_takeBack_52 ?_
      refine r_aload_n d_Row_takeBack_53 rfl ?_
      refine x_callV (as := [.ref p1, .int (-(M_1 (136 + 5 * t0 + 1) 1)), .int (-(M_1 (136 + 5 * t0 + 1) 0)), .int (-(M_1 (136 + 5 * t0 + 1) 3)), .int (-(M_1 (136 + 5 * t0 + 1) 2)), .ref 126]) (st := []) d_Row_takeBack_54 ml_Row_113 mc_Patch_becomeReached mv_Patch_becomeReached ⟨by decide, by decide⟩ (isP_O hp2) ⟨_, rfl, rfl⟩ rfl (Nat.le_of_ble_eq_true rfl) (Nat.le_of_ble_eq_true rfl) h9 ?_
      rintro _ M_12 L_13 ⟨rfl, h9⟩
      refine r_aload_n d_Row_takeBack_57 rfl ?_
      refine r_aload_n d_Row_takeBack_58 rfl ?_
      refine x_getR d_Row_takeBack_59 fl_Row_91 gR_126_1 ?_
      refine x_callV (as := [.ref 128]) (st := []) d_Row_takeBack_62 ml_Row_117 mc_Patch_cutTo mv_Patch_cutTo ⟨by decide, by decide⟩ (isP_O hp2) ⟨_, rfl, rfl⟩ rfl (Nat.le_of_ble_eq_true rfl) (Nat.le_of_ble_eq_true rfl) h9 ?_
      rintro _ M_14 L_15 ⟨rfl, h9⟩
      refine r_goto d_Row_takeBack_65 ?_
      exact r_vret ⟨d_Row_takeBack_78, rfl⟩ ⟨M_14, L_15, rfl, h9⟩
theorem L_Patch_isEmpty_0 {xs : List Int32} {p0 : Nat} {M : Mem} {L : Int64} {Q : Option Value → Mem → Int64 → Prop} (hp0 : isP p0)
    (h : RX xs md_Patch_isEmpty 2 [.ref p0, .int 0] [] M L Q) : RX xs md_Patch_isEmpty 0 [.ref p0, .null] [] M L Q := by
  refine r_iconst (v := 0) d_Patch_isEmpty_0 (by decide) ?_
  refine r_istore_n d_Patch_isEmpty_1 (by decide) ?_
  exact h
theorem L_Patch_isEmpty_2 {xs : List Int32} {p0 : Nat} {i1 : Int32} {M : Mem} {L : Int64} {Q : Option Value → Mem → Int64 → Prop} (hp0 : isP p0)
    (h : ((20 ≤ i1 → Q (some (.int 1)) M L) ∧ (¬ (20 ≤ i1) → (vp_in i1 20 ∧ (((M (p0 + 1) i1.toNatClampNeg) = 0 → RX xs md_Patch_isEmpty 2 [.ref p0, .int (i1 + 1)] [] M L Q) ∧ (¬ ((M (p0 + 1) i1.toNatClampNeg) = 0) → Q (some (.int 0)) M L)))))) : RX xs md_Patch_isEmpty 2 [.ref p0, .int i1] [] M L Q := by
  refine r_iload_n d_Patch_isEmpty_2 rfl ?_
  refine r_bipush (v := 20) d_Patch_isEmpty_3 (by decide) ?_
  refine r_ic_ge d_Patch_isEmpty_5 (fun c_1 => ?_) (fun c_1 => ?_)
  · have h9 := h.1 c_1
    refine r_iconst (v := 1) d_Patch_isEmpty_25 (by decide) ?_
    exact r_iret ⟨d_Patch_isEmpty_26, _, rfl, rfl⟩ ⟨_, _, rfl, h9⟩
  · have h9 := h.2 c_1
    refine r_aload_n d_Patch_isEmpty_8 rfl ?_
    refine x_getR d_Patch_isEmpty_9 fl_Patch_9 (isP_R hp0) ?_
    refine r_iload_n d_Patch_isEmpty_12 rfl ?_
    obtain ⟨o_2, h9⟩ := h9
    refine x_iald d_Patch_isEmpty_13 (isP_A hp0) o_2 ?_
    refine r_if_eq d_Patch_isEmpty_14 (fun c_3 => ?_) (fun c_3 => ?_)
    · have h9 := h9.1 c_3
      refine r_iinc (v := i1 + 1) d_Patch_isEmpty_19 rfl rfl (by decide) ?_
      refine r_goto d_Patch_isEmpty_22 ?_
      exact h9
    · have h9 := h9.2 c_3
      refine r_iconst (v := 0) d_Patch_isEmpty_17 (by decide) ?_
      exact r_iret ⟨d_Patch_isEmpty_18, _, rfl, rfl⟩ ⟨_, _, rfl, h9⟩
theorem L_Patch_meets_0 {xs : List Int32} {p0 : Nat} {p1 : Nat} {M : Mem} {L : Int64} {Q : Option Value → Mem → Int64 → Prop} (hp0 : isP p0) (hp1 : isP p1)
    (h : RX xs md_Patch_meets 2 [.ref p0, .ref p1, .int 0] [] M L Q) : RX xs md_Patch_meets 0 [.ref p0, .ref p1, .null] [] M L Q := by
  refine r_iconst (v := 0) d_Patch_meets_0 (by decide) ?_
  refine r_istore_n d_Patch_meets_1 (by decide) ?_
  exact h
theorem L_Patch_meets_2 {xs : List Int32} {p0 : Nat} {p1 : Nat} {i2 : Int32} {M : Mem} {L : Int64} {Q : Option Value → Mem → Int64 → Prop} (hp0 : isP p0) (hp1 : isP p1)
    (h : ((20 ≤ i2 → Q (some (.int 0)) M L) ∧ (¬ (20 ≤ i2) → (vp_in i2 20 ∧ ((((M (p0 + 1) i2.toNatClampNeg) &&& (M (p1 + 1) i2.toNatClampNeg)) = 0 → RX xs md_Patch_meets 2 [.ref p0, .ref p1, .int (i2 + 1)] [] M L Q) ∧ (¬ (((M (p0 + 1) i2.toNatClampNeg) &&& (M (p1 + 1) i2.toNatClampNeg)) = 0) → Q (some (.int 1)) M L)))))) : RX xs md_Patch_meets 2 [.ref p0, .ref p1, .int i2] [] M L Q := by
  refine r_iload_n d_Patch_meets_2 rfl ?_
  refine r_bipush (v := 20) d_Patch_meets_3 (by decide) ?_
  refine r_ic_ge d_Patch_meets_5 (fun c_1 => ?_) (fun c_1 => ?_)
  · have h9 := h.1 c_1
    refine r_iconst (v := 0) d_Patch_meets_32 (by decide) ?_
    exact r_iret ⟨d_Patch_meets_33, _, rfl, rfl⟩ ⟨_, _, rfl, h9⟩
  · have h9 := h.2 c_1
    refine r_aload_n d_Patch_meets_8 rfl ?_
    refine x_getR d_Patch_meets_9 fl_Patch_9 (isP_R hp0) ?_
    refine r_iload_n d_Patch_meets_12 rfl ?_
    obtain ⟨o_2, h9⟩ := h9
    refine x_iald d_Patch_meets_13 (isP_A hp0) o_2 ?_
    refine r_aload_n d_Patch_meets_14 rfl ?_
    refine x_getR d_Patch_meets_15 fl_Patch_9 (isP_R hp1) ?_
    refine r_iload_n d_Patch_meets_18 rfl ?_
    refine x_iald d_Patch_meets_19 (isP_A hp1) o_2 ?_
    refine r_iand d_Patch_meets_20 ?_
    refine r_if_eq d_Patch_meets_21 (fun c_3 => ?_) (fun c_3 => ?_)
    · have h9 := h9.1 c_3
      refine r_iinc (v := i2 + 1) d_Patch_meets_26 rfl rfl (by decide) ?_
      refine r_goto d_Patch_meets_29 ?_
      exact h9
    · have h9 := h9.2 c_3
      refine r_iconst (v := 1) d_Patch_meets_24 (by decide) ?_
      exact r_iret ⟨d_Patch_meets_25, _, rfl, rfl⟩ ⟨_, _, rfl, h9⟩
theorem L_Patch_seenFrom_0 {xs : List Int32} {p0 : Nat} {i1 : Int32} {i2 : Int32} {M : Mem} {L : Int64} {Q : Option Value → Mem → Int64 → Prop} (hp0 : isP p0)
    (h : RX xs md_Peg_isWithin 0 [.int i2, .int 0, .int 19] [] M L (fun r M_1 L_2 => ∃ v_3 : Int32, r = some (.int v_3) ∧ ((v_3 = 0 → Q (some (.int 0)) M_1 L_2) ∧ (¬ (v_3 = 0) → RX xs md_Peg_isWithin 0 [.int i1, .int (-19), .int 19] [] M_1 L_2 (fun r M_5 L_6 => ∃ v_7 : Int32, r = some (.int v_7) ∧ ((v_7 = 0 → Q (some (.int 0)) M_5 L_6) ∧ (¬ (v_7 = 0) → ((i1 < 0 → (vp_in i2 20 ∧ RX xs md_Patch_firstBits 0 [.int 20] [] M_5 L_6 (fun r M_11 L_12 => ∃ v_13 : Int32, r = some (.int v_13) ∧ Q (some (.int (((M_5 (p0 + 1) i2.toNatClampNeg) <<< ((-i1) &&& 31)) &&& v_13))) M_11 L_12))) ∧ (¬ (i1 < 0) → (vp_in i2 20 ∧ Q (some (.int ((M_5 (p0 + 1) i2.toNatClampNeg) >>> (i1 &&& 31)))) M_5 L_6)))))))))) : RX xs md_Patch_seenFrom 0 [.ref p0, .int i1, .int i2] [] M L Q := by
  refine r_iload_n d_Patch_seenFrom_0 rfl ?_
  refine r_iconst (v := 0) d_Patch_seenFrom_1 (by decide) ?_
  refine r_bipush (v := 19) d_Patch_seenFrom_2 (by decide) ?_
  refine x_callS (as := [.int i2, .int 0, .int 19]) (st := []) d_Patch_seenFrom_4 ml_Patch_33 mc_Peg_isWithin ms_Peg_isWithin ⟨by decide, by decide⟩ rfl (Nat.le_of_ble_eq_true rfl) (Nat.le_of_ble_eq_true rfl) h ?_
  rintro _ M_1 L_2 ⟨v_3, rfl, h9⟩
  refine r_if_eq d_Patch_seenFrom_7 (fun c_4 => ?_) (fun c_4 => ?_)
  · have h9 := h9.1 c_4
    refine r_iconst (v := 0) d_Patch_seenFrom_21 (by decide) ?_
    exact r_iret ⟨d_Patch_seenFrom_22, _, rfl, rfl⟩ ⟨_, _, rfl, h9⟩
  · have h9 := h9.2 c_4
    refine r_iload_n d_Patch_seenFrom_10 rfl ?_
    refine r_bipush (v := (-19)) d_Patch_seenFrom_11 (by decide) ?_
    refine r_bipush (v := 19) d_Patch_seenFrom_13 (by decide) ?_
    refine x_callS (as := [.int i1, .int (-19), .int 19]) (st := []) d_Patch_seenFrom_15 ml_Patch_33 mc_Peg_isWithin ms_Peg_isWithin ⟨by decide, by decide⟩ rfl (Nat.le_of_ble_eq_true rfl) (Nat.le_of_ble_eq_true rfl) h9 ?_
    rintro _ M_5 L_6 ⟨v_7, rfl, h9⟩
    refine r_if_ne d_Patch_seenFrom_18 (fun c_8 => ?_) (fun c_8 => ?_)
    · have h9 := h9.2 c_8
      refine r_iload_n d_Patch_seenFrom_23 rfl ?_
      refine r_if_lt d_Patch_seenFrom_24 (fun c_9 => ?_) (fun c_9 => ?_)
      · have h9 := h9.1 c_9
        refine r_aload_n d_Patch_seenFrom_38 rfl ?_
        refine x_getR d_Patch_seenFrom_39 fl_Patch_9 (isP_R hp0) ?_
        refine r_iload_n d_Patch_seenFrom_42 rfl ?_
        obtain ⟨o_10, h9⟩ := h9
        refine x_iald d_Patch_seenFrom_43 (isP_A hp0) o_10 ?_
        refine r_iload_n d_Patch_seenFrom_44 rfl ?_
        refine r_ineg d_Patch_seenFrom_45 ?_
        refine r_ishl d_Patch_seenFrom_46 ?_
        refine r_bipush (v := 20) d_Patch_seenFrom_47 (by decide) ?_
        refine x_callS (as := [.int 20]) (st := [.int ((M_5 (p0 + 1) i2.toNatClampNeg) <<< ((-i1) &&& 31))]) d_Patch_seenFrom_49 ml_Patch_48 mc_Patch_firstBits ms_Patch_firstBits ⟨by decide, by decide⟩ rfl (Nat.le_of_ble_eq_true rfl) (Nat.le_of_ble_eq_true rfl) h9 ?_
        rintro _ M_11 L_12 ⟨v_13, rfl, h9⟩
        refine r_iand d_Patch_seenFrom_52 ?_
        exact r_iret ⟨d_Patch_seenFrom_53, _, rfl, rfl⟩ ⟨_, _, rfl, h9⟩
      · have h9 := h9.2 c_9
        refine r_aload_n d_Patch_seenFrom_27 rfl ?_
        refine x_getR d_Patch_seenFrom_28 fl_Patch_9 (isP_R hp0) ?_
        refine r_iload_n d_Patch_seenFrom_31 rfl ?_
        obtain ⟨o_14, h9⟩ := h9
        refine x_iald d_Patch_seenFrom_32 (isP_A hp0) o_14 ?_
        refine r_iload_n d_Patch_seenFrom_33 rfl ?_
        refine r_ishr d_Patch_seenFrom_34 ?_
        refine r_goto d_Patch_seenFrom_35 ?_
        exact r_iret ⟨d_Patch_seenFrom_53, _, rfl, rfl⟩ ⟨_, _, rfl, h9⟩
    · have h9 := h9.1 c_8
      refine r_iconst (v := 0) d_Patch_seenFrom_21 (by decide) ?_
      exact r_iret ⟨d_Patch_seenFrom_22, _, rfl, rfl⟩ ⟨_, _, rfl, h9⟩
theorem L_Words_foldInto_0 {xs : List Int32} {l1 : Int64} {M : Mem} {L : Int64} {Q : Option Value → Mem → Int64 → Prop} 
    (h : RX xs md_Words_foldInto 5 [.ref 1, .null, .null, .long l1, .null, .int 0] [] M L Q) : RX xs md_Words_foldInto 0 [.ref 1, .long l1, .null, .null, .null, .null] [] M L Q := by
  refine r_lload_n d_Words_foldInto_0 rfl ?_
  refine r_lstore_n d_Words_foldInto_1 (by decide) ?_
  refine r_iconst (v := 0) d_Words_foldInto_2 (by decide) ?_
  refine r_istore d_Words_foldInto_3 (by decide) ?_
  refine r_weak (lv' := [.ref 1, .null, .null, .long l1, .null, .int 0]) (by repeat (first | exact trivial | refine ⟨rfl, ?_⟩ | exact lle_nil)) ?_
  exact h
theorem L_Words_foldInto_5 {xs : List Int32} {l1 : Int64} {l3 : Int64} {i5 : Int32} {M : Mem} {L : Int64} {Q : Option Value → Mem → Int64 → Prop} 
    (h : (((M 1 2) ≤ i5 → Q (some (.long l3)) M L) ∧ (¬ ((M 1 2) ≤ i5) → (vp_in i5 24 ∧ RX xs md_Peg_fold 0 [.long l3, .null, .int (M 2 i5.toNatClampNeg)] [] M L (fun r M_3 L_4 => ∃ v_5 : Int64, r = some (.long v_5) ∧ RX xs md_Words_foldInto 5 [.ref 1, .null, .null, .long v_5, .null, .int (i5 + 1)] [] M_3 L_4 Q))))) : RX xs md_Words_foldInto 5 [.ref 1, .null, .null, .long l3, .null, .int i5] [] M L Q := by
  refine r_iload d_Words_foldInto_5 rfl ?_
  refine r_aload_n d_Words_foldInto_7 rfl ?_
  refine x_getI d_Words_foldInto_8 fl_Words_18 gI_1_2 ?_
  refine r_ic_ge d_Words_foldInto_11 (fun c_1 => ?_) (fun c_1 => ?_)
  · have h9 := h.1 c_1
    refine r_lload_n d_Words_foldInto_32 rfl ?_
    exact r_lret ⟨d_Words_foldInto_33, rfl⟩ ⟨_, _, rfl, h9⟩
  · have h9 := h.2 c_1
    refine r_lload_n d_Words_foldInto_14 rfl ?_
    refine r_aload_n d_Words_foldInto_15 rfl ?_
    refine x_getR d_Words_foldInto_16 fl_Words_11 gR_1_0 ?_
    refine r_iload d_Words_foldInto_19 rfl ?_
    obtain ⟨o_2, h9⟩ := h9
    refine x_iald d_Words_foldInto_21 aI_2 o_2 ?_
    refine x_callS (as := [.long l3, .int (M 2 i5.toNatClampNeg)]) (st := []) d_Words_foldInto_22 ml_Words_42 mc_Peg_fold ms_Peg_fold ⟨by decide, by decide⟩ rfl (Nat.le_of_ble_eq_true rfl) (Nat.le_of_ble_eq_true rfl) h9 ?_
    rintro _ M_3 L_4 ⟨v_5, rfl, h9⟩
    refine r_lstore_n d_Words_foldInto_25 (by decide) ?_
    refine r_iinc (v := i5 + 1) d_Words_foldInto_26 rfl rfl (by decide) ?_
    refine r_goto d_Words_foldInto_29 ?_
    exact h9

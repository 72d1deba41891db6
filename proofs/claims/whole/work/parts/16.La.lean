theorem L_JMath_max_0 {xs : List Int32} {S : List Shp} {i0 : Int32} {i1 : Int32} {M : Mem} {L : Int64} {Q : Option Value → Mem → Int64 → Prop} 
    (h : ((i0 < i1 → Q (some (.int i1)) M L) ∧ (¬ (i0 < i1) → Q (some (.int i0)) M L))) : RX xs S md_JMath_max 0 [.int i0, .int i1] [] M L Q := by
  refine r_iload_n d_JMath_max_0 rfl ?_
  refine r_iload_n d_JMath_max_1 rfl ?_
  refine r_ic_lt d_JMath_max_2 (fun c_1 => ?_) (fun c_1 => ?_)
  · have h9 := h.1 c_1
    refine r_iload_n d_JMath_max_9 rfl ?_
    exact r_iret ⟨d_JMath_max_10, _, rfl, rfl⟩ ⟨_, _, rfl, h9⟩
  · have h9 := h.2 c_1
    refine r_iload_n d_JMath_max_5 rfl ?_
    refine r_goto d_JMath_max_6 ?_
    exact r_iret ⟨d_JMath_max_10, _, rfl, rfl⟩ ⟨_, _, rfl, h9⟩
theorem L_JMath_min_0 {xs : List Int32} {S : List Shp} {i0 : Int32} {i1 : Int32} {M : Mem} {L : Int64} {Q : Option Value → Mem → Int64 → Prop} 
    (h : ((i1 < i0 → Q (some (.int i1)) M L) ∧ (¬ (i1 < i0) → Q (some (.int i0)) M L))) : RX xs S md_JMath_min 0 [.int i0, .int i1] [] M L Q := by
  refine r_iload_n d_JMath_min_0 rfl ?_
  refine r_iload_n d_JMath_min_1 rfl ?_
  refine r_ic_gt d_JMath_min_2 (fun c_1 => ?_) (fun c_1 => ?_)
  · have h9 := h.1 c_1
    refine r_iload_n d_JMath_min_9 rfl ?_
    exact r_iret ⟨d_JMath_min_10, _, rfl, rfl⟩ ⟨_, _, rfl, h9⟩
  · have h9 := h.2 c_1
    refine r_iload_n d_JMath_min_5 rfl ?_
    refine r_goto d_JMath_min_6 ?_
    exact r_iret ⟨d_JMath_min_10, _, rfl, rfl⟩ ⟨_, _, rfl, h9⟩
theorem L_JMath_floorDiv_0 {xs : List Int32} {S : List Shp} {i0 : Int32} {i1 : Int32} {M : Mem} {L : Int64} {Q : Option Value → Mem → Int64 → Prop} 
    (h : (¬ i1 = 0 ∧ ((0 ≤ (i0 ^^^ i1) → Q (some (.int (i0 / i1))) M L) ∧ (¬ (0 ≤ (i0 ^^^ i1)) → ((((i0 / i1) * i1) = i0 → Q (some (.int (i0 / i1))) M L) ∧ (¬ (((i0 / i1) * i1) = i0) → Q (some (.int ((i0 / i1) - 1))) M L)))))) : RX xs S md_JMath_floorDiv 0 [.int i0, .int i1] [] M L Q := by
  refine r_weak (lv' := [.int i0, .int i1, .null]) (by repeat (first | exact trivial | refine ⟨rfl, ?_⟩ | exact lle_nil)) ?_
  refine r_iload_n d_JMath_floorDiv_0 rfl ?_
  refine r_iload_n d_JMath_floorDiv_1 rfl ?_
  obtain ⟨o_1, h9⟩ := h
  refine r_idiv d_JMath_floorDiv_2 o_1 ?_
  refine r_istore_n d_JMath_floorDiv_3 (by decide) ?_
  refine r_iload_n d_JMath_floorDiv_4 rfl ?_
  refine r_iload_n d_JMath_floorDiv_5 rfl ?_
  refine r_ixor d_JMath_floorDiv_6 ?_
  refine r_if_ge d_JMath_floorDiv_7 (fun c_2 => ?_) (fun c_2 => ?_)
  · have h9 := h9.1 c_2
    refine r_iload_n d_JMath_floorDiv_21 rfl ?_
    exact r_iret ⟨d_JMath_floorDiv_22, _, rfl, rfl⟩ ⟨_, _, rfl, h9⟩
  · have h9 := h9.2 c_2
    refine r_iload_n d_JMath_floorDiv_10 rfl ?_
    refine r_iload_n d_JMath_floorDiv_11 rfl ?_
    refine r_imul d_JMath_floorDiv_12 ?_
    refine r_iload_n d_JMath_floorDiv_13 rfl ?_
    refine r_ic_eq d_JMath_floorDiv_14 (fun c_3 => ?_) (fun c_3 => ?_)
    · have h9 := h9.1 c_3
      refine r_iload_n d_JMath_floorDiv_21 rfl ?_
      exact r_iret ⟨d_JMath_floorDiv_22, _, rfl, rfl⟩ ⟨_, _, rfl, h9⟩
    · have h9 := h9.2 c_3
      refine r_iload_n d_JMath_floorDiv_17 rfl ?_
      refine r_iconst (v := 1) d_JMath_floorDiv_18 (by decide) ?_
      refine r_isub d_JMath_floorDiv_19 ?_
      exact r_iret ⟨d_JMath_floorDiv_20, _, rfl, rfl⟩ ⟨_, _, rfl, h9⟩
theorem L_JInteger_bitCount_0 {xs : List Int32} {S : List Shp} {i0 : Int32} {M : Mem} {L : Int64} {Q : Option Value → Mem → Int64 → Prop} 
    (h : Q (some (.int ((((((((i0 - (((i0.toUInt32 >>> ((1 : Int32).toUInt32 &&& Int32.toUInt32 31)).toInt32) &&& 1431655765)) &&& 858993459) + ((((i0 - (((i0.toUInt32 >>> ((1 : Int32).toUInt32 &&& Int32.toUInt32 31)).toInt32) &&& 1431655765)).toUInt32 >>> ((2 : Int32).toUInt32 &&& Int32.toUInt32 31)).toInt32) &&& 858993459)) + (((((i0 - (((i0.toUInt32 >>> ((1 : Int32).toUInt32 &&& Int32.toUInt32 31)).toInt32) &&& 1431655765)) &&& 858993459) + ((((i0 - (((i0.toUInt32 >>> ((1 : Int32).toUInt32 &&& Int32.toUInt32 31)).toInt32) &&& 1431655765)).toUInt32 >>> ((2 : Int32).toUInt32 &&& Int32.toUInt32 31)).toInt32) &&& 858993459)).toUInt32 >>> ((4 : Int32).toUInt32 &&& Int32.toUInt32 31)).toInt32)) &&& 252645135) + (((((((i0 - (((i0.toUInt32 >>> ((1 : Int32).toUInt32 &&& Int32.toUInt32 31)).toInt32) &&& 1431655765)) &&& 858993459) + ((((i0 - (((i0.toUInt32 >>> ((1 : Int32).toUInt32 &&& Int32.toUInt32 31)).toInt32) &&& 1431655765)).toUInt32 >>> ((2 : Int32).toUInt32 &&& Int32.toUInt32 31)).toInt32) &&& 858993459)) + (((((i0 - (((i0.toUInt32 >>> ((1 : Int32).toUInt32 &&& Int32.toUInt32 31)).toInt32) &&& 1431655765)) &&& 858993459) + ((((i0 - (((i0.toUInt32 >>> ((1 : Int32).toUInt32 &&& Int32.toUInt32 31)).toInt32) &&& 1431655765)).toUInt32 >>> ((2 : Int32).toUInt32 &&& Int32.toUInt32 31)).toInt32) &&& 858993459)).toUInt32 >>> ((4 : Int32).toUInt32 &&& Int32.toUInt32 31)).toInt32)) &&& 252645135).toUInt32 >>> ((8 : Int32).toUInt32 &&& Int32.toUInt32 31)).toInt32)) + ((((((((i0 - (((i0.toUInt32 >>> ((1 : Int32).toUInt32 &&& Int32.toUInt32 31)).toInt32) &&& 1431655765)) &&& 858993459) + ((((i0 - (((i0.toUInt32 >>> ((1 : Int32).toUInt32 &&& Int32.toUInt32 31)).toInt32) &&& 1431655765)).toUInt32 >>> ((2 : Int32).toUInt32 &&& Int32.toUInt32 31)).toInt32) &&& 858993459)) + (((((i0 - (((i0.toUInt32 >>> ((1 : Int32).toUInt32 &&& Int32.toUInt32 31)).toInt32) &&& 1431655765)) &&& 858993459) + ((((i0 - (((i0.toUInt32 >>> ((1 : Int32).toUInt32 &&& Int32.toUInt32 31)).toInt32) &&& 1431655765)).toUInt32 >>> ((2 : Int32).toUInt32 &&& Int32.toUInt32 31)).toInt32) &&& 858993459)).toUInt32 >>> ((4 : Int32).toUInt32 &&& Int32.toUInt32 31)).toInt32)) &&& 252645135) + (((((((i0 - (((i0.toUInt32 >>> ((1 : Int32).toUInt32 &&& Int32.toUInt32 31)).toInt32) &&& 1431655765)) &&& 858993459) + ((((i0 - (((i0.toUInt32 >>> ((1 : Int32).toUInt32 &&& Int32.toUInt32 31)).toInt32) &&& 1431655765)).toUInt32 >>> ((2 : Int32).toUInt32 &&& Int32.toUInt32 31)).toInt32) &&& 858993459)) + (((((i0 - (((i0.toUInt32 >>> ((1 : Int32).toUInt32 &&& Int32.toUInt32 31)).toInt32) &&& 1431655765)) &&& 858993459) + ((((i0 - (((i0.toUInt32 >>> ((1 : Int32).toUInt32 &&& Int32.toUInt32 31)).toInt32) &&& 1431655765)).toUInt32 >>> ((2 : Int32).toUInt32 &&& Int32.toUInt32 31)).toInt32) &&& 858993459)).toUInt32 >>> ((4 : Int32).toUInt32 &&& Int32.toUInt32 31)).toInt32)) &&& 252645135).toUInt32 >>> ((8 : Int32).toUInt32 &&& Int32.toUInt32 31)).toInt32)).toUInt32 >>> ((16 : Int32).toUInt32 &&& Int32.toUInt32 31)).toInt32)) &&& 63))) M L) : RX xs S md_JInteger_bitCount 0 [.int i0] [] M L Q := by
  refine r_iload_n d_JInteger_bitCount_0 rfl ?_
  refine r_iload_n d_JInteger_bitCount_1 rfl ?_
  refine r_iconst (v := 1) d_JInteger_bitCount_2 (by decide) ?_
  refine r_iushr d_JInteger_bitCount_3 ?_
  refine r_ldcw (v := 1431655765) d_JInteger_bitCount_4 ck_JInteger_265 ?_
  refine r_iand d_JInteger_bitCount_7 ?_
  refine r_isub d_JInteger_bitCount_8 ?_
  refine r_istore_n d_JInteger_bitCount_9 (by decide) ?_
  refine r_iload_n d_JInteger_bitCount_10 rfl ?_
  refine r_ldcw (v := 858993459) d_JInteger_bitCount_11 ck_JInteger_266 ?_
  refine r_iand d_JInteger_bitCount_14 ?_
  refine r_iload_n d_JInteger_bitCount_15 rfl ?_
  refine r_iconst (v := 2) d_JInteger_bitCount_16 (by decide) ?_
  refine r_iushr d_JInteger_bitCount_17 ?_
  refine r_ldcw (v := 858993459) d_JInteger_bitCount_18 ck_JInteger_266 ?_
  refine r_iand d_JInteger_bitCount_21 ?_
  refine r_iadd d_JInteger_bitCount_22 ?_
  refine r_istore_n d_JInteger_bitCount_23 (by decide) ?_
  refine r_iload_n d_JInteger_bitCount_24 rfl ?_
  refine r_iload_n d_JInteger_bitCount_25 rfl ?_
  refine r_iconst (v := 4) d_JInteger_bitCount_26 (by decide) ?_
  refine r_iushr d_JInteger_bitCount_27 ?_
  refine r_iadd d_JInteger_bitCount_28 ?_
  refine r_ldcw (v := 252645135) d_JInteger_bitCount_29 ck_JInteger_267 ?_
  refine r_iand d_JInteger_bitCount_32 ?_
  refine r_istore_n d_JInteger_bitCount_33 (by decide) ?_
  refine r_iload_n d_JInteger_bitCount_34 rfl ?_
  refine r_iload_n d_JInteger_bitCount_35 rfl ?_
  refine r_bipush (v := 8) d_JInteger_bitCount_36 (by decide) ?_
  refine r_iushr d_JInteger_bitCount_38 ?_
  refine r_iadd d_JInteger_bitCount_39 ?_
  refine r_istore_n d_JInteger_bitCount_40 (by decide) ?_
  refine r_iload_n d_JInteger_bitCount_41 rfl ?_
  refine r_iload_n d_JInteger_bitCount_42 rfl ?_
  refine r_bipush (v := 16) d_JInteger_bitCount_43 (by decide) ?_
  refine r_iushr d_JInteger_bitCount_45 ?_
  refine r_iadd d_JInteger_bitCount_46 ?_
  refine r_istore_n d_JInteger_bitCount_47 (by decide) ?_
  refine r_iload_n d_JInteger_bitCount_48 rfl ?_
  refine r_bipush (v := 63) d_JInteger_bitCount_49 (by decide) ?_
  refine r_iand d_JInteger_bitCount_51 ?_
  exact r_iret ⟨d_JInteger_bitCount_52, _, rfl, rfl⟩ ⟨_, _, rfl, h⟩
theorem L_JArrays_fill_0 {xs : List Int32} {S : List Shp} {p0 : Nat} {n0 : Nat} {i1 : Int32} {M : Mem} {L : Int64} {Q : Option Value → Mem → Int64 → Prop} (ha0 : aI S p0 n0)
    (h : RX xs S md_JArrays_fill 5 [.ref p0, .int i1, .int 0, .int (Int32.ofNat n0)] [] M L Q) : RX xs S md_JArrays_fill 0 [.ref p0, .int i1] [] M L Q := by
  refine r_weak (lv' := [.ref p0, .int i1, .null, .null]) (by repeat (first | exact trivial | refine ⟨rfl, ?_⟩ | exact lle_nil)) ?_
  refine r_iconst (v := 0) d_JArrays_fill_0 (by decide) ?_
  refine r_istore_n d_JArrays_fill_1 (by decide) ?_
  refine r_aload_n d_JArrays_fill_2 rfl ?_
  refine x_alen d_JArrays_fill_3 ha0 ?_
  refine r_istore_n d_JArrays_fill_4 (by decide) ?_
  exact h
theorem L_JArrays_fill_5 {xs : List Int32} {S : List Shp} {p0 : Nat} {n0 : Nat} {i1 : Int32} {i2 : Int32} {i3 : Int32} {M : Mem} {L : Int64} {Q : Option Value → Mem → Int64 → Prop} (ha0 : aI S p0 n0)
    (h : ((i3 ≤ i2 → Q none M L) ∧ (¬ (i3 ≤ i2) → (vp_in i2 n0 ∧ RX xs S md_JArrays_fill 5 [.ref p0, .int i1, .int (i2 + 1), .int i3] [] (up M p0 i2.toNatClampNeg i1) L Q)))) : RX xs S md_JArrays_fill 5 [.ref p0, .int i1, .int i2, .int i3] [] M L Q := by
  refine r_iload_n d_JArrays_fill_5 rfl ?_
  refine r_iload_n d_JArrays_fill_6 rfl ?_
  refine r_ic_ge d_JArrays_fill_7 (fun c_1 => ?_) (fun c_1 => ?_)
  · have h9 := h.1 c_1
    exact r_vret ⟨d_JArrays_fill_20, rfl⟩ ⟨M, L, rfl, h9⟩
  · have h9 := h.2 c_1
    refine r_aload_n d_JArrays_fill_10 rfl ?_
    refine r_iload_n d_JArrays_fill_11 rfl ?_
    refine r_iload_n d_JArrays_fill_12 rfl ?_
    obtain ⟨o_2, h9⟩ := h9
    refine x_iast d_JArrays_fill_13 ha0 o_2 ?_
    refine r_iinc (v := i2 + 1) d_JArrays_fill_14 rfl rfl (by decide) ?_
    refine r_goto d_JArrays_fill_17 ?_
    exact h9
theorem L_Peg_isWithin_0 {xs : List Int32} {S : List Shp} {i0 : Int32} {i1 : Int32} {i2 : Int32} {M : Mem} {L : Int64} {Q : Option Value → Mem → Int64 → Prop} 
    (h : ((i0 < i1 → Q (some (.int 0)) M L) ∧ (¬ (i0 < i1) → ((i2 < i0 → Q (some (.int 0)) M L) ∧ (¬ (i2 < i0) → Q (some (.int 1)) M L))))) : RX xs S md_Peg_isWithin 0 [.int i0, .int i1, .int i2] [] M L Q := by
  refine r_iload_n d_Peg_isWithin_0 rfl ?_
  refine r_iload_n d_Peg_isWithin_1 rfl ?_
  refine r_ic_lt d_Peg_isWithin_2 (fun c_1 => ?_) (fun c_1 => ?_)
  · have h9 := h.1 c_1
    refine r_iconst (v := 0) d_Peg_isWithin_14 (by decide) ?_
    exact r_iret ⟨d_Peg_isWithin_15, _, rfl, rfl⟩ ⟨_, _, rfl, h9⟩
  · have h9 := h.2 c_1
    refine r_iload_n d_Peg_isWithin_5 rfl ?_
    refine r_iload_n d_Peg_isWithin_6 rfl ?_
    refine r_ic_gt d_Peg_isWithin_7 (fun c_2 => ?_) (fun c_2 => ?_)
    · have h9 := h9.1 c_2
      refine r_iconst (v := 0) d_Peg_isWithin_14 (by decide) ?_
      exact r_iret ⟨d_Peg_isWithin_15, _, rfl, rfl⟩ ⟨_, _, rfl, h9⟩
    · have h9 := h9.2 c_2
      refine r_iconst (v := 1) d_Peg_isWithin_10 (by decide) ?_
      refine r_goto d_Peg_isWithin_11 ?_
      exact r_iret ⟨d_Peg_isWithin_15, _, rfl, rfl⟩ ⟨_, _, rfl, h9⟩
theorem L_Peg_asNumber_0 {xs : List Int32} {S : List Shp} {i0 : Int32} {M : Mem} {L : Int64} {Q : Option Value → Mem → Int64 → Prop} 
    (h : ((i0 = 0 → Q (some (.int 0)) M L) ∧ (¬ (i0 = 0) → Q (some (.int 1)) M L))) : RX xs S md_Peg_asNumber 0 [.int i0] [] M L Q := by
  refine r_iload_n d_Peg_asNumber_0 rfl ?_
  refine r_if_eq d_Peg_asNumber_1 (fun c_1 => ?_) (fun c_1 => ?_)
  · have h9 := h.1 c_1
    refine r_iconst (v := 0) d_Peg_asNumber_8 (by decide) ?_
    exact r_iret ⟨d_Peg_asNumber_9, _, rfl, rfl⟩ ⟨_, _, rfl, h9⟩
  · have h9 := h.2 c_1
    refine r_iconst (v := 1) d_Peg_asNumber_4 (by decide) ?_
    refine r_goto d_Peg_asNumber_5 ?_
    exact r_iret ⟨d_Peg_asNumber_9, _, rfl, rfl⟩ ⟨_, _, rfl, h9⟩
theorem L_Peg_fold_0 {xs : List Int32} {S : List Shp} {l0 : Int64} {i2 : Int32} {M : Mem} {L : Int64} {Q : Option Value → Mem → Int64 → Prop} 
    (h : Q (some (.long ((31 * l0) + ((i2 : Int32).toInt64)))) M L) : RX xs S md_Peg_fold 0 [.long l0, .null, .int i2] [] M L Q := by
  refine r_ldc2 (v := 31) d_Peg_fold_0 ck_Peg_315 ?_
  refine r_lload_n d_Peg_fold_3 rfl ?_
  refine r_lmul d_Peg_fold_4 ?_
  refine r_iload_n d_Peg_fold_5 rfl ?_
  refine r_i2l d_Peg_fold_6 ?_
  refine r_ladd d_Peg_fold_7 ?_
  exact r_lret ⟨d_Peg_fold_8, rfl⟩ ⟨_, _, rfl, h⟩
theorem L_Peg_isStream_0 {xs : List Int32} {S : List Shp} {i0 : Int32} {i1 : Int32} {M : Mem} {L : Int64} {Q : Option Value → Mem → Int64 → Prop} 
    (h : ((i0 < (-20000) → Q (some (.int 0)) M L) ∧ (¬ (i0 < (-20000)) → ((20000 < i1 → Q (some (.int 0)) M L) ∧ (¬ (20000 < i1) → ((i1 < i0 → Q (some (.int 0)) M L) ∧ (¬ (i1 < i0) → Q (some (.int 1)) M L))))))) : RX xs S md_Peg_isStream 0 [.int i0, .int i1] [] M L Q := by
  refine r_iload_n d_Peg_isStream_0 rfl ?_
  refine r_sipush (v := (-20000)) d_Peg_isStream_1 (by decide) ?_
  refine r_ic_lt d_Peg_isStream_4 (fun c_1 => ?_) (fun c_1 => ?_)
  · have h9 := h.1 c_1
    refine r_iconst (v := 0) d_Peg_isStream_23 (by decide) ?_
    exact r_iret ⟨d_Peg_isStream_24, _, rfl, rfl⟩ ⟨_, _, rfl, h9⟩
  · have h9 := h.2 c_1
    refine r_iload_n d_Peg_isStream_7 rfl ?_
    refine r_sipush (v := 20000) d_Peg_isStream_8 (by decide) ?_
    refine r_ic_gt d_Peg_isStream_11 (fun c_2 => ?_) (fun c_2 => ?_)
    · have h9 := h9.1 c_2
      refine r_iconst (v := 0) d_Peg_isStream_23 (by decide) ?_
      exact r_iret ⟨d_Peg_isStream_24, _, rfl, rfl⟩ ⟨_, _, rfl, h9⟩
    · have h9 := h9.2 c_2
      refine r_iload_n d_Peg_isStream_14 rfl ?_
      refine r_iload_n d_Peg_isStream_15 rfl ?_
      refine r_ic_gt d_Peg_isStream_16 (fun c_3 => ?_) (fun c_3 => ?_)
      · have h9 := h9.1 c_3
        refine r_iconst (v := 0) d_Peg_isStream_23 (by decide) ?_
        exact r_iret ⟨d_Peg_isStream_24, _, rfl, rfl⟩ ⟨_, _, rfl, h9⟩
      · have h9 := h9.2 c_3
        refine r_iconst (v := 1) d_Peg_isStream_19 (by decide) ?_
        refine r_goto d_Peg_isStream_20 ?_
        exact r_iret ⟨d_Peg_isStream_24, _, rfl, rfl⟩ ⟨_, _, rfl, h9⟩
theorem L_Compass_isPoint_0 {xs : List Int32} {S : List Shp} {i0 : Int32} {M : Mem} {L : Int64} {Q : Option Value → Mem → Int64 → Prop} 
    (h : ((i0 < 0 → Q (some (.int 0)) M L) ∧ (¬ (i0 < 0) → ((32 ≤ i0 → Q (some (.int 0)) M L) ∧ (¬ (32 ≤ i0) → Q (some (.int 1)) M L))))) : RX xs S md_Compass_isPoint 0 [.int i0] [] M L Q := by
  refine r_iload_n d_Compass_isPoint_0 rfl ?_
  refine r_if_lt d_Compass_isPoint_1 (fun c_1 => ?_) (fun c_1 => ?_)
  · have h9 := h.1 c_1
    refine r_iconst (v := 0) d_Compass_isPoint_14 (by decide) ?_
    exact r_iret ⟨d_Compass_isPoint_15, _, rfl, rfl⟩ ⟨_, _, rfl, h9⟩
  · have h9 := h.2 c_1
    refine r_iload_n d_Compass_isPoint_4 rfl ?_
    refine r_bipush (v := 32) d_Compass_isPoint_5 (by decide) ?_
    refine r_ic_ge d_Compass_isPoint_7 (fun c_2 => ?_) (fun c_2 => ?_)
    · have h9 := h9.1 c_2
      refine r_iconst (v := 0) d_Compass_isPoint_14 (by decide) ?_
      exact r_iret ⟨d_Compass_isPoint_15, _, rfl, rfl⟩ ⟨_, _, rfl, h9⟩
    · have h9 := h9.2 c_2
      refine r_iconst (v := 1) d_Compass_isPoint_10 (by decide) ?_
      refine r_goto d_Compass_isPoint_11 ?_
      exact r_iret ⟨d_Compass_isPoint_15, _, rfl, rfl⟩ ⟨_, _, rfl, h9⟩
theorem L_Compass_turned_0 {xs : List Int32} {S : List Shp} {i0 : Int32} {i1 : Int32} {M : Mem} {L : Int64} {Q : Option Value → Mem → Int64 → Prop} 
    (h : Q (some (.int ((i0 + i1) &&& 31))) M L) : RX xs S md_Compass_turned 0 [.int i0, .int i1] [] M L Q := by
  refine r_iload_n d_Compass_turned_0 rfl ?_
  refine r_iload_n d_Compass_turned_1 rfl ?_
  refine r_iadd d_Compass_turned_2 ?_
  refine r_bipush (v := 31) d_Compass_turned_3 (by decide) ?_
  refine r_iand d_Compass_turned_5 ?_
  exact r_iret ⟨d_Compass_turned_6, _, rfl, rfl⟩ ⟨_, _, rfl, h⟩
theorem L_Compass_turnsBetween_0 {xs : List Int32} {S : List Shp} {i0 : Int32} {i1 : Int32} {M : Mem} {L : Int64} {Q : Option Value → Mem → Int64 → Prop} 
    (h : Q (some (.int ((i1 - i0) &&& 31))) M L) : RX xs S md_Compass_turnsBetween 0 [.int i0, .int i1] [] M L Q := by
  refine r_iload_n d_Compass_turnsBetween_0 rfl ?_
  refine r_iload_n d_Compass_turnsBetween_1 rfl ?_
  refine r_isub d_Compass_turnsBetween_2 ?_
  refine r_bipush (v := 31) d_Compass_turnsBetween_3 (by decide) ?_
  refine r_iand d_Compass_turnsBetween_5 ?_
  exact r_iret ⟨d_Compass_turnsBetween_6, _, rfl, rfl⟩ ⟨_, _, rfl, h⟩
theorem L_Patch_firstBits_0 {xs : List Int32} {S : List Shp} {i0 : Int32} {M : Mem} {L : Int64} {Q : Option Value → Mem → Int64 → Prop} 
    (h : Q (some (.int ((1 <<< (i0 &&& 31)) - 1))) M L) : RX xs S md_Patch_firstBits 0 [.int i0] [] M L Q := by
  refine r_iconst (v := 1) d_Patch_firstBits_0 (by decide) ?_
  refine r_iload_n d_Patch_firstBits_1 rfl ?_
  refine r_ishl d_Patch_firstBits_2 ?_
  refine r_iconst (v := 1) d_Patch_firstBits_3 (by decide) ?_
  refine r_isub d_Patch_firstBits_4 ?_
  exact r_iret ⟨d_Patch_firstBits_5, _, rfl, rfl⟩ ⟨_, _, rfl, h⟩
theorem L_Mod_in_0 {xs : List Int32} {S : List Shp} {i0 : Int32} {i1 : Int32} {i2 : Int32} {M : Mem} {L : Int64} {Q : Option Value → Mem → Int64 → Prop} 
    (h : ((i0 < i1 → Q (some (.int 0)) M L) ∧ (¬ (i0 < i1) → ((i2 < i0 → Q (some (.int 0)) M L) ∧ (¬ (i2 < i0) → Q (some (.int 1)) M L))))) : RX xs S md_Mod_in 0 [.int i0, .int i1, .int i2] [] M L Q := by
  refine r_iload_n d_Mod_in_0 rfl ?_
  refine r_iload_n d_Mod_in_1 rfl ?_
  refine r_ic_lt d_Mod_in_2 (fun c_1 => ?_) (fun c_1 => ?_)
  · have h9 := h.1 c_1
    refine r_iconst (v := 0) d_Mod_in_14 (by decide) ?_
    exact r_iret ⟨d_Mod_in_15, _, rfl, rfl⟩ ⟨_, _, rfl, h9⟩
  · have h9 := h.2 c_1
    refine r_iload_n d_Mod_in_5 rfl ?_
    refine r_iload_n d_Mod_in_6 rfl ?_
    refine r_ic_gt d_Mod_in_7 (fun c_2 => ?_) (fun c_2 => ?_)
    · have h9 := h9.1 c_2
      refine r_iconst (v := 0) d_Mod_in_14 (by decide) ?_
      exact r_iret ⟨d_Mod_in_15, _, rfl, rfl⟩ ⟨_, _, rfl, h9⟩
    · have h9 := h9.2 c_2
      refine r_iconst (v := 1) d_Mod_in_10 (by decide) ?_
      refine r_goto d_Mod_in_11 ?_
      exact r_iret ⟨d_Mod_in_15, _, rfl, rfl⟩ ⟨_, _, rfl, h9⟩
theorem L_Mod_at_0 {xs : List Int32} {S : List Shp} {i0 : Int32} {i1 : Int32} {M : Mem} {L : Int64} {Q : Option Value → Mem → Int64 → Prop} 
    (h : Q (some (.int ((20 * i1) + i0))) M L) : RX xs S md_Mod_at 0 [.int i0, .int i1] [] M L Q := by
  refine r_bipush (v := 20) d_Mod_at_0 (by decide) ?_
  refine r_iload_n d_Mod_at_2 rfl ?_
  refine r_imul d_Mod_at_3 ?_
  refine r_iload_n d_Mod_at_4 rfl ?_
  refine r_iadd d_Mod_at_5 ?_
  exact r_iret ⟨d_Mod_at_6, _, rfl, rfl⟩ ⟨_, _, rfl, h⟩
theorem L_Mod_turnsOf_0 {xs : List Int32} {S : List Shp} {i0 : Int32} {i1 : Int32} {M : Mem} {L : Int64} {Q : Option Value → Mem → Int64 → Prop} 
    (h : Q (some (.int (((i1 - i0) + 32) - ((i1 - i0) + 32) / 32 * 32))) M L) : RX xs S md_Mod_turnsOf 0 [.int i0, .int i1] [] M L Q := by
  refine r_iload_n d_Mod_turnsOf_0 rfl ?_
  refine r_iload_n d_Mod_turnsOf_1 rfl ?_
  refine r_isub d_Mod_turnsOf_2 ?_
  refine r_bipush (v := 32) d_Mod_turnsOf_3 (by decide) ?_
  refine r_iadd d_Mod_turnsOf_5 ?_
  refine r_bipush (v := 32) d_Mod_turnsOf_6 (by decide) ?_
  refine r_irem d_Mod_turnsOf_8 (by decide) ?_
  exact r_iret ⟨d_Mod_turnsOf_9, _, rfl, rfl⟩ ⟨_, _, rfl, h⟩
theorem L_Mod_down_0 {xs : List Int32} {S : List Shp} {i0 : Int32} {i1 : Int32} {M : Mem} {L : Int64} {Q : Option Value → Mem → Int64 → Prop} 
    (h : (¬ i1 = 0 ∧ ((0 ≤ (i0 - i0 / i1 * i1) → Q (some (.int (i0 / i1))) M L) ∧ (¬ (0 ≤ (i0 - i0 / i1 * i1)) → Q (some (.int ((i0 / i1) - 1))) M L)))) : RX xs S md_Mod_down 0 [.int i0, .int i1] [] M L Q := by
  refine r_weak (lv' := [.int i0, .int i1, .null]) (by repeat (first | exact trivial | refine ⟨rfl, ?_⟩ | exact lle_nil)) ?_
  refine r_iload_n d_Mod_down_0 rfl ?_
  refine r_iload_n d_Mod_down_1 rfl ?_
  obtain ⟨o_1, h9⟩ := h
  refine r_idiv d_Mod_down_2 o_1 ?_
  refine r_istore_n d_Mod_down_3 (by decide) ?_
  refine r_iload_n d_Mod_down_4 rfl ?_
  refine r_iload_n d_Mod_down_5 rfl ?_
  refine r_irem d_Mod_down_6 o_1 ?_
  refine r_if_ge d_Mod_down_7 (fun c_2 => ?_) (fun c_2 => ?_)
  · have h9 := h9.1 c_2
    refine r_iload_n d_Mod_down_16 rfl ?_
    exact r_iret ⟨d_Mod_down_17, _, rfl, rfl⟩ ⟨_, _, rfl, h9⟩
  · have h9 := h9.2 c_2
    refine r_iload_n d_Mod_down_10 rfl ?_
    refine r_iconst (v := 1) d_Mod_down_11 (by decide) ?_
    refine r_isub d_Mod_down_12 ?_
    refine r_goto d_Mod_down_13 ?_
    exact r_iret ⟨d_Mod_down_17, _, rfl, rfl⟩ ⟨_, _, rfl, h9⟩
theorem L_Watch_mostOf_0 {xs : List Int32} {S : List Shp} {i0 : Int32} {M : Mem} {L : Int64} {Q : Option Value → Mem → Int64 → Prop} 
    (h : ((i0 = 0 → Q (some (.int 5)) M L) ∧ (¬ (i0 = 0) → ((i0 = 1 → Q (some (.int 31)) M L) ∧ (¬ (i0 = 1) → Q (some (.int 2)) M L))))) : RX xs S md_Watch_mostOf 0 [.int i0] [] M L Q := by
  refine r_iload_n d_Watch_mostOf_0 rfl ?_
  refine r_if_ne d_Watch_mostOf_1 (fun c_1 => ?_) (fun c_1 => ?_)
  · have h9 := h.2 c_1
    refine r_iload_n d_Watch_mostOf_6 rfl ?_
    refine r_iconst (v := 1) d_Watch_mostOf_7 (by decide) ?_
    refine r_ic_ne d_Watch_mostOf_8 (fun c_2 => ?_) (fun c_2 => ?_)
    · have h9 := h9.2 c_2
      refine r_iconst (v := 2) d_Watch_mostOf_16 (by decide) ?_
      exact r_iret ⟨d_Watch_mostOf_17, _, rfl, rfl⟩ ⟨_, _, rfl, h9⟩
    · have h9 := h9.1 c_2
      refine r_bipush (v := 31) d_Watch_mostOf_11 (by decide) ?_
      refine r_goto d_Watch_mostOf_13 ?_
      exact r_iret ⟨d_Watch_mostOf_17, _, rfl, rfl⟩ ⟨_, _, rfl, h9⟩
  · have h9 := h.1 c_1
    refine r_iconst (v := 5) d_Watch_mostOf_4 (by decide) ?_
    exact r_iret ⟨d_Watch_mostOf_5, _, rfl, rfl⟩ ⟨_, _, rfl, h9⟩
theorem L_Row_needsFirst_0 {xs : List Int32} {S : List Shp} {i0 : Int32} {M : Mem} {L : Int64} {Q : Option Value → Mem → Int64 → Prop} 
    (h : ((i0 = 3 → Q (some (.int 0)) M L) ∧ (¬ (i0 = 3) → Q (some (.int 1)) M L))) : RX xs S md_Row_needsFirst 0 [.int i0] [] M L Q := by
  refine r_iload_n d_Row_needsFirst_0 rfl ?_
  refine r_iconst (v := 3) d_Row_needsFirst_1 (by decide) ?_
  refine r_ic_eq d_Row_needsFirst_2 (fun c_1 => ?_) (fun c_1 => ?_)
  · have h9 := h.1 c_1
    refine r_iconst (v := 0) d_Row_needsFirst_9 (by decide) ?_
    exact r_iret ⟨d_Row_needsFirst_10, _, rfl, rfl⟩ ⟨_, _, rfl, h9⟩
  · have h9 := h.2 c_1
    refine r_iconst (v := 1) d_Row_needsFirst_5 (by decide) ?_
    refine r_goto d_Row_needsFirst_6 ?_
    exact r_iret ⟨d_Row_needsFirst_10, _, rfl, rfl⟩ ⟨_, _, rfl, h9⟩
theorem L_Row_needsSecond_0 {xs : List Int32} {S : List Shp} {i0 : Int32} {M : Mem} {L : Int64} {Q : Option Value → Mem → Int64 → Prop} 
    (h : ((i0 = 0 → Q (some (.int 1)) M L) ∧ (¬ (i0 = 0) → ((i0 = 4 → Q (some (.int 1)) M L) ∧ (¬ (i0 = 4) → Q (some (.int 0)) M L))))) : RX xs S md_Row_needsSecond 0 [.int i0] [] M L Q := by
  refine r_iload_n d_Row_needsSecond_0 rfl ?_
  refine r_if_eq d_Row_needsSecond_1 (fun c_1 => ?_) (fun c_1 => ?_)
  · have h9 := h.1 c_1
    refine r_iconst (v := 1) d_Row_needsSecond_9 (by decide) ?_
    refine r_goto d_Row_needsSecond_10 ?_
    exact r_iret ⟨d_Row_needsSecond_14, _, rfl, rfl⟩ ⟨_, _, rfl, h9⟩
  · have h9 := h.2 c_1
    refine r_iload_n d_Row_needsSecond_4 rfl ?_
    refine r_iconst (v := 4) d_Row_needsSecond_5 (by decide) ?_
    refine r_ic_ne d_Row_needsSecond_6 (fun c_2 => ?_) (fun c_2 => ?_)
    · have h9 := h9.2 c_2
      refine r_iconst (v := 0) d_Row_needsSecond_13 (by decide) ?_
      exact r_iret ⟨d_Row_needsSecond_14, _, rfl, rfl⟩ ⟨_, _, rfl, h9⟩
    · have h9 := h9.1 c_2
      refine r_iconst (v := 1) d_Row_needsSecond_9 (by decide) ?_
      refine r_goto d_Row_needsSecond_10 ?_
      exact r_iret ⟨d_Row_needsSecond_14, _, rfl, rfl⟩ ⟨_, _, rfl, h9⟩
theorem L_Watch_knotsOfPeg_0 {xs : List Int32} {t0 : Nat} {i1 : Int32} {M : Mem} {L : Int64} {Q : Option Value → Mem → Int64 → Prop} (ht0 : t0 < 24)
    (h : (vp_in (i1 / 2) 4 ∧ Q (some (.int (M (6 + 5 * t0 + 2) ((i1 / 2).toNatClampNeg)))) M L)) : RX xs shL md_Watch_knotsOfPeg 0 [.ref (6 + 5 * t0), .int i1] [] M L Q := by
  refine r_aload_n d_Watch_knotsOfPeg_0 rfl ?_
  refine x_getR d_Watch_knotsOfPeg_1 fl_Watch_21 (wt_R1 ht0) ?_
  refine r_iload_n d_Watch_knotsOfPeg_4 rfl ?_
  refine r_iconst (v := 2) d_Watch_knotsOfPeg_5 (by decide) ?_
  refine r_idiv d_Watch_knotsOfPeg_6 (by decide) ?_
  obtain ⟨o_1, h9⟩ := h
  refine x_iald d_Watch_knotsOfPeg_7 (wt_A1 ht0) o_1 ?_
  exact r_iret ⟨d_Watch_knotsOfPeg_8, _, rfl, rfl⟩ ⟨_, _, rfl, h9⟩
theorem L_Board_isWatch_0 {xs : List Int32} {i1 : Int32} {M : Mem} {L : Int64} {Q : Option Value → Mem → Int64 → Prop} 
    (h : ((i1 < 0 → Q (some (.int 0)) M L) ∧ (¬ (i1 < 0) → (((M 4 1) ≤ i1 → Q (some (.int 0)) M L) ∧ (¬ ((M 4 1) ≤ i1) → Q (some (.int 1)) M L))))) : RX xs shL md_Board_isWatch 0 [.ref 4, .int i1] [] M L Q := by
  refine r_iload_n d_Board_isWatch_0 rfl ?_
  refine r_if_lt d_Board_isWatch_1 (fun c_1 => ?_) (fun c_1 => ?_)
  · have h9 := h.1 c_1
    refine r_iconst (v := 0) d_Board_isWatch_16 (by decide) ?_
    exact r_iret ⟨d_Board_isWatch_17, _, rfl, rfl⟩ ⟨_, _, rfl, h9⟩
  · have h9 := h.2 c_1
    refine r_iload_n d_Board_isWatch_4 rfl ?_
    refine r_aload_n d_Board_isWatch_5 rfl ?_
    refine x_getI d_Board_isWatch_6 fl_Board_16 gI_4_1 ?_
    refine r_ic_ge d_Board_isWatch_9 (fun c_2 => ?_) (fun c_2 => ?_)
    · have h9 := h9.1 c_2
      refine r_iconst (v := 0) d_Board_isWatch_16 (by decide) ?_
      exact r_iret ⟨d_Board_isWatch_17, _, rfl, rfl⟩ ⟨_, _, rfl, h9⟩
    · have h9 := h9.2 c_2
      refine r_iconst (v := 1) d_Board_isWatch_12 (by decide) ?_
      refine r_goto d_Board_isWatch_13 ?_
      exact r_iret ⟨d_Board_isWatch_17, _, rfl, rfl⟩ ⟨_, _, rfl, h9⟩
theorem L_Chart_isCell_0 {xs : List Int32} {i1 : Int32} {i2 : Int32} {M : Mem} {L : Int64} {Q : Option Value → Mem → Int64 → Prop} 
    (h : ((i1 < 0 → Q (some (.int 0)) M L) ∧ (¬ (i1 < 0) → (((M 126 4) ≤ i1 → Q (some (.int 0)) M L) ∧ (¬ ((M 126 4) ≤ i1) → ((i2 < 0 → Q (some (.int 0)) M L) ∧ (¬ (i2 < 0) → (((M 126 5) ≤ i2 → Q (some (.int 0)) M L) ∧ (¬ ((M 126 5) ≤ i2) → Q (some (.int 1)) M L))))))))) : RX xs shL md_Chart_isCell 0 [.ref 126, .int i1, .int i2] [] M L Q := by
  refine r_iload_n d_Chart_isCell_0 rfl ?_
  refine r_if_lt d_Chart_isCell_1 (fun c_1 => ?_) (fun c_1 => ?_)
  · have h9 := h.1 c_1
    refine r_iconst (v := 0) d_Chart_isCell_28 (by decide) ?_
    exact r_iret ⟨d_Chart_isCell_29, _, rfl, rfl⟩ ⟨_, _, rfl, h9⟩
  · have h9 := h.2 c_1
    refine r_iload_n d_Chart_isCell_4 rfl ?_
    refine r_aload_n d_Chart_isCell_5 rfl ?_
    refine x_getI d_Chart_isCell_6 fl_Chart_36 gI_126_4 ?_
    refine r_ic_ge d_Chart_isCell_9 (fun c_2 => ?_) (fun c_2 => ?_)
    · have h9 := h9.1 c_2
      refine r_iconst (v := 0) d_Chart_isCell_28 (by decide) ?_
      exact r_iret ⟨d_Chart_isCell_29, _, rfl, rfl⟩ ⟨_, _, rfl, h9⟩
    · have h9 := h9.2 c_2
      refine r_iload_n d_Chart_isCell_12 rfl ?_
      refine r_if_lt d_Chart_isCell_13 (fun c_3 => ?_) (fun c_3 => ?_)
      · have h9 := h9.1 c_3
        refine r_iconst (v := 0) d_Chart_isCell_28 (by decide) ?_
        exact r_iret ⟨d_Chart_isCell_29, _, rfl, rfl⟩ ⟨_, _, rfl, h9⟩
      · have h9 := h9.2 c_3
        refine r_iload_n d_Chart_isCell_16 rfl ?_
        refine r_aload_n d_Chart_isCell_17 rfl ?_
        refine x_getI d_Chart_isCell_18 fl_Chart_40 gI_126_5 ?_
        refine r_ic_ge d_Chart_isCell_21 (fun c_4 => ?_) (fun c_4 => ?_)
        · have h9 := h9.1 c_4
          refine r_iconst (v := 0) d_Chart_isCell_28 (by decide) ?_
          exact r_iret ⟨d_Chart_isCell_29, _, rfl, rfl⟩ ⟨_, _, rfl, h9⟩
        · have h9 := h9.2 c_4
          refine r_iconst (v := 1) d_Chart_isCell_24 (by decide) ?_
          refine r_goto d_Chart_isCell_25 ?_
          exact r_iret ⟨d_Chart_isCell_29, _, rfl, rfl⟩ ⟨_, _, rfl, h9⟩
theorem L_Log_isRow_0 {xs : List Int32} {i1 : Int32} {M : Mem} {L : Int64} {Q : Option Value → Mem → Int64 → Prop} 
    (h : ((i1 < 0 → Q (some (.int 0)) M L) ∧ (¬ (i1 < 0) → (((M 134 1) ≤ i1 → Q (some (.int 0)) M L) ∧ (¬ ((M 134 1) ≤ i1) → Q (some (.int 1)) M L))))) : RX xs shL md_Log_isRow 0 [.ref 134, .int i1] [] M L Q := by
  refine r_iload_n d_Log_isRow_0 rfl ?_
  refine r_if_lt d_Log_isRow_1 (fun c_1 => ?_) (fun c_1 => ?_)
  · have h9 := h.1 c_1
    refine r_iconst (v := 0) d_Log_isRow_16 (by decide) ?_
    exact r_iret ⟨d_Log_isRow_17, _, rfl, rfl⟩ ⟨_, _, rfl, h9⟩
  · have h9 := h.2 c_1
    refine r_iload_n d_Log_isRow_4 rfl ?_
    refine r_aload_n d_Log_isRow_5 rfl ?_
    refine x_getI d_Log_isRow_6 fl_Log_18 gI_134_1 ?_
    refine r_ic_ge d_Log_isRow_9 (fun c_2 => ?_) (fun c_2 => ?_)
    · have h9 := h9.1 c_2
      refine r_iconst (v := 0) d_Log_isRow_16 (by decide) ?_
      exact r_iret ⟨d_Log_isRow_17, _, rfl, rfl⟩ ⟨_, _, rfl, h9⟩
    · have h9 := h9.2 c_2
      refine r_iconst (v := 1) d_Log_isRow_12 (by decide) ?_
      refine r_goto d_Log_isRow_13 ?_
      exact r_iret ⟨d_Log_isRow_17, _, rfl, rfl⟩ ⟨_, _, rfl, h9⟩
theorem L_Log_isBehind_0 {xs : List Int32} {i1 : Int32} {M : Mem} {L : Int64} {Q : Option Value → Mem → Int64 → Prop} 
    (h : ((i1 < 0 → Q (some (.int 0)) M L) ∧ (¬ (i1 < 0) → (((M 134 1) < i1 → Q (some (.int 0)) M L) ∧ (¬ ((M 134 1) < i1) → Q (some (.int 1)) M L))))) : RX xs shL md_Log_isBehind 0 [.ref 134, .int i1] [] M L Q := by
  refine r_iload_n d_Log_isBehind_0 rfl ?_
  refine r_if_lt d_Log_isBehind_1 (fun c_1 => ?_) (fun c_1 => ?_)
  · have h9 := h.1 c_1
    refine r_iconst (v := 0) d_Log_isBehind_16 (by decide) ?_
    exact r_iret ⟨d_Log_isBehind_17, _, rfl, rfl⟩ ⟨_, _, rfl, h9⟩
  · have h9 := h.2 c_1
    refine r_iload_n d_Log_isBehind_4 rfl ?_
    refine r_aload_n d_Log_isBehind_5 rfl ?_
    refine x_getI d_Log_isBehind_6 fl_Log_18 gI_134_1 ?_
    refine r_ic_gt d_Log_isBehind_9 (fun c_2 => ?_) (fun c_2 => ?_)
    · have h9 := h9.1 c_2
      refine r_iconst (v := 0) d_Log_isBehind_16 (by decide) ?_
      exact r_iret ⟨d_Log_isBehind_17, _, rfl, rfl⟩ ⟨_, _, rfl, h9⟩
    · have h9 := h9.2 c_2
      refine r_iconst (v := 1) d_Log_isBehind_12 (by decide) ?_
      refine r_goto d_Log_isBehind_13 ?_
      exact r_iret ⟨d_Log_isBehind_17, _, rfl, rfl⟩ ⟨_, _, rfl, h9⟩
theorem L_Log_startFrom_0 {xs : List Int32} {S : List Shp} {i1 : Int32} {i2 : Int32} {i3 : Int32} {M : Mem} {L : Int64} {Q : Option Value → Mem → Int64 → Prop} (hS : cvr S 134 135)
    (h : Q none (up (up (up M 134 2 i1) 134 3 i2) 134 4 i3) L) : RX xs S md_Log_startFrom 0 [.ref 134, .int i1, .int i2, .int i3] [] M L Q := by
  refine r_aload_n d_Log_startFrom_0 rfl ?_
  refine r_iload_n d_Log_startFrom_1 rfl ?_
  refine x_putI d_Log_startFrom_2 fl_Log_26 (fun r hr => by cases hr; rfl) (fI_cv gI_134_2 (hS 134 (by decide) (by decide))) (VOk_int _) ?_
  refine r_aload_n d_Log_startFrom_5 rfl ?_
  refine r_iload_n d_Log_startFrom_6 rfl ?_
  refine x_putI d_Log_startFrom_7 fl_Log_29 (fun r hr => by cases hr; rfl) (fI_cv gI_134_3 (hS 134 (by decide) (by decide))) (VOk_int _) ?_
  refine r_aload_n d_Log_startFrom_10 rfl ?_
  refine r_iload_n d_Log_startFrom_11 rfl ?_
  refine x_putI d_Log_startFrom_12 fl_Log_32 (fun r hr => by cases hr; rfl) (fI_cv gI_134_4 (hS 134 (by decide) (by decide))) (VOk_int _) ?_
  exact r_vret ⟨d_Log_startFrom_15, rfl⟩ ⟨up (up (up M 134 2 i1) 134 3 i2) 134 4 i3, L, rfl, h⟩
theorem L_Chart_streamBecomes_0 {xs : List Int32} {S : List Shp} {i1 : Int32} {i2 : Int32} {i3 : Int32} {i4 : Int32} {M : Mem} {L : Int64} {Q : Option Value → Mem → Int64 → Prop} (hS : cvr S 126 134)
    (h : Q none (up (up (up (up M 126 6 i1) 126 7 i2) 126 8 i3) 126 9 i4) L) : RX xs S md_Chart_streamBecomes 0 [.ref 126, .int i1, .int i2, .int i3, .int i4] [] M L Q := by
  refine r_aload_n d_Chart_streamBecomes_0 rfl ?_
  refine r_iload_n d_Chart_streamBecomes_1 rfl ?_
  refine x_putI d_Chart_streamBecomes_2 fl_Chart_56 (fun r hr => by cases hr; rfl) (fI_cv gI_126_6 (hS 126 (by decide) (by decide))) (VOk_int _) ?_
  refine r_aload_n d_Chart_streamBecomes_5 rfl ?_
  refine r_iload_n d_Chart_streamBecomes_6 rfl ?_
  refine x_putI d_Chart_streamBecomes_7 fl_Chart_59 (fun r hr => by cases hr; rfl) (fI_cv gI_126_7 (hS 126 (by decide) (by decide))) (VOk_int _) ?_
  refine r_aload_n d_Chart_streamBecomes_10 rfl ?_
  refine r_iload_n d_Chart_streamBecomes_11 rfl ?_
  refine x_putI d_Chart_streamBecomes_12 fl_Chart_62 (fun r hr => by cases hr; rfl) (fI_cv gI_126_8 (hS 126 (by decide) (by decide))) (VOk_int _) ?_
  refine r_aload_n d_Chart_streamBecomes_15 rfl ?_
  refine r_iload d_Chart_streamBecomes_16 rfl ?_
  refine x_putI d_Chart_streamBecomes_18 fl_Chart_65 (fun r hr => by cases hr; rfl) (fI_cv gI_126_9 (hS 126 (by decide) (by decide))) (VOk_int _) ?_
  exact r_vret ⟨d_Chart_streamBecomes_21, rfl⟩ ⟨up (up (up (up M 126 6 i1) 126 7 i2) 126 8 i3) 126 9 i4, L, rfl, h⟩
theorem L_Row_become_0 {xs : List Int32} {S : List Shp} {t0 : Nat} {i1 : Int32} {i2 : Int32} {i3 : Int32} {i4 : Int32} {M : Mem} {L : Int64} {Q : Option Value → Mem → Int64 → Prop} (ht0 : t0 < 40) (hS : S[136 + 5 * t0]? = shL[136 + 5 * t0]?)
    (h : Q none (up (up (up (up (up M (136 + 5 * t0) 3 i1) (136 + 5 * t0) 4 i2) (136 + 5 * t0) 5 i3) (136 + 5 * t0) 6 i4) (136 + 5 * t0) 7 1) L) : RX xs S md_Row_become 0 [.ref (136 + 5 * t0), .int i1, .int i2, .int i3, .int i4] [] M L Q := by
  refine r_aload_n d_Row_become_0 rfl ?_
  refine r_iload_n d_Row_become_1 rfl ?_
  refine x_putI d_Row_become_2 fl_Row_45 (fun r hr => by cases hr; rfl) (fI_cv (rw_I ht0 3 (by decide) (by decide)) hS) (VOk_int _) ?_
  refine r_aload_n d_Row_become_5 rfl ?_
  refine r_iload_n d_Row_become_6 rfl ?_
  refine x_putI d_Row_become_7 fl_Row_49 (fun r hr => by cases hr; rfl) (fI_cv (rw_I ht0 4 (by decide) (by decide)) hS) (VOk_int _) ?_
  refine r_aload_n d_Row_become_10 rfl ?_
  refine r_iload_n d_Row_become_11 rfl ?_
  refine x_putI d_Row_become_12 fl_Row_52 (fun r hr => by cases hr; rfl) (fI_cv (rw_I ht0 5 (by decide) (by decide)) hS) (VOk_int _) ?_
  refine r_aload_n d_Row_become_15 rfl ?_
  refine r_iload d_Row_become_16 rfl ?_
  refine x_putI d_Row_become_18 fl_Row_55 (fun r hr => by cases hr; rfl) (fI_cv (rw_I ht0 6 (by decide) (by decide)) hS) (VOk_int _) ?_
  refine r_aload_n d_Row_become_21 rfl ?_
  refine r_iconst (v := 1) d_Row_become_22 (by decide) ?_
  refine x_putI d_Row_become_23 fl_Row_58 (fun r hr => by cases hr; rfl) (fI_cv (rw_I ht0 7 (by decide) (by decide)) hS) (VOk_bool (by decide)) ?_
  exact r_vret ⟨d_Row_become_26, rfl⟩ ⟨up (up (up (up (up M (136 + 5 * t0) 3 i1) (136 + 5 * t0) 4 i2) (136 + 5 * t0) 5 i3) (136 + 5 * t0) 6 i4) (136 + 5 * t0) 7 1, L, rfl, h⟩
theorem L_Row_isWatch_0 {xs : List Int32} {t0 : Nat} {M : Mem} {L : Int64} {Q : Option Value → Mem → Int64 → Prop} (ht0 : t0 < 40)
    (h : (((M (136 + 5 * t0) 3) = (-1) → Q (some (.int 0)) M L) ∧ (¬ ((M (136 + 5 * t0) 3) = (-1)) → Q (some (.int 1)) M L))) : RX xs shL md_Row_isWatch 0 [.ref (136 + 5 * t0)] [] M L Q := by
  refine r_aload_n d_Row_isWatch_0 rfl ?_
  refine x_getI d_Row_isWatch_1 fl_Row_45 (rw_I ht0 3 (by decide) (by decide)) ?_
  refine r_iconst (v := (-1)) d_Row_isWatch_4 (by decide) ?_
  refine r_ic_eq d_Row_isWatch_5 (fun c_1 => ?_) (fun c_1 => ?_)
  · have h9 := h.1 c_1
    refine r_iconst (v := 0) d_Row_isWatch_12 (by decide) ?_
    exact r_iret ⟨d_Row_isWatch_13, _, rfl, rfl⟩ ⟨_, _, rfl, h9⟩
  · have h9 := h.2 c_1
    refine r_iconst (v := 1) d_Row_isWatch_8 (by decide) ?_
    refine r_goto d_Row_isWatch_9 ?_
    exact r_iret ⟨d_Row_isWatch_13, _, rfl, rfl⟩ ⟨_, _, rfl, h9⟩
set_option maxHeartbeats 4000000 in
theorem L_Reach_become_0 {xs : List Int32} {S : List Shp} {p0 : Nat} {i1 : Int32} {i2 : Int32} {i3 : Int32} {i4 : Int32} {M : Mem} {L : Int64} {Q : Option Value → Mem → Int64 → Prop} (hp0 : isRe S p0)
    (h : (((M p0 0) = i1 → (((M p0 1) = i2 → (((M p0 2) = i3 → (((M p0 3) = i4 → (((1 : Int32) = 0 → Q (some (.int 1)) (up (up (up (up M p0 0 i1) p0 1 i2) p0 2 i3) p0 3 i4) L) ∧ (¬ ((1 : Int32) = 0) → Q (some (.int 0)) (up (up (up (up M p0 0 i1) p0 1 i2) p0 2 i3) p0 3 i4) L))) ∧ (¬ ((M p0 3) = i4) → (((0 : Int32) = 0 → Q (some (.int 1)) (up (up (up (up M p0 0 i1) p0 1 i2) p0 2 i3) p0 3 i4) L) ∧ (¬ ((0 : Int32) = 0) → Q (some (.int 0)) (up (up (up (up M p0 0 i1) p0 1 i2) p0 2 i3) p0 3 i4) L))))) ∧ (¬ ((M p0 2) = i3) → (((0 : Int32) = 0 → Q (some (.int 1)) (up (up (up (up M p0 0 i1) p0 1 i2) p0 2 i3) p0 3 i4) L) ∧ (¬ ((0 : Int32) = 0) → Q (some (.int 0)) (up (up (up (up M p0 0 i1) p0 1 i2) p0 2 i3) p0 3 i4) L))))) ∧ (¬ ((M p0 1) = i2) → (((0 : Int32) = 0 → Q (some (.int 1)) (up (up (up (up M p0 0 i1) p0 1 i2) p0 2 i3) p0 3 i4) L) ∧ (¬ ((0 : Int32) = 0) → Q (some (.int 0)) (up (up (up (up M p0 0 i1) p0 1 i2) p0 2 i3) p0 3 i4) L))))) ∧ (¬ ((M p0 0) = i1) → (((0 : Int32) = 0 → Q (some (.int 1)) (up (up (up (up M p0 0 i1) p0 1 i2) p0 2 i3) p0 3 i4) L) ∧ (¬ ((0 : Int32) = 0) → Q (some (.int 0)) (up (up (up (up M p0 0 i1) p0 1 i2) p0 2 i3) p0 3 i4) L))))) : RX xs S md_Reach_become 0 [.ref p0, .int i1, .int i2, .int i3, .int i4] [] M L Q := by
  refine r_weak (lv' := [.ref p0, .int i1, .int i2, .int i3, .int i4, .null]) (by repeat (first | exact trivial | refine ⟨rfl, ?_⟩ | exact lle_nil)) ?_
  refine r_aload_n d_Reach_become_0 rfl ?_
  refine x_getI d_Reach_become_1 fl_Reach_7 (isRe_I hp0 0 (by decide)) ?_
  refine r_iload_n d_Reach_become_4 rfl ?_
  refine r_ic_ne d_Reach_become_5 (fun c_1 => ?_) (fun c_1 => ?_)
  · have h9 := h.2 c_1
    refine r_iconst (v := 0) d_Reach_become_37 (by decide) ?_
    refine r_istore d_Reach_become_38 (by decide) ?_
    refine r_aload_n d_Reach_become_40 rfl ?_
    refine r_iload_n d_Reach_become_41 rfl ?_
    refine x_putI d_Reach_become_42 fl_Reach_7 (fun r hr => by cases hr; rfl) (isRe_I hp0 0 (by decide)) (VOk_int _) ?_
    refine r_aload_n d_Reach_become_45 rfl ?_
    refine r_iload_n d_Reach_become_46 rfl ?_
    refine x_putI d_Reach_become_47 fl_Reach_13 (fun r hr => by cases hr; rfl) (isRe_I hp0 1 (by decide)) (VOk_int _) ?_
    refine r_aload_n d_Reach_become_50 rfl ?_
    refine r_iload_n d_Reach_become_51 rfl ?_
    refine x_putI d_Reach_become_52 fl_Reach_16 (fun r hr => by cases hr; rfl) (isRe_I hp0 2 (by decide)) (VOk_int _) ?_
    refine r_aload_n d_Reach_become_55 rfl ?_
    refine r_iload d_Reach_become_56 rfl ?_
    refine x_putI d_Reach_become_58 fl_Reach_19 (fun r hr => by cases hr; rfl) (isRe_I hp0 3 (by decide)) (VOk_int _) ?_
    refine r_iload d_Reach_become_61 rfl ?_
    refine r_if_ne d_Reach_become_63 (fun c_2 => ?_) (fun c_2 => ?_)
    · have h9 := h9.2 c_2
      refine r_iconst (v := 0) d_Reach_become_70 (by decide) ?_
      exact r_iret ⟨d_Reach_become_71, _, rfl, rfl⟩ ⟨_, _, rfl, h9⟩
    · have h9 := h9.1 c_2
      refine r_iconst (v := 1) d_Reach_become_66 (by decide) ?_
      refine r_goto d_Reach_become_67 ?_
      exact r_iret ⟨d_Reach_become_71, _, rfl, rfl⟩ ⟨_, _, rfl, h9⟩
  · have h9 := h.1 c_1
    refine r_aload_n d_Reach_become_8 rfl ?_
    refine x_getI d_Reach_become_9 fl_Reach_13 (isRe_I hp0 1 (by decide)) ?_
    refine r_iload_n d_Reach_become_12 rfl ?_
    refine r_ic_ne d_Reach_become_13 (fun c_3 => ?_) (fun c_3 => ?_)
    · have h9 := h9.2 c_3
      refine r_iconst (v := 0) d_Reach_become_37 (by decide) ?_
      refine r_istore d_Reach_become_38 (by decide) ?_
      refine r_aload_n d_Reach_become_40 rfl ?_
      refine r_iload_n d_Reach_become_41 rfl ?_
      refine x_putI d_Reach_become_42 fl_Reach_7 (fun r hr => by cases hr; rfl) (isRe_I hp0 0 (by decide)) (VOk_int _) ?_
      refine r_aload_n d_Reach_become_45 rfl ?_
      refine r_iload_n d_Reach_become_46 rfl ?_
      refine x_putI d_Reach_become_47 fl_Reach_13 (fun r hr => by cases hr; rfl) (isRe_I hp0 1 (by decide)) (VOk_int _) ?_
      refine r_aload_n d_Reach_become_50 rfl ?_
      refine r_iload_n d_Reach_become_51 rfl ?_
      refine x_putI d_Reach_become_52 fl_Reach_16 (fun r hr => by cases hr; rfl) (isRe_I hp0 2 (by decide)) (VOk_int _) ?_
      refine r_aload_n d_Reach_become_55 rfl ?_
      refine r_iload d_Reach_become_56 rfl ?_
      refine x_putI d_Reach_become_58 fl_Reach_19 (fun r hr => by cases hr; rfl) (isRe_I hp0 3 (by decide)) (VOk_int _) ?_
      refine r_iload d_Reach_become_61 rfl ?_
      refine r_if_ne d_Reach_become_63 (fun c_4 => ?_) (fun c_4 => ?_)
      · have h9 := h9.2 c_4
        refine r_iconst (v := 0) d_Reach_become_70 (by decide) ?_
        exact r_iret ⟨d_Reach_become_71, _, rfl, rfl⟩ ⟨_, _, rfl, h9⟩
      · have h9 := h9.1 c_4
        refine r_iconst (v := 1) d_Reach_become_66 (by decide) ?_
        refine r_goto d_Reach_become_67 ?_
        exact r_iret ⟨d_Reach_become_71, _, rfl, rfl⟩ ⟨_, _, rfl, h9⟩
    · have h9 := h9.1 c_3
      refine r_aload_n d_Reach_become_16 rfl ?_
      refine x_getI d_Reach_become_17 fl_Reach_16 (isRe_I hp0 2 (by decide)) ?_
      refine r_iload_n d_Reach_become_20 rfl ?_
      refine r_ic_ne d_Reach_become_21 (fun c_5 => ?_) (fun c_5 => ?_)
      · have h9 := h9.2 c_5
        refine r_iconst (v := 0) d_Reach_become_37 (by decide) ?_
        refine r_istore d_Reach_become_38 (by decide) ?_
        refine r_aload_n d_Reach_become_40 rfl ?_
        refine r_iload_n d_Reach_become_41 rfl ?_
        refine x_putI d_Reach_become_42 fl_Reach_7 (fun r hr => by cases hr; rfl) (isRe_I hp0 0 (by decide)) (VOk_int _) ?_
        refine r_aload_n d_Reach_become_45 rfl ?_
        refine r_iload_n d_Reach_become_46 rfl ?_
        refine x_putI d_Reach_become_47 fl_Reach_13 (fun r hr => by cases hr; rfl) (isRe_I hp0 1 (by decide)) (VOk_int _) ?_
        refine r_aload_n d_Reach_become_50 rfl ?_
        refine r_iload_n d_Reach_become_51 rfl ?_
        refine x_putI d_Reach_become_52 fl_Reach_16 (fun r hr => by cases hr; rfl) (isRe_I hp0 2 (by decide)) (VOk_int _) ?_
        refine r_aload_n d_Reach_become_55 rfl ?_
        refine r_iload d_Reach_become_56 rfl ?_
        refine x_putI d_Reach_become_58 fl_Reach_19 (fun r hr => by cases hr; rfl) (isRe_I hp0 3 (by decide)) (VOk_int _) ?_
        refine r_iload d_Reach_become_61 rfl ?_
        refine r_if_ne d_Reach_become_63 (fun c_6 => ?_) (fun c_6 => ?_)
        · have h9 := h9.2 c_6
          refine r_iconst (v := 0) d_Reach_become_70 (by decide) ?_
          exact r_iret ⟨d_Reach_become_71, _, rfl, rfl⟩ ⟨_, _, rfl, h9⟩
        · have h9 := h9.1 c_6
          refine r_iconst (v := 1) d_Reach_become_66 (by decide) ?_
          refine r_goto d_Reach_become_67 ?_
          exact r_iret ⟨d_Reach_become_71, _, rfl, rfl⟩ ⟨_, _, rfl, h9⟩
      · have h9 := h9.1 c_5
        refine r_aload_n d_Reach_become_24 rfl ?_
        refine x_getI d_Reach_become_25 fl_Reach_19 (isRe_I hp0 3 (by decide)) ?_
        refine r_iload d_Reach_become_28 rfl ?_
        refine r_ic_ne d_Reach_become_30 (fun c_7 => ?_) (fun c_7 => ?_)
        · have h9 := h9.2 c_7
          refine r_iconst (v := 0) d_Reach_become_37 (by decide) ?_
          refine r_istore d_Reach_become_38 (by decide) ?_
          refine r_aload_n d_Reach_become_40 rfl ?_
          refine r_iload_n d_Reach_become_41 rfl ?_
          refine x_putI d_Reach_become_42 fl_Reach_7 (fun r hr => by cases hr; rfl) (isRe_I hp0 0 (by decide)) (VOk_int _) ?_
          refine r_aload_n d_Reach_become_45 rfl ?_
          refine r_iload_n d_Reach_become_46 rfl ?_
          refine x_putI d_Reach_become_47 fl_Reach_13 (fun r hr => by cases hr; rfl) (isRe_I hp0 1 (by decide)) (VOk_int _) ?_
          refine r_aload_n d_Reach_become_50 rfl ?_
          refine r_iload_n d_Reach_become_51 rfl ?_
          refine x_putI d_Reach_become_52 fl_Reach_16 (fun r hr => by cases hr; rfl) (isRe_I hp0 2 (by decide)) (VOk_int _) ?_
          refine r_aload_n d_Reach_become_55 rfl ?_
          refine r_iload d_Reach_become_56 rfl ?_
          refine x_putI d_Reach_become_58 fl_Reach_19 (fun r hr => by cases hr; rfl) (isRe_I hp0 3 (by decide)) (VOk_int _) ?_
          refine r_iload d_Reach_become_61 rfl ?_
          refine r_if_ne d_Reach_become_63 (fun c_8 => ?_) (fun c_8 => ?_)
          · have h9 := h9.2 c_8
            refine r_iconst (v := 0) d_Reach_become_70 (by decide) ?_
            exact r_iret ⟨d_Reach_become_71, _, rfl, rfl⟩ ⟨_, _, rfl, h9⟩
          · have h9 := h9.1 c_8
            refine r_iconst (v := 1) d_Reach_become_66 (by decide) ?_
            refine r_goto d_Reach_become_67 ?_
            exact r_iret ⟨d_Reach_become_71, _, rfl, rfl⟩ ⟨_, _, rfl, h9⟩
        · have h9 := h9.1 c_7
          refine r_iconst (v := 1) d_Reach_become_33 (by decide) ?_
          refine r_goto d_Reach_become_34 ?_
          refine r_istore d_Reach_become_38 (by decide) ?_
          refine r_aload_n d_Reach_become_40 rfl ?_
          refine r_iload_n d_Reach_become_41 rfl ?_
          refine x_putI d_Reach_become_42 fl_Reach_7 (fun r hr => by cases hr; rfl) (isRe_I hp0 0 (by decide)) (VOk_int _) ?_
          refine r_aload_n d_Reach_become_45 rfl ?_
          refine r_iload_n d_Reach_become_46 rfl ?_
          refine x_putI d_Reach_become_47 fl_Reach_13 (fun r hr => by cases hr; rfl) (isRe_I hp0 1 (by decide)) (VOk_int _) ?_
          refine r_aload_n d_Reach_become_50 rfl ?_
          refine r_iload_n d_Reach_become_51 rfl ?_
          refine x_putI d_Reach_become_52 fl_Reach_16 (fun r hr => by cases hr; rfl) (isRe_I hp0 2 (by decide)) (VOk_int _) ?_
          refine r_aload_n d_Reach_become_55 rfl ?_
          refine r_iload d_Reach_become_56 rfl ?_
          refine x_putI d_Reach_become_58 fl_Reach_19 (fun r hr => by cases hr; rfl) (isRe_I hp0 3 (by decide)) (VOk_int _) ?_
          refine r_iload d_Reach_become_61 rfl ?_
          refine r_if_ne d_Reach_become_63 (fun c_9 => ?_) (fun c_9 => ?_)
          · have h9 := h9.2 c_9
            refine r_iconst (v := 0) d_Reach_become_70 (by decide) ?_
            exact r_iret ⟨d_Reach_become_71, _, rfl, rfl⟩ ⟨_, _, rfl, h9⟩
          · have h9 := h9.1 c_9
            refine r_iconst (v := 1) d_Reach_become_66 (by decide) ?_
            refine r_goto d_Reach_become_67 ?_
            exact r_iret ⟨d_Reach_become_71, _, rfl, rfl⟩ ⟨_, _, rfl, h9⟩
theorem L_Patch_copy_0 {xs : List Int32} {S : List Shp} {p0 : Nat} {p1 : Nat} {M : Mem} {L : Int64} {Q : Option Value → Mem → Int64 → Prop} (hp0 : isP S p0) (hp1 : isP S p1)
    (h : Q none (cpR M (p0 + 1) (p1 + 1) 20) L) : RX xs S md_Patch_copy 0 [.ref p0, .ref p1] [] M L Q := by
  refine r_aload_n d_Patch_copy_0 rfl ?_
  refine x_getR d_Patch_copy_1 fl_Patch_9 (isP_R hp1) ?_
  refine r_iconst (v := 0) d_Patch_copy_4 (by decide) ?_
  refine r_aload_n d_Patch_copy_5 rfl ?_
  refine x_getR d_Patch_copy_6 fl_Patch_9 (isP_R hp0) ?_
  refine r_iconst (v := 0) d_Patch_copy_9 (by decide) ?_
  refine r_bipush (v := 20) d_Patch_copy_10 (by decide) ?_
  refine x_copy d_Patch_copy_12 ml_Patch_21 (isP_A hp1) (isP_A hp0) (by decide) (by decide) (by decide) (by decide) (by decide) ?_
  exact r_vret ⟨d_Patch_copy_15, rfl⟩ ⟨cpR M (p0 + 1) (p1 + 1) 20, L, rfl, h⟩
theorem L_Patch_cutTo_0 {xs : List Int32} {S : List Shp} {p0 : Nat} {p1 : Nat} {M : Mem} {L : Int64} {Q : Option Value → Mem → Int64 → Prop} (hp0 : isP S p0) (hp1 : isP S p1)
    (h : RX xs S md_Patch_cutTo 2 [.ref p0, .ref p1, .int 0] [] M L Q) : RX xs S md_Patch_cutTo 0 [.ref p0, .ref p1] [] M L Q := by
  refine r_weak (lv' := [.ref p0, .ref p1, .null]) (by repeat (first | exact trivial | refine ⟨rfl, ?_⟩ | exact lle_nil)) ?_
  refine r_iconst (v := 0) d_Patch_cutTo_0 (by decide) ?_
  refine r_istore_n d_Patch_cutTo_1 (by decide) ?_
  exact h
theorem L_Patch_cutTo_2 {xs : List Int32} {S : List Shp} {p0 : Nat} {p1 : Nat} {i2 : Int32} {M : Mem} {L : Int64} {Q : Option Value → Mem → Int64 → Prop} (hp0 : isP S p0) (hp1 : isP S p1)
    (h : ((20 ≤ i2 → Q none M L) ∧ (¬ (20 ≤ i2) → (vp_in i2 20 ∧ RX xs S md_Patch_cutTo 2 [.ref p0, .ref p1, .int (i2 + 1)] [] (up M (p0 + 1) i2.toNatClampNeg ((M (p0 + 1) i2.toNatClampNeg) &&& (M (p1 + 1) i2.toNatClampNeg))) L Q)))) : RX xs S md_Patch_cutTo 2 [.ref p0, .ref p1, .int i2] [] M L Q := by
  refine r_iload_n d_Patch_cutTo_2 rfl ?_
  refine r_bipush (v := 20) d_Patch_cutTo_3 (by decide) ?_
  refine r_ic_ge d_Patch_cutTo_5 (fun c_1 => ?_) (fun c_1 => ?_)
  · have h9 := h.1 c_1
    exact r_vret ⟨d_Patch_cutTo_29, rfl⟩ ⟨M, L, rfl, h9⟩
  · have h9 := h.2 c_1
    refine r_aload_n d_Patch_cutTo_8 rfl ?_
    refine x_getR d_Patch_cutTo_9 fl_Patch_9 (isP_R hp0) ?_
    refine r_iload_n d_Patch_cutTo_12 rfl ?_
    refine r_dup2 d_Patch_cutTo_13 rfl rfl ?_
    obtain ⟨o_2, h9⟩ := h9
    refine x_iald d_Patch_cutTo_14 (isP_A hp0) o_2 ?_
    refine r_aload_n d_Patch_cutTo_15 rfl ?_
    refine x_getR d_Patch_cutTo_16 fl_Patch_9 (isP_R hp1) ?_
    refine r_iload_n d_Patch_cutTo_19 rfl ?_
    refine x_iald d_Patch_cutTo_20 (isP_A hp1) o_2 ?_
    refine r_iand d_Patch_cutTo_21 ?_
    refine x_iast d_Patch_cutTo_22 (isP_A hp0) o_2 ?_
    refine r_iinc (v := i2 + 1) d_Patch_cutTo_23 rfl rfl (by decide) ?_
    refine r_goto d_Patch_cutTo_26 ?_
    exact h9
theorem L_Patch_turnOver_0 {xs : List Int32} {S : List Shp} {p0 : Nat} {p1 : Nat} {M : Mem} {L : Int64} {Q : Option Value → Mem → Int64 → Prop} (hp0 : isP S p0) (hp1 : isP S p1)
    (h : RX xs S md_Patch_turnOver 2 [.ref p0, .ref p1, .int 0] [] M L Q) : RX xs S md_Patch_turnOver 0 [.ref p0, .ref p1] [] M L Q := by
  refine r_weak (lv' := [.ref p0, .ref p1, .null]) (by repeat (first | exact trivial | refine ⟨rfl, ?_⟩ | exact lle_nil)) ?_
  refine r_iconst (v := 0) d_Patch_turnOver_0 (by decide) ?_
  refine r_istore_n d_Patch_turnOver_1 (by decide) ?_
  exact h
theorem L_Patch_turnOver_2 {xs : List Int32} {S : List Shp} {p0 : Nat} {p1 : Nat} {i2 : Int32} {M : Mem} {L : Int64} {Q : Option Value → Mem → Int64 → Prop} (hp0 : isP S p0) (hp1 : isP S p1)
    (h : ((20 ≤ i2 → Q none M L) ∧ (¬ (20 ≤ i2) → (vp_in i2 20 ∧ RX xs S md_Patch_turnOver 2 [.ref p0, .ref p1, .int (i2 + 1)] [] (up M (p0 + 1) i2.toNatClampNeg ((M (p1 + 1) i2.toNatClampNeg) &&& ((M (p0 + 1) i2.toNatClampNeg) ^^^ (-1)))) L Q)))) : RX xs S md_Patch_turnOver 2 [.ref p0, .ref p1, .int i2] [] M L Q := by
  refine r_iload_n d_Patch_turnOver_2 rfl ?_
  refine r_bipush (v := 20) d_Patch_turnOver_3 (by decide) ?_
  refine r_ic_ge d_Patch_turnOver_5 (fun c_1 => ?_) (fun c_1 => ?_)
  · have h9 := h.1 c_1
    exact r_vret ⟨d_Patch_turnOver_35, rfl⟩ ⟨M, L, rfl, h9⟩
  · have h9 := h.2 c_1
    refine r_aload_n d_Patch_turnOver_8 rfl ?_
    refine x_getR d_Patch_turnOver_9 fl_Patch_9 (isP_R hp0) ?_
    refine r_iload_n d_Patch_turnOver_12 rfl ?_
    refine r_aload_n d_Patch_turnOver_13 rfl ?_
    refine x_getR d_Patch_turnOver_14 fl_Patch_9 (isP_R hp1) ?_
    refine r_iload_n d_Patch_turnOver_17 rfl ?_
    obtain ⟨o_2, h9⟩ := h9
    refine x_iald d_Patch_turnOver_18 (isP_A hp1) o_2 ?_
    refine r_aload_n d_Patch_turnOver_19 rfl ?_
    refine x_getR d_Patch_turnOver_20 fl_Patch_9 (isP_R hp0) ?_
    refine r_iload_n d_Patch_turnOver_23 rfl ?_
    refine x_iald d_Patch_turnOver_24 (isP_A hp0) o_2 ?_
    refine r_iconst (v := (-1)) d_Patch_turnOver_25 (by decide) ?_
    refine r_ixor d_Patch_turnOver_26 ?_
    refine r_iand d_Patch_turnOver_27 ?_
    refine x_iast d_Patch_turnOver_28 (isP_A hp0) o_2 ?_
    refine r_iinc (v := i2 + 1) d_Patch_turnOver_29 rfl rfl (by decide) ?_
    refine r_goto d_Patch_turnOver_32 ?_
    exact h9
theorem L_Patch_isEmpty_0 {xs : List Int32} {S : List Shp} {p0 : Nat} {M : Mem} {L : Int64} {Q : Option Value → Mem → Int64 → Prop} (hp0 : isP S p0)
    (h : RX xs S md_Patch_isEmpty 2 [.ref p0, .int 0] [] M L Q) : RX xs S md_Patch_isEmpty 0 [.ref p0] [] M L Q := by
  refine r_weak (lv' := [.ref p0, .null]) (by repeat (first | exact trivial | refine ⟨rfl, ?_⟩ | exact lle_nil)) ?_
  refine r_iconst (v := 0) d_Patch_isEmpty_0 (by decide) ?_
  refine r_istore_n d_Patch_isEmpty_1 (by decide) ?_
  exact h
theorem L_Patch_isEmpty_2 {xs : List Int32} {S : List Shp} {p0 : Nat} {i1 : Int32} {M : Mem} {L : Int64} {Q : Option Value → Mem → Int64 → Prop} (hp0 : isP S p0)
    (h : ((20 ≤ i1 → Q (some (.int 1)) M L) ∧ (¬ (20 ≤ i1) → (vp_in i1 20 ∧ (((M (p0 + 1) i1.toNatClampNeg) = 0 → RX xs S md_Patch_isEmpty 2 [.ref p0, .int (i1 + 1)] [] M L Q) ∧ (¬ ((M (p0 + 1) i1.toNatClampNeg) = 0) → Q (some (.int 0)) M L)))))) : RX xs S md_Patch_isEmpty 2 [.ref p0, .int i1] [] M L Q := by
  refine r_iload_n d_Patch_isEmpty_2 rfl ?_
  refine r_bipush (v := 20) d_Patch_isEmpty_3 (by decide) ?_
  refine r_ic_ge d_Patch_isEmpty_5 (fun c_1 => ?_) (fun c_1 => ?_)
  · have h9 := h.1 c_1
    refine r_iconst (v := 1) d_Patch_isEmpty_25 (by decide) ?_
    exact r_iret ⟨d_Patch_isEmpty_26, _, rfl, rfl⟩ ⟨_, _, rfl, h9⟩
  · have h9 := h.2 c_1
    refine r_aload_n d_Patch_isEmpty_8 rfl ?_
    refine x_getR d_Patch_isEmpty_9 fl_Patch_9 (isP_R hp0) ?_
    refine r_iload_n d_Patch_isEmpty_12 rfl ?_
    obtain ⟨o_2, h9⟩ := h9
    refine x_iald d_Patch_isEmpty_13 (isP_A hp0) o_2 ?_
    refine r_if_eq d_Patch_isEmpty_14 (fun c_3 => ?_) (fun c_3 => ?_)
    · have h9 := h9.1 c_3
      refine r_iinc (v := i1 + 1) d_Patch_isEmpty_19 rfl rfl (by decide) ?_
      refine r_goto d_Patch_isEmpty_22 ?_
      exact h9
    · have h9 := h9.2 c_3
      refine r_iconst (v := 0) d_Patch_isEmpty_17 (by decide) ?_
      exact r_iret ⟨d_Patch_isEmpty_18, _, rfl, rfl⟩ ⟨_, _, rfl, h9⟩
theorem L_Patch_meets_0 {xs : List Int32} {S : List Shp} {p0 : Nat} {p1 : Nat} {M : Mem} {L : Int64} {Q : Option Value → Mem → Int64 → Prop} (hp0 : isP S p0) (hp1 : isP S p1)
    (h : RX xs S md_Patch_meets 2 [.ref p0, .ref p1, .int 0] [] M L Q) : RX xs S md_Patch_meets 0 [.ref p0, .ref p1] [] M L Q := by
  refine r_weak (lv' := [.ref p0, .ref p1, .null]) (by repeat (first | exact trivial | refine ⟨rfl, ?_⟩ | exact lle_nil)) ?_
  refine r_iconst (v := 0) d_Patch_meets_0 (by decide) ?_
  refine r_istore_n d_Patch_meets_1 (by decide) ?_
  exact h
theorem L_Patch_meets_2 {xs : List Int32} {S : List Shp} {p0 : Nat} {p1 : Nat} {i2 : Int32} {M : Mem} {L : Int64} {Q : Option Value → Mem → Int64 → Prop} (hp0 : isP S p0) (hp1 : isP S p1)
    (h : ((20 ≤ i2 → Q (some (.int 0)) M L) ∧ (¬ (20 ≤ i2) → (vp_in i2 20 ∧ ((((M (p0 + 1) i2.toNatClampNeg) &&& (M (p1 + 1) i2.toNatClampNeg)) = 0 → RX xs S md_Patch_meets 2 [.ref p0, .ref p1, .int (i2 + 1)] [] M L Q) ∧ (¬ (((M (p0 + 1) i2.toNatClampNeg) &&& (M (p1 + 1) i2.toNatClampNeg)) = 0) → Q (some (.int 1)) M L)))))) : RX xs S md_Patch_meets 2 [.ref p0, .ref p1, .int i2] [] M L Q := by
  refine r_iload_n d_Patch_meets_2 rfl ?_
  refine r_bipush (v := 20) d_Patch_meets_3 (by decide) ?_
  refine r_ic_ge d_Patch_meets_5 (fun c_1 => ?_) (fun c_1 => ?_)
  · have h9 := h.1 c_1
    refine r_iconst (v := 0) d_Patch_meets_32 (by decide) ?_
    exact r_iret ⟨d_Patch_meets_33, _, rfl, rfl⟩ ⟨_, _, rfl, h9⟩
  · have h9 := h.2 c_1
    refine r_aload_n d_Patch_meets_8 rfl ?_
    refine x_getR d_Patch_meets_9 fl_Patch_9 (isP_R hp0) ?_
    refine r_iload_n d_Patch_meets_12 rfl ?_
    obtain ⟨o_2, h9⟩ := h9
    refine x_iald d_Patch_meets_13 (isP_A hp0) o_2 ?_
    refine r_aload_n d_Patch_meets_14 rfl ?_
    refine x_getR d_Patch_meets_15 fl_Patch_9 (isP_R hp1) ?_
    refine r_iload_n d_Patch_meets_18 rfl ?_
    refine x_iald d_Patch_meets_19 (isP_A hp1) o_2 ?_
    refine r_iand d_Patch_meets_20 ?_
    refine r_if_eq d_Patch_meets_21 (fun c_3 => ?_) (fun c_3 => ?_)
    · have h9 := h9.1 c_3
      refine r_iinc (v := i2 + 1) d_Patch_meets_26 rfl rfl (by decide) ?_
      refine r_goto d_Patch_meets_29 ?_
      exact h9
    · have h9 := h9.2 c_3
      refine r_iconst (v := 1) d_Patch_meets_24 (by decide) ?_
      exact r_iret ⟨d_Patch_meets_25, _, rfl, rfl⟩ ⟨_, _, rfl, h9⟩
theorem L_Words_append_0 {xs : List Int32} {i1 : Int32} {M : Mem} {L : Int64} {Q : Option Value → Mem → Int64 → Prop} 
    (h : (((M 1 2) < 24 → (vp_in (M 1 2) 24 ∧ Q (some (.int 1)) (up (up M 2 ((M 1 2).toNatClampNeg) i1) 1 2 ((M 1 2) + 1)) L)) ∧ (¬ ((M 1 2) < 24) → Q (some (.int 0)) M L))) : RX xs shL md_Words_append 0 [.ref 1, .int i1] [] M L Q := by
  refine r_aload_n d_Words_append_0 rfl ?_
  refine x_getI d_Words_append_1 fl_Words_18 gI_1_2 ?_
  refine r_bipush (v := 24) d_Words_append_4 (by decide) ?_
  refine r_ic_lt d_Words_append_6 (fun c_1 => ?_) (fun c_1 => ?_)
  · have h9 := h.1 c_1
    refine r_aload_n d_Words_append_11 rfl ?_
    refine x_getR d_Words_append_12 fl_Words_11 gR_1_0 ?_
    refine r_aload_n d_Words_append_15 rfl ?_
    refine x_getI d_Words_append_16 fl_Words_18 gI_1_2 ?_
    refine r_iload_n d_Words_append_19 rfl ?_
    obtain ⟨o_2, h9⟩ := h9
    refine x_iast d_Words_append_20 aI_2 o_2 ?_
    refine r_aload_n d_Words_append_21 rfl ?_
    refine r_dup d_Words_append_22 rfl ?_
    refine x_getI d_Words_append_23 fl_Words_18 gI_1_2 ?_
    refine r_iconst (v := 1) d_Words_append_26 (by decide) ?_
    refine r_iadd d_Words_append_27 ?_
    refine x_putI d_Words_append_28 fl_Words_18 (fun r hr => by cases hr; rfl) gI_1_2 (VOk_int _) ?_
    refine r_iconst (v := 1) d_Words_append_31 (by decide) ?_
    exact r_iret ⟨d_Words_append_32, _, rfl, rfl⟩ ⟨_, _, rfl, h9⟩
  · have h9 := h.2 c_1
    refine r_iconst (v := 0) d_Words_append_9 (by decide) ?_
    exact r_iret ⟨d_Words_append_10, _, rfl, rfl⟩ ⟨_, _, rfl, h9⟩
theorem L_Reckoning_add_0 {xs : List Int32} {i1 : Int32} {M : Mem} {L : Int64} {Q : Option Value → Mem → Int64 → Prop} 
    (h : ((780 ≤ (M 336 9) → Q none M L) ∧ (¬ (780 ≤ (M 336 9)) → (vp_in (M 336 9) 780 ∧ Q none (up (up M 509 ((M 336 9).toNatClampNeg) i1) 336 9 ((M 336 9) + 1)) L)))) : RX xs shL md_Reckoning_add 0 [.ref 336, .int i1] [] M L Q := by
  refine r_aload_n d_Reckoning_add_0 rfl ?_
  refine x_getI d_Reckoning_add_1 fl_Reckoning_49 gI_336_9 ?_
  refine r_sipush (v := 780) d_Reckoning_add_4 (by decide) ?_
  refine r_ic_ge d_Reckoning_add_7 (fun c_1 => ?_) (fun c_1 => ?_)
  · have h9 := h.1 c_1
    exact r_vret ⟨d_Reckoning_add_30, rfl⟩ ⟨M, L, rfl, h9⟩
  · have h9 := h.2 c_1
    refine r_aload_n d_Reckoning_add_10 rfl ?_
    refine x_getR d_Reckoning_add_11 fl_Reckoning_45 gR_336_8 ?_
    refine r_aload_n d_Reckoning_add_14 rfl ?_
    refine x_getI d_Reckoning_add_15 fl_Reckoning_49 gI_336_9 ?_
    refine r_iload_n d_Reckoning_add_18 rfl ?_
    obtain ⟨o_2, h9⟩ := h9
    refine x_iast d_Reckoning_add_19 aI_509 o_2 ?_
    refine r_aload_n d_Reckoning_add_20 rfl ?_
    refine r_dup d_Reckoning_add_21 rfl ?_
    refine x_getI d_Reckoning_add_22 fl_Reckoning_49 gI_336_9 ?_
    refine r_iconst (v := 1) d_Reckoning_add_25 (by decide) ?_
    refine r_iadd d_Reckoning_add_26 ?_
    refine x_putI d_Reckoning_add_27 fl_Reckoning_49 (fun r hr => by cases hr; rfl) gI_336_9 (VOk_int _) ?_
    exact r_vret ⟨d_Reckoning_add_30, rfl⟩ ⟨up (up M 509 ((M 336 9).toNatClampNeg) i1) 336 9 ((M 336 9) + 1), L, rfl, h9⟩
theorem L_Reckoning_foundAt_0 {xs : List Int32} {i1 : Int32} {M : Mem} {L : Int64} {Q : Option Value → Mem → Int64 → Prop} 
    (h : ((i1 < 0 → Q (some (.int (-1))) M L) ∧ (¬ (i1 < 0) → (((M 336 9) ≤ i1 → Q (some (.int (-1))) M L) ∧ (¬ ((M 336 9) ≤ i1) → (vp_in i1 780 ∧ Q (some (.int (M 509 i1.toNatClampNeg))) M L)))))) : RX xs shL md_Reckoning_foundAt 0 [.ref 336, .int i1] [] M L Q := by
  refine r_iload_n d_Reckoning_foundAt_0 rfl ?_
  refine r_if_lt d_Reckoning_foundAt_1 (fun c_1 => ?_) (fun c_1 => ?_)
  · have h9 := h.1 c_1
    refine r_iconst (v := (-1)) d_Reckoning_foundAt_21 (by decide) ?_
    exact r_iret ⟨d_Reckoning_foundAt_22, _, rfl, rfl⟩ ⟨_, _, rfl, h9⟩
  · have h9 := h.2 c_1
    refine r_iload_n d_Reckoning_foundAt_4 rfl ?_
    refine r_aload_n d_Reckoning_foundAt_5 rfl ?_
    refine x_getI d_Reckoning_foundAt_6 fl_Reckoning_49 gI_336_9 ?_
    refine r_ic_ge d_Reckoning_foundAt_9 (fun c_2 => ?_) (fun c_2 => ?_)
    · have h9 := h9.1 c_2
      refine r_iconst (v := (-1)) d_Reckoning_foundAt_21 (by decide) ?_
      exact r_iret ⟨d_Reckoning_foundAt_22, _, rfl, rfl⟩ ⟨_, _, rfl, h9⟩
    · have h9 := h9.2 c_2
      refine r_aload_n d_Reckoning_foundAt_12 rfl ?_
      refine x_getR d_Reckoning_foundAt_13 fl_Reckoning_45 gR_336_8 ?_
      refine r_iload_n d_Reckoning_foundAt_16 rfl ?_
      obtain ⟨o_3, h9⟩ := h9
      refine x_iald d_Reckoning_foundAt_17 aI_509 o_3 ?_
      refine r_goto d_Reckoning_foundAt_18 ?_
      exact r_iret ⟨d_Reckoning_foundAt_22, _, rfl, rfl⟩ ⟨_, _, rfl, h9⟩
theorem L_Mod_add_0 {xs : List Int32} {i1 : Int32} {i2 : Int32} {i3 : Int32} {i4 : Int32} {M : Mem} {L : Int64} {Q : Option Value → Mem → Int64 → Prop} 
    (h : (((M 516 20) = 40 → Q (some (.int (-104))) M L) ∧ (¬ ((M 516 20) = 40) → (vp_in (5 * (M 516 20)) 200 ∧ (vp_in ((5 * (M 516 20)) + 1) 200 ∧ (vp_in ((5 * (M 516 20)) + 2) 200 ∧ (vp_in ((5 * (M 516 20)) + 3) 200 ∧ (vp_in ((5 * (M 516 20)) + 4) 200 ∧ Q (some (.int ((M 516 20) + 1))) (up (up (up (up (up (up M 525 ((5 * (M 516 20)).toNatClampNeg) i1) 525 (((5 * (M 516 20)) + 1).toNatClampNeg) i2) 525 (((5 * (M 516 20)) + 2).toNatClampNeg) i3) 525 (((5 * (M 516 20)) + 3).toNatClampNeg) i4) 525 (((5 * (M 516 20)) + 4).toNatClampNeg) 1) 516 20 ((M 516 20) + 1)) L)))))))) : RX xs shL md_Mod_add 0 [.ref 516, .int i1, .int i2, .int i3, .int i4] [] M L Q := by
  refine r_aload_n d_Mod_add_0 rfl ?_
  refine x_getI d_Mod_add_1 fl_Mod_140 gI_516_20 ?_
  refine r_bipush (v := 40) d_Mod_add_4 (by decide) ?_
  refine r_ic_ne d_Mod_add_6 (fun c_1 => ?_) (fun c_1 => ?_)
  · have h9 := h.2 c_1
    refine r_aload_n d_Mod_add_12 rfl ?_
    refine x_getR d_Mod_add_13 fl_Mod_45 gR_516_21 ?_
    refine r_iconst (v := 5) d_Mod_add_16 (by decide) ?_
    refine r_aload_n d_Mod_add_17 rfl ?_
    refine x_getI d_Mod_add_18 fl_Mod_140 gI_516_20 ?_
    refine r_imul d_Mod_add_21 ?_
    refine r_iload_n d_Mod_add_22 rfl ?_
    obtain ⟨o_2, h9⟩ := h9
    refine x_iast d_Mod_add_23 aI_525 o_2 ?_
    refine r_aload_n d_Mod_add_24 rfl ?_
    refine x_getR d_Mod_add_25 fl_Mod_45 gR_516_21 ?_
    refine r_iconst (v := 5) d_Mod_add_28 (by decide) ?_
    refine r_aload_n d_Mod_add_29 rfl ?_
    refine x_getI d_Mod_add_30 fl_Mod_140 gI_516_20 ?_
    refine r_imul d_Mod_add_33 ?_
    refine r_iconst (v := 1) d_Mod_add_34 (by decide) ?_
    refine r_iadd d_Mod_add_35 ?_
    refine r_iload_n d_Mod_add_36 rfl ?_
    obtain ⟨o_3, h9⟩ := h9
    refine x_iast d_Mod_add_37 aI_525 o_3 ?_
    refine r_aload_n d_Mod_add_38 rfl ?_
    refine x_getR d_Mod_add_39 fl_Mod_45 gR_516_21 ?_
    refine r_iconst (v := 5) d_Mod_add_42 (by decide) ?_
    refine r_aload_n d_Mod_add_43 rfl ?_
    refine x_getI d_Mod_add_44 fl_Mod_140 gI_516_20 ?_
    refine r_imul d_Mod_add_47 ?_
    refine r_iconst (v := 2) d_Mod_add_48 (by decide) ?_
    refine r_iadd d_Mod_add_49 ?_
    refine r_iload_n d_Mod_add_50 rfl ?_
    obtain ⟨o_4, h9⟩ := h9
    refine x_iast d_Mod_add_51 aI_525 o_4 ?_
    refine r_aload_n d_Mod_add_52 rfl ?_
    refine x_getR d_Mod_add_53 fl_Mod_45 gR_516_21 ?_
    refine r_iconst (v := 5) d_Mod_add_56 (by decide) ?_
    refine r_aload_n d_Mod_add_57 rfl ?_
    refine x_getI d_Mod_add_58 fl_Mod_140 gI_516_20 ?_
    refine r_imul d_Mod_add_61 ?_
    refine r_iconst (v := 3) d_Mod_add_62 (by decide) ?_
    refine r_iadd d_Mod_add_63 ?_
    refine r_iload d_Mod_add_64 rfl ?_
    obtain ⟨o_5, h9⟩ := h9
    refine x_iast d_Mod_add_66 aI_525 o_5 ?_
    refine r_aload_n d_Mod_add_67 rfl ?_
    refine x_getR d_Mod_add_68 fl_Mod_45 gR_516_21 ?_
    refine r_iconst (v := 5) d_Mod_add_71 (by decide) ?_
    refine r_aload_n d_Mod_add_72 rfl ?_
    refine x_getI d_Mod_add_73 fl_Mod_140 gI_516_20 ?_
    refine r_imul d_Mod_add_76 ?_
    refine r_iconst (v := 4) d_Mod_add_77 (by decide) ?_
    refine r_iadd d_Mod_add_78 ?_
    refine r_iconst (v := 1) d_Mod_add_79 (by decide) ?_
    obtain ⟨o_6, h9⟩ := h9
    refine x_iast d_Mod_add_80 aI_525 o_6 ?_
    refine r_aload_n d_Mod_add_81 rfl ?_
    refine r_dup d_Mod_add_82 rfl ?_
    refine x_getI d_Mod_add_83 fl_Mod_140 gI_516_20 ?_
    refine r_iconst (v := 1) d_Mod_add_86 (by decide) ?_
    refine r_iadd d_Mod_add_87 ?_
    refine x_putI d_Mod_add_88 fl_Mod_140 (fun r hr => by cases hr; rfl) gI_516_20 (VOk_int _) ?_
    refine r_aload_n d_Mod_add_91 rfl ?_
    refine x_getI d_Mod_add_92 fl_Mod_140 gI_516_20 ?_
    exact r_iret ⟨d_Mod_add_95, _, rfl, rfl⟩ ⟨_, _, rfl, h9⟩
  · have h9 := h.1 c_1
    refine r_bipush (v := (-104)) d_Mod_add_9 (by decide) ?_
    exact r_iret ⟨d_Mod_add_11, _, rfl, rfl⟩ ⟨_, _, rfl, h9⟩
theorem L_Mod_mix_0 {xs : List Int32} {l1 : Int64} {M : Mem} {L : Int64} {Q : Option Value → Mem → Int64 → Prop} 
    (h : Q none M ((31 * L) + l1)) : RX xs shL md_Mod_mix 0 [.ref 516, .long l1, .null] [] M L Q := by
  refine r_aload_n d_Mod_mix_0 rfl ?_
  refine r_ldc2 (v := 31) d_Mod_mix_1 ck_Mod_281 ?_
  refine r_aload_n d_Mod_mix_4 rfl ?_
  refine x_getL d_Mod_mix_5 fl_Mod_283 gL_516_34 ?_
  refine r_lmul d_Mod_mix_8 ?_
  refine r_lload_n d_Mod_mix_9 rfl ?_
  refine r_ladd d_Mod_mix_10 ?_
  refine x_putL d_Mod_mix_11 fl_Mod_283 (by decide +kernel) oneL_shL ?_
  exact r_vret ⟨d_Mod_mix_14, rfl⟩ ⟨M, (31 * L) + l1, rfl, h⟩
theorem L_Mod_northOf_0 {xs : List Int32} {i1 : Int32} {M : Mem} {L : Int64} {Q : Option Value → Mem → Int64 → Prop} 
    (h : ((i1 ≤ 16 → ((8 < i1 → (vp_in (16 - i1) 9 ∧ Q (some (.int (-(M 518 ((16 - i1).toNatClampNeg))))) M L)) ∧ (¬ (8 < i1) → (vp_in i1 9 ∧ Q (some (.int (M 518 i1.toNatClampNeg))) M L)))) ∧ (¬ (i1 ≤ 16) → ((8 < (32 - i1) → (vp_in (16 - (32 - i1)) 9 ∧ Q (some (.int (-(M 518 ((16 - (32 - i1)).toNatClampNeg))))) M L)) ∧ (¬ (8 < (32 - i1)) → (vp_in (32 - i1) 9 ∧ Q (some (.int (M 518 ((32 - i1).toNatClampNeg)))) M L)))))) : RX xs shL md_Mod_northOf 0 [.ref 516, .int i1] [] M L Q := by
  refine r_weak (lv' := [.ref 516, .int i1, .null]) (by repeat (first | exact trivial | refine ⟨rfl, ?_⟩ | exact lle_nil)) ?_
  refine r_iload_n d_Mod_northOf_0 rfl ?_
  refine r_bipush (v := 16) d_Mod_northOf_1 (by decide) ?_
  refine r_ic_le d_Mod_northOf_3 (fun c_1 => ?_) (fun c_1 => ?_)
  · have h9 := h.1 c_1
    refine r_iload_n d_Mod_northOf_13 rfl ?_
    refine r_istore_n d_Mod_northOf_14 (by decide) ?_
    refine r_iload_n d_Mod_northOf_15 rfl ?_
    refine r_bipush (v := 8) d_Mod_northOf_16 (by decide) ?_
    refine r_ic_gt d_Mod_northOf_18 (fun c_2 => ?_) (fun c_2 => ?_)
    · have h9 := h9.1 c_2
      refine r_aload_n d_Mod_northOf_30 rfl ?_
      refine x_getR d_Mod_northOf_31 fl_Mod_13 gR_516_1 ?_
      refine r_bipush (v := 16) d_Mod_northOf_34 (by decide) ?_
      refine r_iload_n d_Mod_northOf_36 rfl ?_
      refine r_isub d_Mod_northOf_37 ?_
      obtain ⟨o_3, h9⟩ := h9
      refine x_iald d_Mod_northOf_38 aI_518 o_3 ?_
      refine r_ineg d_Mod_northOf_39 ?_
      exact r_iret ⟨d_Mod_northOf_40, _, rfl, rfl⟩ ⟨_, _, rfl, h9⟩
    · have h9 := h9.2 c_2
      refine r_aload_n d_Mod_northOf_21 rfl ?_
      refine x_getR d_Mod_northOf_22 fl_Mod_13 gR_516_1 ?_
      refine r_iload_n d_Mod_northOf_25 rfl ?_
      obtain ⟨o_4, h9⟩ := h9
      refine x_iald d_Mod_northOf_26 aI_518 o_4 ?_
      refine r_goto d_Mod_northOf_27 ?_
      exact r_iret ⟨d_Mod_northOf_40, _, rfl, rfl⟩ ⟨_, _, rfl, h9⟩
  · have h9 := h.2 c_1
    refine r_bipush (v := 32) d_Mod_northOf_6 (by decide) ?_
    refine r_iload_n d_Mod_northOf_8 rfl ?_
    refine r_isub d_Mod_northOf_9 ?_
    refine r_goto d_Mod_northOf_10 ?_
    refine r_istore_n d_Mod_northOf_14 (by decide) ?_
    refine r_iload_n d_Mod_northOf_15 rfl ?_
    refine r_bipush (v := 8) d_Mod_northOf_16 (by decide) ?_
    refine r_ic_gt d_Mod_northOf_18 (fun c_5 => ?_) (fun c_5 => ?_)
    · have h9 := h9.1 c_5
      refine r_aload_n d_Mod_northOf_30 rfl ?_
      refine x_getR d_Mod_northOf_31 fl_Mod_13 gR_516_1 ?_
      refine r_bipush (v := 16) d_Mod_northOf_34 (by decide) ?_
      refine r_iload_n d_Mod_northOf_36 rfl ?_
      refine r_isub d_Mod_northOf_37 ?_
      obtain ⟨o_6, h9⟩ := h9
      refine x_iald d_Mod_northOf_38 aI_518 o_6 ?_
      refine r_ineg d_Mod_northOf_39 ?_
      exact r_iret ⟨d_Mod_northOf_40, _, rfl, rfl⟩ ⟨_, _, rfl, h9⟩
    · have h9 := h9.2 c_5
      refine r_aload_n d_Mod_northOf_21 rfl ?_
      refine x_getR d_Mod_northOf_22 fl_Mod_13 gR_516_1 ?_
      refine r_iload_n d_Mod_northOf_25 rfl ?_
      obtain ⟨o_7, h9⟩ := h9
      refine x_iald d_Mod_northOf_26 aI_518 o_7 ?_
      refine r_goto d_Mod_northOf_27 ?_
      exact r_iret ⟨d_Mod_northOf_40, _, rfl, rfl⟩ ⟨_, _, rfl, h9⟩
theorem L_Log_holdsWatch_0 {xs : List Int32} {i1 : Int32} {M : Mem} {L : Int64} {Q : Option Value → Mem → Int64 → Prop} 
    (h : RX xs shL md_Log_holdsWatch 2 [.ref 134, .int i1, .int 0] [] M L Q) : RX xs shL md_Log_holdsWatch 0 [.ref 134, .int i1] [] M L Q := by
  refine r_weak (lv' := [.ref 134, .int i1, .null]) (by repeat (first | exact trivial | refine ⟨rfl, ?_⟩ | exact lle_nil)) ?_
  refine r_iconst (v := 0) d_Log_holdsWatch_0 (by decide) ?_
  refine r_istore_n d_Log_holdsWatch_1 (by decide) ?_
  exact h
theorem L_Log_holdsWatch_2 {xs : List Int32} {i1 : Int32} {i2 : Int32} {M : Mem} {L : Int64} {Q : Option Value → Mem → Int64 → Prop} 
    (h : (((M 134 1) ≤ i2 → Q (some (.int 0)) M L) ∧ (¬ ((M 134 1) ≤ i2) → (vp_in i2 40 ∧ (((M (136 + 5 * i2.toNatClampNeg) 3) = i1 → Q (some (.int 1)) M L) ∧ (¬ ((M (136 + 5 * i2.toNatClampNeg) 3) = i1) → RX xs shL md_Log_holdsWatch 2 [.ref 134, .int i1, .int (i2 + 1)] [] M L Q)))))) : RX xs shL md_Log_holdsWatch 2 [.ref 134, .int i1, .int i2] [] M L Q := by
  refine r_iload_n d_Log_holdsWatch_2 rfl ?_
  refine r_aload_n d_Log_holdsWatch_3 rfl ?_
  refine x_getI d_Log_holdsWatch_4 fl_Log_18 gI_134_1 ?_
  refine r_ic_ge d_Log_holdsWatch_7 (fun c_1 => ?_) (fun c_1 => ?_)
  · have h9 := h.1 c_1
    refine r_iconst (v := 0) d_Log_holdsWatch_31 (by decide) ?_
    exact r_iret ⟨d_Log_holdsWatch_32, _, rfl, rfl⟩ ⟨_, _, rfl, h9⟩
  · have h9 := h.2 c_1
    refine r_aload_n d_Log_holdsWatch_10 rfl ?_
    refine x_getR d_Log_holdsWatch_11 fl_Log_13 gR_134_0 ?_
    refine r_iload_n d_Log_holdsWatch_14 rfl ?_
    obtain ⟨o_2, h9⟩ := h9
    refine x_aald d_Log_holdsWatch_15 aR_135 o_2 ?_
    refine x_getI d_Log_holdsWatch_16 fl_Log_35 (rw_I (vp_lt o_2) 3 (by decide) (by decide)) ?_
    refine r_iload_n d_Log_holdsWatch_19 rfl ?_
    refine r_ic_ne d_Log_holdsWatch_20 (fun c_3 => ?_) (fun c_3 => ?_)
    · have h9 := h9.2 c_3
      refine r_iinc (v := i2 + 1) d_Log_holdsWatch_25 rfl rfl (by decide) ?_
      refine r_goto d_Log_holdsWatch_28 ?_
      exact h9
    · have h9 := h9.1 c_3
      refine r_iconst (v := 1) d_Log_holdsWatch_23 (by decide) ?_
      exact r_iret ⟨d_Log_holdsWatch_24, _, rfl, rfl⟩ ⟨_, _, rfl, h9⟩
theorem L_Mod_keep_0 {xs : List Int32} {i1 : Int32} {M : Mem} {L : Int64} {Q : Option Value → Mem → Int64 → Prop} 
    (h : RX xs shL md_Mod_keep 2 [.ref 516, .int i1, .int 0] [] M L Q) : RX xs shL md_Mod_keep 0 [.ref 516, .int i1] [] M L Q := by
  refine r_weak (lv' := [.ref 516, .int i1, .null]) (by repeat (first | exact trivial | refine ⟨rfl, ?_⟩ | exact lle_nil)) ?_
  refine r_iconst (v := 0) d_Mod_keep_0 (by decide) ?_
  refine r_istore_n d_Mod_keep_1 (by decide) ?_
  exact h
theorem L_Mod_keep_2 {xs : List Int32} {i1 : Int32} {i2 : Int32} {M : Mem} {L : Int64} {Q : Option Value → Mem → Int64 → Prop} 
    (h : ((400 ≤ i2 → Q none M L) ∧ (¬ (400 ≤ i2) → (vp_in i2 400 ∧ (vp_in ((400 * i1) + i2) 16400 ∧ RX xs shL md_Mod_keep 2 [.ref 516, .int i1, .int (i2 + 1)] [] (up M 529 (((400 * i1) + i2).toNatClampNeg) ((M 527 i2.toNatClampNeg) &&& 1)) L Q))))) : RX xs shL md_Mod_keep 2 [.ref 516, .int i1, .int i2] [] M L Q := by
  refine r_iload_n d_Mod_keep_2 rfl ?_
  refine r_sipush (v := 400) d_Mod_keep_3 (by decide) ?_
  refine r_ic_ge d_Mod_keep_6 (fun c_1 => ?_) (fun c_1 => ?_)
  · have h9 := h.1 c_1
    exact r_vret ⟨d_Mod_keep_33, rfl⟩ ⟨M, L, rfl, h9⟩
  · have h9 := h.2 c_1
    refine r_aload_n d_Mod_keep_9 rfl ?_
    refine x_getR d_Mod_keep_10 fl_Mod_57 gR_516_31 ?_
    refine r_sipush (v := 400) d_Mod_keep_13 (by decide) ?_
    refine r_iload_n d_Mod_keep_16 rfl ?_
    refine r_imul d_Mod_keep_17 ?_
    refine r_iload_n d_Mod_keep_18 rfl ?_
    refine r_iadd d_Mod_keep_19 ?_
    refine r_aload_n d_Mod_keep_20 rfl ?_
    refine x_getR d_Mod_keep_21 fl_Mod_51 gR_516_29 ?_
    refine r_iload_n d_Mod_keep_24 rfl ?_
    obtain ⟨o_2, h9⟩ := h9
    refine x_zald d_Mod_keep_25 aZ_527 o_2 ?_
    obtain ⟨o_3, h9⟩ := h9
    refine x_zast d_Mod_keep_26 aZ_529 o_3 ?_
    refine r_iinc (v := i2 + 1) d_Mod_keep_27 rfl rfl (by decide) ?_
    refine r_goto d_Mod_keep_30 ?_
    exact h9
theorem L_Mod_lay_0 {xs : List Int32} {i1 : Int32} {M : Mem} {L : Int64} {Q : Option Value → Mem → Int64 → Prop} 
    (h : RX xs shL md_Mod_lay 2 [.ref 516, .int i1, .int 0] [] M L Q) : RX xs shL md_Mod_lay 0 [.ref 516, .int i1] [] M L Q := by
  refine r_weak (lv' := [.ref 516, .int i1, .null]) (by repeat (first | exact trivial | refine ⟨rfl, ?_⟩ | exact lle_nil)) ?_
  refine r_iconst (v := 0) d_Mod_lay_0 (by decide) ?_
  refine r_istore_n d_Mod_lay_1 (by decide) ?_
  exact h
theorem L_Mod_lay_2 {xs : List Int32} {i1 : Int32} {i2 : Int32} {M : Mem} {L : Int64} {Q : Option Value → Mem → Int64 → Prop} 
    (h : ((400 ≤ i2 → Q none M L) ∧ (¬ (400 ≤ i2) → (vp_in ((400 * i1) + i2) 16400 ∧ (vp_in i2 400 ∧ RX xs shL md_Mod_lay 2 [.ref 516, .int i1, .int (i2 + 1)] [] (up M 527 i2.toNatClampNeg ((M 529 (((400 * i1) + i2).toNatClampNeg)) &&& 1)) L Q))))) : RX xs shL md_Mod_lay 2 [.ref 516, .int i1, .int i2] [] M L Q := by
  refine r_iload_n d_Mod_lay_2 rfl ?_
  refine r_sipush (v := 400) d_Mod_lay_3 (by decide) ?_
  refine r_ic_ge d_Mod_lay_6 (fun c_1 => ?_) (fun c_1 => ?_)
  · have h9 := h.1 c_1
    exact r_vret ⟨d_Mod_lay_33, rfl⟩ ⟨M, L, rfl, h9⟩
  · have h9 := h.2 c_1
    refine r_aload_n d_Mod_lay_9 rfl ?_
    refine x_getR d_Mod_lay_10 fl_Mod_51 gR_516_29 ?_
    refine r_iload_n d_Mod_lay_13 rfl ?_
    refine r_aload_n d_Mod_lay_14 rfl ?_
    refine x_getR d_Mod_lay_15 fl_Mod_57 gR_516_31 ?_
    refine r_sipush (v := 400) d_Mod_lay_18 (by decide) ?_
    refine r_iload_n d_Mod_lay_21 rfl ?_
    refine r_imul d_Mod_lay_22 ?_
    refine r_iload_n d_Mod_lay_23 rfl ?_
    refine r_iadd d_Mod_lay_24 ?_
    obtain ⟨o_2, h9⟩ := h9
    refine x_zald d_Mod_lay_25 aZ_529 o_2 ?_
    obtain ⟨o_3, h9⟩ := h9
    refine x_zast d_Mod_lay_26 aZ_527 o_3 ?_
    refine r_iinc (v := i2 + 1) d_Mod_lay_27 rfl rfl (by decide) ?_
    refine r_goto d_Mod_lay_30 ?_
    exact h9
theorem L_Mod_flood_0 {xs : List Int32} {S : List Shp} {M : Mem} {L : Int64} {Q : Option Value → Mem → Int64 → Prop} (hS : cvr S 516 531)
    (h : RX xs S md_Mod_flood 2 [.ref 516, .int 0] [] M L Q) : RX xs S md_Mod_flood 0 [.ref 516] [] M L Q := by
  refine r_weak (lv' := [.ref 516, .null]) (by repeat (first | exact trivial | refine ⟨rfl, ?_⟩ | exact lle_nil)) ?_
  refine r_iconst (v := 0) d_Mod_flood_0 (by decide) ?_
  refine r_istore_n d_Mod_flood_1 (by decide) ?_
  exact h
theorem L_Mod_flood_2 {xs : List Int32} {S : List Shp} {i1 : Int32} {M : Mem} {L : Int64} {Q : Option Value → Mem → Int64 → Prop} (hS : cvr S 516 531)
    (h : ((400 ≤ i1 → Q none (up (up (up M 516 17 0) 516 18 0) 516 19 0) L) ∧ (¬ (400 ≤ i1) → (vp_in i1 400 ∧ RX xs S md_Mod_flood 2 [.ref 516, .int (i1 + 1)] [] (up (up M 523 i1.toNatClampNeg 50) 524 i1.toNatClampNeg 0) L Q)))) : RX xs S md_Mod_flood 2 [.ref 516, .int i1] [] M L Q := by
  refine r_iload_n d_Mod_flood_2 rfl ?_
  refine r_sipush (v := 400) d_Mod_flood_3 (by decide) ?_
  refine r_ic_ge d_Mod_flood_6 (fun c_1 => ?_) (fun c_1 => ?_)
  · have h9 := h.1 c_1
    refine r_aload_n d_Mod_flood_30 rfl ?_
    refine r_iconst (v := 0) d_Mod_flood_31 (by decide) ?_
    refine x_putI d_Mod_flood_32 fl_Mod_66 (fun r hr => by cases hr; rfl) (fI_cv gI_516_17 (hS 516 (by decide) (by decide))) (VOk_int _) ?_
    refine r_aload_n d_Mod_flood_35 rfl ?_
    refine r_iconst (v := 0) d_Mod_flood_36 (by decide) ?_
    refine x_putI d_Mod_flood_37 fl_Mod_69 (fun r hr => by cases hr; rfl) (fI_cv gI_516_18 (hS 516 (by decide) (by decide))) (VOk_int _) ?_
    refine r_aload_n d_Mod_flood_40 rfl ?_
    refine r_iconst (v := 0) d_Mod_flood_41 (by decide) ?_
    refine x_putI d_Mod_flood_42 fl_Mod_72 (fun r hr => by cases hr; rfl) (fI_cv gI_516_19 (hS 516 (by decide) (by decide))) (VOk_int _) ?_
    exact r_vret ⟨d_Mod_flood_45, rfl⟩ ⟨up (up (up M 516 17 0) 516 18 0) 516 19 0, L, rfl, h9⟩
  · have h9 := h.2 c_1
    refine r_aload_n d_Mod_flood_9 rfl ?_
    refine x_getR d_Mod_flood_10 fl_Mod_38 (fR_cv gR_516_11 (hS 516 (by decide) (by decide))) ?_
    refine r_iload_n d_Mod_flood_13 rfl ?_
    refine r_bipush (v := 50) d_Mod_flood_14 (by decide) ?_
    obtain ⟨o_2, h9⟩ := h9
    refine x_iast d_Mod_flood_16 (aI_cv aI_523 (hS 523 (by decide) (by decide))) o_2 ?_
    refine r_aload_n d_Mod_flood_17 rfl ?_
    refine x_getR d_Mod_flood_18 fl_Mod_41 (fR_cv gR_516_12 (hS 516 (by decide) (by decide))) ?_
    refine r_iload_n d_Mod_flood_21 rfl ?_
    refine r_iconst (v := 0) d_Mod_flood_22 (by decide) ?_
    refine x_zast d_Mod_flood_23 (aZ_cv aZ_524 (hS 524 (by decide) (by decide))) o_2 ?_
    refine r_iinc (v := i1 + 1) d_Mod_flood_24 rfl rfl (by decide) ?_
    refine r_goto d_Mod_flood_27 ?_
    exact h9
theorem L_Mod_lettersOf_0 {xs : List Int32} {S : List Shp} {i0 : Int32} {M : Mem} {L : Int64} {Q : Option Value → Mem → Int64 → Prop} 
    (h : RX xs S md_Mod_lettersOf 4 [.null, .int 0, .int i0] [] M L Q) : RX xs S md_Mod_lettersOf 0 [.int i0] [] M L Q := by
  refine r_weak (lv' := [.int i0, .null, .null]) (by repeat (first | exact trivial | refine ⟨rfl, ?_⟩ | exact lle_nil)) ?_
  refine r_iconst (v := 0) d_Mod_lettersOf_0 (by decide) ?_
  refine r_istore_n d_Mod_lettersOf_1 (by decide) ?_
  refine r_iload_n d_Mod_lettersOf_2 rfl ?_
  refine r_istore_n d_Mod_lettersOf_3 (by decide) ?_
  refine r_weak (lv' := [.null, .int 0, .int i0]) (by repeat (first | exact trivial | refine ⟨rfl, ?_⟩ | exact lle_nil)) ?_
  exact h
theorem L_Mod_lettersOf_4 {xs : List Int32} {S : List Shp} {i1 : Int32} {i2 : Int32} {M : Mem} {L : Int64} {Q : Option Value → Mem → Int64 → Prop} 
    (h : ((i2 ≤ 0 → Q (some (.int i1)) M L) ∧ (¬ (i2 ≤ 0) → RX xs S md_Mod_lettersOf 4 [.null, .int (i1 + 1), .int (i2 / 6)] [] M L Q))) : RX xs S md_Mod_lettersOf 4 [.null, .int i1, .int i2] [] M L Q := by
  refine r_iload_n d_Mod_lettersOf_4 rfl ?_
  refine r_if_le d_Mod_lettersOf_5 (fun c_1 => ?_) (fun c_1 => ?_)
  · have h9 := h.1 c_1
    refine r_iload_n d_Mod_lettersOf_19 rfl ?_
    exact r_iret ⟨d_Mod_lettersOf_20, _, rfl, rfl⟩ ⟨_, _, rfl, h9⟩
  · have h9 := h.2 c_1
    refine r_iinc (v := i1 + 1) d_Mod_lettersOf_8 rfl rfl (by decide) ?_
    refine r_iload_n d_Mod_lettersOf_11 rfl ?_
    refine r_bipush (v := 6) d_Mod_lettersOf_12 (by decide) ?_
    refine r_idiv d_Mod_lettersOf_14 (by decide) ?_
    refine r_istore_n d_Mod_lettersOf_15 (by decide) ?_
    refine r_goto d_Mod_lettersOf_16 ?_
    exact h9
theorem L_Mod_cutOff_0 {xs : List Int32} {S : List Shp} {i0 : Int32} {i1 : Int32} {M : Mem} {L : Int64} {Q : Option Value → Mem → Int64 → Prop} 
    (h : RX xs S md_Mod_cutOff 4 [.null, .int i1, .int i0, .int 0] [] M L Q) : RX xs S md_Mod_cutOff 0 [.int i0, .int i1] [] M L Q := by
  refine r_weak (lv' := [.int i0, .int i1, .null, .null]) (by repeat (first | exact trivial | refine ⟨rfl, ?_⟩ | exact lle_nil)) ?_
  refine r_iload_n d_Mod_cutOff_0 rfl ?_
  refine r_istore_n d_Mod_cutOff_1 (by decide) ?_
  refine r_iconst (v := 0) d_Mod_cutOff_2 (by decide) ?_
  refine r_istore_n d_Mod_cutOff_3 (by decide) ?_
  refine r_weak (lv' := [.null, .int i1, .int i0, .int 0]) (by repeat (first | exact trivial | refine ⟨rfl, ?_⟩ | exact lle_nil)) ?_
  exact h
theorem L_Mod_cutOff_4 {xs : List Int32} {S : List Shp} {i1 : Int32} {i2 : Int32} {i3 : Int32} {M : Mem} {L : Int64} {Q : Option Value → Mem → Int64 → Prop} 
    (h : ((i1 ≤ i3 → Q (some (.int i2)) M L) ∧ (¬ (i1 ≤ i3) → RX xs S md_Mod_cutOff 4 [.null, .int i1, .int (i2 / 6), .int (i3 + 1)] [] M L Q))) : RX xs S md_Mod_cutOff 4 [.null, .int i1, .int i2, .int i3] [] M L Q := by
  refine r_iload_n d_Mod_cutOff_4 rfl ?_
  refine r_iload_n d_Mod_cutOff_5 rfl ?_
  refine r_ic_ge d_Mod_cutOff_6 (fun c_1 => ?_) (fun c_1 => ?_)
  · have h9 := h.1 c_1
    refine r_iload_n d_Mod_cutOff_20 rfl ?_
    exact r_iret ⟨d_Mod_cutOff_21, _, rfl, rfl⟩ ⟨_, _, rfl, h9⟩
  · have h9 := h.2 c_1
    refine r_iload_n d_Mod_cutOff_9 rfl ?_
    refine r_bipush (v := 6) d_Mod_cutOff_10 (by decide) ?_
    refine r_idiv d_Mod_cutOff_12 (by decide) ?_
    refine r_istore_n d_Mod_cutOff_13 (by decide) ?_
    refine r_iinc (v := i3 + 1) d_Mod_cutOff_14 rfl rfl (by decide) ?_
    refine r_goto d_Mod_cutOff_17 ?_
    exact h9
theorem L_Compass_hasFigureZero_0 {xs : List Int32} {S : List Shp} {i0 : Int32} {M : Mem} {L : Int64} {Q : Option Value → Mem → Int64 → Prop} 
    (h : RX xs S md_Compass_hasFigureZero 2 [.null, .int i0] [] M L Q) : RX xs S md_Compass_hasFigureZero 0 [.int i0] [] M L Q := by
  refine r_weak (lv' := [.int i0, .null]) (by repeat (first | exact trivial | refine ⟨rfl, ?_⟩ | exact lle_nil)) ?_
  refine r_iload_n d_Compass_hasFigureZero_0 rfl ?_
  refine r_istore_n d_Compass_hasFigureZero_1 (by decide) ?_
  refine r_weak (lv' := [.null, .int i0]) (by repeat (first | exact trivial | refine ⟨rfl, ?_⟩ | exact lle_nil)) ?_
  exact h
theorem L_Compass_hasFigureZero_2 {xs : List Int32} {S : List Shp} {i1 : Int32} {M : Mem} {L : Int64} {Q : Option Value → Mem → Int64 → Prop} 
    (h : ((i1 ≤ 0 → Q (some (.int 0)) M L) ∧ (¬ (i1 ≤ 0) → (((i1 - i1 / 6 * 6) = 0 → Q (some (.int 1)) M L) ∧ (¬ ((i1 - i1 / 6 * 6) = 0) → RX xs S md_Compass_hasFigureZero 2 [.null, .int (i1 / 6)] [] M L Q))))) : RX xs S md_Compass_hasFigureZero 2 [.null, .int i1] [] M L Q := by
  refine r_iload_n d_Compass_hasFigureZero_2 rfl ?_
  refine r_if_le d_Compass_hasFigureZero_3 (fun c_1 => ?_) (fun c_1 => ?_)
  · have h9 := h.1 c_1
    refine r_iconst (v := 0) d_Compass_hasFigureZero_23 (by decide) ?_
    exact r_iret ⟨d_Compass_hasFigureZero_24, _, rfl, rfl⟩ ⟨_, _, rfl, h9⟩
  · have h9 := h.2 c_1
    refine r_iload_n d_Compass_hasFigureZero_6 rfl ?_
    refine r_bipush (v := 6) d_Compass_hasFigureZero_7 (by decide) ?_
    refine r_irem d_Compass_hasFigureZero_9 (by decide) ?_
    refine r_if_ne d_Compass_hasFigureZero_10 (fun c_2 => ?_) (fun c_2 => ?_)
    · have h9 := h9.2 c_2
      refine r_iload_n d_Compass_hasFigureZero_15 rfl ?_
      refine r_bipush (v := 6) d_Compass_hasFigureZero_16 (by decide) ?_
      refine r_idiv d_Compass_hasFigureZero_18 (by decide) ?_
      refine r_istore_n d_Compass_hasFigureZero_19 (by decide) ?_
      refine r_goto d_Compass_hasFigureZero_20 ?_
      exact h9
    · have h9 := h9.1 c_2
      refine r_iconst (v := 1) d_Compass_hasFigureZero_13 (by decide) ?_
      exact r_iret ⟨d_Compass_hasFigureZero_14, _, rfl, rfl⟩ ⟨_, _, rfl, h9⟩
theorem L_Compass_pointNamed_0 {xs : List Int32} {S : List Shp} {i0 : Int32} {M : Mem} {L : Int64} {Q : Option Value → Mem → Int64 → Prop} 
    (h : RX xs S md_Compass_pointNamed 2 [.int i0, .int 0] [] M L Q) : RX xs S md_Compass_pointNamed 0 [.int i0] [] M L Q := by
  refine r_weak (lv' := [.int i0, .null]) (by repeat (first | exact trivial | refine ⟨rfl, ?_⟩ | exact lle_nil)) ?_
  refine r_iconst (v := 0) d_Compass_pointNamed_0 (by decide) ?_
  refine r_istore_n d_Compass_pointNamed_1 (by decide) ?_
  exact h
theorem L_Compass_pointNamed_2 {xs : List Int32} {S : List Shp} {i0 : Int32} {i1 : Int32} {M : Mem} {L : Int64} {Q : Option Value → Mem → Int64 → Prop} 
    (h : ((32 ≤ i1 → Q (some (.int (-1))) M L) ∧ (¬ (32 ≤ i1) → (vp_in i1 32 ∧ ((((roT xs 1).getD i1.toNatClampNeg 0) = i0 → Q (some (.int i1)) M L) ∧ (¬ (((roT xs 1).getD i1.toNatClampNeg 0) = i0) → RX xs S md_Compass_pointNamed 2 [.int i0, .int (i1 + 1)] [] M L Q)))))) : RX xs S md_Compass_pointNamed 2 [.int i0, .int i1] [] M L Q := by
  refine r_iload_n d_Compass_pointNamed_2 rfl ?_
  refine r_bipush (v := 32) d_Compass_pointNamed_3 (by decide) ?_
  refine r_ic_ge d_Compass_pointNamed_5 (fun c_1 => ?_) (fun c_1 => ?_)
  · have h9 := h.1 c_1
    refine r_iconst (v := (-1)) d_Compass_pointNamed_25 (by decide) ?_
    exact r_iret ⟨d_Compass_pointNamed_26, _, rfl, rfl⟩ ⟨_, _, rfl, h9⟩
  · have h9 := h.2 c_1
    refine r_gets (k := 1) d_Compass_pointNamed_8 sl_Compass_34 (by decide) ?_
    refine r_iload_n d_Compass_pointNamed_11 rfl ?_
    obtain ⟨o_2, h9⟩ := h9
    refine r_rald (k := 1) d_Compass_pointNamed_12 (by decide) o_2 ?_
    refine r_iload_n d_Compass_pointNamed_13 rfl ?_
    refine r_ic_ne d_Compass_pointNamed_14 (fun c_3 => ?_) (fun c_3 => ?_)
    · have h9 := h9.2 c_3
      refine r_iinc (v := i1 + 1) d_Compass_pointNamed_19 rfl rfl (by decide) ?_
      refine r_goto d_Compass_pointNamed_22 ?_
      exact h9
    · have h9 := h9.1 c_3
      refine r_iload_n d_Compass_pointNamed_17 rfl ?_
      exact r_iret ⟨d_Compass_pointNamed_18, _, rfl, rfl⟩ ⟨_, _, rfl, h9⟩
theorem L_Compass_isBeginning_0 {xs : List Int32} {S : List Shp} {i0 : Int32} {M : Mem} {L : Int64} {Q : Option Value → Mem → Int64 → Prop} 
    (h : RX xs S md_Compass_isBeginning 2 [.int i0, .int 0, .null] [] M L Q) : RX xs S md_Compass_isBeginning 0 [.int i0] [] M L Q := by
  refine r_weak (lv' := [.int i0, .null, .null]) (by repeat (first | exact trivial | refine ⟨rfl, ?_⟩ | exact lle_nil)) ?_
  refine r_iconst (v := 0) d_Compass_isBeginning_0 (by decide) ?_
  refine r_istore_n d_Compass_isBeginning_1 (by decide) ?_
  exact h
theorem L_Compass_isBeginning_2 {xs : List Int32} {S : List Shp} {i0 : Int32} {i1 : Int32} {M : Mem} {L : Int64} {Q : Option Value → Mem → Int64 → Prop} 
    (h : ((32 ≤ i1 → Q (some (.int 0)) M L) ∧ (¬ (32 ≤ i1) → (vp_in i1 32 ∧ RX xs S md_Compass_isBeginning 14 [.int i0, .int i1, .int ((roT xs 1).getD i1.toNatClampNeg 0)] [] M L Q)))) : RX xs S md_Compass_isBeginning 2 [.int i0, .int i1, .null] [] M L Q := by
  refine r_iload_n d_Compass_isBeginning_2 rfl ?_
  refine r_bipush (v := 32) d_Compass_isBeginning_3 (by decide) ?_
  refine r_ic_ge d_Compass_isBeginning_5 (fun c_1 => ?_) (fun c_1 => ?_)
  · have h9 := h.1 c_1
    refine r_iconst (v := 0) d_Compass_isBeginning_39 (by decide) ?_
    exact r_iret ⟨d_Compass_isBeginning_40, _, rfl, rfl⟩ ⟨_, _, rfl, h9⟩
  · have h9 := h.2 c_1
    refine r_gets (k := 1) d_Compass_isBeginning_8 sl_Compass_34 (by decide) ?_
    refine r_iload_n d_Compass_isBeginning_11 rfl ?_
    obtain ⟨o_2, h9⟩ := h9
    refine r_rald (k := 1) d_Compass_isBeginning_12 (by decide) o_2 ?_
    refine r_istore_n d_Compass_isBeginning_13 (by decide) ?_
    exact h9
theorem L_Compass_isBeginning_14 {xs : List Int32} {S : List Shp} {i0 : Int32} {i1 : Int32} {i2 : Int32} {M : Mem} {L : Int64} {Q : Option Value → Mem → Int64 → Prop} 
    (h : ((i2 ≤ 0 → RX xs S md_Compass_isBeginning 2 [.int i0, .int (i1 + 1), .null] [] M L Q) ∧ (¬ (i2 ≤ 0) → ((i2 = i0 → Q (some (.int 1)) M L) ∧ (¬ (i2 = i0) → RX xs S md_Compass_isBeginning 14 [.int i0, .int i1, .int (i2 / 6)] [] M L Q))))) : RX xs S md_Compass_isBeginning 14 [.int i0, .int i1, .int i2] [] M L Q := by
  refine r_iload_n d_Compass_isBeginning_14 rfl ?_
  refine r_if_le d_Compass_isBeginning_15 (fun c_3 => ?_) (fun c_3 => ?_)
  · have h9 := h.1 c_3
    refine r_iinc (v := i1 + 1) d_Compass_isBeginning_33 rfl rfl (by decide) ?_
    refine r_goto d_Compass_isBeginning_36 ?_
    refine r_weak (lv' := [.int i0, .int (i1 + 1), .null]) (by repeat (first | exact trivial | refine ⟨rfl, ?_⟩ | exact lle_nil)) ?_
    exact h9
  · have h9 := h.2 c_3
    refine r_iload_n d_Compass_isBeginning_18 rfl ?_
    refine r_iload_n d_Compass_isBeginning_19 rfl ?_
    refine r_ic_ne d_Compass_isBeginning_20 (fun c_4 => ?_) (fun c_4 => ?_)
    · have h9 := h9.2 c_4
      refine r_iload_n d_Compass_isBeginning_25 rfl ?_
      refine r_bipush (v := 6) d_Compass_isBeginning_26 (by decide) ?_
      refine r_idiv d_Compass_isBeginning_28 (by decide) ?_
      refine r_istore_n d_Compass_isBeginning_29 (by decide) ?_
      refine r_goto d_Compass_isBeginning_30 ?_
      exact h9
    · have h9 := h9.1 c_4
      refine r_iconst (v := 1) d_Compass_isBeginning_23 (by decide) ?_
      exact r_iret ⟨d_Compass_isBeginning_24, _, rfl, rfl⟩ ⟨_, _, rfl, h9⟩
theorem L_Patch_smear_0 {xs : List Int32} {S : List Shp} {i0 : Int32} {i1 : Int32} {i2 : Int32} {M : Mem} {L : Int64} {Q : Option Value → Mem → Int64 → Prop} 
    (h : RX xs S md_Patch_smear 13 [.null, .int i1, .null, .int ((i2 - i1) + 1), .long ((i0 : Int32).toInt64), .null, .int 1] [] M L Q) : RX xs S md_Patch_smear 0 [.int i0, .int i1, .int i2] [] M L Q := by
  refine r_weak (lv' := [.int i0, .int i1, .int i2, .null, .null, .null, .null]) (by repeat (first | exact trivial | refine ⟨rfl, ?_⟩ | exact lle_nil)) ?_
  refine r_iload_n d_Patch_smear_0 rfl ?_
  refine r_iload_n d_Patch_smear_1 rfl ?_
  refine r_isub d_Patch_smear_2 ?_
  refine r_iconst (v := 1) d_Patch_smear_3 (by decide) ?_
  refine r_iadd d_Patch_smear_4 ?_
  refine r_istore_n d_Patch_smear_5 (by decide) ?_
  refine r_iload_n d_Patch_smear_6 rfl ?_
  refine r_i2l d_Patch_smear_7 ?_
  refine r_lstore d_Patch_smear_8 (by decide) ?_
  refine r_iconst (v := 1) d_Patch_smear_10 (by decide) ?_
  refine r_istore d_Patch_smear_11 (by decide) ?_
  refine r_weak (lv' := [.null, .int i1, .null, .int ((i2 - i1) + 1), .long ((i0 : Int32).toInt64), .null, .int 1]) (by repeat (first | exact trivial | refine ⟨rfl, ?_⟩ | exact lle_nil)) ?_
  exact h
theorem L_Patch_smear_13 {xs : List Int32} {S : List Shp} {i1 : Int32} {i3 : Int32} {l4 : Int64} {i6 : Int32} {M : Mem} {L : Int64} {Q : Option Value → Mem → Int64 → Prop} 
    (h : ((i3 ≤ i6 → ((0 ≤ i1 → Q (some (.int ((l4 <<< ((i1 : Int32).toInt64 &&& 63)).toInt32))) M L) ∧ (¬ (0 ≤ i1) → Q (some (.int ((l4 >>> ((-i1 : Int32).toInt64 &&& 63)).toInt32))) M L))) ∧ (¬ (i3 ≤ i6) → (((i3 - i6) < i6 → RX xs S md_Patch_smear 13 [.null, .int i1, .null, .int i3, .long (l4 ||| (l4 <<< ((i3 - i6 : Int32).toInt64 &&& 63))), .null, .int (i6 + i6)] [] M L Q) ∧ (¬ ((i3 - i6) < i6) → RX xs S md_Patch_smear 13 [.null, .int i1, .null, .int i3, .long (l4 ||| (l4 <<< ((i6 : Int32).toInt64 &&& 63))), .null, .int (i6 + i6)] [] M L Q))))) : RX xs S md_Patch_smear 13 [.null, .int i1, .null, .int i3, .long l4, .null, .int i6] [] M L Q := by
  refine r_iload d_Patch_smear_13 rfl ?_
  refine r_iload_n d_Patch_smear_15 rfl ?_
  refine r_ic_ge d_Patch_smear_16 (fun c_1 => ?_) (fun c_1 => ?_)
  · have h9 := h.1 c_1
    refine r_iload_n d_Patch_smear_55 rfl ?_
    refine r_if_ge d_Patch_smear_56 (fun c_2 => ?_) (fun c_2 => ?_)
    · have h9 := h9.1 c_2
      refine r_lload d_Patch_smear_67 rfl ?_
      refine r_iload_n d_Patch_smear_69 rfl ?_
      refine r_lshl d_Patch_smear_70 ?_
      refine r_l2i d_Patch_smear_71 ?_
      exact r_iret ⟨d_Patch_smear_72, _, rfl, rfl⟩ ⟨_, _, rfl, h9⟩
    · have h9 := h9.2 c_2
      refine r_lload d_Patch_smear_59 rfl ?_
      refine r_iload_n d_Patch_smear_61 rfl ?_
      refine r_ineg d_Patch_smear_62 ?_
      refine r_lshr d_Patch_smear_63 ?_
      refine r_goto d_Patch_smear_64 ?_
      refine r_l2i d_Patch_smear_71 ?_
      exact r_iret ⟨d_Patch_smear_72, _, rfl, rfl⟩ ⟨_, _, rfl, h9⟩
  · have h9 := h.2 c_1
    refine r_lload d_Patch_smear_19 rfl ?_
    refine r_lload d_Patch_smear_21 rfl ?_
    refine r_iload d_Patch_smear_23 rfl ?_
    refine r_iload_n d_Patch_smear_25 rfl ?_
    refine r_iload d_Patch_smear_26 rfl ?_
    refine r_isub d_Patch_smear_28 ?_
    refine r_ic_gt d_Patch_smear_29 (fun c_3 => ?_) (fun c_3 => ?_)
    · have h9 := h9.1 c_3
      refine r_iload_n d_Patch_smear_37 rfl ?_
      refine r_iload d_Patch_smear_38 rfl ?_
      refine r_isub d_Patch_smear_40 ?_
      refine r_lshl d_Patch_smear_41 ?_
      refine r_lor d_Patch_smear_42 ?_
      refine r_lstore d_Patch_smear_43 (by decide) ?_
      refine r_iload d_Patch_smear_45 rfl ?_
      refine r_iload d_Patch_smear_47 rfl ?_
      refine r_iadd d_Patch_smear_49 ?_
      refine r_istore d_Patch_smear_50 (by decide) ?_
      refine r_goto d_Patch_smear_52 ?_
      exact h9
    · have h9 := h9.2 c_3
      refine r_iload d_Patch_smear_32 rfl ?_
      refine r_goto d_Patch_smear_34 ?_
      refine r_lshl d_Patch_smear_41 ?_
      refine r_lor d_Patch_smear_42 ?_
      refine r_lstore d_Patch_smear_43 (by decide) ?_
      refine r_iload d_Patch_smear_45 rfl ?_
      refine r_iload d_Patch_smear_47 rfl ?_
      refine r_iadd d_Patch_smear_49 ?_
      refine r_istore d_Patch_smear_50 (by decide) ?_
      refine r_goto d_Patch_smear_52 ?_
      exact h9
theorem L_Peg_hush_0 {xs : List Int32}  {M : Mem} {L : Int64} {Q : Option Value → Mem → Int64 → Prop} 
    (h : Q (some (.int (M 1 2))) (up M 1 2 0) L) : RX xs shL md_Peg_hush 0 [.ref 0] [] M L Q := by
  refine r_weak (lv' := [.ref 0, .null]) (by repeat (first | exact trivial | refine ⟨rfl, ?_⟩ | exact lle_nil)) ?_
  refine r_aload_n d_Peg_hush_0 rfl ?_
  refine x_getR d_Peg_hush_1 fl_Peg_10 gR_0_0 ?_
  refine x_getI d_Peg_hush_4 fl_Peg_104 gI_1_2 ?_
  refine r_istore_n d_Peg_hush_7 (by decide) ?_
  refine r_aload_n d_Peg_hush_8 rfl ?_
  refine x_getR d_Peg_hush_9 fl_Peg_10 gR_0_0 ?_
  refine r_iconst (v := 0) d_Peg_hush_12 (by decide) ?_
  refine x_putI d_Peg_hush_13 fl_Peg_104 (fun r hr => by cases hr; rfl) gI_1_2 (VOk_int _) ?_
  refine r_iload_n d_Peg_hush_16 rfl ?_
  exact r_iret ⟨d_Peg_hush_17, _, rfl, rfl⟩ ⟨_, _, rfl, h⟩
theorem L_Peg_strike_0 {xs : List Int32}  {M : Mem} {L : Int64} {Q : Option Value → Mem → Int64 → Prop} 
    (h : (((M 134 1) = 0 → Q (some (.int (-103))) M L) ∧ (¬ ((M 134 1) = 0) → Q (some (.int ((M 134 1) - 1))) (up M 134 1 ((M 134 1) - 1)) L))) : RX xs shL md_Peg_strike 0 [.ref 0] [] M L Q := by
  refine r_aload_n d_Peg_strike_0 rfl ?_
  refine x_getR d_Peg_strike_1 fl_Peg_33 gR_0_3 ?_
  refine x_getI d_Peg_strike_4 fl_Peg_156 gI_134_1 ?_
  refine r_if_ne d_Peg_strike_7 (fun c_1 => ?_) (fun c_1 => ?_)
  · have h9 := h.2 c_1
    refine r_aload_n d_Peg_strike_13 rfl ?_
    refine x_getR d_Peg_strike_14 fl_Peg_33 gR_0_3 ?_
    refine r_dup d_Peg_strike_17 rfl ?_
    refine x_getI d_Peg_strike_18 fl_Peg_156 gI_134_1 ?_
    refine r_iconst (v := 1) d_Peg_strike_21 (by decide) ?_
    refine r_isub d_Peg_strike_22 ?_
    refine x_putI d_Peg_strike_23 fl_Peg_156 (fun r hr => by cases hr; rfl) gI_134_1 (VOk_int _) ?_
    refine r_aload_n d_Peg_strike_26 rfl ?_
    refine x_getR d_Peg_strike_27 fl_Peg_33 gR_0_3 ?_
    refine x_getI d_Peg_strike_30 fl_Peg_156 gI_134_1 ?_
    exact r_iret ⟨d_Peg_strike_33, _, rfl, rfl⟩ ⟨_, _, rfl, h9⟩
  · have h9 := h.1 c_1
    refine r_bipush (v := (-103)) d_Peg_strike_10 (by decide) ?_
    exact r_iret ⟨d_Peg_strike_12, _, rfl, rfl⟩ ⟨_, _, rfl, h9⟩
theorem L_Peg_watch_0 {xs : List Int32}  {M : Mem} {L : Int64} {Q : Option Value → Mem → Int64 → Prop} 
    (h : (((M 4 1) < 24 → Q (some (.int (((M 4 1) + 1) - 1))) (up M 4 1 ((M 4 1) + 1)) L) ∧ (¬ ((M 4 1) < 24) → Q (some (.int (-104))) M L))) : RX xs shL md_Peg_watch 0 [.ref 0] [] M L Q := by
  refine r_aload_n d_Peg_watch_0 rfl ?_
  refine x_getR d_Peg_watch_1 fl_Peg_19 gR_0_1 ?_
  refine x_getI d_Peg_watch_4 fl_Peg_114 gI_4_1 ?_
  refine r_bipush (v := 24) d_Peg_watch_7 (by decide) ?_
  refine r_ic_lt d_Peg_watch_9 (fun c_1 => ?_) (fun c_1 => ?_)
  · have h9 := h.1 c_1
    refine r_aload_n d_Peg_watch_15 rfl ?_
    refine x_getR d_Peg_watch_16 fl_Peg_19 gR_0_1 ?_
    refine r_dup d_Peg_watch_19 rfl ?_
    refine x_getI d_Peg_watch_20 fl_Peg_114 gI_4_1 ?_
    refine r_iconst (v := 1) d_Peg_watch_23 (by decide) ?_
    refine r_iadd d_Peg_watch_24 ?_
    refine x_putI d_Peg_watch_25 fl_Peg_114 (fun r hr => by cases hr; rfl) gI_4_1 (VOk_int _) ?_
    refine r_aload_n d_Peg_watch_28 rfl ?_
    refine x_getR d_Peg_watch_29 fl_Peg_19 gR_0_1 ?_
    refine x_getI d_Peg_watch_32 fl_Peg_114 gI_4_1 ?_
    refine r_iconst (v := 1) d_Peg_watch_35 (by decide) ?_
    refine r_isub d_Peg_watch_36 ?_
    exact r_iret ⟨d_Peg_watch_37, _, rfl, rfl⟩ ⟨_, _, rfl, h9⟩
  · have h9 := h.2 c_1
    refine r_bipush (v := (-104)) d_Peg_watch_12 (by decide) ?_
    exact r_iret ⟨d_Peg_watch_14, _, rfl, rfl⟩ ⟨_, _, rfl, h9⟩
theorem L_Mod_hush_0 {xs : List Int32}  {M : Mem} {L : Int64} {Q : Option Value → Mem → Int64 → Prop} 
    (h : Q (some (.int (M 516 2))) (up M 516 2 0) L) : RX xs shL md_Mod_hush 0 [.ref 516] [] M L Q := by
  refine r_weak (lv' := [.ref 516, .null]) (by repeat (first | exact trivial | refine ⟨rfl, ?_⟩ | exact lle_nil)) ?_
  refine r_aload_n d_Mod_hush_0 rfl ?_
  refine x_getI d_Mod_hush_1 fl_Mod_105 gI_516_2 ?_
  refine r_istore_n d_Mod_hush_4 (by decide) ?_
  refine r_aload_n d_Mod_hush_5 rfl ?_
  refine r_iconst (v := 0) d_Mod_hush_6 (by decide) ?_
  refine x_putI d_Mod_hush_7 fl_Mod_105 (fun r hr => by cases hr; rfl) gI_516_2 (VOk_int _) ?_
  refine r_iload_n d_Mod_hush_10 rfl ?_
  exact r_iret ⟨d_Mod_hush_11, _, rfl, rfl⟩ ⟨_, _, rfl, h⟩
theorem L_Mod_strike_0 {xs : List Int32}  {M : Mem} {L : Int64} {Q : Option Value → Mem → Int64 → Prop} 
    (h : (((M 516 20) = 0 → Q (some (.int (-103))) M L) ∧ (¬ ((M 516 20) = 0) → Q (some (.int ((M 516 20) - 1))) (up M 516 20 ((M 516 20) - 1)) L))) : RX xs shL md_Mod_strike 0 [.ref 516] [] M L Q := by
  refine r_aload_n d_Mod_strike_0 rfl ?_
  refine x_getI d_Mod_strike_1 fl_Mod_140 gI_516_20 ?_
  refine r_if_ne d_Mod_strike_4 (fun c_1 => ?_) (fun c_1 => ?_)
  · have h9 := h.2 c_1
    refine r_aload_n d_Mod_strike_10 rfl ?_
    refine r_dup d_Mod_strike_11 rfl ?_
    refine x_getI d_Mod_strike_12 fl_Mod_140 gI_516_20 ?_
    refine r_iconst (v := 1) d_Mod_strike_15 (by decide) ?_
    refine r_isub d_Mod_strike_16 ?_
    refine x_putI d_Mod_strike_17 fl_Mod_140 (fun r hr => by cases hr; rfl) gI_516_20 (VOk_int _) ?_
    refine r_aload_n d_Mod_strike_20 rfl ?_
    refine x_getI d_Mod_strike_21 fl_Mod_140 gI_516_20 ?_
    exact r_iret ⟨d_Mod_strike_24, _, rfl, rfl⟩ ⟨_, _, rfl, h9⟩
  · have h9 := h.1 c_1
    refine r_bipush (v := (-103)) d_Mod_strike_7 (by decide) ?_
    exact r_iret ⟨d_Mod_strike_9, _, rfl, rfl⟩ ⟨_, _, rfl, h9⟩
theorem L_Mod_watch_0 {xs : List Int32}  {M : Mem} {L : Int64} {Q : Option Value → Mem → Int64 → Prop} 
    (h : (((M 516 4) = 24 → Q (some (.int (-104))) M L) ∧ (¬ ((M 516 4) = 24) → RX xs shL md_Mod_watch 14 [.ref 516, .int 0] [] M L Q))) : RX xs shL md_Mod_watch 0 [.ref 516] [] M L Q := by
  refine r_weak (lv' := [.ref 516, .null]) (by repeat (first | exact trivial | refine ⟨rfl, ?_⟩ | exact lle_nil)) ?_
  refine r_aload_n d_Mod_watch_0 rfl ?_
  refine x_getI d_Mod_watch_1 fl_Mod_112 gI_516_4 ?_
  refine r_bipush (v := 24) d_Mod_watch_4 (by decide) ?_
  refine r_ic_ne d_Mod_watch_6 (fun c_1 => ?_) (fun c_1 => ?_)
  · have h9 := h.2 c_1
    refine r_iconst (v := 0) d_Mod_watch_12 (by decide) ?_
    refine r_istore_n d_Mod_watch_13 (by decide) ?_
    exact h9
  · have h9 := h.1 c_1
    refine r_bipush (v := (-104)) d_Mod_watch_9 (by decide) ?_
    exact r_iret ⟨d_Mod_watch_11, _, rfl, rfl⟩ ⟨_, _, rfl, h9⟩
theorem L_Mod_watch_14 {xs : List Int32} {i1 : Int32} {M : Mem} {L : Int64} {Q : Option Value → Mem → Int64 → Prop} 
    (h : ((8 ≤ i1 → RX xs shL md_Mod_watch 59 [.ref 516, .int 0] [] M L Q) ∧ (¬ (8 ≤ i1) → (vp_in ((8 * (M 516 4)) + i1) 192 ∧ (vp_in ((4 * (M 516 4)) + (i1 / 2)) 96 ∧ RX xs shL md_Mod_watch 14 [.ref 516, .int (i1 + 1)] [] (up (up M 520 (((8 * (M 516 4)) + i1).toNatClampNeg) (-1)) 521 (((4 * (M 516 4)) + (i1 / 2)).toNatClampNeg) 0) L Q))))) : RX xs shL md_Mod_watch 14 [.ref 516, .int i1] [] M L Q := by
  refine r_iload_n d_Mod_watch_14 rfl ?_
  refine r_bipush (v := 8) d_Mod_watch_15 (by decide) ?_
  refine r_ic_ge d_Mod_watch_17 (fun c_2 => ?_) (fun c_2 => ?_)
  · have h9 := h.1 c_2
    refine r_iconst (v := 0) d_Mod_watch_57 (by decide) ?_
    refine r_istore_n d_Mod_watch_58 (by decide) ?_
    exact h9
  · have h9 := h.2 c_2
    refine r_aload_n d_Mod_watch_20 rfl ?_
    refine x_getR d_Mod_watch_21 fl_Mod_19 gR_516_5 ?_
    refine r_bipush (v := 8) d_Mod_watch_24 (by decide) ?_
    refine r_aload_n d_Mod_watch_26 rfl ?_
    refine x_getI d_Mod_watch_27 fl_Mod_112 gI_516_4 ?_
    refine r_imul d_Mod_watch_30 ?_
    refine r_iload_n d_Mod_watch_31 rfl ?_
    refine r_iadd d_Mod_watch_32 ?_
    refine r_iconst (v := (-1)) d_Mod_watch_33 (by decide) ?_
    obtain ⟨o_3, h9⟩ := h9
    refine x_iast d_Mod_watch_34 aI_520 o_3 ?_
    refine r_aload_n d_Mod_watch_35 rfl ?_
    refine x_getR d_Mod_watch_36 fl_Mod_22 gR_516_6 ?_
    refine r_iconst (v := 4) d_Mod_watch_39 (by decide) ?_
    refine r_aload_n d_Mod_watch_40 rfl ?_
    refine x_getI d_Mod_watch_41 fl_Mod_112 gI_516_4 ?_
    refine r_imul d_Mod_watch_44 ?_
    refine r_iload_n d_Mod_watch_45 rfl ?_
    refine r_iconst (v := 2) d_Mod_watch_46 (by decide) ?_
    refine r_idiv d_Mod_watch_47 (by decide) ?_
    refine r_iadd d_Mod_watch_48 ?_
    refine r_iconst (v := 0) d_Mod_watch_49 (by decide) ?_
    obtain ⟨o_4, h9⟩ := h9
    refine x_iast d_Mod_watch_50 aI_521 o_4 ?_
    refine r_iinc (v := i1 + 1) d_Mod_watch_51 rfl rfl (by decide) ?_
    refine r_goto d_Mod_watch_54 ?_
    exact h9
theorem L_Mod_watch_59 {xs : List Int32} {i1 : Int32} {M : Mem} {L : Int64} {Q : Option Value → Mem → Int64 → Prop} 
    (h : ((3 ≤ i1 → Q (some (.int (((M 516 4) + 1) - 1))) (up M 516 4 ((M 516 4) + 1)) L) ∧ (¬ (3 ≤ i1) → (vp_in ((3 * (M 516 4)) + i1) 72 ∧ RX xs shL md_Mod_watch 59 [.ref 516, .int (i1 + 1)] [] (up M 522 (((3 * (M 516 4)) + i1).toNatClampNeg) 0) L Q)))) : RX xs shL md_Mod_watch 59 [.ref 516, .int i1] [] M L Q := by
  refine r_iload_n d_Mod_watch_59 rfl ?_
  refine r_iconst (v := 3) d_Mod_watch_60 (by decide) ?_
  refine r_ic_ge d_Mod_watch_61 (fun c_5 => ?_) (fun c_5 => ?_)
  · have h9 := h.1 c_5
    refine r_aload_n d_Mod_watch_84 rfl ?_
    refine r_dup d_Mod_watch_85 rfl ?_
    refine x_getI d_Mod_watch_86 fl_Mod_112 gI_516_4 ?_
    refine r_iconst (v := 1) d_Mod_watch_89 (by decide) ?_
    refine r_iadd d_Mod_watch_90 ?_
    refine x_putI d_Mod_watch_91 fl_Mod_112 (fun r hr => by cases hr; rfl) gI_516_4 (VOk_int _) ?_
    refine r_aload_n d_Mod_watch_94 rfl ?_
    refine x_getI d_Mod_watch_95 fl_Mod_112 gI_516_4 ?_
    refine r_iconst (v := 1) d_Mod_watch_98 (by decide) ?_
    refine r_isub d_Mod_watch_99 ?_
    exact r_iret ⟨d_Mod_watch_100, _, rfl, rfl⟩ ⟨_, _, rfl, h9⟩
  · have h9 := h.2 c_5
    refine r_aload_n d_Mod_watch_64 rfl ?_
    refine x_getR d_Mod_watch_65 fl_Mod_25 gR_516_7 ?_
    refine r_iconst (v := 3) d_Mod_watch_68 (by decide) ?_
    refine r_aload_n d_Mod_watch_69 rfl ?_
    refine x_getI d_Mod_watch_70 fl_Mod_112 gI_516_4 ?_
    refine r_imul d_Mod_watch_73 ?_
    refine r_iload_n d_Mod_watch_74 rfl ?_
    refine r_iadd d_Mod_watch_75 ?_
    refine r_iconst (v := 0) d_Mod_watch_76 (by decide) ?_
    obtain ⟨o_6, h9⟩ := h9
    refine x_iast d_Mod_watch_77 aI_522 o_6 ?_
    refine r_iinc (v := i1 + 1) d_Mod_watch_78 rfl rfl (by decide) ?_
    refine r_goto d_Mod_watch_81 ?_
    exact h9

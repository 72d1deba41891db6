theorem L_Peg_name_0 {xs : List Int32} {i1 : Int32} {M : Mem} {L : Int64} {Q : Option Value → Mem → Int64 → Prop} 
    (h : (((0 ≤ i1 ∧ i1 ≤ 31) → (vp_in i1 32 ∧ Q (some (.int ((roT xs 1).getD i1.toNatClampNeg 0))) M L)) ∧ (¬ (0 ≤ i1 ∧ i1 ≤ 31) → Q (some (.int (-1))) M L))) : RX xs shL md_Peg_name 0 [.ref 0, .int i1] [] M L Q := by
  refine r_iload_n d_Peg_name_0 rfl ?_
  refine x_callS (as := [.int i1]) (st := []) d_Peg_name_1 ml_Peg_65 mc_Compass_isPoint ms_Compass_isPoint ⟨by decide, by decide⟩ rfl (Nat.le_of_ble_eq_true rfl) (Nat.le_of_ble_eq_true rfl) (Q1 := fun r M1 L1 => some (.int (bI (0 ≤ i1 ∧ i1 ≤ 31))) = r ∧ M = M1 ∧ L = L1) (s_Compass_isPoint ⟨rfl, rfl, rfl⟩) ?_
  rintro _ _ _ ⟨rfl, rfl, rfl⟩
  refine r_if_eq d_Peg_name_4 (fun c_1 => ?_) (fun c_1 => ?_)
  · have h9 := h.2 (bI_p0 c_1)
    refine r_iconst (v := (-1)) d_Peg_name_15 (by decide) ?_
    exact r_iret ⟨d_Peg_name_16, _, rfl, rfl⟩ ⟨_, _, rfl, h9⟩
  · have h9 := h.1 (bI_p1 c_1)
    refine r_gets (k := 1) d_Peg_name_7 sl_Peg_71 (by decide) ?_
    refine r_iload_n d_Peg_name_10 rfl ?_
    obtain ⟨o_2, h9⟩ := h9
    refine r_rald (k := 1) d_Peg_name_11 (by decide) o_2 ?_
    refine r_goto d_Peg_name_12 ?_
    exact r_iret ⟨d_Peg_name_16, _, rfl, rfl⟩ ⟨_, _, rfl, h9⟩
theorem L_Peg_turns_0 {xs : List Int32} {i1 : Int32} {i2 : Int32} {M : Mem} {L : Int64} {Q : Option Value → Mem → Int64 → Prop} 
    (h : (((0 ≤ i1 ∧ i1 ≤ 31) → (((0 ≤ i2 ∧ i2 ≤ 31) → Q (some (.int ((i2 - i1) &&& 31))) M L) ∧ (¬ (0 ≤ i2 ∧ i2 ≤ 31) → Q (some (.int (-101))) M L))) ∧ (¬ (0 ≤ i1 ∧ i1 ≤ 31) → Q (some (.int (-101))) M L))) : RX xs shL md_Peg_turns 0 [.ref 0, .int i1, .int i2] [] M L Q := by
  refine r_iload_n d_Peg_turns_0 rfl ?_
  refine x_callS (as := [.int i1]) (st := []) d_Peg_turns_1 ml_Peg_65 mc_Compass_isPoint ms_Compass_isPoint ⟨by decide, by decide⟩ rfl (Nat.le_of_ble_eq_true rfl) (Nat.le_of_ble_eq_true rfl) (Q1 := fun r M1 L1 => some (.int (bI (0 ≤ i1 ∧ i1 ≤ 31))) = r ∧ M = M1 ∧ L = L1) (s_Compass_isPoint ⟨rfl, rfl, rfl⟩) ?_
  rintro _ _ _ ⟨rfl, rfl, rfl⟩
  refine r_if_eq d_Peg_turns_4 (fun c_1 => ?_) (fun c_1 => ?_)
  · have h9 := h.2 (bI_p0 c_1)
    refine r_bipush (v := (-101)) d_Peg_turns_14 (by decide) ?_
    exact r_iret ⟨d_Peg_turns_16, _, rfl, rfl⟩ ⟨_, _, rfl, h9⟩
  · have h9 := h.1 (bI_p1 c_1)
    refine r_iload_n d_Peg_turns_7 rfl ?_
    refine x_callS (as := [.int i2]) (st := []) d_Peg_turns_8 ml_Peg_65 mc_Compass_isPoint ms_Compass_isPoint ⟨by decide, by decide⟩ rfl (Nat.le_of_ble_eq_true rfl) (Nat.le_of_ble_eq_true rfl) (Q1 := fun r M1 L1 => some (.int (bI (0 ≤ i2 ∧ i2 ≤ 31))) = r ∧ M = M1 ∧ L = L1) (s_Compass_isPoint ⟨rfl, rfl, rfl⟩) ?_
    rintro _ _ _ ⟨rfl, rfl, rfl⟩
    refine r_if_ne d_Peg_turns_11 (fun c_2 => ?_) (fun c_2 => ?_)
    · have h9 := h9.1 (bI_p1 c_2)
      refine r_iload_n d_Peg_turns_17 rfl ?_
      refine r_iload_n d_Peg_turns_18 rfl ?_
      refine x_callS (as := [.int i1, .int i2]) (st := []) d_Peg_turns_19 ml_Peg_85 mc_Compass_turnsBetween ms_Compass_turnsBetween ⟨by decide, by decide⟩ rfl (Nat.le_of_ble_eq_true rfl) (Nat.le_of_ble_eq_true rfl) (Q1 := fun r M1 L1 => some (.int ((i2 - i1) &&& 31)) = r ∧ M = M1 ∧ L = L1) (s_Compass_turnsBetween ⟨rfl, rfl, rfl⟩) ?_
      rintro _ _ _ ⟨rfl, rfl, rfl⟩
      exact r_iret ⟨d_Peg_turns_22, _, rfl, rfl⟩ ⟨_, _, rfl, h9⟩
    · have h9 := h9.2 (bI_p0 c_2)
      refine r_bipush (v := (-101)) d_Peg_turns_14 (by decide) ?_
      exact r_iret ⟨d_Peg_turns_16, _, rfl, rfl⟩ ⟨_, _, rfl, h9⟩
theorem L_Peg_word_0 {xs : List Int32} {i1 : Int32} {M : Mem} {L : Int64} {Q : Option Value → Mem → Int64 → Prop} 
    (h : ((((0 : Int32) ≤ i1 ∧ i1 ≤ 999) → RX xs shL md_Words_append 0 [.ref 1, .int i1] [] M L (fun r M_2 L_3 => ∃ v_4 : Int32, r = some (.int v_4) ∧ ((v_4 = 0 → Q (some (.int (-104))) M_2 L_3) ∧ (¬ (v_4 = 0) → Q (some (.int (M_2 1 2))) M_2 L_3)))) ∧ (¬ ((0 : Int32) ≤ i1 ∧ i1 ≤ 999) → Q (some (.int (-102))) M L))) : RX xs shL md_Peg_word 0 [.ref 0, .int i1] [] M L Q := by
  refine r_iload_n d_Peg_word_0 rfl ?_
  refine r_iconst (v := 0) d_Peg_word_1 (by decide) ?_
  refine r_sipush (v := 999) d_Peg_word_2 (by decide) ?_
  refine x_callS (as := [.int i1, .int 0, .int 999]) (st := []) d_Peg_word_5 ml_Peg_90 mc_Peg_isWithin ms_Peg_isWithin ⟨by decide, by decide⟩ rfl (Nat.le_of_ble_eq_true rfl) (Nat.le_of_ble_eq_true rfl) (Q1 := fun r M1 L1 => some (.int (bI ((0 : Int32) ≤ i1 ∧ i1 ≤ 999))) = r ∧ M = M1 ∧ L = L1) (s_Peg_isWithin ⟨rfl, rfl, rfl⟩) ?_
  rintro _ _ _ ⟨rfl, rfl, rfl⟩
  refine r_if_ne d_Peg_word_8 (fun c_1 => ?_) (fun c_1 => ?_)
  · have h9 := h.1 (bI_p1 c_1)
    refine r_aload_n d_Peg_word_14 rfl ?_
    refine x_getR d_Peg_word_15 fl_Peg_10 gR_0_0 ?_
    refine r_iload_n d_Peg_word_18 rfl ?_
    refine x_callV (as := [.int i1]) (st := []) d_Peg_word_19 ml_Peg_101 mc_Words_append mv_Words_append ⟨by decide, by decide⟩ gO_1 ⟨_, rfl, rfl⟩ rfl (Nat.le_of_ble_eq_true rfl) (Nat.le_of_ble_eq_true rfl) h9 ?_
    rintro _ M_2 L_3 ⟨v_4, rfl, h9⟩
    refine r_if_eq d_Peg_word_22 (fun c_5 => ?_) (fun c_5 => ?_)
    · have h9 := h9.1 c_5
      refine r_bipush (v := (-104)) d_Peg_word_35 (by decide) ?_
      exact r_iret ⟨d_Peg_word_37, _, rfl, rfl⟩ ⟨_, _, rfl, h9⟩
    · have h9 := h9.2 c_5
      refine r_aload_n d_Peg_word_25 rfl ?_
      refine x_getR d_Peg_word_26 fl_Peg_10 gR_0_0 ?_
      refine x_getI d_Peg_word_29 fl_Peg_104 gI_1_2 ?_
      refine r_goto d_Peg_word_32 ?_
      exact r_iret ⟨d_Peg_word_37, _, rfl, rfl⟩ ⟨_, _, rfl, h9⟩
  · have h9 := h.2 (bI_p0 c_1)
    refine r_bipush (v := (-102)) d_Peg_word_11 (by decide) ?_
    exact r_iret ⟨d_Peg_word_13, _, rfl, rfl⟩ ⟨_, _, rfl, h9⟩
theorem L_Peg_miss_0 {xs : List Int32} {i1 : Int32} {M : Mem} {L : Int64} {Q : Option Value → Mem → Int64 → Prop} 
    (h : ((((0 : Int32) ≤ i1 ∧ i1 ≤ 20000) → Q (some (.int (M 4 2))) (up M 4 2 i1) L) ∧ (¬ ((0 : Int32) ≤ i1 ∧ i1 ≤ 20000) → Q (some (.int (-102))) M L))) : RX xs shL md_Peg_miss 0 [.ref 0, .int i1] [] M L Q := by
  refine r_weak (lv' := [.ref 0, .int i1, .null]) (by repeat (first | exact trivial | refine ⟨rfl, ?_⟩ | exact lle_nil)) ?_
  refine r_iload_n d_Peg_miss_0 rfl ?_
  refine r_iconst (v := 0) d_Peg_miss_1 (by decide) ?_
  refine r_sipush (v := 20000) d_Peg_miss_2 (by decide) ?_
  refine x_callS (as := [.int i1, .int 0, .int 20000]) (st := []) d_Peg_miss_5 ml_Peg_90 mc_Peg_isWithin ms_Peg_isWithin ⟨by decide, by decide⟩ rfl (Nat.le_of_ble_eq_true rfl) (Nat.le_of_ble_eq_true rfl) (Q1 := fun r M1 L1 => some (.int (bI ((0 : Int32) ≤ i1 ∧ i1 ≤ 20000))) = r ∧ M = M1 ∧ L = L1) (s_Peg_isWithin ⟨rfl, rfl, rfl⟩) ?_
  rintro _ _ _ ⟨rfl, rfl, rfl⟩
  refine r_if_ne d_Peg_miss_8 (fun c_1 => ?_) (fun c_1 => ?_)
  · have h9 := h.1 (bI_p1 c_1)
    refine r_aload_n d_Peg_miss_14 rfl ?_
    refine x_getR d_Peg_miss_15 fl_Peg_19 gR_0_1 ?_
    refine x_getI d_Peg_miss_18 fl_Peg_147 gI_4_2 ?_
    refine r_istore_n d_Peg_miss_21 (by decide) ?_
    refine r_aload_n d_Peg_miss_22 rfl ?_
    refine x_getR d_Peg_miss_23 fl_Peg_19 gR_0_1 ?_
    refine r_iload_n d_Peg_miss_26 rfl ?_
    refine x_putI d_Peg_miss_27 fl_Peg_147 (fun r hr => by cases hr; rfl) gI_4_2 (VOk_int _) ?_
    refine r_iload_n d_Peg_miss_30 rfl ?_
    exact r_iret ⟨d_Peg_miss_31, _, rfl, rfl⟩ ⟨_, _, rfl, h9⟩
  · have h9 := h.2 (bI_p0 c_1)
    refine r_bipush (v := (-102)) d_Peg_miss_11 (by decide) ?_
    exact r_iret ⟨d_Peg_miss_13, _, rfl, rfl⟩ ⟨_, _, rfl, h9⟩
theorem L_Peg_stream_0 {xs : List Int32} {i1 : Int32} {i2 : Int32} {i3 : Int32} {i4 : Int32} {M : Mem} {L : Int64} {Q : Option Value → Mem → Int64 → Prop} 
    (h : ((((-20000) ≤ i1 ∧ i2 ≤ 20000 ∧ i1 ≤ i2) → ((((-20000) ≤ i3 ∧ i4 ≤ 20000 ∧ i3 ≤ i4) → Q (some (.int 1)) (up (up (up (up M 126 6 i1) 126 7 i2) 126 8 i3) 126 9 i4) L) ∧ (¬ ((-20000) ≤ i3 ∧ i4 ≤ 20000 ∧ i3 ≤ i4) → Q (some (.int (-102))) M L))) ∧ (¬ ((-20000) ≤ i1 ∧ i2 ≤ 20000 ∧ i1 ≤ i2) → Q (some (.int (-102))) M L))) : RX xs shL md_Peg_stream 0 [.ref 0, .int i1, .int i2, .int i3, .int i4] [] M L Q := by
  refine r_iload_n d_Peg_stream_0 rfl ?_
  refine r_iload_n d_Peg_stream_1 rfl ?_
  refine x_callS (as := [.int i1, .int i2]) (st := []) d_Peg_stream_2 ml_Peg_196 mc_Peg_isStream ms_Peg_isStream ⟨by decide, by decide⟩ rfl (Nat.le_of_ble_eq_true rfl) (Nat.le_of_ble_eq_true rfl) (Q1 := fun r M1 L1 => some (.int (bI ((-20000) ≤ i1 ∧ i2 ≤ 20000 ∧ i1 ≤ i2))) = r ∧ M = M1 ∧ L = L1) (s_Peg_isStream ⟨rfl, rfl, rfl⟩) ?_
  rintro _ _ _ ⟨rfl, rfl, rfl⟩
  refine r_if_eq d_Peg_stream_5 (fun c_1 => ?_) (fun c_1 => ?_)
  · have h9 := h.2 (bI_p0 c_1)
    refine r_bipush (v := (-102)) d_Peg_stream_17 (by decide) ?_
    exact r_iret ⟨d_Peg_stream_19, _, rfl, rfl⟩ ⟨_, _, rfl, h9⟩
  · have h9 := h.1 (bI_p1 c_1)
    refine r_iload_n d_Peg_stream_8 rfl ?_
    refine r_iload d_Peg_stream_9 rfl ?_
    refine x_callS (as := [.int i3, .int i4]) (st := []) d_Peg_stream_11 ml_Peg_196 mc_Peg_isStream ms_Peg_isStream ⟨by decide, by decide⟩ rfl (Nat.le_of_ble_eq_true rfl) (Nat.le_of_ble_eq_true rfl) (Q1 := fun r M1 L1 => some (.int (bI ((-20000) ≤ i3 ∧ i4 ≤ 20000 ∧ i3 ≤ i4))) = r ∧ M = M1 ∧ L = L1) (s_Peg_isStream ⟨rfl, rfl, rfl⟩) ?_
    rintro _ _ _ ⟨rfl, rfl, rfl⟩
    refine r_if_ne d_Peg_stream_14 (fun c_2 => ?_) (fun c_2 => ?_)
    · have h9 := h9.1 (bI_p1 c_2)
      refine r_aload_n d_Peg_stream_20 rfl ?_
      refine x_getR d_Peg_stream_21 fl_Peg_26 gR_0_2 ?_
      refine r_iload_n d_Peg_stream_24 rfl ?_
      refine r_iload_n d_Peg_stream_25 rfl ?_
      refine r_iload_n d_Peg_stream_26 rfl ?_
      refine r_iload d_Peg_stream_27 rfl ?_
      refine x_callV (as := [.int i1, .int i2, .int i3, .int i4]) (st := []) d_Peg_stream_29 ml_Peg_199 mc_Chart_streamBecomes mv_Chart_streamBecomes ⟨by decide, by decide⟩ gO_126 ⟨_, rfl, rfl⟩ rfl (Nat.le_of_ble_eq_true rfl) (Nat.le_of_ble_eq_true rfl) (Q1 := fun r M1 L1 => none = r ∧ up (up (up (up M 126 6 i1) 126 7 i2) 126 8 i3) 126 9 i4 = M1 ∧ L = L1) (L_Chart_streamBecomes_0 (fun _ _ _ => rfl) ⟨rfl, rfl, rfl⟩) ?_
      rintro _ _ _ ⟨rfl, rfl, rfl⟩
      refine r_iconst (v := 1) d_Peg_stream_32 (by decide) ?_
      exact r_iret ⟨d_Peg_stream_33, _, rfl, rfl⟩ ⟨_, _, rfl, h9⟩
    · have h9 := h9.2 (bI_p0 c_2)
      refine r_bipush (v := (-102)) d_Peg_stream_17 (by decide) ?_
      exact r_iret ⟨d_Peg_stream_19, _, rfl, rfl⟩ ⟨_, _, rfl, h9⟩
theorem L_Peg_count_0 {xs : List Int32} {i1 : Int32} {i2 : Int32} {M : Mem} {L : Int64} {Q : Option Value → Mem → Int64 → Prop} 
    (h : (((0 ≤ i1 ∧ i1 < M 134 1) → (vp_in i1 40 ∧ ((i2 = 0 ∨ i2 = 1) ∧ Q (some (.int (bI (¬ (M (136 + 5 * i1.toNatClampNeg) 7) = 0)))) (up M (136 + 5 * i1.toNatClampNeg) 7 i2) L))) ∧ (¬ (0 ≤ i1 ∧ i1 < M 134 1) → Q (some (.int (-101))) M L))) : RX xs shL md_Peg_count 0 [.ref 0, .int i1, .int i2] [] M L Q := by
  refine r_weak (lv' := [.ref 0, .int i1, .int i2, .null]) (by repeat (first | exact trivial | refine ⟨rfl, ?_⟩ | exact lle_nil)) ?_
  refine r_aload_n d_Peg_count_0 rfl ?_
  refine x_getR d_Peg_count_1 fl_Peg_33 gR_0_3 ?_
  refine r_iload_n d_Peg_count_4 rfl ?_
  refine x_callV (as := [.int i1]) (st := []) d_Peg_count_5 ml_Peg_223 mc_Log_isRow mv_Log_isRow ⟨by decide, by decide⟩ gO_134 ⟨_, rfl, rfl⟩ rfl (Nat.le_of_ble_eq_true rfl) (Nat.le_of_ble_eq_true rfl) (Q1 := fun r M1 L1 => some (.int (bI (0 ≤ i1 ∧ i1 < M 134 1))) = r ∧ M = M1 ∧ L = L1) (s_Log_isRow ⟨rfl, rfl, rfl⟩) ?_
  rintro _ _ _ ⟨rfl, rfl, rfl⟩
  refine r_if_ne d_Peg_count_8 (fun c_1 => ?_) (fun c_1 => ?_)
  · have h9 := h.1 (bI_p1 c_1)
    refine r_aload_n d_Peg_count_14 rfl ?_
    refine x_getR d_Peg_count_15 fl_Peg_33 gR_0_3 ?_
    refine x_getR d_Peg_count_18 fl_Peg_226 gR_134_0 ?_
    refine r_iload_n d_Peg_count_21 rfl ?_
    obtain ⟨o_2, h9⟩ := h9
    refine x_aald d_Peg_count_22 aR_135 o_2 ?_
    refine x_getI d_Peg_count_23 fl_Peg_230 (rw_I (vp_lt o_2) 7 (by decide) (by decide)) ?_
    refine x_callS (as := [.int (M (136 + 5 * i1.toNatClampNeg) 7)]) (st := []) d_Peg_count_26 ml_Peg_189 mc_Peg_asNumber ms_Peg_asNumber ⟨by decide, by decide⟩ rfl (Nat.le_of_ble_eq_true rfl) (Nat.le_of_ble_eq_true rfl) (Q1 := fun r M1 L1 => some (.int (bI (¬ (M (136 + 5 * i1.toNatClampNeg) 7) = 0))) = r ∧ M = M1 ∧ L = L1) (s_Peg_asNumber ⟨rfl, rfl, rfl⟩) ?_
    rintro _ _ _ ⟨rfl, rfl, rfl⟩
    refine r_istore_n d_Peg_count_29 (by decide) ?_
    refine r_aload_n d_Peg_count_30 rfl ?_
    refine x_getR d_Peg_count_31 fl_Peg_33 gR_0_3 ?_
    refine x_getR d_Peg_count_34 fl_Peg_226 gR_134_0 ?_
    refine r_iload_n d_Peg_count_37 rfl ?_
    refine x_aald d_Peg_count_38 aR_135 o_2 ?_
    refine r_iload_n d_Peg_count_39 rfl ?_
    obtain ⟨o_3, h9⟩ := h9
    refine x_putI d_Peg_count_40 fl_Peg_230 (fun r hr => by cases hr; rfl) (rw_I (vp_lt o_2) 7 (by decide) (by decide)) (VOk_bool o_3) ?_
    refine r_iload_n d_Peg_count_43 rfl ?_
    exact r_iret ⟨d_Peg_count_44, _, rfl, rfl⟩ ⟨_, _, rfl, h9⟩
  · have h9 := h.2 (bI_p0 c_1)
    refine r_bipush (v := (-101)) d_Peg_count_11 (by decide) ?_
    exact r_iret ⟨d_Peg_count_13, _, rfl, rfl⟩ ⟨_, _, rfl, h9⟩
theorem L_Compass_angle_0 {xs : List Int32} {S : List Shp} {i0 : Int32} {i1 : Int32} {M : Mem} {L : Int64} {Q : Option Value → Mem → Int64 → Prop} 
    (h : Q (some (.int (imin ((i1 - i0) &&& 31) (32 - ((i1 - i0) &&& 31))))) M L) : RX xs S md_Compass_angle 0 [.int i0, .int i1] [] M L Q := by
  refine r_weak (lv' := [.int i0, .int i1, .null]) (by repeat (first | exact trivial | refine ⟨rfl, ?_⟩ | exact lle_nil)) ?_
  refine r_iload_n d_Compass_angle_0 rfl ?_
  refine r_iload_n d_Compass_angle_1 rfl ?_
  refine x_callS (as := [.int i0, .int i1]) (st := []) d_Compass_angle_2 ml_Compass_11 mc_Compass_turnsBetween ms_Compass_turnsBetween ⟨by decide, by decide⟩ rfl (Nat.le_of_ble_eq_true rfl) (Nat.le_of_ble_eq_true rfl) (Q1 := fun r M1 L1 => some (.int ((i1 - i0) &&& 31)) = r ∧ M = M1 ∧ L = L1) (s_Compass_turnsBetween ⟨rfl, rfl, rfl⟩) ?_
  rintro _ _ _ ⟨rfl, rfl, rfl⟩
  refine r_istore_n d_Compass_angle_5 (by decide) ?_
  refine r_iload_n d_Compass_angle_6 rfl ?_
  refine r_bipush (v := 32) d_Compass_angle_7 (by decide) ?_
  refine r_iload_n d_Compass_angle_9 rfl ?_
  refine r_isub d_Compass_angle_10 ?_
  refine x_callS (as := [.int ((i1 - i0) &&& 31), .int (32 - ((i1 - i0) &&& 31))]) (st := []) d_Compass_angle_11 ml_Compass_15 mc_JMath_min ms_JMath_min ⟨by decide, by decide⟩ rfl (Nat.le_of_ble_eq_true rfl) (Nat.le_of_ble_eq_true rfl) (Q1 := fun r M1 L1 => some (.int (imin ((i1 - i0) &&& 31) (32 - ((i1 - i0) &&& 31)))) = r ∧ M = M1 ∧ L = L1) (s_JMath_min ⟨rfl, rfl, rfl⟩) ?_
  rintro _ _ _ ⟨rfl, rfl, rfl⟩
  exact r_iret ⟨d_Compass_angle_14, _, rfl, rfl⟩ ⟨_, _, rfl, h⟩
theorem L_Compass_lettersThatBegin_0 {xs : List Int32} {S : List Shp} {i0 : Int32} {M : Mem} {L : Int64} {Q : Option Value → Mem → Int64 → Prop} 
    (h : RX xs S md_Compass_lettersThatBegin 4 [.null, .int 0, .int i0] [] M L Q) : RX xs S md_Compass_lettersThatBegin 0 [.int i0] [] M L Q := by
  refine r_weak (lv' := [.int i0, .null, .null]) (by repeat (first | exact trivial | refine ⟨rfl, ?_⟩ | exact lle_nil)) ?_
  refine r_iconst (v := 0) d_Compass_lettersThatBegin_0 (by decide) ?_
  refine r_istore_n d_Compass_lettersThatBegin_1 (by decide) ?_
  refine r_iload_n d_Compass_lettersThatBegin_2 rfl ?_
  refine r_istore_n d_Compass_lettersThatBegin_3 (by decide) ?_
  refine r_weak (lv' := [.null, .int 0, .int i0]) (by repeat (first | exact trivial | refine ⟨rfl, ?_⟩ | exact lle_nil)) ?_
  exact h
theorem L_Compass_lettersThatBegin_4 {xs : List Int32} {S : List Shp} {i1 : Int32} {i2 : Int32} {M : Mem} {L : Int64} {Q : Option Value → Mem → Int64 → Prop} 
    (h : ((i2 ≤ 0 → Q (some (.int i1)) M L) ∧ (¬ (i2 ≤ 0) → RX xs S md_Compass_isBeginning 0 [.int i2] [] M L (fun r M_2 L_3 => ∃ v_4 : Int32, r = some (.int v_4) ∧ ((v_4 = 0 → RX xs S md_Compass_lettersThatBegin 4 [.null, .int i1, .int (i2 / 6)] [] M_2 L_3 Q) ∧ (¬ (v_4 = 0) → RX xs S md_Compass_lettersThatBegin 4 [.null, .int (i1 + 1), .int (i2 / 6)] [] M_2 L_3 Q)))))) : RX xs S md_Compass_lettersThatBegin 4 [.null, .int i1, .int i2] [] M L Q := by
  refine r_iload_n d_Compass_lettersThatBegin_4 rfl ?_
  refine r_if_le d_Compass_lettersThatBegin_5 (fun c_1 => ?_) (fun c_1 => ?_)
  · have h9 := h.1 c_1
    refine r_iload_n d_Compass_lettersThatBegin_26 rfl ?_
    exact r_iret ⟨d_Compass_lettersThatBegin_27, _, rfl, rfl⟩ ⟨_, _, rfl, h9⟩
  · have h9 := h.2 c_1
    refine r_iload_n d_Compass_lettersThatBegin_8 rfl ?_
    refine x_callS (as := [.int i2]) (st := []) d_Compass_lettersThatBegin_9 ml_Compass_37 mc_Compass_isBeginning ms_Compass_isBeginning ⟨by decide, by decide⟩ rfl (Nat.le_of_ble_eq_true rfl) (Nat.le_of_ble_eq_true rfl) h9 ?_
    rintro _ M_2 L_3 ⟨v_4, rfl, h9⟩
    refine r_if_eq d_Compass_lettersThatBegin_12 (fun c_5 => ?_) (fun c_5 => ?_)
    · have h9 := h9.1 c_5
      refine r_iload_n d_Compass_lettersThatBegin_18 rfl ?_
      refine r_bipush (v := 6) d_Compass_lettersThatBegin_19 (by decide) ?_
      refine r_idiv d_Compass_lettersThatBegin_21 (by decide) ?_
      refine r_istore_n d_Compass_lettersThatBegin_22 (by decide) ?_
      refine r_goto d_Compass_lettersThatBegin_23 ?_
      exact h9
    · have h9 := h9.2 c_5
      refine r_iinc (v := i1 + 1) d_Compass_lettersThatBegin_15 rfl rfl (by decide) ?_
      refine r_iload_n d_Compass_lettersThatBegin_18 rfl ?_
      refine r_bipush (v := 6) d_Compass_lettersThatBegin_19 (by decide) ?_
      refine r_idiv d_Compass_lettersThatBegin_21 (by decide) ?_
      refine r_istore_n d_Compass_lettersThatBegin_22 (by decide) ?_
      refine r_goto d_Compass_lettersThatBegin_23 ?_
      exact h9
theorem L_Log_append_0 {xs : List Int32} {i1 : Int32} {i2 : Int32} {i3 : Int32} {i4 : Int32} {M : Mem} {L : Int64} {Q : Option Value → Mem → Int64 → Prop} 
    (h : (((M 134 1) < 40 → (vp_in (M 134 1) 40 ∧ RX xs shL md_Row_become 0 [.ref (136 + 5 * (M 134 1).toNatClampNeg), .int i1, .int i2, .int i3, .int i4] [] M L (fun r M_3 L_4 => r = none ∧ Q (some (.int 1)) (up M_3 134 1 ((M_3 134 1) + 1)) L_4))) ∧ (¬ ((M 134 1) < 40) → Q (some (.int 0)) M L))) : RX xs shL md_Log_append 0 [.ref 134, .int i1, .int i2, .int i3, .int i4] [] M L Q := by
  refine r_aload_n d_Log_append_0 rfl ?_
  refine x_getI d_Log_append_1 fl_Log_18 gI_134_1 ?_
  refine r_bipush (v := 40) d_Log_append_4 (by decide) ?_
  refine r_ic_lt d_Log_append_6 (fun c_1 => ?_) (fun c_1 => ?_)
  · have h9 := h.1 c_1
    refine r_aload_n d_Log_append_11 rfl ?_
    refine x_getR d_Log_append_12 fl_Log_13 gR_134_0 ?_
    refine r_aload_n d_Log_append_15 rfl ?_
    refine x_getI d_Log_append_16 fl_Log_18 gI_134_1 ?_
    obtain ⟨o_2, h9⟩ := h9
    refine x_aald d_Log_append_19 aR_135 o_2 ?_
    refine r_iload_n d_Log_append_20 rfl ?_
    refine r_iload_n d_Log_append_21 rfl ?_
    refine r_iload_n d_Log_append_22 rfl ?_
    refine r_iload d_Log_append_23 rfl ?_
    refine x_callV (as := [.int i1, .int i2, .int i3, .int i4]) (st := []) d_Log_append_25 ml_Log_38 mc_Row_become mv_Row_become ⟨by decide, by decide⟩ (rw_O (vp_lt o_2)) ⟨_, rfl, rfl⟩ rfl (Nat.le_of_ble_eq_true rfl) (Nat.le_of_ble_eq_true rfl) h9 ?_
    rintro _ M_3 L_4 ⟨rfl, h9⟩
    refine r_aload_n d_Log_append_28 rfl ?_
    refine r_dup d_Log_append_29 rfl ?_
    refine x_getI d_Log_append_30 fl_Log_18 gI_134_1 ?_
    refine r_iconst (v := 1) d_Log_append_33 (by decide) ?_
    refine r_iadd d_Log_append_34 ?_
    refine x_putI d_Log_append_35 fl_Log_18 (fun r hr => by cases hr; rfl) gI_134_1 (VOk_int _) ?_
    refine r_iconst (v := 1) d_Log_append_38 (by decide) ?_
    exact r_iret ⟨d_Log_append_39, _, rfl, rfl⟩ ⟨_, _, rfl, h9⟩
  · have h9 := h.2 c_1
    refine r_iconst (v := 0) d_Log_append_9 (by decide) ?_
    exact r_iret ⟨d_Log_append_10, _, rfl, rfl⟩ ⟨_, _, rfl, h9⟩
theorem L_Mod_begins_0 {xs : List Int32} {i1 : Int32} {M : Mem} {L : Int64} {Q : Option Value → Mem → Int64 → Prop} 
    (h : RX xs shL md_Mod_lettersOf 0 [.int i1] [] M L (fun r M_1 L_2 => ∃ v_3 : Int32, r = some (.int v_3) ∧ RX xs shL md_Mod_begins 7 [.ref 516, .int i1, .int v_3, .int 0, .null] [] M_1 L_2 Q)) : RX xs shL md_Mod_begins 0 [.ref 516, .int i1] [] M L Q := by
  refine r_weak (lv' := [.ref 516, .int i1, .null, .null, .null]) (by repeat (first | exact trivial | refine ⟨rfl, ?_⟩ | exact lle_nil)) ?_
  refine r_iload_n d_Mod_begins_0 rfl ?_
  refine x_callS (as := [.int i1]) (st := []) d_Mod_begins_1 ml_Mod_83 mc_Mod_lettersOf ms_Mod_lettersOf ⟨by decide, by decide⟩ rfl (Nat.le_of_ble_eq_true rfl) (Nat.le_of_ble_eq_true rfl) h ?_
  rintro _ M_1 L_2 ⟨v_3, rfl, h9⟩
  refine r_istore_n d_Mod_begins_4 (by decide) ?_
  refine r_iconst (v := 0) d_Mod_begins_5 (by decide) ?_
  refine r_istore_n d_Mod_begins_6 (by decide) ?_
  exact h9
theorem L_Mod_begins_7 {xs : List Int32} {i1 : Int32} {i2 : Int32} {i3 : Int32} {M : Mem} {L : Int64} {Q : Option Value → Mem → Int64 → Prop} 
    (h : ((32 ≤ i3 → Q (some (.int 0)) M L) ∧ (¬ (32 ≤ i3) → (vp_in i3 32 ∧ RX xs shL md_Mod_lettersOf 0 [.int (M 517 i3.toNatClampNeg)] [] M L (fun r M_6 L_7 => ∃ v_8 : Int32, r = some (.int v_8) ∧ (((v_8 - i2) < 0 → RX xs shL md_Mod_begins 7 [.ref 516, .int i1, .int i2, .int (i3 + 1), .null] [] M_6 L_7 Q) ∧ (¬ ((v_8 - i2) < 0) → RX xs shL md_Mod_cutOff 0 [.int (M_6 517 i3.toNatClampNeg), .int (v_8 - i2)] [] M_6 L_7 (fun r M_10 L_11 => ∃ v_12 : Int32, r = some (.int v_12) ∧ ((v_12 = i1 → Q (some (.int 1)) M_10 L_11) ∧ (¬ (v_12 = i1) → RX xs shL md_Mod_begins 7 [.ref 516, .int i1, .int i2, .int (i3 + 1), .null] [] M_10 L_11 Q)))))))))) : RX xs shL md_Mod_begins 7 [.ref 516, .int i1, .int i2, .int i3, .null] [] M L Q := by
  refine r_iload_n d_Mod_begins_7 rfl ?_
  refine r_bipush (v := 32) d_Mod_begins_8 (by decide) ?_
  refine r_ic_ge d_Mod_begins_10 (fun c_4 => ?_) (fun c_4 => ?_)
  · have h9 := h.1 c_4
    refine r_iconst (v := 0) d_Mod_begins_54 (by decide) ?_
    exact r_iret ⟨d_Mod_begins_55, _, rfl, rfl⟩ ⟨_, _, rfl, h9⟩
  · have h9 := h.2 c_4
    refine r_aload_n d_Mod_begins_13 rfl ?_
    refine x_getR d_Mod_begins_14 fl_Mod_7 gR_516_0 ?_
    refine r_iload_n d_Mod_begins_17 rfl ?_
    obtain ⟨o_5, h9⟩ := h9
    refine x_iald d_Mod_begins_18 aI_517 o_5 ?_
    refine x_callS (as := [.int (M 517 i3.toNatClampNeg)]) (st := []) d_Mod_begins_19 ml_Mod_83 mc_Mod_lettersOf ms_Mod_lettersOf ⟨by decide, by decide⟩ rfl (Nat.le_of_ble_eq_true rfl) (Nat.le_of_ble_eq_true rfl) h9 ?_
    rintro _ M_6 L_7 ⟨v_8, rfl, h9⟩
    refine r_iload_n d_Mod_begins_22 rfl ?_
    refine r_isub d_Mod_begins_23 ?_
    refine r_istore d_Mod_begins_24 (by decide) ?_
    refine r_iload d_Mod_begins_26 rfl ?_
    refine r_if_lt d_Mod_begins_28 (fun c_9 => ?_) (fun c_9 => ?_)
    · have h9 := h9.1 c_9
      refine r_iinc (v := i3 + 1) d_Mod_begins_48 rfl rfl (by decide) ?_
      refine r_goto d_Mod_begins_51 ?_
      refine r_weak (lv' := [.ref 516, .int i1, .int i2, .int (i3 + 1), .null]) (by repeat (first | exact trivial | refine ⟨rfl, ?_⟩ | exact lle_nil)) ?_
      exact h9
    · have h9 := h9.2 c_9
      refine r_aload_n d_Mod_begins_31 rfl ?_
      refine x_getR d_Mod_begins_32 fl_Mod_7 gR_516_0 ?_
      refine r_iload_n d_Mod_begins_35 rfl ?_
      refine x_iald d_Mod_begins_36 aI_517 o_5 ?_
      refine r_iload d_Mod_begins_37 rfl ?_
      refine x_callS (as := [.int (M_6 517 i3.toNatClampNeg), .int (v_8 - i2)]) (st := []) d_Mod_begins_39 ml_Mod_87 mc_Mod_cutOff ms_Mod_cutOff ⟨by decide, by decide⟩ rfl (Nat.le_of_ble_eq_true rfl) (Nat.le_of_ble_eq_true rfl) h9 ?_
      rintro _ M_10 L_11 ⟨v_12, rfl, h9⟩
      refine r_iload_n d_Mod_begins_42 rfl ?_
      refine r_ic_ne d_Mod_begins_43 (fun c_13 => ?_) (fun c_13 => ?_)
      · have h9 := h9.2 c_13
        refine r_iinc (v := i3 + 1) d_Mod_begins_48 rfl rfl (by decide) ?_
        refine r_goto d_Mod_begins_51 ?_
        refine r_weak (lv' := [.ref 516, .int i1, .int i2, .int (i3 + 1), .null]) (by repeat (first | exact trivial | refine ⟨rfl, ?_⟩ | exact lle_nil)) ?_
        exact h9
      · have h9 := h9.1 c_13
        refine r_iconst (v := 1) d_Mod_begins_46 (by decide) ?_
        exact r_iret ⟨d_Mod_begins_47, _, rfl, rfl⟩ ⟨_, _, rfl, h9⟩
theorem L_Mod_cells_0 {xs : List Int32}  {M : Mem} {L : Int64} {Q : Option Value → Mem → Int64 → Prop} 
    (h : RX xs shL md_Mod_cells 4 [.ref 516, .int 0, .int 0, .null] [] M L Q) : RX xs shL md_Mod_cells 0 [.ref 516] [] M L Q := by
  refine r_weak (lv' := [.ref 516, .null, .null, .null]) (by repeat (first | exact trivial | refine ⟨rfl, ?_⟩ | exact lle_nil)) ?_
  refine r_iconst (v := 0) d_Mod_cells_0 (by decide) ?_
  refine r_istore_n d_Mod_cells_1 (by decide) ?_
  refine r_iconst (v := 0) d_Mod_cells_2 (by decide) ?_
  refine r_istore_n d_Mod_cells_3 (by decide) ?_
  exact h
theorem L_Mod_cells_4 {xs : List Int32} {i1 : Int32} {i2 : Int32} {M : Mem} {L : Int64} {Q : Option Value → Mem → Int64 → Prop} 
    (h : (((M 516 10) ≤ i2 → Q (some (.int i1)) M L) ∧ (¬ ((M 516 10) ≤ i2) → RX xs shL md_Mod_cells 14 [.ref 516, .int i1, .int i2, .int 0] [] M L Q))) : RX xs shL md_Mod_cells 4 [.ref 516, .int i1, .int i2, .null] [] M L Q := by
  refine r_iload_n d_Mod_cells_4 rfl ?_
  refine r_aload_n d_Mod_cells_5 rfl ?_
  refine x_getI d_Mod_cells_6 fl_Mod_35 gI_516_10 ?_
  refine r_ic_ge d_Mod_cells_9 (fun c_1 => ?_) (fun c_1 => ?_)
  · have h9 := h.1 c_1
    refine r_iload_n d_Mod_cells_55 rfl ?_
    exact r_iret ⟨d_Mod_cells_56, _, rfl, rfl⟩ ⟨_, _, rfl, h9⟩
  · have h9 := h.2 c_1
    refine r_iconst (v := 0) d_Mod_cells_12 (by decide) ?_
    refine r_istore_n d_Mod_cells_13 (by decide) ?_
    exact h9
theorem L_Mod_cells_14 {xs : List Int32} {i1 : Int32} {i2 : Int32} {i3 : Int32} {M : Mem} {L : Int64} {Q : Option Value → Mem → Int64 → Prop} 
    (h : (((M 516 9) ≤ i3 → RX xs shL md_Mod_cells 4 [.ref 516, .int i1, .int (i2 + 1), .null] [] M L Q) ∧ (¬ ((M 516 9) ≤ i3) → (vp_in (20 * i2 + i3) 400 ∧ (((M 527 ((20 * i2 + i3).toNatClampNeg)) = 0 → RX xs shL md_Mod_cells 14 [.ref 516, .int (i1 + 0), .int i2, .int (i3 + 1)] [] M L Q) ∧ (¬ ((M 527 ((20 * i2 + i3).toNatClampNeg)) = 0) → RX xs shL md_Mod_cells 14 [.ref 516, .int (i1 + 1), .int i2, .int (i3 + 1)] [] M L Q)))))) : RX xs shL md_Mod_cells 14 [.ref 516, .int i1, .int i2, .int i3] [] M L Q := by
  refine r_iload_n d_Mod_cells_14 rfl ?_
  refine r_aload_n d_Mod_cells_15 rfl ?_
  refine x_getI d_Mod_cells_16 fl_Mod_32 gI_516_9 ?_
  refine r_ic_ge d_Mod_cells_19 (fun c_2 => ?_) (fun c_2 => ?_)
  · have h9 := h.1 c_2
    refine r_iinc (v := i2 + 1) d_Mod_cells_49 rfl rfl (by decide) ?_
    refine r_goto d_Mod_cells_52 ?_
    refine r_weak (lv' := [.ref 516, .int i1, .int (i2 + 1), .null]) (by repeat (first | exact trivial | refine ⟨rfl, ?_⟩ | exact lle_nil)) ?_
    exact h9
  · have h9 := h.2 c_2
    refine r_iload_n d_Mod_cells_22 rfl ?_
    refine r_aload_n d_Mod_cells_23 rfl ?_
    refine x_getR d_Mod_cells_24 fl_Mod_51 gR_516_29 ?_
    refine r_iload_n d_Mod_cells_27 rfl ?_
    refine r_iload_n d_Mod_cells_28 rfl ?_
    refine x_callS (as := [.int i3, .int i2]) (st := [.ref 527, .int i1]) d_Mod_cells_29 ml_Mod_147 mc_Mod_at ms_Mod_at ⟨by decide, by decide⟩ rfl (Nat.le_of_ble_eq_true rfl) (Nat.le_of_ble_eq_true rfl) (Q1 := fun r M1 L1 => some (.int (20 * i2 + i3)) = r ∧ M = M1 ∧ L = L1) (s_Mod_at ⟨rfl, rfl, rfl⟩) ?_
    rintro _ _ _ ⟨rfl, rfl, rfl⟩
    obtain ⟨o_3, h9⟩ := h9
    refine x_zald d_Mod_cells_32 aZ_527 o_3 ?_
    refine r_if_eq d_Mod_cells_33 (fun c_4 => ?_) (fun c_4 => ?_)
    · have h9 := h9.1 c_4
      refine r_iconst (v := 0) d_Mod_cells_40 (by decide) ?_
      refine r_iadd d_Mod_cells_41 ?_
      refine r_istore_n d_Mod_cells_42 (by decide) ?_
      refine r_iinc (v := i3 + 1) d_Mod_cells_43 rfl rfl (by decide) ?_
      refine r_goto d_Mod_cells_46 ?_
      exact h9
    · have h9 := h9.2 c_4
      refine r_iconst (v := 1) d_Mod_cells_36 (by decide) ?_
      refine r_goto d_Mod_cells_37 ?_
      refine r_iadd d_Mod_cells_41 ?_
      refine r_istore_n d_Mod_cells_42 (by decide) ?_
      refine r_iinc (v := i3 + 1) d_Mod_cells_43 rfl rfl (by decide) ?_
      refine r_goto d_Mod_cells_46 ?_
      exact h9
theorem L_Mod_chart_0 {xs : List Int32} {i1 : Int32} {i2 : Int32} {M : Mem} {L : Int64} {Q : Option Value → Mem → Int64 → Prop} 
    (h : ((((4 : Int32) ≤ i1 ∧ i1 ≤ 20) → ((((4 : Int32) ≤ i2 ∧ i2 ≤ 20) → (((M 516 20) ≤ 0 → RX xs shL md_Mod_flood 0 [.ref 516] [] (up (up M 516 9 i1) 516 10 i2) L (fun r M_4 L_5 => r = none ∧ Q (some (.int (i1 * i2))) M_4 L_5)) ∧ (¬ ((M 516 20) ≤ 0) → Q (some (.int (-103))) M L))) ∧ (¬ ((4 : Int32) ≤ i2 ∧ i2 ≤ 20) → Q (some (.int (-102))) M L))) ∧ (¬ ((4 : Int32) ≤ i1 ∧ i1 ≤ 20) → Q (some (.int (-102))) M L))) : RX xs shL md_Mod_chart 0 [.ref 516, .int i1, .int i2] [] M L Q := by
  refine r_iload_n d_Mod_chart_0 rfl ?_
  refine r_iconst (v := 4) d_Mod_chart_1 (by decide) ?_
  refine r_bipush (v := 20) d_Mod_chart_2 (by decide) ?_
  refine x_callS (as := [.int i1, .int 4, .int 20]) (st := []) d_Mod_chart_4 ml_Mod_75 mc_Mod_in ms_Mod_in ⟨by decide, by decide⟩ rfl (Nat.le_of_ble_eq_true rfl) (Nat.le_of_ble_eq_true rfl) (Q1 := fun r M1 L1 => some (.int (bI ((4 : Int32) ≤ i1 ∧ i1 ≤ 20))) = r ∧ M = M1 ∧ L = L1) (s_Mod_in ⟨rfl, rfl, rfl⟩) ?_
  rintro _ _ _ ⟨rfl, rfl, rfl⟩
  refine r_if_eq d_Mod_chart_7 (fun c_1 => ?_) (fun c_1 => ?_)
  · have h9 := h.2 (bI_p0 c_1)
    refine r_bipush (v := (-102)) d_Mod_chart_20 (by decide) ?_
    exact r_iret ⟨d_Mod_chart_22, _, rfl, rfl⟩ ⟨_, _, rfl, h9⟩
  · have h9 := h.1 (bI_p1 c_1)
    refine r_iload_n d_Mod_chart_10 rfl ?_
    refine r_iconst (v := 4) d_Mod_chart_11 (by decide) ?_
    refine r_bipush (v := 20) d_Mod_chart_12 (by decide) ?_
    refine x_callS (as := [.int i2, .int 4, .int 20]) (st := []) d_Mod_chart_14 ml_Mod_75 mc_Mod_in ms_Mod_in ⟨by decide, by decide⟩ rfl (Nat.le_of_ble_eq_true rfl) (Nat.le_of_ble_eq_true rfl) (Q1 := fun r M1 L1 => some (.int (bI ((4 : Int32) ≤ i2 ∧ i2 ≤ 20))) = r ∧ M = M1 ∧ L = L1) (s_Mod_in ⟨rfl, rfl, rfl⟩) ?_
    rintro _ _ _ ⟨rfl, rfl, rfl⟩
    refine r_if_ne d_Mod_chart_17 (fun c_2 => ?_) (fun c_2 => ?_)
    · have h9 := h9.1 (bI_p1 c_2)
      refine r_aload_n d_Mod_chart_23 rfl ?_
      refine x_getI d_Mod_chart_24 fl_Mod_140 gI_516_20 ?_
      refine r_if_le d_Mod_chart_27 (fun c_3 => ?_) (fun c_3 => ?_)
      · have h9 := h9.1 c_3
        refine r_aload_n d_Mod_chart_33 rfl ?_
        refine r_iload_n d_Mod_chart_34 rfl ?_
        refine x_putI d_Mod_chart_35 fl_Mod_32 (fun r hr => by cases hr; rfl) gI_516_9 (VOk_int _) ?_
        refine r_aload_n d_Mod_chart_38 rfl ?_
        refine r_iload_n d_Mod_chart_39 rfl ?_
        refine x_putI d_Mod_chart_40 fl_Mod_35 (fun r hr => by cases hr; rfl) gI_516_10 (VOk_int _) ?_
        refine r_aload_n d_Mod_chart_43 rfl ?_
        refine x_callV (as := []) (st := []) d_Mod_chart_44 ml_Mod_63 mc_Mod_flood mv_Mod_flood ⟨by decide, by decide⟩ gO_516 ⟨_, rfl, rfl⟩ rfl (Nat.le_of_ble_eq_true rfl) (Nat.le_of_ble_eq_true rfl) h9 ?_
        rintro _ M_4 L_5 ⟨rfl, h9⟩
        refine r_iload_n d_Mod_chart_47 rfl ?_
        refine r_iload_n d_Mod_chart_48 rfl ?_
        refine r_imul d_Mod_chart_49 ?_
        exact r_iret ⟨d_Mod_chart_50, _, rfl, rfl⟩ ⟨_, _, rfl, h9⟩
      · have h9 := h9.2 c_3
        refine r_bipush (v := (-103)) d_Mod_chart_30 (by decide) ?_
        exact r_iret ⟨d_Mod_chart_32, _, rfl, rfl⟩ ⟨_, _, rfl, h9⟩
    · have h9 := h9.2 (bI_p0 c_2)
      refine r_bipush (v := (-102)) d_Mod_chart_20 (by decide) ?_
      exact r_iret ⟨d_Mod_chart_22, _, rfl, rfl⟩ ⟨_, _, rfl, h9⟩
theorem L_Mod_dilate_0 {xs : List Int32} {i1 : Int32} {i2 : Int32} {i3 : Int32} {i4 : Int32} {M : Mem} {L : Int64} {Q : Option Value → Mem → Int64 → Prop} 
    (h : RX xs shL md_Mod_dilate 3 [.ref 516, .int i1, .int i2, .int i3, .int i4, .int 0, .null, .null, .null, .null, .null] [] M L Q) : RX xs shL md_Mod_dilate 0 [.ref 516, .int i1, .int i2, .int i3, .int i4] [] M L Q := by
  refine r_weak (lv' := [.ref 516, .int i1, .int i2, .int i3, .int i4, .null, .null, .null, .null, .null, .null]) (by repeat (first | exact trivial | refine ⟨rfl, ?_⟩ | exact lle_nil)) ?_
  refine r_iconst (v := 0) d_Mod_dilate_0 (by decide) ?_
  refine r_istore d_Mod_dilate_1 (by decide) ?_
  exact h
theorem L_Mod_dilate_3 {xs : List Int32} {i1 : Int32} {i2 : Int32} {i3 : Int32} {i4 : Int32} {i5 : Int32} {M : Mem} {L : Int64} {Q : Option Value → Mem → Int64 → Prop} 
    (h : (((M 516 10) ≤ i5 → RX xs shL md_Mod_dilate 137 [.ref 516, .null, .null, .int i3, .int i4, .int 0, .null, .null, .null, .null, .null] [] M L Q) ∧ (¬ ((M 516 10) ≤ i5) → RX xs shL md_Mod_dilate 15 [.ref 516, .int i1, .int i2, .int i3, .int i4, .int i5, .int 0, .null, .null, .null, .null] [] M L Q))) : RX xs shL md_Mod_dilate 3 [.ref 516, .int i1, .int i2, .int i3, .int i4, .int i5, .null, .null, .null, .null, .null] [] M L Q := by
  refine r_iload d_Mod_dilate_3 rfl ?_
  refine r_aload_n d_Mod_dilate_5 rfl ?_
  refine x_getI d_Mod_dilate_6 fl_Mod_35 gI_516_10 ?_
  refine r_ic_ge d_Mod_dilate_9 (fun c_1 => ?_) (fun c_1 => ?_)
  · have h9 := h.1 c_1
    refine r_iconst (v := 0) d_Mod_dilate_134 (by decide) ?_
    refine r_istore d_Mod_dilate_135 (by decide) ?_
    refine r_weak (lv' := [.ref 516, .null, .null, .int i3, .int i4, .int 0, .null, .null, .null, .null, .null]) (by repeat (first | exact trivial | refine ⟨rfl, ?_⟩ | exact lle_nil)) ?_
    exact h9
  · have h9 := h.2 c_1
    refine r_iconst (v := 0) d_Mod_dilate_12 (by decide) ?_
    refine r_istore d_Mod_dilate_13 (by decide) ?_
    exact h9
theorem L_Mod_dilate_137 {xs : List Int32} {i3 : Int32} {i4 : Int32} {i5 : Int32} {M : Mem} {L : Int64} {Q : Option Value → Mem → Int64 → Prop} 
    (h : (((M 516 10) ≤ i5 → Q none M L) ∧ (¬ ((M 516 10) ≤ i5) → RX xs shL md_Mod_dilate 149 [.ref 516, .null, .null, .int i3, .int i4, .int i5, .int 0, .null, .null, .null, .null] [] M L Q))) : RX xs shL md_Mod_dilate 137 [.ref 516, .null, .null, .int i3, .int i4, .int i5, .null, .null, .null, .null, .null] [] M L Q := by
  refine r_iload d_Mod_dilate_137 rfl ?_
  refine r_aload_n d_Mod_dilate_139 rfl ?_
  refine x_getI d_Mod_dilate_140 fl_Mod_35 gI_516_10 ?_
  refine r_ic_ge d_Mod_dilate_143 (fun c_2 => ?_) (fun c_2 => ?_)
  · have h9 := h.1 c_2
    exact r_vret ⟨d_Mod_dilate_285, rfl⟩ ⟨M, L, rfl, h9⟩
  · have h9 := h.2 c_2
    refine r_iconst (v := 0) d_Mod_dilate_146 (by decide) ?_
    refine r_istore d_Mod_dilate_147 (by decide) ?_
    exact h9
theorem L_Mod_dilate_15 {xs : List Int32} {i1 : Int32} {i2 : Int32} {i3 : Int32} {i4 : Int32} {i5 : Int32} {i6 : Int32} {M : Mem} {L : Int64} {Q : Option Value → Mem → Int64 → Prop} 
    (h : (((M 516 9) ≤ i6 → RX xs shL md_Mod_dilate 3 [.ref 516, .int i1, .int i2, .int i3, .int i4, .int (i5 + 1), .null, .null, .null, .null, .null] [] M L Q) ∧ (¬ ((M 516 9) ≤ i6) → ((0 ≤ (i6 - i2) → (((i6 - i1) ≤ ((M 516 9) - 1) → RX xs shL md_Mod_dilate 76 [.ref 516, .int i1, .int i2, .int i3, .int i4, .int i5, .int i6, .int 0, .null, .int (i6 - i1), .int (i6 - i2)] [] M L Q) ∧ (¬ ((i6 - i1) ≤ ((M 516 9) - 1)) → RX xs shL md_Mod_dilate 76 [.ref 516, .int i1, .int i2, .int i3, .int i4, .int i5, .int i6, .int 0, .null, .int ((M 516 9) - 1), .int (i6 - i2)] [] M L Q))) ∧ (¬ (0 ≤ (i6 - i2)) → (((i6 - i1) ≤ ((M 516 9) - 1) → RX xs shL md_Mod_dilate 76 [.ref 516, .int i1, .int i2, .int i3, .int i4, .int i5, .int i6, .int 0, .null, .int (i6 - i1), .int 0] [] M L Q) ∧ (¬ ((i6 - i1) ≤ ((M 516 9) - 1)) → RX xs shL md_Mod_dilate 76 [.ref 516, .int i1, .int i2, .int i3, .int i4, .int i5, .int i6, .int 0, .null, .int ((M 516 9) - 1), .int 0] [] M L Q))))))) : RX xs shL md_Mod_dilate 15 [.ref 516, .int i1, .int i2, .int i3, .int i4, .int i5, .int i6, .null, .null, .null, .null] [] M L Q := by
  refine r_iload d_Mod_dilate_15 rfl ?_
  refine r_aload_n d_Mod_dilate_17 rfl ?_
  refine x_getI d_Mod_dilate_18 fl_Mod_32 gI_516_9 ?_
  refine r_ic_ge d_Mod_dilate_21 (fun c_3 => ?_) (fun c_3 => ?_)
  · have h9 := h.1 c_3
    refine r_iinc (v := i5 + 1) d_Mod_dilate_128 rfl rfl (by decide) ?_
    refine r_goto d_Mod_dilate_131 ?_
    refine r_weak (lv' := [.ref 516, .int i1, .int i2, .int i3, .int i4, .int (i5 + 1), .null, .null, .null, .null, .null]) (by repeat (first | exact trivial | refine ⟨rfl, ?_⟩ | exact lle_nil)) ?_
    exact h9
  · have h9 := h.2 c_3
    refine r_iconst (v := 0) d_Mod_dilate_24 (by decide) ?_
    refine r_istore d_Mod_dilate_25 (by decide) ?_
    refine r_iload d_Mod_dilate_27 rfl ?_
    refine r_iload_n d_Mod_dilate_29 rfl ?_
    refine r_isub d_Mod_dilate_30 ?_
    refine r_if_ge d_Mod_dilate_31 (fun c_4 => ?_) (fun c_4 => ?_)
    · have h9 := h9.1 c_4
      refine r_iload d_Mod_dilate_38 rfl ?_
      refine r_iload_n d_Mod_dilate_40 rfl ?_
      refine r_isub d_Mod_dilate_41 ?_
      refine r_istore d_Mod_dilate_42 (by decide) ?_
      refine r_iload d_Mod_dilate_44 rfl ?_
      refine r_iload_n d_Mod_dilate_46 rfl ?_
      refine r_isub d_Mod_dilate_47 ?_
      refine r_aload_n d_Mod_dilate_48 rfl ?_
      refine x_getI d_Mod_dilate_49 fl_Mod_32 gI_516_9 ?_
      refine r_iconst (v := 1) d_Mod_dilate_52 (by decide) ?_
      refine r_isub d_Mod_dilate_53 ?_
      refine r_ic_le d_Mod_dilate_54 (fun c_5 => ?_) (fun c_5 => ?_)
      · have h9 := h9.1 c_5
        refine r_iload d_Mod_dilate_66 rfl ?_
        refine r_iload_n d_Mod_dilate_68 rfl ?_
        refine r_isub d_Mod_dilate_69 ?_
        refine r_istore d_Mod_dilate_70 (by decide) ?_
        refine r_iload d_Mod_dilate_72 rfl ?_
        refine r_istore d_Mod_dilate_74 (by decide) ?_
        refine r_weak (lv' := [.ref 516, .int i1, .int i2, .int i3, .int i4, .int i5, .int i6, .int 0, .null, .int (i6 - i1), .int (i6 - i2)]) (by repeat (first | exact trivial | refine ⟨rfl, ?_⟩ | exact lle_nil)) ?_
        exact h9
      · have h9 := h9.2 c_5
        refine r_aload_n d_Mod_dilate_57 rfl ?_
        refine x_getI d_Mod_dilate_58 fl_Mod_32 gI_516_9 ?_
        refine r_iconst (v := 1) d_Mod_dilate_61 (by decide) ?_
        refine r_isub d_Mod_dilate_62 ?_
        refine r_goto d_Mod_dilate_63 ?_
        refine r_istore d_Mod_dilate_70 (by decide) ?_
        refine r_iload d_Mod_dilate_72 rfl ?_
        refine r_istore d_Mod_dilate_74 (by decide) ?_
        refine r_weak (lv' := [.ref 516, .int i1, .int i2, .int i3, .int i4, .int i5, .int i6, .int 0, .null, .int ((M 516 9) - 1), .int (i6 - i2)]) (by repeat (first | exact trivial | refine ⟨rfl, ?_⟩ | exact lle_nil)) ?_
        exact h9
    · have h9 := h9.2 c_4
      refine r_iconst (v := 0) d_Mod_dilate_34 (by decide) ?_
      refine r_goto d_Mod_dilate_35 ?_
      refine r_istore d_Mod_dilate_42 (by decide) ?_
      refine r_iload d_Mod_dilate_44 rfl ?_
      refine r_iload_n d_Mod_dilate_46 rfl ?_
      refine r_isub d_Mod_dilate_47 ?_
      refine r_aload_n d_Mod_dilate_48 rfl ?_
      refine x_getI d_Mod_dilate_49 fl_Mod_32 gI_516_9 ?_
      refine r_iconst (v := 1) d_Mod_dilate_52 (by decide) ?_
      refine r_isub d_Mod_dilate_53 ?_
      refine r_ic_le d_Mod_dilate_54 (fun c_6 => ?_) (fun c_6 => ?_)
      · have h9 := h9.1 c_6
        refine r_iload d_Mod_dilate_66 rfl ?_
        refine r_iload_n d_Mod_dilate_68 rfl ?_
        refine r_isub d_Mod_dilate_69 ?_
        refine r_istore d_Mod_dilate_70 (by decide) ?_
        refine r_iload d_Mod_dilate_72 rfl ?_
        refine r_istore d_Mod_dilate_74 (by decide) ?_
        refine r_weak (lv' := [.ref 516, .int i1, .int i2, .int i3, .int i4, .int i5, .int i6, .int 0, .null, .int (i6 - i1), .int 0]) (by repeat (first | exact trivial | refine ⟨rfl, ?_⟩ | exact lle_nil)) ?_
        exact h9
      · have h9 := h9.2 c_6
        refine r_aload_n d_Mod_dilate_57 rfl ?_
        refine x_getI d_Mod_dilate_58 fl_Mod_32 gI_516_9 ?_
        refine r_iconst (v := 1) d_Mod_dilate_61 (by decide) ?_
        refine r_isub d_Mod_dilate_62 ?_
        refine r_goto d_Mod_dilate_63 ?_
        refine r_istore d_Mod_dilate_70 (by decide) ?_
        refine r_iload d_Mod_dilate_72 rfl ?_
        refine r_istore d_Mod_dilate_74 (by decide) ?_
        refine r_weak (lv' := [.ref 516, .int i1, .int i2, .int i3, .int i4, .int i5, .int i6, .int 0, .null, .int ((M 516 9) - 1), .int 0]) (by repeat (first | exact trivial | refine ⟨rfl, ?_⟩ | exact lle_nil)) ?_
        exact h9
theorem L_Mod_dilate_149 {xs : List Int32} {i3 : Int32} {i4 : Int32} {i5 : Int32} {i6 : Int32} {M : Mem} {L : Int64} {Q : Option Value → Mem → Int64 → Prop} 
    (h : (((M 516 9) ≤ i6 → RX xs shL md_Mod_dilate 137 [.ref 516, .null, .null, .int i3, .int i4, .int (i5 + 1), .null, .null, .null, .null, .null] [] M L Q) ∧ (¬ ((M 516 9) ≤ i6) → ((0 ≤ (i5 - i4) → (((i5 - i3) ≤ ((M 516 10) - 1) → RX xs shL md_Mod_dilate 212 [.ref 516, .null, .null, .int i3, .int i4, .int i5, .int i6, .int 0, .null, .int (i5 - i3), .int (i5 - i4)] [] M L Q) ∧ (¬ ((i5 - i3) ≤ ((M 516 10) - 1)) → RX xs shL md_Mod_dilate 212 [.ref 516, .null, .null, .int i3, .int i4, .int i5, .int i6, .int 0, .null, .int ((M 516 10) - 1), .int (i5 - i4)] [] M L Q))) ∧ (¬ (0 ≤ (i5 - i4)) → (((i5 - i3) ≤ ((M 516 10) - 1) → RX xs shL md_Mod_dilate 212 [.ref 516, .null, .null, .int i3, .int i4, .int i5, .int i6, .int 0, .null, .int (i5 - i3), .int 0] [] M L Q) ∧ (¬ ((i5 - i3) ≤ ((M 516 10) - 1)) → RX xs shL md_Mod_dilate 212 [.ref 516, .null, .null, .int i3, .int i4, .int i5, .int i6, .int 0, .null, .int ((M 516 10) - 1), .int 0] [] M L Q))))))) : RX xs shL md_Mod_dilate 149 [.ref 516, .null, .null, .int i3, .int i4, .int i5, .int i6, .null, .null, .null, .null] [] M L Q := by
  refine r_iload d_Mod_dilate_149 rfl ?_
  refine r_aload_n d_Mod_dilate_151 rfl ?_
  refine x_getI d_Mod_dilate_152 fl_Mod_32 gI_516_9 ?_
  refine r_ic_ge d_Mod_dilate_155 (fun c_7 => ?_) (fun c_7 => ?_)
  · have h9 := h.1 c_7
    refine r_iinc (v := i5 + 1) d_Mod_dilate_279 rfl rfl (by decide) ?_
    refine r_goto d_Mod_dilate_282 ?_
    refine r_weak (lv' := [.ref 516, .null, .null, .int i3, .int i4, .int (i5 + 1), .null, .null, .null, .null, .null]) (by repeat (first | exact trivial | refine ⟨rfl, ?_⟩ | exact lle_nil)) ?_
    exact h9
  · have h9 := h.2 c_7
    refine r_iconst (v := 0) d_Mod_dilate_158 (by decide) ?_
    refine r_istore d_Mod_dilate_159 (by decide) ?_
    refine r_iload d_Mod_dilate_161 rfl ?_
    refine r_iload d_Mod_dilate_163 rfl ?_
    refine r_isub d_Mod_dilate_165 ?_
    refine r_if_ge d_Mod_dilate_166 (fun c_8 => ?_) (fun c_8 => ?_)
    · have h9 := h9.1 c_8
      refine r_iload d_Mod_dilate_173 rfl ?_
      refine r_iload d_Mod_dilate_175 rfl ?_
      refine r_isub d_Mod_dilate_177 ?_
      refine r_istore d_Mod_dilate_178 (by decide) ?_
      refine r_iload d_Mod_dilate_180 rfl ?_
      refine r_iload_n d_Mod_dilate_182 rfl ?_
      refine r_isub d_Mod_dilate_183 ?_
      refine r_aload_n d_Mod_dilate_184 rfl ?_
      refine x_getI d_Mod_dilate_185 fl_Mod_35 gI_516_10 ?_
      refine r_iconst (v := 1) d_Mod_dilate_188 (by decide) ?_
      refine r_isub d_Mod_dilate_189 ?_
      refine r_ic_le d_Mod_dilate_190 (fun c_9 => ?_) (fun c_9 => ?_)
      · have h9 := h9.1 c_9
        refine r_iload d_Mod_dilate_202 rfl ?_
        refine r_iload_n d_Mod_dilate_204 rfl ?_
        refine r_isub d_Mod_dilate_205 ?_
        refine r_istore d_Mod_dilate_206 (by decide) ?_
        refine r_iload d_Mod_dilate_208 rfl ?_
        refine r_istore d_Mod_dilate_210 (by decide) ?_
        refine r_weak (lv' := [.ref 516, .null, .null, .int i3, .int i4, .int i5, .int i6, .int 0, .null, .int (i5 - i3), .int (i5 - i4)]) (by repeat (first | exact trivial | refine ⟨rfl, ?_⟩ | exact lle_nil)) ?_
        exact h9
      · have h9 := h9.2 c_9
        refine r_aload_n d_Mod_dilate_193 rfl ?_
        refine x_getI d_Mod_dilate_194 fl_Mod_35 gI_516_10 ?_
        refine r_iconst (v := 1) d_Mod_dilate_197 (by decide) ?_
        refine r_isub d_Mod_dilate_198 ?_
        refine r_goto d_Mod_dilate_199 ?_
        refine r_istore d_Mod_dilate_206 (by decide) ?_
        refine r_iload d_Mod_dilate_208 rfl ?_
        refine r_istore d_Mod_dilate_210 (by decide) ?_
        refine r_weak (lv' := [.ref 516, .null, .null, .int i3, .int i4, .int i5, .int i6, .int 0, .null, .int ((M 516 10) - 1), .int (i5 - i4)]) (by repeat (first | exact trivial | refine ⟨rfl, ?_⟩ | exact lle_nil)) ?_
        exact h9
    · have h9 := h9.2 c_8
      refine r_iconst (v := 0) d_Mod_dilate_169 (by decide) ?_
      refine r_goto d_Mod_dilate_170 ?_
      refine r_istore d_Mod_dilate_178 (by decide) ?_
      refine r_iload d_Mod_dilate_180 rfl ?_
      refine r_iload_n d_Mod_dilate_182 rfl ?_
      refine r_isub d_Mod_dilate_183 ?_
      refine r_aload_n d_Mod_dilate_184 rfl ?_
      refine x_getI d_Mod_dilate_185 fl_Mod_35 gI_516_10 ?_
      refine r_iconst (v := 1) d_Mod_dilate_188 (by decide) ?_
      refine r_isub d_Mod_dilate_189 ?_
      refine r_ic_le d_Mod_dilate_190 (fun c_10 => ?_) (fun c_10 => ?_)
      · have h9 := h9.1 c_10
        refine r_iload d_Mod_dilate_202 rfl ?_
        refine r_iload_n d_Mod_dilate_204 rfl ?_
        refine r_isub d_Mod_dilate_205 ?_
        refine r_istore d_Mod_dilate_206 (by decide) ?_
        refine r_iload d_Mod_dilate_208 rfl ?_
        refine r_istore d_Mod_dilate_210 (by decide) ?_
        refine r_weak (lv' := [.ref 516, .null, .null, .int i3, .int i4, .int i5, .int i6, .int 0, .null, .int (i5 - i3), .int 0]) (by repeat (first | exact trivial | refine ⟨rfl, ?_⟩ | exact lle_nil)) ?_
        exact h9
      · have h9 := h9.2 c_10
        refine r_aload_n d_Mod_dilate_193 rfl ?_
        refine x_getI d_Mod_dilate_194 fl_Mod_35 gI_516_10 ?_
        refine r_iconst (v := 1) d_Mod_dilate_197 (by decide) ?_
        refine r_isub d_Mod_dilate_198 ?_
        refine r_goto d_Mod_dilate_199 ?_
        refine r_istore d_Mod_dilate_206 (by decide) ?_
        refine r_iload d_Mod_dilate_208 rfl ?_
        refine r_istore d_Mod_dilate_210 (by decide) ?_
        refine r_weak (lv' := [.ref 516, .null, .null, .int i3, .int i4, .int i5, .int i6, .int 0, .null, .int ((M 516 10) - 1), .int 0]) (by repeat (first | exact trivial | refine ⟨rfl, ?_⟩ | exact lle_nil)) ?_
        exact h9
theorem L_Mod_dilate_76 {xs : List Int32} {i1 : Int32} {i2 : Int32} {i3 : Int32} {i4 : Int32} {i5 : Int32} {i6 : Int32} {i7 : Int32} {i9 : Int32} {i10 : Int32} {M : Mem} {L : Int64} {Q : Option Value → Mem → Int64 → Prop} 
    (h : ((i9 < i10 → (vp_in (20 * i5 + i6) 400 ∧ RX xs shL md_Mod_dilate 15 [.ref 516, .int i1, .int i2, .int i3, .int i4, .int i5, .int (i6 + 1), .null, .null, .null, .null] [] (up M 528 ((20 * i5 + i6).toNatClampNeg) (i7 &&& 1)) L Q)) ∧ (¬ (i9 < i10) → ((i7 = 0 → (vp_in (20 * i5 + i10) 400 ∧ RX xs shL md_Mod_dilate 76 [.ref 516, .int i1, .int i2, .int i3, .int i4, .int i5, .int i6, .int (M 527 ((20 * i5 + i10).toNatClampNeg)), .null, .int i9, .int (i10 + 1)] [] M L Q)) ∧ (¬ (i7 = 0) → (vp_in (20 * i5 + i6) 400 ∧ RX xs shL md_Mod_dilate 15 [.ref 516, .int i1, .int i2, .int i3, .int i4, .int i5, .int (i6 + 1), .null, .null, .null, .null] [] (up M 528 ((20 * i5 + i6).toNatClampNeg) (i7 &&& 1)) L Q)))))) : RX xs shL md_Mod_dilate 76 [.ref 516, .int i1, .int i2, .int i3, .int i4, .int i5, .int i6, .int i7, .null, .int i9, .int i10] [] M L Q := by
  refine r_iload d_Mod_dilate_76 rfl ?_
  refine r_iload d_Mod_dilate_78 rfl ?_
  refine r_ic_gt d_Mod_dilate_80 (fun c_11 => ?_) (fun c_11 => ?_)
  · have h9 := h.1 c_11
    refine r_aload_n d_Mod_dilate_108 rfl ?_
    refine x_getR d_Mod_dilate_109 fl_Mod_54 gR_516_30 ?_
    refine r_iload d_Mod_dilate_112 rfl ?_
    refine r_iload d_Mod_dilate_114 rfl ?_
    refine x_callS (as := [.int i6, .int i5]) (st := [.ref 528]) d_Mod_dilate_116 ml_Mod_147 mc_Mod_at ms_Mod_at ⟨by decide, by decide⟩ rfl (Nat.le_of_ble_eq_true rfl) (Nat.le_of_ble_eq_true rfl) (Q1 := fun r M1 L1 => some (.int (20 * i5 + i6)) = r ∧ M = M1 ∧ L = L1) (s_Mod_at ⟨rfl, rfl, rfl⟩) ?_
    rintro _ _ _ ⟨rfl, rfl, rfl⟩
    refine r_iload d_Mod_dilate_119 rfl ?_
    obtain ⟨o_12, h9⟩ := h9
    refine x_zast d_Mod_dilate_121 aZ_528 o_12 ?_
    refine r_iinc (v := i6 + 1) d_Mod_dilate_122 rfl rfl (by decide) ?_
    refine r_goto d_Mod_dilate_125 ?_
    refine r_weak (lv' := [.ref 516, .int i1, .int i2, .int i3, .int i4, .int i5, .int (i6 + 1), .null, .null, .null, .null]) (by repeat (first | exact trivial | refine ⟨rfl, ?_⟩ | exact lle_nil)) ?_
    exact h9
  · have h9 := h.2 c_11
    refine r_iload d_Mod_dilate_83 rfl ?_
    refine r_if_ne d_Mod_dilate_85 (fun c_13 => ?_) (fun c_13 => ?_)
    · have h9 := h9.2 c_13
      refine r_aload_n d_Mod_dilate_108 rfl ?_
      refine x_getR d_Mod_dilate_109 fl_Mod_54 gR_516_30 ?_
      refine r_iload d_Mod_dilate_112 rfl ?_
      refine r_iload d_Mod_dilate_114 rfl ?_
      refine x_callS (as := [.int i6, .int i5]) (st := [.ref 528]) d_Mod_dilate_116 ml_Mod_147 mc_Mod_at ms_Mod_at ⟨by decide, by decide⟩ rfl (Nat.le_of_ble_eq_true rfl) (Nat.le_of_ble_eq_true rfl) (Q1 := fun r M1 L1 => some (.int (20 * i5 + i6)) = r ∧ M = M1 ∧ L = L1) (s_Mod_at ⟨rfl, rfl, rfl⟩) ?_
      rintro _ _ _ ⟨rfl, rfl, rfl⟩
      refine r_iload d_Mod_dilate_119 rfl ?_
      obtain ⟨o_14, h9⟩ := h9
      refine x_zast d_Mod_dilate_121 aZ_528 o_14 ?_
      refine r_iinc (v := i6 + 1) d_Mod_dilate_122 rfl rfl (by decide) ?_
      refine r_goto d_Mod_dilate_125 ?_
      refine r_weak (lv' := [.ref 516, .int i1, .int i2, .int i3, .int i4, .int i5, .int (i6 + 1), .null, .null, .null, .null]) (by repeat (first | exact trivial | refine ⟨rfl, ?_⟩ | exact lle_nil)) ?_
      exact h9
    · have h9 := h9.1 c_13
      refine r_aload_n d_Mod_dilate_88 rfl ?_
      refine x_getR d_Mod_dilate_89 fl_Mod_51 gR_516_29 ?_
      refine r_iload d_Mod_dilate_92 rfl ?_
      refine r_iload d_Mod_dilate_94 rfl ?_
      refine x_callS (as := [.int i10, .int i5]) (st := [.ref 527]) d_Mod_dilate_96 ml_Mod_147 mc_Mod_at ms_Mod_at ⟨by decide, by decide⟩ rfl (Nat.le_of_ble_eq_true rfl) (Nat.le_of_ble_eq_true rfl) (Q1 := fun r M1 L1 => some (.int (20 * i5 + i10)) = r ∧ M = M1 ∧ L = L1) (s_Mod_at ⟨rfl, rfl, rfl⟩) ?_
      rintro _ _ _ ⟨rfl, rfl, rfl⟩
      obtain ⟨o_15, h9⟩ := h9
      refine x_zald d_Mod_dilate_99 aZ_527 o_15 ?_
      refine r_istore d_Mod_dilate_100 (by decide) ?_
      refine r_iinc (v := i10 + 1) d_Mod_dilate_102 rfl rfl (by decide) ?_
      refine r_goto d_Mod_dilate_105 ?_
      exact h9
set_option maxHeartbeats 4000000 in
theorem L_Mod_dilate_212 {xs : List Int32} {i3 : Int32} {i4 : Int32} {i5 : Int32} {i6 : Int32} {i7 : Int32} {i9 : Int32} {i10 : Int32} {M : Mem} {L : Int64} {Q : Option Value → Mem → Int64 → Prop} 
    (h : ((i9 < i10 → (vp_in (20 * i5 + i6) 400 ∧ RX xs shL md_Mod_dilate 149 [.ref 516, .null, .null, .int i3, .int i4, .int i5, .int (i6 + 1), .null, .null, .null, .null] [] (up M 527 ((20 * i5 + i6).toNatClampNeg) (i7 &&& 1)) L Q)) ∧ (¬ (i9 < i10) → ((i7 = 0 → (vp_in (20 * i5 + i6) 400 ∧ (((M 523 ((20 * i5 + i6).toNatClampNeg)) = 0 → RX xs shL md_Mod_dilate 149 [.ref 516, .null, .null, .int i3, .int i4, .int i5, .int (i6 + 1), .null, .null, .null, .null] [] (up M 527 ((20 * i5 + i6).toNatClampNeg) (i7 &&& 1)) L Q) ∧ (¬ ((M 523 ((20 * i5 + i6).toNatClampNeg)) = 0) → (vp_in (20 * i10 + i6) 400 ∧ RX xs shL md_Mod_dilate 212 [.ref 516, .null, .null, .int i3, .int i4, .int i5, .int i6, .int (M 528 ((20 * i10 + i6).toNatClampNeg)), .null, .int i9, .int (i10 + 1)] [] M L Q))))) ∧ (¬ (i7 = 0) → (vp_in (20 * i5 + i6) 400 ∧ RX xs shL md_Mod_dilate 149 [.ref 516, .null, .null, .int i3, .int i4, .int i5, .int (i6 + 1), .null, .null, .null, .null] [] (up M 527 ((20 * i5 + i6).toNatClampNeg) (i7 &&& 1)) L Q)))))) : RX xs shL md_Mod_dilate 212 [.ref 516, .null, .null, .int i3, .int i4, .int i5, .int i6, .int i7, .null, .int i9, .int i10] [] M L Q := by
  refine r_iload d_Mod_dilate_212 rfl ?_
  refine r_iload d_Mod_dilate_214 rfl ?_
  refine r_ic_gt d_Mod_dilate_216 (fun c_16 => ?_) (fun c_16 => ?_)
  · have h9 := h.1 c_16
    refine r_aload_n d_Mod_dilate_259 rfl ?_
    refine x_getR d_Mod_dilate_260 fl_Mod_51 gR_516_29 ?_
    refine r_iload d_Mod_dilate_263 rfl ?_
    refine r_iload d_Mod_dilate_265 rfl ?_
    refine x_callS (as := [.int i6, .int i5]) (st := [.ref 527]) d_Mod_dilate_267 ml_Mod_147 mc_Mod_at ms_Mod_at ⟨by decide, by decide⟩ rfl (Nat.le_of_ble_eq_true rfl) (Nat.le_of_ble_eq_true rfl) (Q1 := fun r M1 L1 => some (.int (20 * i5 + i6)) = r ∧ M = M1 ∧ L = L1) (s_Mod_at ⟨rfl, rfl, rfl⟩) ?_
    rintro _ _ _ ⟨rfl, rfl, rfl⟩
    refine r_iload d_Mod_dilate_270 rfl ?_
    obtain ⟨o_17, h9⟩ := h9
    refine x_zast d_Mod_dilate_272 aZ_527 o_17 ?_
    refine r_iinc (v := i6 + 1) d_Mod_dilate_273 rfl rfl (by decide) ?_
    refine r_goto d_Mod_dilate_276 ?_
    refine r_weak (lv' := [.ref 516, .null, .null, .int i3, .int i4, .int i5, .int (i6 + 1), .null, .null, .null, .null]) (by repeat (first | exact trivial | refine ⟨rfl, ?_⟩ | exact lle_nil)) ?_
    exact h9
  · have h9 := h.2 c_16
    refine r_iload d_Mod_dilate_219 rfl ?_
    refine r_if_ne d_Mod_dilate_221 (fun c_18 => ?_) (fun c_18 => ?_)
    · have h9 := h9.2 c_18
      refine r_aload_n d_Mod_dilate_259 rfl ?_
      refine x_getR d_Mod_dilate_260 fl_Mod_51 gR_516_29 ?_
      refine r_iload d_Mod_dilate_263 rfl ?_
      refine r_iload d_Mod_dilate_265 rfl ?_
      refine x_callS (as := [.int i6, .int i5]) (st := [.ref 527]) d_Mod_dilate_267 ml_Mod_147 mc_Mod_at ms_Mod_at ⟨by decide, by decide⟩ rfl (Nat.le_of_ble_eq_true rfl) (Nat.le_of_ble_eq_true rfl) (Q1 := fun r M1 L1 => some (.int (20 * i5 + i6)) = r ∧ M = M1 ∧ L = L1) (s_Mod_at ⟨rfl, rfl, rfl⟩) ?_
      rintro _ _ _ ⟨rfl, rfl, rfl⟩
      refine r_iload d_Mod_dilate_270 rfl ?_
      obtain ⟨o_19, h9⟩ := h9
      refine x_zast d_Mod_dilate_272 aZ_527 o_19 ?_
      refine r_iinc (v := i6 + 1) d_Mod_dilate_273 rfl rfl (by decide) ?_
      refine r_goto d_Mod_dilate_276 ?_
      refine r_weak (lv' := [.ref 516, .null, .null, .int i3, .int i4, .int i5, .int (i6 + 1), .null, .null, .null, .null]) (by repeat (first | exact trivial | refine ⟨rfl, ?_⟩ | exact lle_nil)) ?_
      exact h9
    · have h9 := h9.1 c_18
      refine r_aload_n d_Mod_dilate_224 rfl ?_
      refine x_getR d_Mod_dilate_225 fl_Mod_38 gR_516_11 ?_
      refine r_iload d_Mod_dilate_228 rfl ?_
      refine r_iload d_Mod_dilate_230 rfl ?_
      refine x_callS (as := [.int i6, .int i5]) (st := [.ref 523]) d_Mod_dilate_232 ml_Mod_147 mc_Mod_at ms_Mod_at ⟨by decide, by decide⟩ rfl (Nat.le_of_ble_eq_true rfl) (Nat.le_of_ble_eq_true rfl) (Q1 := fun r M1 L1 => some (.int (20 * i5 + i6)) = r ∧ M = M1 ∧ L = L1) (s_Mod_at ⟨rfl, rfl, rfl⟩) ?_
      rintro _ _ _ ⟨rfl, rfl, rfl⟩
      obtain ⟨o_20, h9⟩ := h9
      refine x_iald d_Mod_dilate_235 aI_523 o_20 ?_
      refine r_if_eq d_Mod_dilate_236 (fun c_21 => ?_) (fun c_21 => ?_)
      · have h9 := h9.1 c_21
        refine r_aload_n d_Mod_dilate_259 rfl ?_
        refine x_getR d_Mod_dilate_260 fl_Mod_51 gR_516_29 ?_
        refine r_iload d_Mod_dilate_263 rfl ?_
        refine r_iload d_Mod_dilate_265 rfl ?_
        refine x_callS (as := [.int i6, .int i5]) (st := [.ref 527]) d_Mod_dilate_267 ml_Mod_147 mc_Mod_at ms_Mod_at ⟨by decide, by decide⟩ rfl (Nat.le_of_ble_eq_true rfl) (Nat.le_of_ble_eq_true rfl) (Q1 := fun r M1 L1 => some (.int (20 * i5 + i6)) = r ∧ M = M1 ∧ L = L1) (s_Mod_at ⟨rfl, rfl, rfl⟩) ?_
        rintro _ _ _ ⟨rfl, rfl, rfl⟩
        refine r_iload d_Mod_dilate_270 rfl ?_
        refine x_zast d_Mod_dilate_272 aZ_527 o_20 ?_
        refine r_iinc (v := i6 + 1) d_Mod_dilate_273 rfl rfl (by decide) ?_
        refine r_goto d_Mod_dilate_276 ?_
        refine r_weak (lv' := [.ref 516, .null, .null, .int i3, .int i4, .int i5, .int (i6 + 1), .null, .null, .null, .null]) (by repeat (first | exact trivial | refine ⟨rfl, ?_⟩ | exact lle_nil)) ?_
        exact h9
      · have h9 := h9.2 c_21
        refine r_aload_n d_Mod_dilate_239 rfl ?_
        refine x_getR d_Mod_dilate_240 fl_Mod_54 gR_516_30 ?_
        refine r_iload d_Mod_dilate_243 rfl ?_
        refine r_iload d_Mod_dilate_245 rfl ?_
        refine x_callS (as := [.int i6, .int i10]) (st := [.ref 528]) d_Mod_dilate_247 ml_Mod_147 mc_Mod_at ms_Mod_at ⟨by decide, by decide⟩ rfl (Nat.le_of_ble_eq_true rfl) (Nat.le_of_ble_eq_true rfl) (Q1 := fun r M1 L1 => some (.int (20 * i10 + i6)) = r ∧ M = M1 ∧ L = L1) (s_Mod_at ⟨rfl, rfl, rfl⟩) ?_
        rintro _ _ _ ⟨rfl, rfl, rfl⟩
        obtain ⟨o_22, h9⟩ := h9
        refine x_zald d_Mod_dilate_250 aZ_528 o_22 ?_
        refine r_istore d_Mod_dilate_251 (by decide) ?_
        refine r_iinc (v := i10 + 1) d_Mod_dilate_253 rfl rfl (by decide) ?_
        refine r_goto d_Mod_dilate_256 ?_
        exact h9
theorem L_Mod_eastHigh_0 {xs : List Int32}  {M : Mem} {L : Int64} {Q : Option Value → Mem → Int64 → Prop} 
    (h : Q (some (.int (-(dwn (-(((M 516 26) + (M 516 14)) + (M 516 28))) 8000)))) M L) : RX xs shL md_Mod_eastHigh 0 [.ref 516] [] M L Q := by
  refine r_aload_n d_Mod_eastHigh_0 rfl ?_
  refine x_getI d_Mod_eastHigh_1 fl_Mod_122 gI_516_26 ?_
  refine r_aload_n d_Mod_eastHigh_4 rfl ?_
  refine x_getI d_Mod_eastHigh_5 fl_Mod_159 gI_516_14 ?_
  refine r_iadd d_Mod_eastHigh_8 ?_
  refine r_aload_n d_Mod_eastHigh_9 rfl ?_
  refine x_getI d_Mod_eastHigh_10 fl_Mod_128 gI_516_28 ?_
  refine r_iadd d_Mod_eastHigh_13 ?_
  refine r_ineg d_Mod_eastHigh_14 ?_
  refine r_sipush (v := 8000) d_Mod_eastHigh_15 (by decide) ?_
  refine x_callS (as := [.int (-(((M 516 26) + (M 516 14)) + (M 516 28))), .int 8000]) (st := []) d_Mod_eastHigh_18 ml_Mod_131 mc_Mod_down ms_Mod_down ⟨by decide, by decide⟩ rfl (Nat.le_of_ble_eq_true rfl) (Nat.le_of_ble_eq_true rfl) (Q1 := fun r M1 L1 => some (.int (dwn (-(((M 516 26) + (M 516 14)) + (M 516 28))) 8000)) = r ∧ M = M1 ∧ L = L1) (s_Mod_down (by decide) ⟨rfl, rfl, rfl⟩) ?_
  rintro _ _ _ ⟨rfl, rfl, rfl⟩
  refine r_ineg d_Mod_eastHigh_21 ?_
  exact r_iret ⟨d_Mod_eastHigh_22, _, rfl, rfl⟩ ⟨_, _, rfl, h⟩
theorem L_Mod_eastLow_0 {xs : List Int32}  {M : Mem} {L : Int64} {Q : Option Value → Mem → Int64 → Prop} 
    (h : Q (some (.int (dwn (((M 516 26) + (M 516 13)) - (M 516 28)) 8000))) M L) : RX xs shL md_Mod_eastLow 0 [.ref 516] [] M L Q := by
  refine r_aload_n d_Mod_eastLow_0 rfl ?_
  refine x_getI d_Mod_eastLow_1 fl_Mod_122 gI_516_26 ?_
  refine r_aload_n d_Mod_eastLow_4 rfl ?_
  refine x_getI d_Mod_eastLow_5 fl_Mod_156 gI_516_13 ?_
  refine r_iadd d_Mod_eastLow_8 ?_
  refine r_aload_n d_Mod_eastLow_9 rfl ?_
  refine x_getI d_Mod_eastLow_10 fl_Mod_128 gI_516_28 ?_
  refine r_isub d_Mod_eastLow_13 ?_
  refine r_sipush (v := 8000) d_Mod_eastLow_14 (by decide) ?_
  refine x_callS (as := [.int (((M 516 26) + (M 516 13)) - (M 516 28)), .int 8000]) (st := []) d_Mod_eastLow_17 ml_Mod_131 mc_Mod_down ms_Mod_down ⟨by decide, by decide⟩ rfl (Nat.le_of_ble_eq_true rfl) (Nat.le_of_ble_eq_true rfl) (Q1 := fun r M1 L1 => some (.int (dwn (((M 516 26) + (M 516 13)) - (M 516 28)) 8000)) = r ∧ M = M1 ∧ L = L1) (s_Mod_down (by decide) ⟨rfl, rfl, rfl⟩) ?_
  rintro _ _ _ ⟨rfl, rfl, rfl⟩
  exact r_iret ⟨d_Mod_eastLow_20, _, rfl, rfl⟩ ⟨_, _, rfl, h⟩
theorem L_Mod_eastOf_0 {xs : List Int32} {i1 : Int32} {M : Mem} {L : Int64} {Q : Option Value → Mem → Int64 → Prop} 
    (h : RX xs shL md_Mod_northOf 0 [.ref 516, .int ((i1 + 24) - (i1 + 24) / 32 * 32)] [] M L (fun r M_1 L_2 => ∃ v_3 : Int32, r = some (.int v_3) ∧ Q (some (.int v_3)) M_1 L_2)) : RX xs shL md_Mod_eastOf 0 [.ref 516, .int i1] [] M L Q := by
  refine r_aload_n d_Mod_eastOf_0 rfl ?_
  refine r_iload_n d_Mod_eastOf_1 rfl ?_
  refine r_bipush (v := 24) d_Mod_eastOf_2 (by decide) ?_
  refine r_iadd d_Mod_eastOf_4 ?_
  refine r_bipush (v := 32) d_Mod_eastOf_5 (by decide) ?_
  refine r_irem d_Mod_eastOf_7 (by decide) ?_
  refine x_callV (as := [.int ((i1 + 24) - (i1 + 24) / 32 * 32)]) (st := []) d_Mod_eastOf_8 ml_Mod_97 mc_Mod_northOf mv_Mod_northOf ⟨by decide, by decide⟩ gO_516 ⟨_, rfl, rfl⟩ rfl (Nat.le_of_ble_eq_true rfl) (Nat.le_of_ble_eq_true rfl) h ?_
  rintro _ M_1 L_2 ⟨v_3, rfl, h9⟩
  exact r_iret ⟨d_Mod_eastOf_11, _, rfl, rfl⟩ ⟨_, _, rfl, h9⟩
theorem L_Mod_isCell_0 {xs : List Int32} {i1 : Int32} {i2 : Int32} {M : Mem} {L : Int64} {Q : Option Value → Mem → Int64 → Prop} 
    (h : ((((0 : Int32) ≤ i1 ∧ i1 ≤ ((M 516 9) - 1)) → ((((0 : Int32) ≤ i2 ∧ i2 ≤ ((M 516 10) - 1)) → Q (some (.int 1)) M L) ∧ (¬ ((0 : Int32) ≤ i2 ∧ i2 ≤ ((M 516 10) - 1)) → Q (some (.int 0)) M L))) ∧ (¬ ((0 : Int32) ≤ i1 ∧ i1 ≤ ((M 516 9) - 1)) → Q (some (.int 0)) M L))) : RX xs shL md_Mod_isCell 0 [.ref 516, .int i1, .int i2] [] M L Q := by
  refine r_iload_n d_Mod_isCell_0 rfl ?_
  refine r_iconst (v := 0) d_Mod_isCell_1 (by decide) ?_
  refine r_aload_n d_Mod_isCell_2 rfl ?_
  refine x_getI d_Mod_isCell_3 fl_Mod_32 gI_516_9 ?_
  refine r_iconst (v := 1) d_Mod_isCell_6 (by decide) ?_
  refine r_isub d_Mod_isCell_7 ?_
  refine x_callS (as := [.int i1, .int 0, .int ((M 516 9) - 1)]) (st := []) d_Mod_isCell_8 ml_Mod_75 mc_Mod_in ms_Mod_in ⟨by decide, by decide⟩ rfl (Nat.le_of_ble_eq_true rfl) (Nat.le_of_ble_eq_true rfl) (Q1 := fun r M1 L1 => some (.int (bI ((0 : Int32) ≤ i1 ∧ i1 ≤ ((M 516 9) - 1)))) = r ∧ M = M1 ∧ L = L1) (s_Mod_in ⟨rfl, rfl, rfl⟩) ?_
  rintro _ _ _ ⟨rfl, rfl, rfl⟩
  refine r_if_eq d_Mod_isCell_11 (fun c_1 => ?_) (fun c_1 => ?_)
  · have h9 := h.2 (bI_p0 c_1)
    refine r_iconst (v := 0) d_Mod_isCell_32 (by decide) ?_
    exact r_iret ⟨d_Mod_isCell_33, _, rfl, rfl⟩ ⟨_, _, rfl, h9⟩
  · have h9 := h.1 (bI_p1 c_1)
    refine r_iload_n d_Mod_isCell_14 rfl ?_
    refine r_iconst (v := 0) d_Mod_isCell_15 (by decide) ?_
    refine r_aload_n d_Mod_isCell_16 rfl ?_
    refine x_getI d_Mod_isCell_17 fl_Mod_35 gI_516_10 ?_
    refine r_iconst (v := 1) d_Mod_isCell_20 (by decide) ?_
    refine r_isub d_Mod_isCell_21 ?_
    refine x_callS (as := [.int i2, .int 0, .int ((M 516 10) - 1)]) (st := []) d_Mod_isCell_22 ml_Mod_75 mc_Mod_in ms_Mod_in ⟨by decide, by decide⟩ rfl (Nat.le_of_ble_eq_true rfl) (Nat.le_of_ble_eq_true rfl) (Q1 := fun r M1 L1 => some (.int (bI ((0 : Int32) ≤ i2 ∧ i2 ≤ ((M 516 10) - 1)))) = r ∧ M = M1 ∧ L = L1) (s_Mod_in ⟨rfl, rfl, rfl⟩) ?_
    rintro _ _ _ ⟨rfl, rfl, rfl⟩
    refine r_if_eq d_Mod_isCell_25 (fun c_2 => ?_) (fun c_2 => ?_)
    · have h9 := h9.2 (bI_p0 c_2)
      refine r_iconst (v := 0) d_Mod_isCell_32 (by decide) ?_
      exact r_iret ⟨d_Mod_isCell_33, _, rfl, rfl⟩ ⟨_, _, rfl, h9⟩
    · have h9 := h9.1 (bI_p1 c_2)
      refine r_iconst (v := 1) d_Mod_isCell_28 (by decide) ?_
      refine r_goto d_Mod_isCell_29 ?_
      exact r_iret ⟨d_Mod_isCell_33, _, rfl, rfl⟩ ⟨_, _, rfl, h9⟩
theorem L_Mod_isCourse_0 {xs : List Int32} {S : List Shp} {i0 : Int32} {i1 : Int32} {i2 : Int32} {i3 : Int32} {M : Mem} {L : Int64} {Q : Option Value → Mem → Int64 → Prop} 
    (h : ((((1 : Int32) ≤ i0 ∧ i0 ≤ 12) → ((((1 : Int32) ≤ i1 ∧ i1 ≤ 96) → ((((0 : Int32) ≤ i2 ∧ i2 ≤ 47) → ((((0 : Int32) ≤ i3 ∧ i3 ≤ 8) → Q (some (.int 1)) M L) ∧ (¬ ((0 : Int32) ≤ i3 ∧ i3 ≤ 8) → Q (some (.int 0)) M L))) ∧ (¬ ((0 : Int32) ≤ i2 ∧ i2 ≤ 47) → Q (some (.int 0)) M L))) ∧ (¬ ((1 : Int32) ≤ i1 ∧ i1 ≤ 96) → Q (some (.int 0)) M L))) ∧ (¬ ((1 : Int32) ≤ i0 ∧ i0 ≤ 12) → Q (some (.int 0)) M L))) : RX xs S md_Mod_isCourse 0 [.int i0, .int i1, .int i2, .int i3] [] M L Q := by
  refine r_iload_n d_Mod_isCourse_0 rfl ?_
  refine r_iconst (v := 1) d_Mod_isCourse_1 (by decide) ?_
  refine r_bipush (v := 12) d_Mod_isCourse_2 (by decide) ?_
  refine x_callS (as := [.int i0, .int 1, .int 12]) (st := []) d_Mod_isCourse_4 ml_Mod_75 mc_Mod_in ms_Mod_in ⟨by decide, by decide⟩ rfl (Nat.le_of_ble_eq_true rfl) (Nat.le_of_ble_eq_true rfl) (Q1 := fun r M1 L1 => some (.int (bI ((1 : Int32) ≤ i0 ∧ i0 ≤ 12))) = r ∧ M = M1 ∧ L = L1) (s_Mod_in ⟨rfl, rfl, rfl⟩) ?_
  rintro _ _ _ ⟨rfl, rfl, rfl⟩
  refine r_if_eq d_Mod_isCourse_7 (fun c_1 => ?_) (fun c_1 => ?_)
  · have h9 := h.2 (bI_p0 c_1)
    refine r_iconst (v := 0) d_Mod_isCourse_44 (by decide) ?_
    exact r_iret ⟨d_Mod_isCourse_45, _, rfl, rfl⟩ ⟨_, _, rfl, h9⟩
  · have h9 := h.1 (bI_p1 c_1)
    refine r_iload_n d_Mod_isCourse_10 rfl ?_
    refine r_iconst (v := 1) d_Mod_isCourse_11 (by decide) ?_
    refine r_bipush (v := 96) d_Mod_isCourse_12 (by decide) ?_
    refine x_callS (as := [.int i1, .int 1, .int 96]) (st := []) d_Mod_isCourse_14 ml_Mod_75 mc_Mod_in ms_Mod_in ⟨by decide, by decide⟩ rfl (Nat.le_of_ble_eq_true rfl) (Nat.le_of_ble_eq_true rfl) (Q1 := fun r M1 L1 => some (.int (bI ((1 : Int32) ≤ i1 ∧ i1 ≤ 96))) = r ∧ M = M1 ∧ L = L1) (s_Mod_in ⟨rfl, rfl, rfl⟩) ?_
    rintro _ _ _ ⟨rfl, rfl, rfl⟩
    refine r_if_eq d_Mod_isCourse_17 (fun c_2 => ?_) (fun c_2 => ?_)
    · have h9 := h9.2 (bI_p0 c_2)
      refine r_iconst (v := 0) d_Mod_isCourse_44 (by decide) ?_
      exact r_iret ⟨d_Mod_isCourse_45, _, rfl, rfl⟩ ⟨_, _, rfl, h9⟩
    · have h9 := h9.1 (bI_p1 c_2)
      refine r_iload_n d_Mod_isCourse_20 rfl ?_
      refine r_iconst (v := 0) d_Mod_isCourse_21 (by decide) ?_
      refine r_bipush (v := 47) d_Mod_isCourse_22 (by decide) ?_
      refine x_callS (as := [.int i2, .int 0, .int 47]) (st := []) d_Mod_isCourse_24 ml_Mod_75 mc_Mod_in ms_Mod_in ⟨by decide, by decide⟩ rfl (Nat.le_of_ble_eq_true rfl) (Nat.le_of_ble_eq_true rfl) (Q1 := fun r M1 L1 => some (.int (bI ((0 : Int32) ≤ i2 ∧ i2 ≤ 47))) = r ∧ M = M1 ∧ L = L1) (s_Mod_in ⟨rfl, rfl, rfl⟩) ?_
      rintro _ _ _ ⟨rfl, rfl, rfl⟩
      refine r_if_eq d_Mod_isCourse_27 (fun c_3 => ?_) (fun c_3 => ?_)
      · have h9 := h9.2 (bI_p0 c_3)
        refine r_iconst (v := 0) d_Mod_isCourse_44 (by decide) ?_
        exact r_iret ⟨d_Mod_isCourse_45, _, rfl, rfl⟩ ⟨_, _, rfl, h9⟩
      · have h9 := h9.1 (bI_p1 c_3)
        refine r_iload_n d_Mod_isCourse_30 rfl ?_
        refine r_iconst (v := 0) d_Mod_isCourse_31 (by decide) ?_
        refine r_bipush (v := 8) d_Mod_isCourse_32 (by decide) ?_
        refine x_callS (as := [.int i3, .int 0, .int 8]) (st := []) d_Mod_isCourse_34 ml_Mod_75 mc_Mod_in ms_Mod_in ⟨by decide, by decide⟩ rfl (Nat.le_of_ble_eq_true rfl) (Nat.le_of_ble_eq_true rfl) (Q1 := fun r M1 L1 => some (.int (bI ((0 : Int32) ≤ i3 ∧ i3 ≤ 8))) = r ∧ M = M1 ∧ L = L1) (s_Mod_in ⟨rfl, rfl, rfl⟩) ?_
        rintro _ _ _ ⟨rfl, rfl, rfl⟩
        refine r_if_eq d_Mod_isCourse_37 (fun c_4 => ?_) (fun c_4 => ?_)
        · have h9 := h9.2 (bI_p0 c_4)
          refine r_iconst (v := 0) d_Mod_isCourse_44 (by decide) ?_
          exact r_iret ⟨d_Mod_isCourse_45, _, rfl, rfl⟩ ⟨_, _, rfl, h9⟩
        · have h9 := h9.1 (bI_p1 c_4)
          refine r_iconst (v := 1) d_Mod_isCourse_40 (by decide) ?_
          refine r_goto d_Mod_isCourse_41 ?_
          exact r_iret ⟨d_Mod_isCourse_45, _, rfl, rfl⟩ ⟨_, _, rfl, h9⟩
theorem L_Mod_isPoint_0 {xs : List Int32} {S : List Shp} {i0 : Int32} {M : Mem} {L : Int64} {Q : Option Value → Mem → Int64 → Prop} 
    (h : Q (some (.int (bI ((0 : Int32) ≤ i0 ∧ i0 ≤ 31)))) M L) : RX xs S md_Mod_isPoint 0 [.int i0] [] M L Q := by
  refine r_iload_n d_Mod_isPoint_0 rfl ?_
  refine r_iconst (v := 0) d_Mod_isPoint_1 (by decide) ?_
  refine r_bipush (v := 31) d_Mod_isPoint_2 (by decide) ?_
  refine x_callS (as := [.int i0, .int 0, .int 31]) (st := []) d_Mod_isPoint_4 ml_Mod_75 mc_Mod_in ms_Mod_in ⟨by decide, by decide⟩ rfl (Nat.le_of_ble_eq_true rfl) (Nat.le_of_ble_eq_true rfl) (Q1 := fun r M1 L1 => some (.int (bI ((0 : Int32) ≤ i0 ∧ i0 ≤ 31))) = r ∧ M = M1 ∧ L = L1) (s_Mod_in ⟨rfl, rfl, rfl⟩) ?_
  rintro _ _ _ ⟨rfl, rfl, rfl⟩
  exact r_iret ⟨d_Mod_isPoint_7, _, rfl, nar_b bI_01⟩ ⟨_, _, rfl, h⟩
theorem L_Mod_isRow_0 {xs : List Int32} {i1 : Int32} {M : Mem} {L : Int64} {Q : Option Value → Mem → Int64 → Prop} 
    (h : Q (some (.int (bI ((0 : Int32) ≤ i1 ∧ i1 ≤ ((M 516 20) - 1))))) M L) : RX xs shL md_Mod_isRow 0 [.ref 516, .int i1] [] M L Q := by
  refine r_iload_n d_Mod_isRow_0 rfl ?_
  refine r_iconst (v := 0) d_Mod_isRow_1 (by decide) ?_
  refine r_aload_n d_Mod_isRow_2 rfl ?_
  refine x_getI d_Mod_isRow_3 fl_Mod_140 gI_516_20 ?_
  refine r_iconst (v := 1) d_Mod_isRow_6 (by decide) ?_
  refine r_isub d_Mod_isRow_7 ?_
  refine x_callS (as := [.int i1, .int 0, .int ((M 516 20) - 1)]) (st := []) d_Mod_isRow_8 ml_Mod_75 mc_Mod_in ms_Mod_in ⟨by decide, by decide⟩ rfl (Nat.le_of_ble_eq_true rfl) (Nat.le_of_ble_eq_true rfl) (Q1 := fun r M1 L1 => some (.int (bI ((0 : Int32) ≤ i1 ∧ i1 ≤ ((M 516 20) - 1)))) = r ∧ M = M1 ∧ L = L1) (s_Mod_in ⟨rfl, rfl, rfl⟩) ?_
  rintro _ _ _ ⟨rfl, rfl, rfl⟩
  exact r_iret ⟨d_Mod_isRow_11, _, rfl, nar_b bI_01⟩ ⟨_, _, rfl, h⟩
theorem L_Mod_isWatch_0 {xs : List Int32} {i1 : Int32} {M : Mem} {L : Int64} {Q : Option Value → Mem → Int64 → Prop} 
    (h : Q (some (.int (bI ((0 : Int32) ≤ i1 ∧ i1 ≤ ((M 516 4) - 1))))) M L) : RX xs shL md_Mod_isWatch 0 [.ref 516, .int i1] [] M L Q := by
  refine r_iload_n d_Mod_isWatch_0 rfl ?_
  refine r_iconst (v := 0) d_Mod_isWatch_1 (by decide) ?_
  refine r_aload_n d_Mod_isWatch_2 rfl ?_
  refine x_getI d_Mod_isWatch_3 fl_Mod_112 gI_516_4 ?_
  refine r_iconst (v := 1) d_Mod_isWatch_6 (by decide) ?_
  refine r_isub d_Mod_isWatch_7 ?_
  refine x_callS (as := [.int i1, .int 0, .int ((M 516 4) - 1)]) (st := []) d_Mod_isWatch_8 ml_Mod_75 mc_Mod_in ms_Mod_in ⟨by decide, by decide⟩ rfl (Nat.le_of_ble_eq_true rfl) (Nat.le_of_ble_eq_true rfl) (Q1 := fun r M1 L1 => some (.int (bI ((0 : Int32) ≤ i1 ∧ i1 ≤ ((M 516 4) - 1)))) = r ∧ M = M1 ∧ L = L1) (s_Mod_in ⟨rfl, rfl, rfl⟩) ?_
  rintro _ _ _ ⟨rfl, rfl, rfl⟩
  exact r_iret ⟨d_Mod_isWatch_11, _, rfl, nar_b bI_01⟩ ⟨_, _, rfl, h⟩
set_option maxHeartbeats 4000000 in
theorem L_Mod_leewayOf_0 {xs : List Int32} {S : List Shp} {i0 : Int32} {i1 : Int32} {i2 : Int32} {M : Mem} {L : Int64} {Q : Option Value → Mem → Int64 → Prop} 
    (h : (((((i0 - i1) + 32) - ((i0 - i1) + 32) / 32 * 32) ≤ 16 → ((i2 = 0 → Q (some (.int 0)) M L) ∧ (¬ (i2 = 0) → ((6 ≤ (((i0 - i1) + 32) - ((i0 - i1) + 32) / 32 * 32) → ((8 ≤ (((i0 - i1) + 32) - ((i0 - i1) + 32) / 32 * 32) → ((12 ≤ (((i0 - i1) + 32) - ((i0 - i1) + 32) / 32 * 32) → Q (some (.int 0)) M L) ∧ (¬ (12 ≤ (((i0 - i1) + 32) - ((i0 - i1) + 32) / 32 * 32)) → Q (some (.int (2 - i2))) M L))) ∧ (¬ (8 ≤ (((i0 - i1) + 32) - ((i0 - i1) + 32) / 32 * 32)) → Q (some (.int (3 - i2))) M L))) ∧ (¬ (6 ≤ (((i0 - i1) + 32) - ((i0 - i1) + 32) / 32 * 32)) → Q (some (.int (-1))) M L))))) ∧ (¬ ((((i0 - i1) + 32) - ((i0 - i1) + 32) / 32 * 32) ≤ 16) → ((i2 = 0 → Q (some (.int 0)) M L) ∧ (¬ (i2 = 0) → ((6 ≤ (32 - (((i0 - i1) + 32) - ((i0 - i1) + 32) / 32 * 32)) → ((8 ≤ (32 - (((i0 - i1) + 32) - ((i0 - i1) + 32) / 32 * 32)) → ((12 ≤ (32 - (((i0 - i1) + 32) - ((i0 - i1) + 32) / 32 * 32)) → Q (some (.int 0)) M L) ∧ (¬ (12 ≤ (32 - (((i0 - i1) + 32) - ((i0 - i1) + 32) / 32 * 32))) → Q (some (.int (2 - i2))) M L))) ∧ (¬ (8 ≤ (32 - (((i0 - i1) + 32) - ((i0 - i1) + 32) / 32 * 32))) → Q (some (.int (3 - i2))) M L))) ∧ (¬ (6 ≤ (32 - (((i0 - i1) + 32) - ((i0 - i1) + 32) / 32 * 32))) → Q (some (.int (-1))) M L))))))) : RX xs S md_Mod_leewayOf 0 [.int i0, .int i1, .int i2] [] M L Q := by
  refine r_weak (lv' := [.int i0, .int i1, .int i2, .null, .null]) (by repeat (first | exact trivial | refine ⟨rfl, ?_⟩ | exact lle_nil)) ?_
  refine r_iload_n d_Mod_leewayOf_0 rfl ?_
  refine r_iload_n d_Mod_leewayOf_1 rfl ?_
  refine x_callS (as := [.int i1, .int i0]) (st := []) d_Mod_leewayOf_2 ml_Mod_94 mc_Mod_turnsOf ms_Mod_turnsOf ⟨by decide, by decide⟩ rfl (Nat.le_of_ble_eq_true rfl) (Nat.le_of_ble_eq_true rfl) (Q1 := fun r M1 L1 => some (.int (((i0 - i1) + 32) - ((i0 - i1) + 32) / 32 * 32)) = r ∧ M = M1 ∧ L = L1) (s_Mod_turnsOf ⟨rfl, rfl, rfl⟩) ?_
  rintro _ _ _ ⟨rfl, rfl, rfl⟩
  refine r_istore_n d_Mod_leewayOf_5 (by decide) ?_
  refine r_iload_n d_Mod_leewayOf_6 rfl ?_
  refine r_bipush (v := 16) d_Mod_leewayOf_7 (by decide) ?_
  refine r_ic_le d_Mod_leewayOf_9 (fun c_1 => ?_) (fun c_1 => ?_)
  · have h9 := h.1 c_1
    refine r_iload_n d_Mod_leewayOf_19 rfl ?_
    refine r_istore d_Mod_leewayOf_20 (by decide) ?_
    refine r_iload_n d_Mod_leewayOf_22 rfl ?_
    refine r_if_ne d_Mod_leewayOf_23 (fun c_2 => ?_) (fun c_2 => ?_)
    · have h9 := h9.2 c_2
      refine r_iload d_Mod_leewayOf_28 rfl ?_
      refine r_bipush (v := 6) d_Mod_leewayOf_30 (by decide) ?_
      refine r_ic_ge d_Mod_leewayOf_32 (fun c_3 => ?_) (fun c_3 => ?_)
      · have h9 := h9.1 c_3
        refine r_iload d_Mod_leewayOf_39 rfl ?_
        refine r_bipush (v := 8) d_Mod_leewayOf_41 (by decide) ?_
        refine r_ic_ge d_Mod_leewayOf_43 (fun c_4 => ?_) (fun c_4 => ?_)
        · have h9 := h9.1 c_4
          refine r_iload d_Mod_leewayOf_52 rfl ?_
          refine r_bipush (v := 12) d_Mod_leewayOf_54 (by decide) ?_
          refine r_ic_ge d_Mod_leewayOf_56 (fun c_5 => ?_) (fun c_5 => ?_)
          · have h9 := h9.1 c_5
            refine r_iconst (v := 0) d_Mod_leewayOf_65 (by decide) ?_
            exact r_iret ⟨d_Mod_leewayOf_66, _, rfl, rfl⟩ ⟨_, _, rfl, h9⟩
          · have h9 := h9.2 c_5
            refine r_iconst (v := 2) d_Mod_leewayOf_59 (by decide) ?_
            refine r_iload_n d_Mod_leewayOf_60 rfl ?_
            refine r_isub d_Mod_leewayOf_61 ?_
            refine r_goto d_Mod_leewayOf_62 ?_
            exact r_iret ⟨d_Mod_leewayOf_66, _, rfl, rfl⟩ ⟨_, _, rfl, h9⟩
        · have h9 := h9.2 c_4
          refine r_iconst (v := 3) d_Mod_leewayOf_46 (by decide) ?_
          refine r_iload_n d_Mod_leewayOf_47 rfl ?_
          refine r_isub d_Mod_leewayOf_48 ?_
          refine r_goto d_Mod_leewayOf_49 ?_
          exact r_iret ⟨d_Mod_leewayOf_66, _, rfl, rfl⟩ ⟨_, _, rfl, h9⟩
      · have h9 := h9.2 c_3
        refine r_iconst (v := (-1)) d_Mod_leewayOf_35 (by decide) ?_
        refine r_goto d_Mod_leewayOf_36 ?_
        exact r_iret ⟨d_Mod_leewayOf_66, _, rfl, rfl⟩ ⟨_, _, rfl, h9⟩
    · have h9 := h9.1 c_2
      refine r_iconst (v := 0) d_Mod_leewayOf_26 (by decide) ?_
      exact r_iret ⟨d_Mod_leewayOf_27, _, rfl, rfl⟩ ⟨_, _, rfl, h9⟩
  · have h9 := h.2 c_1
    refine r_bipush (v := 32) d_Mod_leewayOf_12 (by decide) ?_
    refine r_iload_n d_Mod_leewayOf_14 rfl ?_
    refine r_isub d_Mod_leewayOf_15 ?_
    refine r_goto d_Mod_leewayOf_16 ?_
    refine r_istore d_Mod_leewayOf_20 (by decide) ?_
    refine r_iload_n d_Mod_leewayOf_22 rfl ?_
    refine r_if_ne d_Mod_leewayOf_23 (fun c_6 => ?_) (fun c_6 => ?_)
    · have h9 := h9.2 c_6
      refine r_iload d_Mod_leewayOf_28 rfl ?_
      refine r_bipush (v := 6) d_Mod_leewayOf_30 (by decide) ?_
      refine r_ic_ge d_Mod_leewayOf_32 (fun c_7 => ?_) (fun c_7 => ?_)
      · have h9 := h9.1 c_7
        refine r_iload d_Mod_leewayOf_39 rfl ?_
        refine r_bipush (v := 8) d_Mod_leewayOf_41 (by decide) ?_
        refine r_ic_ge d_Mod_leewayOf_43 (fun c_8 => ?_) (fun c_8 => ?_)
        · have h9 := h9.1 c_8
          refine r_iload d_Mod_leewayOf_52 rfl ?_
          refine r_bipush (v := 12) d_Mod_leewayOf_54 (by decide) ?_
          refine r_ic_ge d_Mod_leewayOf_56 (fun c_9 => ?_) (fun c_9 => ?_)
          · have h9 := h9.1 c_9
            refine r_iconst (v := 0) d_Mod_leewayOf_65 (by decide) ?_
            exact r_iret ⟨d_Mod_leewayOf_66, _, rfl, rfl⟩ ⟨_, _, rfl, h9⟩
          · have h9 := h9.2 c_9
            refine r_iconst (v := 2) d_Mod_leewayOf_59 (by decide) ?_
            refine r_iload_n d_Mod_leewayOf_60 rfl ?_
            refine r_isub d_Mod_leewayOf_61 ?_
            refine r_goto d_Mod_leewayOf_62 ?_
            exact r_iret ⟨d_Mod_leewayOf_66, _, rfl, rfl⟩ ⟨_, _, rfl, h9⟩
        · have h9 := h9.2 c_8
          refine r_iconst (v := 3) d_Mod_leewayOf_46 (by decide) ?_
          refine r_iload_n d_Mod_leewayOf_47 rfl ?_
          refine r_isub d_Mod_leewayOf_48 ?_
          refine r_goto d_Mod_leewayOf_49 ?_
          exact r_iret ⟨d_Mod_leewayOf_66, _, rfl, rfl⟩ ⟨_, _, rfl, h9⟩
      · have h9 := h9.2 c_7
        refine r_iconst (v := (-1)) d_Mod_leewayOf_35 (by decide) ?_
        refine r_goto d_Mod_leewayOf_36 ?_
        exact r_iret ⟨d_Mod_leewayOf_66, _, rfl, rfl⟩ ⟨_, _, rfl, h9⟩
    · have h9 := h9.1 c_6
      refine r_iconst (v := 0) d_Mod_leewayOf_26 (by decide) ?_
      exact r_iret ⟨d_Mod_leewayOf_27, _, rfl, rfl⟩ ⟨_, _, rfl, h9⟩
theorem L_Mod_miss_0 {xs : List Int32} {i1 : Int32} {M : Mem} {L : Int64} {Q : Option Value → Mem → Int64 → Prop} 
    (h : ((((0 : Int32) ≤ i1 ∧ i1 ≤ 20000) → Q (some (.int (M 516 8))) (up M 516 8 i1) L) ∧ (¬ ((0 : Int32) ≤ i1 ∧ i1 ≤ 20000) → Q (some (.int (-102))) M L))) : RX xs shL md_Mod_miss 0 [.ref 516, .int i1] [] M L Q := by
  refine r_weak (lv' := [.ref 516, .int i1, .null]) (by repeat (first | exact trivial | refine ⟨rfl, ?_⟩ | exact lle_nil)) ?_
  refine r_iload_n d_Mod_miss_0 rfl ?_
  refine r_iconst (v := 0) d_Mod_miss_1 (by decide) ?_
  refine r_sipush (v := 20000) d_Mod_miss_2 (by decide) ?_
  refine x_callS (as := [.int i1, .int 0, .int 20000]) (st := []) d_Mod_miss_5 ml_Mod_75 mc_Mod_in ms_Mod_in ⟨by decide, by decide⟩ rfl (Nat.le_of_ble_eq_true rfl) (Nat.le_of_ble_eq_true rfl) (Q1 := fun r M1 L1 => some (.int (bI ((0 : Int32) ≤ i1 ∧ i1 ≤ 20000))) = r ∧ M = M1 ∧ L = L1) (s_Mod_in ⟨rfl, rfl, rfl⟩) ?_
  rintro _ _ _ ⟨rfl, rfl, rfl⟩
  refine r_if_ne d_Mod_miss_8 (fun c_1 => ?_) (fun c_1 => ?_)
  · have h9 := h.1 (bI_p1 c_1)
    refine r_aload_n d_Mod_miss_14 rfl ?_
    refine x_getI d_Mod_miss_15 fl_Mod_28 gI_516_8 ?_
    refine r_istore_n d_Mod_miss_18 (by decide) ?_
    refine r_aload_n d_Mod_miss_19 rfl ?_
    refine r_iload_n d_Mod_miss_20 rfl ?_
    refine x_putI d_Mod_miss_21 fl_Mod_28 (fun r hr => by cases hr; rfl) gI_516_8 (VOk_int _) ?_
    refine r_iload_n d_Mod_miss_24 rfl ?_
    exact r_iret ⟨d_Mod_miss_25, _, rfl, rfl⟩ ⟨_, _, rfl, h9⟩
  · have h9 := h.2 (bI_p0 c_1)
    refine r_bipush (v := (-102)) d_Mod_miss_11 (by decide) ?_
    exact r_iret ⟨d_Mod_miss_13, _, rfl, rfl⟩ ⟨_, _, rfl, h9⟩
theorem L_Mod_mixChart_0 {xs : List Int32}  {M : Mem} {L : Int64} {Q : Option Value → Mem → Int64 → Prop} 
    (h : RX xs shL md_Mod_mixChart 20 [.ref 516, .int 0, .null] [] M (31 * (31 * L + ((M 516 9 : Int32).toInt64)) + ((M 516 10 : Int32).toInt64)) Q) : RX xs shL md_Mod_mixChart 0 [.ref 516] [] M L Q := by
  refine r_weak (lv' := [.ref 516, .null, .null]) (by repeat (first | exact trivial | refine ⟨rfl, ?_⟩ | exact lle_nil)) ?_
  refine r_aload_n d_Mod_mixChart_0 rfl ?_
  refine r_aload_n d_Mod_mixChart_1 rfl ?_
  refine x_getI d_Mod_mixChart_2 fl_Mod_32 gI_516_9 ?_
  refine r_i2l d_Mod_mixChart_5 ?_
  refine x_callV (as := [.long ((M 516 9 : Int32).toInt64)]) (st := []) d_Mod_mixChart_6 ml_Mod_287 mc_Mod_mix mv_Mod_mix ⟨by decide, by decide⟩ gO_516 ⟨_, rfl, rfl⟩ rfl (Nat.le_of_ble_eq_true rfl) (Nat.le_of_ble_eq_true rfl) (Q1 := fun r M1 L1 => none = r ∧ M = M1 ∧ 31 * L + ((M 516 9 : Int32).toInt64) = L1) (L_Mod_mix_0 ⟨rfl, rfl, rfl⟩) ?_
  rintro _ _ _ ⟨rfl, rfl, rfl⟩
  refine r_aload_n d_Mod_mixChart_9 rfl ?_
  refine r_aload_n d_Mod_mixChart_10 rfl ?_
  refine x_getI d_Mod_mixChart_11 fl_Mod_35 gI_516_10 ?_
  refine r_i2l d_Mod_mixChart_14 ?_
  refine x_callV (as := [.long ((M 516 10 : Int32).toInt64)]) (st := []) d_Mod_mixChart_15 ml_Mod_287 mc_Mod_mix mv_Mod_mix ⟨by decide, by decide⟩ gO_516 ⟨_, rfl, rfl⟩ rfl (Nat.le_of_ble_eq_true rfl) (Nat.le_of_ble_eq_true rfl) (Q1 := fun r M1 L1 => none = r ∧ M = M1 ∧ 31 * (31 * L + ((M 516 9 : Int32).toInt64)) + ((M 516 10 : Int32).toInt64) = L1) (L_Mod_mix_0 ⟨rfl, rfl, rfl⟩) ?_
  rintro _ _ _ ⟨rfl, rfl, rfl⟩
  refine r_iconst (v := 0) d_Mod_mixChart_18 (by decide) ?_
  refine r_istore_n d_Mod_mixChart_19 (by decide) ?_
  exact h
set_option maxHeartbeats 4000000 in
theorem L_Mod_mixChart_20 {xs : List Int32} {i1 : Int32} {M : Mem} {L : Int64} {Q : Option Value → Mem → Int64 → Prop} 
    (h : (((M 516 10) ≤ i1 → Q none M (31 * (31 * (31 * (31 * (31 * (31 * (31 * (31 * L + ((M 516 13 : Int32).toInt64)) + ((M 516 14 : Int32).toInt64)) + ((M 516 15 : Int32).toInt64)) + ((M 516 16 : Int32).toInt64)) + ((M 516 8 : Int32).toInt64)) + ((M 516 17 : Int32).toInt64)) + ((M 516 18 : Int32).toInt64)) + ((M 516 19 : Int32).toInt64))) ∧ (¬ ((M 516 10) ≤ i1) → RX xs shL md_Mod_mixChart 30 [.ref 516, .int i1, .int 0] [] M L Q))) : RX xs shL md_Mod_mixChart 20 [.ref 516, .int i1, .null] [] M L Q := by
  refine r_iload_n d_Mod_mixChart_20 rfl ?_
  refine r_aload_n d_Mod_mixChart_21 rfl ?_
  refine x_getI d_Mod_mixChart_22 fl_Mod_35 gI_516_10 ?_
  refine r_ic_ge d_Mod_mixChart_25 (fun c_1 => ?_) (fun c_1 => ?_)
  · have h9 := h.1 c_1
    refine r_aload_n d_Mod_mixChart_87 rfl ?_
    refine r_aload_n d_Mod_mixChart_88 rfl ?_
    refine x_getI d_Mod_mixChart_89 fl_Mod_156 gI_516_13 ?_
    refine r_i2l d_Mod_mixChart_92 ?_
    refine x_callV (as := [.long ((M 516 13 : Int32).toInt64)]) (st := []) d_Mod_mixChart_93 ml_Mod_287 mc_Mod_mix mv_Mod_mix ⟨by decide, by decide⟩ gO_516 ⟨_, rfl, rfl⟩ rfl (Nat.le_of_ble_eq_true rfl) (Nat.le_of_ble_eq_true rfl) (Q1 := fun r M1 L1 => none = r ∧ M = M1 ∧ 31 * L + ((M 516 13 : Int32).toInt64) = L1) (L_Mod_mix_0 ⟨rfl, rfl, rfl⟩) ?_
    rintro _ _ _ ⟨rfl, rfl, rfl⟩
    refine r_aload_n d_Mod_mixChart_96 rfl ?_
    refine r_aload_n d_Mod_mixChart_97 rfl ?_
    refine x_getI d_Mod_mixChart_98 fl_Mod_159 gI_516_14 ?_
    refine r_i2l d_Mod_mixChart_101 ?_
    refine x_callV (as := [.long ((M 516 14 : Int32).toInt64)]) (st := []) d_Mod_mixChart_102 ml_Mod_287 mc_Mod_mix mv_Mod_mix ⟨by decide, by decide⟩ gO_516 ⟨_, rfl, rfl⟩ rfl (Nat.le_of_ble_eq_true rfl) (Nat.le_of_ble_eq_true rfl) (Q1 := fun r M1 L1 => none = r ∧ M = M1 ∧ 31 * (31 * L + ((M 516 13 : Int32).toInt64)) + ((M 516 14 : Int32).toInt64) = L1) (L_Mod_mix_0 ⟨rfl, rfl, rfl⟩) ?_
    rintro _ _ _ ⟨rfl, rfl, rfl⟩
    refine r_aload_n d_Mod_mixChart_105 rfl ?_
    refine r_aload_n d_Mod_mixChart_106 rfl ?_
    refine x_getI d_Mod_mixChart_107 fl_Mod_162 gI_516_15 ?_
    refine r_i2l d_Mod_mixChart_110 ?_
    refine x_callV (as := [.long ((M 516 15 : Int32).toInt64)]) (st := []) d_Mod_mixChart_111 ml_Mod_287 mc_Mod_mix mv_Mod_mix ⟨by decide, by decide⟩ gO_516 ⟨_, rfl, rfl⟩ rfl (Nat.le_of_ble_eq_true rfl) (Nat.le_of_ble_eq_true rfl) (Q1 := fun r M1 L1 => none = r ∧ M = M1 ∧ 31 * (31 * (31 * L + ((M 516 13 : Int32).toInt64)) + ((M 516 14 : Int32).toInt64)) + ((M 516 15 : Int32).toInt64) = L1) (L_Mod_mix_0 ⟨rfl, rfl, rfl⟩) ?_
    rintro _ _ _ ⟨rfl, rfl, rfl⟩
    refine r_aload_n d_Mod_mixChart_114 rfl ?_
    refine r_aload_n d_Mod_mixChart_115 rfl ?_
    refine x_getI d_Mod_mixChart_116 fl_Mod_165 gI_516_16 ?_
    refine r_i2l d_Mod_mixChart_119 ?_
    refine x_callV (as := [.long ((M 516 16 : Int32).toInt64)]) (st := []) d_Mod_mixChart_120 ml_Mod_287 mc_Mod_mix mv_Mod_mix ⟨by decide, by decide⟩ gO_516 ⟨_, rfl, rfl⟩ rfl (Nat.le_of_ble_eq_true rfl) (Nat.le_of_ble_eq_true rfl) (Q1 := fun r M1 L1 => none = r ∧ M = M1 ∧ 31 * (31 * (31 * (31 * L + ((M 516 13 : Int32).toInt64)) + ((M 516 14 : Int32).toInt64)) + ((M 516 15 : Int32).toInt64)) + ((M 516 16 : Int32).toInt64) = L1) (L_Mod_mix_0 ⟨rfl, rfl, rfl⟩) ?_
    rintro _ _ _ ⟨rfl, rfl, rfl⟩
    refine r_aload_n d_Mod_mixChart_123 rfl ?_
    refine r_aload_n d_Mod_mixChart_124 rfl ?_
    refine x_getI d_Mod_mixChart_125 fl_Mod_28 gI_516_8 ?_
    refine r_i2l d_Mod_mixChart_128 ?_
    refine x_callV (as := [.long ((M 516 8 : Int32).toInt64)]) (st := []) d_Mod_mixChart_129 ml_Mod_287 mc_Mod_mix mv_Mod_mix ⟨by decide, by decide⟩ gO_516 ⟨_, rfl, rfl⟩ rfl (Nat.le_of_ble_eq_true rfl) (Nat.le_of_ble_eq_true rfl) (Q1 := fun r M1 L1 => none = r ∧ M = M1 ∧ 31 * (31 * (31 * (31 * (31 * L + ((M 516 13 : Int32).toInt64)) + ((M 516 14 : Int32).toInt64)) + ((M 516 15 : Int32).toInt64)) + ((M 516 16 : Int32).toInt64)) + ((M 516 8 : Int32).toInt64) = L1) (L_Mod_mix_0 ⟨rfl, rfl, rfl⟩) ?_
    rintro _ _ _ ⟨rfl, rfl, rfl⟩
    refine r_aload_n d_Mod_mixChart_132 rfl ?_
    refine r_aload_n d_Mod_mixChart_133 rfl ?_
    refine x_getI d_Mod_mixChart_134 fl_Mod_66 gI_516_17 ?_
    refine r_i2l d_Mod_mixChart_137 ?_
    refine x_callV (as := [.long ((M 516 17 : Int32).toInt64)]) (st := []) d_Mod_mixChart_138 ml_Mod_287 mc_Mod_mix mv_Mod_mix ⟨by decide, by decide⟩ gO_516 ⟨_, rfl, rfl⟩ rfl (Nat.le_of_ble_eq_true rfl) (Nat.le_of_ble_eq_true rfl) (Q1 := fun r M1 L1 => none = r ∧ M = M1 ∧ 31 * (31 * (31 * (31 * (31 * (31 * L + ((M 516 13 : Int32).toInt64)) + ((M 516 14 : Int32).toInt64)) + ((M 516 15 : Int32).toInt64)) + ((M 516 16 : Int32).toInt64)) + ((M 516 8 : Int32).toInt64)) + ((M 516 17 : Int32).toInt64) = L1) (L_Mod_mix_0 ⟨rfl, rfl, rfl⟩) ?_
    rintro _ _ _ ⟨rfl, rfl, rfl⟩
    refine r_aload_n d_Mod_mixChart_141 rfl ?_
    refine r_aload_n d_Mod_mixChart_142 rfl ?_
    refine x_getI d_Mod_mixChart_143 fl_Mod_69 gI_516_18 ?_
    refine r_i2l d_Mod_mixChart_146 ?_
    refine x_callV (as := [.long ((M 516 18 : Int32).toInt64)]) (st := []) d_Mod_mixChart_147 ml_Mod_287 mc_Mod_mix mv_Mod_mix ⟨by decide, by decide⟩ gO_516 ⟨_, rfl, rfl⟩ rfl (Nat.le_of_ble_eq_true rfl) (Nat.le_of_ble_eq_true rfl) (Q1 := fun r M1 L1 => none = r ∧ M = M1 ∧ 31 * (31 * (31 * (31 * (31 * (31 * (31 * L + ((M 516 13 : Int32).toInt64)) + ((M 516 14 : Int32).toInt64)) + ((M 516 15 : Int32).toInt64)) + ((M 516 16 : Int32).toInt64)) + ((M 516 8 : Int32).toInt64)) + ((M 516 17 : Int32).toInt64)) + ((M 516 18 : Int32).toInt64) = L1) (L_Mod_mix_0 ⟨rfl, rfl, rfl⟩) ?_
    rintro _ _ _ ⟨rfl, rfl, rfl⟩
    refine r_aload_n d_Mod_mixChart_150 rfl ?_
    refine r_aload_n d_Mod_mixChart_151 rfl ?_
    refine x_getI d_Mod_mixChart_152 fl_Mod_72 gI_516_19 ?_
    refine r_i2l d_Mod_mixChart_155 ?_
    refine x_callV (as := [.long ((M 516 19 : Int32).toInt64)]) (st := []) d_Mod_mixChart_156 ml_Mod_287 mc_Mod_mix mv_Mod_mix ⟨by decide, by decide⟩ gO_516 ⟨_, rfl, rfl⟩ rfl (Nat.le_of_ble_eq_true rfl) (Nat.le_of_ble_eq_true rfl) (Q1 := fun r M1 L1 => none = r ∧ M = M1 ∧ 31 * (31 * (31 * (31 * (31 * (31 * (31 * (31 * L + ((M 516 13 : Int32).toInt64)) + ((M 516 14 : Int32).toInt64)) + ((M 516 15 : Int32).toInt64)) + ((M 516 16 : Int32).toInt64)) + ((M 516 8 : Int32).toInt64)) + ((M 516 17 : Int32).toInt64)) + ((M 516 18 : Int32).toInt64)) + ((M 516 19 : Int32).toInt64) = L1) (L_Mod_mix_0 ⟨rfl, rfl, rfl⟩) ?_
    rintro _ _ _ ⟨rfl, rfl, rfl⟩
    exact r_vret ⟨d_Mod_mixChart_159, rfl⟩ ⟨M, 31 * (31 * (31 * (31 * (31 * (31 * (31 * (31 * L + ((M 516 13 : Int32).toInt64)) + ((M 516 14 : Int32).toInt64)) + ((M 516 15 : Int32).toInt64)) + ((M 516 16 : Int32).toInt64)) + ((M 516 8 : Int32).toInt64)) + ((M 516 17 : Int32).toInt64)) + ((M 516 18 : Int32).toInt64)) + ((M 516 19 : Int32).toInt64), rfl, h9⟩
  · have h9 := h.2 c_1
    refine r_iconst (v := 0) d_Mod_mixChart_28 (by decide) ?_
    refine r_istore_n d_Mod_mixChart_29 (by decide) ?_
    exact h9
theorem L_Mod_mixChart_30 {xs : List Int32} {i1 : Int32} {i2 : Int32} {M : Mem} {L : Int64} {Q : Option Value → Mem → Int64 → Prop} 
    (h : (((M 516 9) ≤ i2 → RX xs shL md_Mod_mixChart 20 [.ref 516, .int (i1 + 1), .null] [] M L Q) ∧ (¬ ((M 516 9) ≤ i2) → (vp_in (20 * i1 + i2) 400 ∧ (((M 524 ((20 * i1 + i2).toNatClampNeg)) = 0 → RX xs shL md_Mod_mixChart 30 [.ref 516, .int i1, .int (i2 + 1)] [] M (31 * (31 * L + ((M 523 ((20 * i1 + i2).toNatClampNeg) : Int32).toInt64)) + 0) Q) ∧ (¬ ((M 524 ((20 * i1 + i2).toNatClampNeg)) = 0) → RX xs shL md_Mod_mixChart 30 [.ref 516, .int i1, .int (i2 + 1)] [] M (31 * (31 * L + ((M 523 ((20 * i1 + i2).toNatClampNeg) : Int32).toInt64)) + 1) Q)))))) : RX xs shL md_Mod_mixChart 30 [.ref 516, .int i1, .int i2] [] M L Q := by
  refine r_iload_n d_Mod_mixChart_30 rfl ?_
  refine r_aload_n d_Mod_mixChart_31 rfl ?_
  refine x_getI d_Mod_mixChart_32 fl_Mod_32 gI_516_9 ?_
  refine r_ic_ge d_Mod_mixChart_35 (fun c_2 => ?_) (fun c_2 => ?_)
  · have h9 := h.1 c_2
    refine r_iinc (v := i1 + 1) d_Mod_mixChart_81 rfl rfl (by decide) ?_
    refine r_goto d_Mod_mixChart_84 ?_
    refine r_weak (lv' := [.ref 516, .int (i1 + 1), .null]) (by repeat (first | exact trivial | refine ⟨rfl, ?_⟩ | exact lle_nil)) ?_
    exact h9
  · have h9 := h.2 c_2
    refine r_aload_n d_Mod_mixChart_38 rfl ?_
    refine r_aload_n d_Mod_mixChart_39 rfl ?_
    refine x_getR d_Mod_mixChart_40 fl_Mod_38 gR_516_11 ?_
    refine r_iload_n d_Mod_mixChart_43 rfl ?_
    refine r_iload_n d_Mod_mixChart_44 rfl ?_
    refine x_callS (as := [.int i2, .int i1]) (st := [.ref 523, .ref 516]) d_Mod_mixChart_45 ml_Mod_147 mc_Mod_at ms_Mod_at ⟨by decide, by decide⟩ rfl (Nat.le_of_ble_eq_true rfl) (Nat.le_of_ble_eq_true rfl) (Q1 := fun r M1 L1 => some (.int (20 * i1 + i2)) = r ∧ M = M1 ∧ L = L1) (s_Mod_at ⟨rfl, rfl, rfl⟩) ?_
    rintro _ _ _ ⟨rfl, rfl, rfl⟩
    obtain ⟨o_3, h9⟩ := h9
    refine x_iald d_Mod_mixChart_48 aI_523 o_3 ?_
    refine r_i2l d_Mod_mixChart_49 ?_
    refine x_callV (as := [.long ((M 523 ((20 * i1 + i2).toNatClampNeg) : Int32).toInt64)]) (st := []) d_Mod_mixChart_50 ml_Mod_287 mc_Mod_mix mv_Mod_mix ⟨by decide, by decide⟩ gO_516 ⟨_, rfl, rfl⟩ rfl (Nat.le_of_ble_eq_true rfl) (Nat.le_of_ble_eq_true rfl) (Q1 := fun r M1 L1 => none = r ∧ M = M1 ∧ 31 * L + ((M 523 ((20 * i1 + i2).toNatClampNeg) : Int32).toInt64) = L1) (L_Mod_mix_0 ⟨rfl, rfl, rfl⟩) ?_
    rintro _ _ _ ⟨rfl, rfl, rfl⟩
    refine r_aload_n d_Mod_mixChart_53 rfl ?_
    refine r_aload_n d_Mod_mixChart_54 rfl ?_
    refine x_getR d_Mod_mixChart_55 fl_Mod_41 gR_516_12 ?_
    refine r_iload_n d_Mod_mixChart_58 rfl ?_
    refine r_iload_n d_Mod_mixChart_59 rfl ?_
    refine x_callS (as := [.int i2, .int i1]) (st := [.ref 524, .ref 516]) d_Mod_mixChart_60 ml_Mod_147 mc_Mod_at ms_Mod_at ⟨by decide, by decide⟩ rfl (Nat.le_of_ble_eq_true rfl) (Nat.le_of_ble_eq_true rfl) (Q1 := fun r M1 L1 => some (.int (20 * i1 + i2)) = r ∧ M = M1 ∧ 31 * L + ((M 523 ((20 * i1 + i2).toNatClampNeg) : Int32).toInt64) = L1) (s_Mod_at ⟨rfl, rfl, rfl⟩) ?_
    rintro _ _ _ ⟨rfl, rfl, rfl⟩
    refine x_zald d_Mod_mixChart_63 aZ_524 o_3 ?_
    refine r_if_eq d_Mod_mixChart_64 (fun c_4 => ?_) (fun c_4 => ?_)
    · have h9 := h9.1 c_4
      refine r_lconst (v := 0) d_Mod_mixChart_71 (by decide) ?_
      refine x_callV (as := [.long 0]) (st := []) d_Mod_mixChart_72 ml_Mod_287 mc_Mod_mix mv_Mod_mix ⟨by decide, by decide⟩ gO_516 ⟨_, rfl, rfl⟩ rfl (Nat.le_of_ble_eq_true rfl) (Nat.le_of_ble_eq_true rfl) (Q1 := fun r M1 L1 => none = r ∧ M = M1 ∧ 31 * (31 * L + ((M 523 ((20 * i1 + i2).toNatClampNeg) : Int32).toInt64)) + 0 = L1) (L_Mod_mix_0 ⟨rfl, rfl, rfl⟩) ?_
      rintro _ _ _ ⟨rfl, rfl, rfl⟩
      refine r_iinc (v := i2 + 1) d_Mod_mixChart_75 rfl rfl (by decide) ?_
      refine r_goto d_Mod_mixChart_78 ?_
      exact h9
    · have h9 := h9.2 c_4
      refine r_lconst (v := 1) d_Mod_mixChart_67 (by decide) ?_
      refine r_goto d_Mod_mixChart_68 ?_
      refine x_callV (as := [.long 1]) (st := []) d_Mod_mixChart_72 ml_Mod_287 mc_Mod_mix mv_Mod_mix ⟨by decide, by decide⟩ gO_516 ⟨_, rfl, rfl⟩ rfl (Nat.le_of_ble_eq_true rfl) (Nat.le_of_ble_eq_true rfl) (Q1 := fun r M1 L1 => none = r ∧ M = M1 ∧ 31 * (31 * L + ((M 523 ((20 * i1 + i2).toNatClampNeg) : Int32).toInt64)) + 1 = L1) (L_Mod_mix_0 ⟨rfl, rfl, rfl⟩) ?_
      rintro _ _ _ ⟨rfl, rfl, rfl⟩
      refine r_iinc (v := i2 + 1) d_Mod_mixChart_75 rfl rfl (by decide) ?_
      refine r_goto d_Mod_mixChart_78 ?_
      exact h9
theorem L_Mod_mixWatch_0 {xs : List Int32} {i1 : Int32} {M : Mem} {L : Int64} {Q : Option Value → Mem → Int64 → Prop} 
    (h : RX xs shL md_Mod_mixWatch 2 [.ref 516, .int i1, .int 0] [] M L Q) : RX xs shL md_Mod_mixWatch 0 [.ref 516, .int i1] [] M L Q := by
  refine r_weak (lv' := [.ref 516, .int i1, .null]) (by repeat (first | exact trivial | refine ⟨rfl, ?_⟩ | exact lle_nil)) ?_
  refine r_iconst (v := 0) d_Mod_mixWatch_0 (by decide) ?_
  refine r_istore_n d_Mod_mixWatch_1 (by decide) ?_
  exact h
theorem L_Mod_mixWatch_2 {xs : List Int32} {i1 : Int32} {i2 : Int32} {M : Mem} {L : Int64} {Q : Option Value → Mem → Int64 → Prop} 
    (h : ((8 ≤ i2 → RX xs shL md_Mod_mixWatch 32 [.ref 516, .int i1, .int 0] [] M L Q) ∧ (¬ (8 ≤ i2) → (vp_in ((8 * i1) + i2) 192 ∧ RX xs shL md_Mod_mixWatch 2 [.ref 516, .int i1, .int (i2 + 1)] [] M (31 * L + ((M 520 (((8 * i1) + i2).toNatClampNeg) : Int32).toInt64)) Q)))) : RX xs shL md_Mod_mixWatch 2 [.ref 516, .int i1, .int i2] [] M L Q := by
  refine r_iload_n d_Mod_mixWatch_2 rfl ?_
  refine r_bipush (v := 8) d_Mod_mixWatch_3 (by decide) ?_
  refine r_ic_ge d_Mod_mixWatch_5 (fun c_1 => ?_) (fun c_1 => ?_)
  · have h9 := h.1 c_1
    refine r_iconst (v := 0) d_Mod_mixWatch_30 (by decide) ?_
    refine r_istore_n d_Mod_mixWatch_31 (by decide) ?_
    exact h9
  · have h9 := h.2 c_1
    refine r_aload_n d_Mod_mixWatch_8 rfl ?_
    refine r_aload_n d_Mod_mixWatch_9 rfl ?_
    refine x_getR d_Mod_mixWatch_10 fl_Mod_19 gR_516_5 ?_
    refine r_bipush (v := 8) d_Mod_mixWatch_13 (by decide) ?_
    refine r_iload_n d_Mod_mixWatch_15 rfl ?_
    refine r_imul d_Mod_mixWatch_16 ?_
    refine r_iload_n d_Mod_mixWatch_17 rfl ?_
    refine r_iadd d_Mod_mixWatch_18 ?_
    obtain ⟨o_2, h9⟩ := h9
    refine x_iald d_Mod_mixWatch_19 aI_520 o_2 ?_
    refine r_i2l d_Mod_mixWatch_20 ?_
    refine x_callV (as := [.long ((M 520 (((8 * i1) + i2).toNatClampNeg) : Int32).toInt64)]) (st := []) d_Mod_mixWatch_21 ml_Mod_287 mc_Mod_mix mv_Mod_mix ⟨by decide, by decide⟩ gO_516 ⟨_, rfl, rfl⟩ rfl (Nat.le_of_ble_eq_true rfl) (Nat.le_of_ble_eq_true rfl) (Q1 := fun r M1 L1 => none = r ∧ M = M1 ∧ 31 * L + ((M 520 (((8 * i1) + i2).toNatClampNeg) : Int32).toInt64) = L1) (L_Mod_mix_0 ⟨rfl, rfl, rfl⟩) ?_
    rintro _ _ _ ⟨rfl, rfl, rfl⟩
    refine r_iinc (v := i2 + 1) d_Mod_mixWatch_24 rfl rfl (by decide) ?_
    refine r_goto d_Mod_mixWatch_27 ?_
    exact h9
theorem L_Mod_mixWatch_32 {xs : List Int32} {i1 : Int32} {i2 : Int32} {M : Mem} {L : Int64} {Q : Option Value → Mem → Int64 → Prop} 
    (h : ((4 ≤ i2 → RX xs shL md_Mod_mixWatch 60 [.ref 516, .int i1, .int 0] [] M L Q) ∧ (¬ (4 ≤ i2) → (vp_in ((4 * i1) + i2) 96 ∧ RX xs shL md_Mod_mixWatch 32 [.ref 516, .int i1, .int (i2 + 1)] [] M (31 * L + ((M 521 (((4 * i1) + i2).toNatClampNeg) : Int32).toInt64)) Q)))) : RX xs shL md_Mod_mixWatch 32 [.ref 516, .int i1, .int i2] [] M L Q := by
  refine r_iload_n d_Mod_mixWatch_32 rfl ?_
  refine r_iconst (v := 4) d_Mod_mixWatch_33 (by decide) ?_
  refine r_ic_ge d_Mod_mixWatch_34 (fun c_3 => ?_) (fun c_3 => ?_)
  · have h9 := h.1 c_3
    refine r_iconst (v := 0) d_Mod_mixWatch_58 (by decide) ?_
    refine r_istore_n d_Mod_mixWatch_59 (by decide) ?_
    exact h9
  · have h9 := h.2 c_3
    refine r_aload_n d_Mod_mixWatch_37 rfl ?_
    refine r_aload_n d_Mod_mixWatch_38 rfl ?_
    refine x_getR d_Mod_mixWatch_39 fl_Mod_22 gR_516_6 ?_
    refine r_iconst (v := 4) d_Mod_mixWatch_42 (by decide) ?_
    refine r_iload_n d_Mod_mixWatch_43 rfl ?_
    refine r_imul d_Mod_mixWatch_44 ?_
    refine r_iload_n d_Mod_mixWatch_45 rfl ?_
    refine r_iadd d_Mod_mixWatch_46 ?_
    obtain ⟨o_4, h9⟩ := h9
    refine x_iald d_Mod_mixWatch_47 aI_521 o_4 ?_
    refine r_i2l d_Mod_mixWatch_48 ?_
    refine x_callV (as := [.long ((M 521 (((4 * i1) + i2).toNatClampNeg) : Int32).toInt64)]) (st := []) d_Mod_mixWatch_49 ml_Mod_287 mc_Mod_mix mv_Mod_mix ⟨by decide, by decide⟩ gO_516 ⟨_, rfl, rfl⟩ rfl (Nat.le_of_ble_eq_true rfl) (Nat.le_of_ble_eq_true rfl) (Q1 := fun r M1 L1 => none = r ∧ M = M1 ∧ 31 * L + ((M 521 (((4 * i1) + i2).toNatClampNeg) : Int32).toInt64) = L1) (L_Mod_mix_0 ⟨rfl, rfl, rfl⟩) ?_
    rintro _ _ _ ⟨rfl, rfl, rfl⟩
    refine r_iinc (v := i2 + 1) d_Mod_mixWatch_52 rfl rfl (by decide) ?_
    refine r_goto d_Mod_mixWatch_55 ?_
    exact h9
theorem L_Mod_mixWatch_60 {xs : List Int32} {i1 : Int32} {i2 : Int32} {M : Mem} {L : Int64} {Q : Option Value → Mem → Int64 → Prop} 
    (h : ((3 ≤ i2 → Q none M L) ∧ (¬ (3 ≤ i2) → (vp_in ((3 * i1) + i2) 72 ∧ RX xs shL md_Mod_mixWatch 60 [.ref 516, .int i1, .int (i2 + 1)] [] M (31 * L + ((M 522 (((3 * i1) + i2).toNatClampNeg) : Int32).toInt64)) Q)))) : RX xs shL md_Mod_mixWatch 60 [.ref 516, .int i1, .int i2] [] M L Q := by
  refine r_iload_n d_Mod_mixWatch_60 rfl ?_
  refine r_iconst (v := 3) d_Mod_mixWatch_61 (by decide) ?_
  refine r_ic_ge d_Mod_mixWatch_62 (fun c_5 => ?_) (fun c_5 => ?_)
  · have h9 := h.1 c_5
    exact r_vret ⟨d_Mod_mixWatch_86, rfl⟩ ⟨M, L, rfl, h9⟩
  · have h9 := h.2 c_5
    refine r_aload_n d_Mod_mixWatch_65 rfl ?_
    refine r_aload_n d_Mod_mixWatch_66 rfl ?_
    refine x_getR d_Mod_mixWatch_67 fl_Mod_25 gR_516_7 ?_
    refine r_iconst (v := 3) d_Mod_mixWatch_70 (by decide) ?_
    refine r_iload_n d_Mod_mixWatch_71 rfl ?_
    refine r_imul d_Mod_mixWatch_72 ?_
    refine r_iload_n d_Mod_mixWatch_73 rfl ?_
    refine r_iadd d_Mod_mixWatch_74 ?_
    obtain ⟨o_6, h9⟩ := h9
    refine x_iald d_Mod_mixWatch_75 aI_522 o_6 ?_
    refine r_i2l d_Mod_mixWatch_76 ?_
    refine x_callV (as := [.long ((M 522 (((3 * i1) + i2).toNatClampNeg) : Int32).toInt64)]) (st := []) d_Mod_mixWatch_77 ml_Mod_287 mc_Mod_mix mv_Mod_mix ⟨by decide, by decide⟩ gO_516 ⟨_, rfl, rfl⟩ rfl (Nat.le_of_ble_eq_true rfl) (Nat.le_of_ble_eq_true rfl) (Q1 := fun r M1 L1 => none = r ∧ M = M1 ∧ 31 * L + ((M 522 (((3 * i1) + i2).toNatClampNeg) : Int32).toInt64) = L1) (L_Mod_mix_0 ⟨rfl, rfl, rfl⟩) ?_
    rintro _ _ _ ⟨rfl, rfl, rfl⟩
    refine r_iinc (v := i2 + 1) d_Mod_mixWatch_80 rfl rfl (by decide) ?_
    refine r_goto d_Mod_mixWatch_83 ?_
    exact h9
theorem L_Mod_northHigh_0 {xs : List Int32}  {M : Mem} {L : Int64} {Q : Option Value → Mem → Int64 → Prop} 
    (h : Q (some (.int (-(dwn (-(((M 516 27) + (M 516 16)) + (M 516 28))) 8000)))) M L) : RX xs shL md_Mod_northHigh 0 [.ref 516] [] M L Q := by
  refine r_aload_n d_Mod_northHigh_0 rfl ?_
  refine x_getI d_Mod_northHigh_1 fl_Mod_125 gI_516_27 ?_
  refine r_aload_n d_Mod_northHigh_4 rfl ?_
  refine x_getI d_Mod_northHigh_5 fl_Mod_165 gI_516_16 ?_
  refine r_iadd d_Mod_northHigh_8 ?_
  refine r_aload_n d_Mod_northHigh_9 rfl ?_
  refine x_getI d_Mod_northHigh_10 fl_Mod_128 gI_516_28 ?_
  refine r_iadd d_Mod_northHigh_13 ?_
  refine r_ineg d_Mod_northHigh_14 ?_
  refine r_sipush (v := 8000) d_Mod_northHigh_15 (by decide) ?_
  refine x_callS (as := [.int (-(((M 516 27) + (M 516 16)) + (M 516 28))), .int 8000]) (st := []) d_Mod_northHigh_18 ml_Mod_131 mc_Mod_down ms_Mod_down ⟨by decide, by decide⟩ rfl (Nat.le_of_ble_eq_true rfl) (Nat.le_of_ble_eq_true rfl) (Q1 := fun r M1 L1 => some (.int (dwn (-(((M 516 27) + (M 516 16)) + (M 516 28))) 8000)) = r ∧ M = M1 ∧ L = L1) (s_Mod_down (by decide) ⟨rfl, rfl, rfl⟩) ?_
  rintro _ _ _ ⟨rfl, rfl, rfl⟩
  refine r_ineg d_Mod_northHigh_21 ?_
  exact r_iret ⟨d_Mod_northHigh_22, _, rfl, rfl⟩ ⟨_, _, rfl, h⟩
theorem L_Mod_northLow_0 {xs : List Int32}  {M : Mem} {L : Int64} {Q : Option Value → Mem → Int64 → Prop} 
    (h : Q (some (.int (dwn (((M 516 27) + (M 516 15)) - (M 516 28)) 8000))) M L) : RX xs shL md_Mod_northLow 0 [.ref 516] [] M L Q := by
  refine r_aload_n d_Mod_northLow_0 rfl ?_
  refine x_getI d_Mod_northLow_1 fl_Mod_125 gI_516_27 ?_
  refine r_aload_n d_Mod_northLow_4 rfl ?_
  refine x_getI d_Mod_northLow_5 fl_Mod_162 gI_516_15 ?_
  refine r_iadd d_Mod_northLow_8 ?_
  refine r_aload_n d_Mod_northLow_9 rfl ?_
  refine x_getI d_Mod_northLow_10 fl_Mod_128 gI_516_28 ?_
  refine r_isub d_Mod_northLow_13 ?_
  refine r_sipush (v := 8000) d_Mod_northLow_14 (by decide) ?_
  refine x_callS (as := [.int (((M 516 27) + (M 516 15)) - (M 516 28)), .int 8000]) (st := []) d_Mod_northLow_17 ml_Mod_131 mc_Mod_down ms_Mod_down ⟨by decide, by decide⟩ rfl (Nat.le_of_ble_eq_true rfl) (Nat.le_of_ble_eq_true rfl) (Q1 := fun r M1 L1 => some (.int (dwn (((M 516 27) + (M 516 15)) - (M 516 28)) 8000)) = r ∧ M = M1 ∧ L = L1) (s_Mod_down (by decide) ⟨rfl, rfl, rfl⟩) ?_
  rintro _ _ _ ⟨rfl, rfl, rfl⟩
  exact r_iret ⟨d_Mod_northLow_20, _, rfl, rfl⟩ ⟨_, _, rfl, h⟩
theorem L_Mod_sign_0 {xs : List Int32} {i1 : Int32} {i2 : Int32} {i3 : Int32} {M : Mem} {L : Int64} {Q : Option Value → Mem → Int64 → Prop} 
    (h : ((((0 : Int32) ≤ i1 ∧ i1 ≤ 5) → ((i1 = 0 → RX xs shL md_Mod_sign 28 [.ref 516, .int i1, .int i2, .int i3, .int 1, .null, .null] [] M L Q) ∧ (¬ (i1 = 0) → ((i1 = 4 → RX xs shL md_Mod_sign 28 [.ref 516, .int i1, .int i2, .int i3, .int 1, .null, .null] [] M L Q) ∧ (¬ (i1 = 4) → RX xs shL md_Mod_sign 28 [.ref 516, .int i1, .int i2, .int i3, .int 0, .null, .null] [] M L Q))))) ∧ (¬ ((0 : Int32) ≤ i1 ∧ i1 ≤ 5) → Q (some (.int (-102))) M L))) : RX xs shL md_Mod_sign 0 [.ref 516, .int i1, .int i2, .int i3] [] M L Q := by
  refine r_weak (lv' := [.ref 516, .int i1, .int i2, .int i3, .null, .null, .null]) (by repeat (first | exact trivial | refine ⟨rfl, ?_⟩ | exact lle_nil)) ?_
  refine r_iload_n d_Mod_sign_0 rfl ?_
  refine r_iconst (v := 0) d_Mod_sign_1 (by decide) ?_
  refine r_iconst (v := 5) d_Mod_sign_2 (by decide) ?_
  refine x_callS (as := [.int i1, .int 0, .int 5]) (st := []) d_Mod_sign_3 ml_Mod_75 mc_Mod_in ms_Mod_in ⟨by decide, by decide⟩ rfl (Nat.le_of_ble_eq_true rfl) (Nat.le_of_ble_eq_true rfl) (Q1 := fun r M1 L1 => some (.int (bI ((0 : Int32) ≤ i1 ∧ i1 ≤ 5))) = r ∧ M = M1 ∧ L = L1) (s_Mod_in ⟨rfl, rfl, rfl⟩) ?_
  rintro _ _ _ ⟨rfl, rfl, rfl⟩
  refine r_if_ne d_Mod_sign_6 (fun c_1 => ?_) (fun c_1 => ?_)
  · have h9 := h.1 (bI_p1 c_1)
    refine r_iload_n d_Mod_sign_12 rfl ?_
    refine r_if_eq d_Mod_sign_13 (fun c_2 => ?_) (fun c_2 => ?_)
    · have h9 := h9.1 c_2
      refine r_iconst (v := 1) d_Mod_sign_21 (by decide) ?_
      refine r_goto d_Mod_sign_22 ?_
      refine r_istore d_Mod_sign_26 (by decide) ?_
      exact h9
    · have h9 := h9.2 c_2
      refine r_iload_n d_Mod_sign_16 rfl ?_
      refine r_iconst (v := 4) d_Mod_sign_17 (by decide) ?_
      refine r_ic_ne d_Mod_sign_18 (fun c_3 => ?_) (fun c_3 => ?_)
      · have h9 := h9.2 c_3
        refine r_iconst (v := 0) d_Mod_sign_25 (by decide) ?_
        refine r_istore d_Mod_sign_26 (by decide) ?_
        exact h9
      · have h9 := h9.1 c_3
        refine r_iconst (v := 1) d_Mod_sign_21 (by decide) ?_
        refine r_goto d_Mod_sign_22 ?_
        refine r_istore d_Mod_sign_26 (by decide) ?_
        exact h9
  · have h9 := h.2 (bI_p0 c_1)
    refine r_bipush (v := (-102)) d_Mod_sign_9 (by decide) ?_
    exact r_iret ⟨d_Mod_sign_11, _, rfl, rfl⟩ ⟨_, _, rfl, h9⟩
theorem L_Mod_sign_28 {xs : List Int32} {i1 : Int32} {i2 : Int32} {i3 : Int32} {i4 : Int32} {M : Mem} {L : Int64} {Q : Option Value → Mem → Int64 → Prop} 
    (h : ((i1 = 3 → RX xs shL md_Mod_sign 40 [.ref 516, .int i1, .int i2, .int i3, .int i4, .int 0, .null] [] M L Q) ∧ (¬ (i1 = 3) → RX xs shL md_Mod_sign 40 [.ref 516, .int i1, .int i2, .int i3, .int i4, .int 1, .null] [] M L Q))) : RX xs shL md_Mod_sign 28 [.ref 516, .int i1, .int i2, .int i3, .int i4, .null, .null] [] M L Q := by
  refine r_iload_n d_Mod_sign_28 rfl ?_
  refine r_iconst (v := 3) d_Mod_sign_29 (by decide) ?_
  refine r_ic_eq d_Mod_sign_30 (fun c_4 => ?_) (fun c_4 => ?_)
  · have h9 := h.1 c_4
    refine r_iconst (v := 0) d_Mod_sign_37 (by decide) ?_
    refine r_istore d_Mod_sign_38 (by decide) ?_
    exact h9
  · have h9 := h.2 c_4
    refine r_iconst (v := 1) d_Mod_sign_33 (by decide) ?_
    refine r_goto d_Mod_sign_34 ?_
    refine r_istore d_Mod_sign_38 (by decide) ?_
    exact h9
theorem L_Mod_sign_40 {xs : List Int32} {i1 : Int32} {i2 : Int32} {i3 : Int32} {i4 : Int32} {i5 : Int32} {M : Mem} {L : Int64} {Q : Option Value → Mem → Int64 → Prop} 
    (h : ((i1 = 2 → RX xs shL md_Mod_sign 59 [.ref 516, .int i1, .int i2, .int i3, .int i4, .int i5, .int 8] [] M L Q) ∧ (¬ (i1 = 2) → ((i1 = 5 → RX xs shL md_Mod_sign 59 [.ref 516, .int i1, .int i2, .int i3, .int i4, .int i5, .int 8] [] M L Q) ∧ (¬ (i1 = 5) → RX xs shL md_Mod_sign 59 [.ref 516, .int i1, .int i2, .int i3, .int i4, .int i5, .int 99] [] M L Q))))) : RX xs shL md_Mod_sign 40 [.ref 516, .int i1, .int i2, .int i3, .int i4, .int i5, .null] [] M L Q := by
  refine r_iload_n d_Mod_sign_40 rfl ?_
  refine r_iconst (v := 2) d_Mod_sign_41 (by decide) ?_
  refine r_ic_eq d_Mod_sign_42 (fun c_5 => ?_) (fun c_5 => ?_)
  · have h9 := h.1 c_5
    refine r_bipush (v := 8) d_Mod_sign_50 (by decide) ?_
    refine r_goto d_Mod_sign_52 ?_
    refine r_istore d_Mod_sign_57 (by decide) ?_
    exact h9
  · have h9 := h.2 c_5
    refine r_iload_n d_Mod_sign_45 rfl ?_
    refine r_iconst (v := 5) d_Mod_sign_46 (by decide) ?_
    refine r_ic_ne d_Mod_sign_47 (fun c_6 => ?_) (fun c_6 => ?_)
    · have h9 := h9.2 c_6
      refine r_bipush (v := 99) d_Mod_sign_55 (by decide) ?_
      refine r_istore d_Mod_sign_57 (by decide) ?_
      exact h9
    · have h9 := h9.1 c_6
      refine r_bipush (v := 8) d_Mod_sign_50 (by decide) ?_
      refine r_goto d_Mod_sign_52 ?_
      refine r_istore d_Mod_sign_57 (by decide) ?_
      exact h9
theorem L_Mod_sign_59 {xs : List Int32} {i1 : Int32} {i2 : Int32} {i3 : Int32} {i4 : Int32} {i5 : Int32} {i6 : Int32} {M : Mem} {L : Int64} {Q : Option Value → Mem → Int64 → Prop} 
    (h : ((i5 = 0 → ((i4 = 0 → RX xs shL md_Mod_sign 92 [.ref 516, .int i1, .int i2, .int i3, .int i4, .int i5, .null] [] M L Q) ∧ (¬ (i4 = 0) → (((i2 ≤ i3 ∧ i3 ≤ 99) → RX xs shL md_Mod_sign 92 [.ref 516, .int i1, .int i2, .int i3, .int i4, .int i5, .null] [] M L Q) ∧ (¬ (i2 ≤ i3 ∧ i3 ≤ 99) → Q (some (.int (-102))) M L))))) ∧ (¬ (i5 = 0) → ((((0 : Int32) ≤ i2 ∧ i2 ≤ i6) → ((i4 = 0 → RX xs shL md_Mod_sign 92 [.ref 516, .int i1, .int i2, .int i3, .int i4, .int i5, .null] [] M L Q) ∧ (¬ (i4 = 0) → (((i2 ≤ i3 ∧ i3 ≤ 99) → RX xs shL md_Mod_sign 92 [.ref 516, .int i1, .int i2, .int i3, .int i4, .int i5, .null] [] M L Q) ∧ (¬ (i2 ≤ i3 ∧ i3 ≤ 99) → Q (some (.int (-102))) M L))))) ∧ (¬ ((0 : Int32) ≤ i2 ∧ i2 ≤ i6) → Q (some (.int (-102))) M L))))) : RX xs shL md_Mod_sign 59 [.ref 516, .int i1, .int i2, .int i3, .int i4, .int i5, .int i6] [] M L Q := by
  refine r_iload d_Mod_sign_59 rfl ?_
  refine r_if_eq d_Mod_sign_61 (fun c_7 => ?_) (fun c_7 => ?_)
  · have h9 := h.1 c_7
    refine r_iload d_Mod_sign_74 rfl ?_
    refine r_if_eq d_Mod_sign_76 (fun c_8 => ?_) (fun c_8 => ?_)
    · have h9 := h9.1 c_8
      refine r_weak (lv' := [.ref 516, .int i1, .int i2, .int i3, .int i4, .int i5, .null]) (by repeat (first | exact trivial | refine ⟨rfl, ?_⟩ | exact lle_nil)) ?_
      exact h9
    · have h9 := h9.2 c_8
      refine r_iload_n d_Mod_sign_79 rfl ?_
      refine r_iload_n d_Mod_sign_80 rfl ?_
      refine r_bipush (v := 99) d_Mod_sign_81 (by decide) ?_
      refine x_callS (as := [.int i3, .int i2, .int 99]) (st := []) d_Mod_sign_83 ml_Mod_75 mc_Mod_in ms_Mod_in ⟨by decide, by decide⟩ rfl (Nat.le_of_ble_eq_true rfl) (Nat.le_of_ble_eq_true rfl) (Q1 := fun r M1 L1 => some (.int (bI (i2 ≤ i3 ∧ i3 ≤ 99))) = r ∧ M = M1 ∧ L = L1) (s_Mod_in ⟨rfl, rfl, rfl⟩) ?_
      rintro _ _ _ ⟨rfl, rfl, rfl⟩
      refine r_if_ne d_Mod_sign_86 (fun c_9 => ?_) (fun c_9 => ?_)
      · have h9 := h9.1 (bI_p1 c_9)
        refine r_weak (lv' := [.ref 516, .int i1, .int i2, .int i3, .int i4, .int i5, .null]) (by repeat (first | exact trivial | refine ⟨rfl, ?_⟩ | exact lle_nil)) ?_
        exact h9
      · have h9 := h9.2 (bI_p0 c_9)
        refine r_bipush (v := (-102)) d_Mod_sign_89 (by decide) ?_
        exact r_iret ⟨d_Mod_sign_91, _, rfl, rfl⟩ ⟨_, _, rfl, h9⟩
  · have h9 := h.2 c_7
    refine r_iload_n d_Mod_sign_64 rfl ?_
    refine r_iconst (v := 0) d_Mod_sign_65 (by decide) ?_
    refine r_iload d_Mod_sign_66 rfl ?_
    refine x_callS (as := [.int i2, .int 0, .int i6]) (st := []) d_Mod_sign_68 ml_Mod_75 mc_Mod_in ms_Mod_in ⟨by decide, by decide⟩ rfl (Nat.le_of_ble_eq_true rfl) (Nat.le_of_ble_eq_true rfl) (Q1 := fun r M1 L1 => some (.int (bI ((0 : Int32) ≤ i2 ∧ i2 ≤ i6))) = r ∧ M = M1 ∧ L = L1) (s_Mod_in ⟨rfl, rfl, rfl⟩) ?_
    rintro _ _ _ ⟨rfl, rfl, rfl⟩
    refine r_if_eq d_Mod_sign_71 (fun c_10 => ?_) (fun c_10 => ?_)
    · have h9 := h9.2 (bI_p0 c_10)
      refine r_bipush (v := (-102)) d_Mod_sign_89 (by decide) ?_
      exact r_iret ⟨d_Mod_sign_91, _, rfl, rfl⟩ ⟨_, _, rfl, h9⟩
    · have h9 := h9.1 (bI_p1 c_10)
      refine r_iload d_Mod_sign_74 rfl ?_
      refine r_if_eq d_Mod_sign_76 (fun c_11 => ?_) (fun c_11 => ?_)
      · have h9 := h9.1 c_11
        refine r_weak (lv' := [.ref 516, .int i1, .int i2, .int i3, .int i4, .int i5, .null]) (by repeat (first | exact trivial | refine ⟨rfl, ?_⟩ | exact lle_nil)) ?_
        exact h9
      · have h9 := h9.2 c_11
        refine r_iload_n d_Mod_sign_79 rfl ?_
        refine r_iload_n d_Mod_sign_80 rfl ?_
        refine r_bipush (v := 99) d_Mod_sign_81 (by decide) ?_
        refine x_callS (as := [.int i3, .int i2, .int 99]) (st := []) d_Mod_sign_83 ml_Mod_75 mc_Mod_in ms_Mod_in ⟨by decide, by decide⟩ rfl (Nat.le_of_ble_eq_true rfl) (Nat.le_of_ble_eq_true rfl) (Q1 := fun r M1 L1 => some (.int (bI (i2 ≤ i3 ∧ i3 ≤ 99))) = r ∧ M = M1 ∧ L = L1) (s_Mod_in ⟨rfl, rfl, rfl⟩) ?_
        rintro _ _ _ ⟨rfl, rfl, rfl⟩
        refine r_if_ne d_Mod_sign_86 (fun c_12 => ?_) (fun c_12 => ?_)
        · have h9 := h9.1 (bI_p1 c_12)
          refine r_weak (lv' := [.ref 516, .int i1, .int i2, .int i3, .int i4, .int i5, .null]) (by repeat (first | exact trivial | refine ⟨rfl, ?_⟩ | exact lle_nil)) ?_
          exact h9
        · have h9 := h9.2 (bI_p0 c_12)
          refine r_bipush (v := (-102)) d_Mod_sign_89 (by decide) ?_
          exact r_iret ⟨d_Mod_sign_91, _, rfl, rfl⟩ ⟨_, _, rfl, h9⟩
theorem L_Mod_sign_92 {xs : List Int32} {i1 : Int32} {i2 : Int32} {i3 : Int32} {i4 : Int32} {i5 : Int32} {M : Mem} {L : Int64} {Q : Option Value → Mem → Int64 → Prop} 
    (h : ((i5 = 0 → ((i4 = 0 → RX xs shL md_Mod_add 0 [.ref 516, .int (-1), .int i1, .int 0, .int 0] [] M L (fun r M_15 L_16 => ∃ v_17 : Int32, r = some (.int v_17) ∧ Q (some (.int v_17)) M_15 L_16)) ∧ (¬ (i4 = 0) → RX xs shL md_Mod_add 0 [.ref 516, .int (-1), .int i1, .int 0, .int i3] [] M L (fun r M_18 L_19 => ∃ v_20 : Int32, r = some (.int v_20) ∧ Q (some (.int v_20)) M_18 L_19)))) ∧ (¬ (i5 = 0) → ((i4 = 0 → RX xs shL md_Mod_add 0 [.ref 516, .int (-1), .int i1, .int i2, .int 0] [] M L (fun r M_22 L_23 => ∃ v_24 : Int32, r = some (.int v_24) ∧ Q (some (.int v_24)) M_22 L_23)) ∧ (¬ (i4 = 0) → RX xs shL md_Mod_add 0 [.ref 516, .int (-1), .int i1, .int i2, .int i3] [] M L (fun r M_25 L_26 => ∃ v_27 : Int32, r = some (.int v_27) ∧ Q (some (.int v_27)) M_25 L_26)))))) : RX xs shL md_Mod_sign 92 [.ref 516, .int i1, .int i2, .int i3, .int i4, .int i5, .null] [] M L Q := by
  refine r_aload_n d_Mod_sign_92 rfl ?_
  refine r_iconst (v := (-1)) d_Mod_sign_93 (by decide) ?_
  refine r_iload_n d_Mod_sign_94 rfl ?_
  refine r_iload d_Mod_sign_95 rfl ?_
  refine r_if_eq d_Mod_sign_97 (fun c_13 => ?_) (fun c_13 => ?_)
  · have h9 := h.1 c_13
    refine r_iconst (v := 0) d_Mod_sign_104 (by decide) ?_
    refine r_iload d_Mod_sign_105 rfl ?_
    refine r_if_eq d_Mod_sign_107 (fun c_14 => ?_) (fun c_14 => ?_)
    · have h9 := h9.1 c_14
      refine r_iconst (v := 0) d_Mod_sign_114 (by decide) ?_
      refine x_callV (as := [.int (-1), .int i1, .int 0, .int 0]) (st := []) d_Mod_sign_115 ml_Mod_168 mc_Mod_add mv_Mod_add ⟨by decide, by decide⟩ gO_516 ⟨_, rfl, rfl⟩ rfl (Nat.le_of_ble_eq_true rfl) (Nat.le_of_ble_eq_true rfl) h9 ?_
      rintro _ M_15 L_16 ⟨v_17, rfl, h9⟩
      exact r_iret ⟨d_Mod_sign_118, _, rfl, rfl⟩ ⟨_, _, rfl, h9⟩
    · have h9 := h9.2 c_14
      refine r_iload_n d_Mod_sign_110 rfl ?_
      refine r_goto d_Mod_sign_111 ?_
      refine x_callV (as := [.int (-1), .int i1, .int 0, .int i3]) (st := []) d_Mod_sign_115 ml_Mod_168 mc_Mod_add mv_Mod_add ⟨by decide, by decide⟩ gO_516 ⟨_, rfl, rfl⟩ rfl (Nat.le_of_ble_eq_true rfl) (Nat.le_of_ble_eq_true rfl) h9 ?_
      rintro _ M_18 L_19 ⟨v_20, rfl, h9⟩
      exact r_iret ⟨d_Mod_sign_118, _, rfl, rfl⟩ ⟨_, _, rfl, h9⟩
  · have h9 := h.2 c_13
    refine r_iload_n d_Mod_sign_100 rfl ?_
    refine r_goto d_Mod_sign_101 ?_
    refine r_iload d_Mod_sign_105 rfl ?_
    refine r_if_eq d_Mod_sign_107 (fun c_21 => ?_) (fun c_21 => ?_)
    · have h9 := h9.1 c_21
      refine r_iconst (v := 0) d_Mod_sign_114 (by decide) ?_
      refine x_callV (as := [.int (-1), .int i1, .int i2, .int 0]) (st := []) d_Mod_sign_115 ml_Mod_168 mc_Mod_add mv_Mod_add ⟨by decide, by decide⟩ gO_516 ⟨_, rfl, rfl⟩ rfl (Nat.le_of_ble_eq_true rfl) (Nat.le_of_ble_eq_true rfl) h9 ?_
      rintro _ M_22 L_23 ⟨v_24, rfl, h9⟩
      exact r_iret ⟨d_Mod_sign_118, _, rfl, rfl⟩ ⟨_, _, rfl, h9⟩
    · have h9 := h9.2 c_21
      refine r_iload_n d_Mod_sign_110 rfl ?_
      refine r_goto d_Mod_sign_111 ?_
      refine x_callV (as := [.int (-1), .int i1, .int i2, .int i3]) (st := []) d_Mod_sign_115 ml_Mod_168 mc_Mod_add mv_Mod_add ⟨by decide, by decide⟩ gO_516 ⟨_, rfl, rfl⟩ rfl (Nat.le_of_ble_eq_true rfl) (Nat.le_of_ble_eq_true rfl) h9 ?_
      rintro _ M_25 L_26 ⟨v_27, rfl, h9⟩
      exact r_iret ⟨d_Mod_sign_118, _, rfl, rfl⟩ ⟨_, _, rfl, h9⟩
theorem L_Mod_stream_0 {xs : List Int32} {i1 : Int32} {i2 : Int32} {i3 : Int32} {i4 : Int32} {M : Mem} {L : Int64} {Q : Option Value → Mem → Int64 → Prop} 
    (h : (((((-20000) : Int32) ≤ i1 ∧ i1 ≤ i2) → (((i1 ≤ i2 ∧ i2 ≤ 20000) → (((((-20000) : Int32) ≤ i3 ∧ i3 ≤ i4) → (((i3 ≤ i4 ∧ i4 ≤ 20000) → Q (some (.int 1)) (up (up (up (up M 516 13 i1) 516 14 i2) 516 15 i3) 516 16 i4) L) ∧ (¬ (i3 ≤ i4 ∧ i4 ≤ 20000) → Q (some (.int (-102))) M L))) ∧ (¬ (((-20000) : Int32) ≤ i3 ∧ i3 ≤ i4) → Q (some (.int (-102))) M L))) ∧ (¬ (i1 ≤ i2 ∧ i2 ≤ 20000) → Q (some (.int (-102))) M L))) ∧ (¬ (((-20000) : Int32) ≤ i1 ∧ i1 ≤ i2) → Q (some (.int (-102))) M L))) : RX xs shL md_Mod_stream 0 [.ref 516, .int i1, .int i2, .int i3, .int i4] [] M L Q := by
  refine r_iload_n d_Mod_stream_0 rfl ?_
  refine r_sipush (v := (-20000)) d_Mod_stream_1 (by decide) ?_
  refine r_iload_n d_Mod_stream_4 rfl ?_
  refine x_callS (as := [.int i1, .int (-20000), .int i2]) (st := []) d_Mod_stream_5 ml_Mod_75 mc_Mod_in ms_Mod_in ⟨by decide, by decide⟩ rfl (Nat.le_of_ble_eq_true rfl) (Nat.le_of_ble_eq_true rfl) (Q1 := fun r M1 L1 => some (.int (bI (((-20000) : Int32) ≤ i1 ∧ i1 ≤ i2))) = r ∧ M = M1 ∧ L = L1) (s_Mod_in ⟨rfl, rfl, rfl⟩) ?_
  rintro _ _ _ ⟨rfl, rfl, rfl⟩
  refine r_if_eq d_Mod_stream_8 (fun c_1 => ?_) (fun c_1 => ?_)
  · have h9 := h.2 (bI_p0 c_1)
    refine r_bipush (v := (-102)) d_Mod_stream_46 (by decide) ?_
    exact r_iret ⟨d_Mod_stream_48, _, rfl, rfl⟩ ⟨_, _, rfl, h9⟩
  · have h9 := h.1 (bI_p1 c_1)
    refine r_iload_n d_Mod_stream_11 rfl ?_
    refine r_iload_n d_Mod_stream_12 rfl ?_
    refine r_sipush (v := 20000) d_Mod_stream_13 (by decide) ?_
    refine x_callS (as := [.int i2, .int i1, .int 20000]) (st := []) d_Mod_stream_16 ml_Mod_75 mc_Mod_in ms_Mod_in ⟨by decide, by decide⟩ rfl (Nat.le_of_ble_eq_true rfl) (Nat.le_of_ble_eq_true rfl) (Q1 := fun r M1 L1 => some (.int (bI (i1 ≤ i2 ∧ i2 ≤ 20000))) = r ∧ M = M1 ∧ L = L1) (s_Mod_in ⟨rfl, rfl, rfl⟩) ?_
    rintro _ _ _ ⟨rfl, rfl, rfl⟩
    refine r_if_eq d_Mod_stream_19 (fun c_2 => ?_) (fun c_2 => ?_)
    · have h9 := h9.2 (bI_p0 c_2)
      refine r_bipush (v := (-102)) d_Mod_stream_46 (by decide) ?_
      exact r_iret ⟨d_Mod_stream_48, _, rfl, rfl⟩ ⟨_, _, rfl, h9⟩
    · have h9 := h9.1 (bI_p1 c_2)
      refine r_iload_n d_Mod_stream_22 rfl ?_
      refine r_sipush (v := (-20000)) d_Mod_stream_23 (by decide) ?_
      refine r_iload d_Mod_stream_26 rfl ?_
      refine x_callS (as := [.int i3, .int (-20000), .int i4]) (st := []) d_Mod_stream_28 ml_Mod_75 mc_Mod_in ms_Mod_in ⟨by decide, by decide⟩ rfl (Nat.le_of_ble_eq_true rfl) (Nat.le_of_ble_eq_true rfl) (Q1 := fun r M1 L1 => some (.int (bI (((-20000) : Int32) ≤ i3 ∧ i3 ≤ i4))) = r ∧ M = M1 ∧ L = L1) (s_Mod_in ⟨rfl, rfl, rfl⟩) ?_
      rintro _ _ _ ⟨rfl, rfl, rfl⟩
      refine r_if_eq d_Mod_stream_31 (fun c_3 => ?_) (fun c_3 => ?_)
      · have h9 := h9.2 (bI_p0 c_3)
        refine r_bipush (v := (-102)) d_Mod_stream_46 (by decide) ?_
        exact r_iret ⟨d_Mod_stream_48, _, rfl, rfl⟩ ⟨_, _, rfl, h9⟩
      · have h9 := h9.1 (bI_p1 c_3)
        refine r_iload d_Mod_stream_34 rfl ?_
        refine r_iload_n d_Mod_stream_36 rfl ?_
        refine r_sipush (v := 20000) d_Mod_stream_37 (by decide) ?_
        refine x_callS (as := [.int i4, .int i3, .int 20000]) (st := []) d_Mod_stream_40 ml_Mod_75 mc_Mod_in ms_Mod_in ⟨by decide, by decide⟩ rfl (Nat.le_of_ble_eq_true rfl) (Nat.le_of_ble_eq_true rfl) (Q1 := fun r M1 L1 => some (.int (bI (i3 ≤ i4 ∧ i4 ≤ 20000))) = r ∧ M = M1 ∧ L = L1) (s_Mod_in ⟨rfl, rfl, rfl⟩) ?_
        rintro _ _ _ ⟨rfl, rfl, rfl⟩
        refine r_if_ne d_Mod_stream_43 (fun c_4 => ?_) (fun c_4 => ?_)
        · have h9 := h9.1 (bI_p1 c_4)
          refine r_aload_n d_Mod_stream_49 rfl ?_
          refine r_iload_n d_Mod_stream_50 rfl ?_
          refine x_putI d_Mod_stream_51 fl_Mod_156 (fun r hr => by cases hr; rfl) gI_516_13 (VOk_int _) ?_
          refine r_aload_n d_Mod_stream_54 rfl ?_
          refine r_iload_n d_Mod_stream_55 rfl ?_
          refine x_putI d_Mod_stream_56 fl_Mod_159 (fun r hr => by cases hr; rfl) gI_516_14 (VOk_int _) ?_
          refine r_aload_n d_Mod_stream_59 rfl ?_
          refine r_iload_n d_Mod_stream_60 rfl ?_
          refine x_putI d_Mod_stream_61 fl_Mod_162 (fun r hr => by cases hr; rfl) gI_516_15 (VOk_int _) ?_
          refine r_aload_n d_Mod_stream_64 rfl ?_
          refine r_iload d_Mod_stream_65 rfl ?_
          refine x_putI d_Mod_stream_67 fl_Mod_165 (fun r hr => by cases hr; rfl) gI_516_16 (VOk_int _) ?_
          refine r_iconst (v := 1) d_Mod_stream_70 (by decide) ?_
          exact r_iret ⟨d_Mod_stream_71, _, rfl, rfl⟩ ⟨_, _, rfl, h9⟩
        · have h9 := h9.2 (bI_p0 c_4)
          refine r_bipush (v := (-102)) d_Mod_stream_46 (by decide) ?_
          exact r_iret ⟨d_Mod_stream_48, _, rfl, rfl⟩ ⟨_, _, rfl, h9⟩
theorem L_Mod_up_0 {xs : List Int32} {S : List Shp} {i0 : Int32} {i1 : Int32} {M : Mem} {L : Int64} {Q : Option Value → Mem → Int64 → Prop} 
    (h : (¬ i1 = 0 ∧ Q (some (.int (-(dwn (-i0) i1)))) M L)) : RX xs S md_Mod_up 0 [.int i0, .int i1] [] M L Q := by
  refine r_iload_n d_Mod_up_0 rfl ?_
  refine r_ineg d_Mod_up_1 ?_
  refine r_iload_n d_Mod_up_2 rfl ?_
  obtain ⟨o_1, h9⟩ := h
  refine x_callS (as := [.int (-i0), .int i1]) (st := []) d_Mod_up_3 ml_Mod_131 mc_Mod_down ms_Mod_down ⟨by decide, by decide⟩ rfl (Nat.le_of_ble_eq_true rfl) (Nat.le_of_ble_eq_true rfl) (Q1 := fun r M1 L1 => some (.int (dwn (-i0) i1)) = r ∧ M = M1 ∧ L = L1) (s_Mod_down o_1 ⟨rfl, rfl, rfl⟩) ?_
  rintro _ _ _ ⟨rfl, rfl, rfl⟩
  refine r_ineg d_Mod_up_6 ?_
  exact r_iret ⟨d_Mod_up_7, _, rfl, rfl⟩ ⟨_, _, rfl, h9⟩
theorem L_Mod_word_0 {xs : List Int32} {i1 : Int32} {M : Mem} {L : Int64} {Q : Option Value → Mem → Int64 → Prop} 
    (h : ((((0 : Int32) ≤ i1 ∧ i1 ≤ 999) → (((M 516 2) = 24 → Q (some (.int (-104))) M L) ∧ (¬ ((M 516 2) = 24) → (vp_in (M 516 2) 24 ∧ Q (some (.int ((M 516 2) + 1))) (up (up M 519 ((M 516 2).toNatClampNeg) i1) 516 2 ((M 516 2) + 1)) L)))) ∧ (¬ ((0 : Int32) ≤ i1 ∧ i1 ≤ 999) → Q (some (.int (-102))) M L))) : RX xs shL md_Mod_word 0 [.ref 516, .int i1] [] M L Q := by
  refine r_iload_n d_Mod_word_0 rfl ?_
  refine r_iconst (v := 0) d_Mod_word_1 (by decide) ?_
  refine r_sipush (v := 999) d_Mod_word_2 (by decide) ?_
  refine x_callS (as := [.int i1, .int 0, .int 999]) (st := []) d_Mod_word_5 ml_Mod_75 mc_Mod_in ms_Mod_in ⟨by decide, by decide⟩ rfl (Nat.le_of_ble_eq_true rfl) (Nat.le_of_ble_eq_true rfl) (Q1 := fun r M1 L1 => some (.int (bI ((0 : Int32) ≤ i1 ∧ i1 ≤ 999))) = r ∧ M = M1 ∧ L = L1) (s_Mod_in ⟨rfl, rfl, rfl⟩) ?_
  rintro _ _ _ ⟨rfl, rfl, rfl⟩
  refine r_if_ne d_Mod_word_8 (fun c_1 => ?_) (fun c_1 => ?_)
  · have h9 := h.1 (bI_p1 c_1)
    refine r_aload_n d_Mod_word_14 rfl ?_
    refine x_getI d_Mod_word_15 fl_Mod_105 gI_516_2 ?_
    refine r_bipush (v := 24) d_Mod_word_18 (by decide) ?_
    refine r_ic_ne d_Mod_word_20 (fun c_2 => ?_) (fun c_2 => ?_)
    · have h9 := h9.2 c_2
      refine r_aload_n d_Mod_word_26 rfl ?_
      refine x_getR d_Mod_word_27 fl_Mod_16 gR_516_3 ?_
      refine r_aload_n d_Mod_word_30 rfl ?_
      refine x_getI d_Mod_word_31 fl_Mod_105 gI_516_2 ?_
      refine r_iload_n d_Mod_word_34 rfl ?_
      obtain ⟨o_3, h9⟩ := h9
      refine x_iast d_Mod_word_35 aI_519 o_3 ?_
      refine r_aload_n d_Mod_word_36 rfl ?_
      refine r_dup d_Mod_word_37 rfl ?_
      refine x_getI d_Mod_word_38 fl_Mod_105 gI_516_2 ?_
      refine r_iconst (v := 1) d_Mod_word_41 (by decide) ?_
      refine r_iadd d_Mod_word_42 ?_
      refine x_putI d_Mod_word_43 fl_Mod_105 (fun r hr => by cases hr; rfl) gI_516_2 (VOk_int _) ?_
      refine r_aload_n d_Mod_word_46 rfl ?_
      refine x_getI d_Mod_word_47 fl_Mod_105 gI_516_2 ?_
      exact r_iret ⟨d_Mod_word_50, _, rfl, rfl⟩ ⟨_, _, rfl, h9⟩
    · have h9 := h9.1 c_2
      refine r_bipush (v := (-104)) d_Mod_word_23 (by decide) ?_
      exact r_iret ⟨d_Mod_word_25, _, rfl, rfl⟩ ⟨_, _, rfl, h9⟩
  · have h9 := h.2 (bI_p0 c_1)
    refine r_bipush (v := (-102)) d_Mod_word_11 (by decide) ?_
    exact r_iret ⟨d_Mod_word_13, _, rfl, rfl⟩ ⟨_, _, rfl, h9⟩
theorem L_Patch_becomeReached_0 {xs : List Int32} {p0 : Nat} {p1 : Nat} {i2 : Int32} {i3 : Int32} {i4 : Int32} {i5 : Int32} {M : Mem} {L : Int64} {Q : Option Value → Mem → Int64 → Prop} (hp0 : isP shL p0) (hp1 : isP shL p1)
    (h : (((imax i2 (1 - ((rowN M (p0 + 1) 20 (fun _ => 0)) 126 4))) ≤ (imin i3 (((rowN M (p0 + 1) 20 (fun _ => 0)) 126 4) - 1)) → RX xs shL md_Patch_becomeReached 45 [.ref p0, .ref p1, .null, .null, .int i4, .int i5, .ref 126, .int (imax i2 (1 - ((rowN M (p0 + 1) 20 (fun _ => 0)) 126 4))), .int (imin i3 (((rowN M (p0 + 1) 20 (fun _ => 0)) 126 4) - 1)), .int 0, .null, .null, .null, .null] [] (rowN M (p0 + 1) 20 (fun _ => 0)) L Q) ∧ (¬ ((imax i2 (1 - ((rowN M (p0 + 1) 20 (fun _ => 0)) 126 4))) ≤ (imin i3 (((rowN M (p0 + 1) 20 (fun _ => 0)) 126 4) - 1))) → Q none (rowN M (p0 + 1) 20 (fun _ => 0)) L))) : RX xs shL md_Patch_becomeReached 0 [.ref p0, .ref p1, .int i2, .int i3, .int i4, .int i5, .ref 126] [] M L Q := by
  refine r_weak (lv' := [.ref p0, .ref p1, .int i2, .int i3, .int i4, .int i5, .ref 126, .null, .null, .null, .null, .null, .null, .null]) (by repeat (first | exact trivial | refine ⟨rfl, ?_⟩ | exact lle_nil)) ?_
  refine r_aload_n d_Patch_becomeReached_0 rfl ?_
  refine x_getR d_Patch_becomeReached_1 fl_Patch_9 (isP_R hp0) ?_
  refine r_iconst (v := 0) d_Patch_becomeReached_4 (by decide) ?_
  refine x_callS (as := [.ref (p0 + 1), .int 0]) (st := []) d_Patch_becomeReached_5 ml_Patch_15 mc_JArrays_fill ms_JArrays_fill ⟨by decide, by decide⟩ rfl (Nat.le_of_ble_eq_true rfl) (Nat.le_of_ble_eq_true rfl) (Q1 := fun r M1 L1 => none = r ∧ rowN M (p0 + 1) 20 (fun _ => 0) = M1 ∧ L = L1) (s_JArrays_fill (isP_A hp0) (by decide) ⟨rfl, rfl, rfl⟩) ?_
  rintro _ _ _ ⟨rfl, rfl, rfl⟩
  refine r_iload_n d_Patch_becomeReached_8 rfl ?_
  refine r_iconst (v := 1) d_Patch_becomeReached_9 (by decide) ?_
  refine r_aload d_Patch_becomeReached_10 rfl ?_
  refine x_getI d_Patch_becomeReached_12 fl_Patch_51 gI_126_4 ?_
  refine r_isub d_Patch_becomeReached_15 ?_
  refine x_callS (as := [.int i2, .int (1 - ((rowN M (p0 + 1) 20 (fun _ => 0)) 126 4))]) (st := []) d_Patch_becomeReached_16 ml_Patch_39 mc_JMath_max ms_JMath_max ⟨by decide, by decide⟩ rfl (Nat.le_of_ble_eq_true rfl) (Nat.le_of_ble_eq_true rfl) (Q1 := fun r M1 L1 => some (.int (imax i2 (1 - ((rowN M (p0 + 1) 20 (fun _ => 0)) 126 4)))) = r ∧ rowN M (p0 + 1) 20 (fun _ => 0) = M1 ∧ L = L1) (s_JMath_max ⟨rfl, rfl, rfl⟩) ?_
  rintro _ _ _ ⟨rfl, rfl, rfl⟩
  refine r_istore d_Patch_becomeReached_19 (by decide) ?_
  refine r_iload_n d_Patch_becomeReached_21 rfl ?_
  refine r_aload d_Patch_becomeReached_22 rfl ?_
  refine x_getI d_Patch_becomeReached_24 fl_Patch_51 gI_126_4 ?_
  refine r_iconst (v := 1) d_Patch_becomeReached_27 (by decide) ?_
  refine r_isub d_Patch_becomeReached_28 ?_
  refine x_callS (as := [.int i3, .int (((rowN M (p0 + 1) 20 (fun _ => 0)) 126 4) - 1)]) (st := []) d_Patch_becomeReached_29 ml_Patch_45 mc_JMath_min ms_JMath_min ⟨by decide, by decide⟩ rfl (Nat.le_of_ble_eq_true rfl) (Nat.le_of_ble_eq_true rfl) (Q1 := fun r M1 L1 => some (.int (imin i3 (((rowN M (p0 + 1) 20 (fun _ => 0)) 126 4) - 1))) = r ∧ rowN M (p0 + 1) 20 (fun _ => 0) = M1 ∧ L = L1) (s_JMath_min ⟨rfl, rfl, rfl⟩) ?_
  rintro _ _ _ ⟨rfl, rfl, rfl⟩
  refine r_istore d_Patch_becomeReached_32 (by decide) ?_
  refine r_iload d_Patch_becomeReached_34 rfl ?_
  refine r_iload d_Patch_becomeReached_36 rfl ?_
  refine r_ic_le d_Patch_becomeReached_38 (fun c_1 => ?_) (fun c_1 => ?_)
  · have h9 := h.1 c_1
    refine r_iconst (v := 0) d_Patch_becomeReached_42 (by decide) ?_
    refine r_istore d_Patch_becomeReached_43 (by decide) ?_
    refine r_weak (lv' := [.ref p0, .ref p1, .null, .null, .int i4, .int i5, .ref 126, .int (imax i2 (1 - ((rowN M (p0 + 1) 20 (fun _ => 0)) 126 4))), .int (imin i3 (((rowN M (p0 + 1) 20 (fun _ => 0)) 126 4) - 1)), .int 0, .null, .null, .null, .null]) (by repeat (first | exact trivial | refine ⟨rfl, ?_⟩ | exact lle_nil)) ?_
    exact h9
  · have h9 := h.2 c_1
    exact r_vret ⟨d_Patch_becomeReached_41, rfl⟩ ⟨rowN M (p0 + 1) 20 (fun _ => 0), L, rfl, h9⟩
theorem L_Patch_becomeReached_45 {xs : List Int32} {p0 : Nat} {p1 : Nat} {i4 : Int32} {i5 : Int32} {i7 : Int32} {i8 : Int32} {i9 : Int32} {M : Mem} {L : Int64} {Q : Option Value → Mem → Int64 → Prop} (hp1 : isP shL p1)
    (h : (((M 126 5) ≤ i9 → Q none M L) ∧ (¬ ((M 126 5) ≤ i9) → (vp_in i9 20 ∧ (((M (p1 + 1) i9.toNatClampNeg) = 0 → RX xs shL md_Patch_becomeReached 45 [.ref p0, .ref p1, .null, .null, .int i4, .int i5, .ref 126, .int i7, .int i8, .int (i9 + 1), .null, .null, .null, .null] [] M L Q) ∧ (¬ ((M (p1 + 1) i9.toNatClampNeg) = 0) → RX xs shL md_Patch_smear 0 [.int (M (p1 + 1) i9.toNatClampNeg), .int i7, .int i8] [] M L (fun r M_5 L_6 => ∃ v_7 : Int32, r = some (.int v_7) ∧ RX xs shL md_Patch_becomeReached 122 [.ref p0, .ref p1, .null, .null, .int i4, .int i5, .ref 126, .int i7, .int i8, .int i9, .int (v_7 &&& (fbits (M_5 126 4))), .null, .int (imin (i9 + i5) ((M_5 126 5) - 1)), .int (imax (i9 + i4) 0)] [] M_5 L_6 Q))))))) : RX xs shL md_Patch_becomeReached 45 [.ref p0, .ref p1, .null, .null, .int i4, .int i5, .ref 126, .int i7, .int i8, .int i9, .null, .null, .null, .null] [] M L Q := by
  refine r_iload d_Patch_becomeReached_45 rfl ?_
  refine r_aload d_Patch_becomeReached_47 rfl ?_
  refine x_getI d_Patch_becomeReached_49 fl_Patch_55 gI_126_5 ?_
  refine r_ic_ge d_Patch_becomeReached_52 (fun c_2 => ?_) (fun c_2 => ?_)
  · have h9 := h.1 c_2
    exact r_vret ⟨d_Patch_becomeReached_153, rfl⟩ ⟨M, L, rfl, h9⟩
  · have h9 := h.2 c_2
    refine r_aload_n d_Patch_becomeReached_55 rfl ?_
    refine x_getR d_Patch_becomeReached_56 fl_Patch_9 (isP_R hp1) ?_
    refine r_iload d_Patch_becomeReached_59 rfl ?_
    obtain ⟨o_3, h9⟩ := h9
    refine x_iald d_Patch_becomeReached_61 (isP_A hp1) o_3 ?_
    refine r_if_eq d_Patch_becomeReached_62 (fun c_4 => ?_) (fun c_4 => ?_)
    · have h9 := h9.1 c_4
      refine r_iinc (v := i9 + 1) d_Patch_becomeReached_147 rfl rfl (by decide) ?_
      refine r_goto d_Patch_becomeReached_150 ?_
      exact h9
    · have h9 := h9.2 c_4
      refine r_aload_n d_Patch_becomeReached_65 rfl ?_
      refine x_getR d_Patch_becomeReached_66 fl_Patch_9 (isP_R hp1) ?_
      refine r_iload d_Patch_becomeReached_69 rfl ?_
      refine x_iald d_Patch_becomeReached_71 (isP_A hp1) o_3 ?_
      refine r_iload d_Patch_becomeReached_72 rfl ?_
      refine r_iload d_Patch_becomeReached_74 rfl ?_
      refine x_callS (as := [.int (M (p1 + 1) i9.toNatClampNeg), .int i7, .int i8]) (st := []) d_Patch_becomeReached_76 ml_Patch_58 mc_Patch_smear ms_Patch_smear ⟨by decide, by decide⟩ rfl (Nat.le_of_ble_eq_true rfl) (Nat.le_of_ble_eq_true rfl) h9 ?_
      rintro _ M_5 L_6 ⟨v_7, rfl, h9⟩
      refine r_aload d_Patch_becomeReached_79 rfl ?_
      refine x_getI d_Patch_becomeReached_81 fl_Patch_51 gI_126_4 ?_
      refine x_callS (as := [.int (M_5 126 4)]) (st := [.int v_7]) d_Patch_becomeReached_84 ml_Patch_48 mc_Patch_firstBits ms_Patch_firstBits ⟨by decide, by decide⟩ rfl (Nat.le_of_ble_eq_true rfl) (Nat.le_of_ble_eq_true rfl) (Q1 := fun r M1 L1 => some (.int (fbits (M_5 126 4))) = r ∧ M_5 = M1 ∧ L_6 = L1) (s_Patch_firstBits ⟨rfl, rfl, rfl⟩) ?_
      rintro _ _ _ ⟨rfl, rfl, rfl⟩
      refine r_iand d_Patch_becomeReached_87 ?_
      refine r_istore d_Patch_becomeReached_88 (by decide) ?_
      refine r_iload d_Patch_becomeReached_90 rfl ?_
      refine r_iload d_Patch_becomeReached_92 rfl ?_
      refine r_iadd d_Patch_becomeReached_94 ?_
      refine r_iconst (v := 0) d_Patch_becomeReached_95 (by decide) ?_
      refine x_callS (as := [.int (i9 + i4), .int 0]) (st := []) d_Patch_becomeReached_96 ml_Patch_39 mc_JMath_max ms_JMath_max ⟨by decide, by decide⟩ rfl (Nat.le_of_ble_eq_true rfl) (Nat.le_of_ble_eq_true rfl) (Q1 := fun r M1 L1 => some (.int (imax (i9 + i4) 0)) = r ∧ M_5 = M1 ∧ L_6 = L1) (s_JMath_max ⟨rfl, rfl, rfl⟩) ?_
      rintro _ _ _ ⟨rfl, rfl, rfl⟩
      refine r_istore d_Patch_becomeReached_99 (by decide) ?_
      refine r_iload d_Patch_becomeReached_101 rfl ?_
      refine r_iload d_Patch_becomeReached_103 rfl ?_
      refine r_iadd d_Patch_becomeReached_105 ?_
      refine r_aload d_Patch_becomeReached_106 rfl ?_
      refine x_getI d_Patch_becomeReached_108 fl_Patch_55 gI_126_5 ?_
      refine r_iconst (v := 1) d_Patch_becomeReached_111 (by decide) ?_
      refine r_isub d_Patch_becomeReached_112 ?_
      refine x_callS (as := [.int (i9 + i5), .int ((M_5 126 5) - 1)]) (st := []) d_Patch_becomeReached_113 ml_Patch_45 mc_JMath_min ms_JMath_min ⟨by decide, by decide⟩ rfl (Nat.le_of_ble_eq_true rfl) (Nat.le_of_ble_eq_true rfl) (Q1 := fun r M1 L1 => some (.int (imin (i9 + i5) ((M_5 126 5) - 1))) = r ∧ M_5 = M1 ∧ L_6 = L1) (s_JMath_min ⟨rfl, rfl, rfl⟩) ?_
      rintro _ _ _ ⟨rfl, rfl, rfl⟩
      refine r_istore d_Patch_becomeReached_116 (by decide) ?_
      refine r_iload d_Patch_becomeReached_118 rfl ?_
      refine r_istore d_Patch_becomeReached_120 (by decide) ?_
      refine r_weak (lv' := [.ref p0, .ref p1, .null, .null, .int i4, .int i5, .ref 126, .int i7, .int i8, .int i9, .int (v_7 &&& (fbits (M_5 126 4))), .null, .int (imin (i9 + i5) ((M_5 126 5) - 1)), .int (imax (i9 + i4) 0)]) (by repeat (first | exact trivial | refine ⟨rfl, ?_⟩ | exact lle_nil)) ?_
      exact h9
theorem L_Patch_becomeReached_122 {xs : List Int32} {p0 : Nat} {p1 : Nat} {i4 : Int32} {i5 : Int32} {i7 : Int32} {i8 : Int32} {i9 : Int32} {i10 : Int32} {i12 : Int32} {i13 : Int32} {M : Mem} {L : Int64} {Q : Option Value → Mem → Int64 → Prop} (hp0 : isP shL p0)
    (h : ((i12 < i13 → RX xs shL md_Patch_becomeReached 45 [.ref p0, .ref p1, .null, .null, .int i4, .int i5, .ref 126, .int i7, .int i8, .int (i9 + 1), .null, .null, .null, .null] [] M L Q) ∧ (¬ (i12 < i13) → (vp_in i13 20 ∧ RX xs shL md_Patch_becomeReached 122 [.ref p0, .ref p1, .null, .null, .int i4, .int i5, .ref 126, .int i7, .int i8, .int i9, .int i10, .null, .int i12, .int (i13 + 1)] [] (up M (p0 + 1) i13.toNatClampNeg ((M (p0 + 1) i13.toNatClampNeg) ||| i10)) L Q)))) : RX xs shL md_Patch_becomeReached 122 [.ref p0, .ref p1, .null, .null, .int i4, .int i5, .ref 126, .int i7, .int i8, .int i9, .int i10, .null, .int i12, .int i13] [] M L Q := by
  refine r_iload d_Patch_becomeReached_122 rfl ?_
  refine r_iload d_Patch_becomeReached_124 rfl ?_
  refine r_ic_gt d_Patch_becomeReached_126 (fun c_8 => ?_) (fun c_8 => ?_)
  · have h9 := h.1 c_8
    refine r_iinc (v := i9 + 1) d_Patch_becomeReached_147 rfl rfl (by decide) ?_
    refine r_goto d_Patch_becomeReached_150 ?_
    refine r_weak (lv' := [.ref p0, .ref p1, .null, .null, .int i4, .int i5, .ref 126, .int i7, .int i8, .int (i9 + 1), .null, .null, .null, .null]) (by repeat (first | exact trivial | refine ⟨rfl, ?_⟩ | exact lle_nil)) ?_
    exact h9
  · have h9 := h.2 c_8
    refine r_aload_n d_Patch_becomeReached_129 rfl ?_
    refine x_getR d_Patch_becomeReached_130 fl_Patch_9 (isP_R hp0) ?_
    refine r_iload d_Patch_becomeReached_133 rfl ?_
    refine r_dup2 d_Patch_becomeReached_135 rfl rfl ?_
    obtain ⟨o_9, h9⟩ := h9
    refine x_iald d_Patch_becomeReached_136 (isP_A hp0) o_9 ?_
    refine r_iload d_Patch_becomeReached_137 rfl ?_
    refine r_ior d_Patch_becomeReached_139 ?_
    refine x_iast d_Patch_becomeReached_140 (isP_A hp0) o_9 ?_
    refine r_iinc (v := i13 + 1) d_Patch_becomeReached_141 rfl rfl (by decide) ?_
    refine r_goto d_Patch_becomeReached_144 ?_
    exact h9
theorem L_Patch_clear_0 {xs : List Int32} {S : List Shp} {p0 : Nat} {M : Mem} {L : Int64} {Q : Option Value → Mem → Int64 → Prop} (hp0 : isP S p0)
    (h : Q none (rowN M (p0 + 1) 20 (fun _ => 0)) L) : RX xs S md_Patch_clear 0 [.ref p0] [] M L Q := by
  refine r_aload_n d_Patch_clear_0 rfl ?_
  refine x_getR d_Patch_clear_1 fl_Patch_9 (isP_R hp0) ?_
  refine r_iconst (v := 0) d_Patch_clear_4 (by decide) ?_
  refine x_callS (as := [.ref (p0 + 1), .int 0]) (st := []) d_Patch_clear_5 ml_Patch_15 mc_JArrays_fill ms_JArrays_fill ⟨by decide, by decide⟩ rfl (Nat.le_of_ble_eq_true rfl) (Nat.le_of_ble_eq_true rfl) (Q1 := fun r M1 L1 => none = r ∧ rowN M (p0 + 1) 20 (fun _ => 0) = M1 ∧ L = L1) (s_JArrays_fill (isP_A hp0) (by decide) ⟨rfl, rfl, rfl⟩) ?_
  rintro _ _ _ ⟨rfl, rfl, rfl⟩
  exact r_vret ⟨d_Patch_clear_8, rfl⟩ ⟨rowN M (p0 + 1) 20 (fun _ => 0), L, rfl, h⟩
theorem L_Patch_holds_0 {xs : List Int32} {S : List Shp} {p0 : Nat} {i1 : Int32} {i2 : Int32} {M : Mem} {L : Int64} {Q : Option Value → Mem → Int64 → Prop} (hp0 : isP S p0)
    (h : ((((0 : Int32) ≤ i2 ∧ i2 ≤ 19) → ((((0 : Int32) ≤ i1 ∧ i1 ≤ 19) → (vp_in i2 20 ∧ (((((M (p0 + 1) i2.toNatClampNeg) >>> (i1 &&& 31)) &&& 1) = 1 → Q (some (.int 1)) M L) ∧ (¬ ((((M (p0 + 1) i2.toNatClampNeg) >>> (i1 &&& 31)) &&& 1) = 1) → Q (some (.int 0)) M L)))) ∧ (¬ ((0 : Int32) ≤ i1 ∧ i1 ≤ 19) → Q (some (.int 0)) M L))) ∧ (¬ ((0 : Int32) ≤ i2 ∧ i2 ≤ 19) → Q (some (.int 0)) M L))) : RX xs S md_Patch_holds 0 [.ref p0, .int i1, .int i2] [] M L Q := by
  refine r_iload_n d_Patch_holds_0 rfl ?_
  refine r_iconst (v := 0) d_Patch_holds_1 (by decide) ?_
  refine r_bipush (v := 19) d_Patch_holds_2 (by decide) ?_
  refine x_callS (as := [.int i2, .int 0, .int 19]) (st := []) d_Patch_holds_4 ml_Patch_33 mc_Peg_isWithin ms_Peg_isWithin ⟨by decide, by decide⟩ rfl (Nat.le_of_ble_eq_true rfl) (Nat.le_of_ble_eq_true rfl) (Q1 := fun r M1 L1 => some (.int (bI ((0 : Int32) ≤ i2 ∧ i2 ≤ 19))) = r ∧ M = M1 ∧ L = L1) (s_Peg_isWithin ⟨rfl, rfl, rfl⟩) ?_
  rintro _ _ _ ⟨rfl, rfl, rfl⟩
  refine r_if_eq d_Patch_holds_7 (fun c_1 => ?_) (fun c_1 => ?_)
  · have h9 := h.2 (bI_p0 c_1)
    refine r_iconst (v := 0) d_Patch_holds_38 (by decide) ?_
    exact r_iret ⟨d_Patch_holds_39, _, rfl, rfl⟩ ⟨_, _, rfl, h9⟩
  · have h9 := h.1 (bI_p1 c_1)
    refine r_iload_n d_Patch_holds_10 rfl ?_
    refine r_iconst (v := 0) d_Patch_holds_11 (by decide) ?_
    refine r_bipush (v := 19) d_Patch_holds_12 (by decide) ?_
    refine x_callS (as := [.int i1, .int 0, .int 19]) (st := []) d_Patch_holds_14 ml_Patch_33 mc_Peg_isWithin ms_Peg_isWithin ⟨by decide, by decide⟩ rfl (Nat.le_of_ble_eq_true rfl) (Nat.le_of_ble_eq_true rfl) (Q1 := fun r M1 L1 => some (.int (bI ((0 : Int32) ≤ i1 ∧ i1 ≤ 19))) = r ∧ M = M1 ∧ L = L1) (s_Peg_isWithin ⟨rfl, rfl, rfl⟩) ?_
    rintro _ _ _ ⟨rfl, rfl, rfl⟩
    refine r_if_eq d_Patch_holds_17 (fun c_2 => ?_) (fun c_2 => ?_)
    · have h9 := h9.2 (bI_p0 c_2)
      refine r_iconst (v := 0) d_Patch_holds_38 (by decide) ?_
      exact r_iret ⟨d_Patch_holds_39, _, rfl, rfl⟩ ⟨_, _, rfl, h9⟩
    · have h9 := h9.1 (bI_p1 c_2)
      refine r_aload_n d_Patch_holds_20 rfl ?_
      refine x_getR d_Patch_holds_21 fl_Patch_9 (isP_R hp0) ?_
      refine r_iload_n d_Patch_holds_24 rfl ?_
      obtain ⟨o_3, h9⟩ := h9
      refine x_iald d_Patch_holds_25 (isP_A hp0) o_3 ?_
      refine r_iload_n d_Patch_holds_26 rfl ?_
      refine r_ishr d_Patch_holds_27 ?_
      refine r_iconst (v := 1) d_Patch_holds_28 (by decide) ?_
      refine r_iand d_Patch_holds_29 ?_
      refine r_iconst (v := 1) d_Patch_holds_30 (by decide) ?_
      refine r_ic_ne d_Patch_holds_31 (fun c_4 => ?_) (fun c_4 => ?_)
      · have h9 := h9.2 c_4
        refine r_iconst (v := 0) d_Patch_holds_38 (by decide) ?_
        exact r_iret ⟨d_Patch_holds_39, _, rfl, rfl⟩ ⟨_, _, rfl, h9⟩
      · have h9 := h9.1 c_4
        refine r_iconst (v := 1) d_Patch_holds_34 (by decide) ?_
        refine r_goto d_Patch_holds_35 ?_
        exact r_iret ⟨d_Patch_holds_39, _, rfl, rfl⟩ ⟨_, _, rfl, h9⟩
theorem L_Patch_put_0 {xs : List Int32} {S : List Shp} {p0 : Nat} {i1 : Int32} {i2 : Int32} {i3 : Int32} {i4 : Int32} {i5 : Int32} {M : Mem} {L : Int64} {Q : Option Value → Mem → Int64 → Prop} (hp0 : isP S p0)
    (h : (((imax i1 0) ≤ (imin i3 19) → RX xs S md_Patch_put 56 [.ref p0, .null, .null, .null, .null, .int i5, .null, .null, .int ((fbits ((imin i3 19) + 1)) &&& ((fbits (imax i1 0)) ^^^ (-1))), .int (imin i4 19), .int (imax i2 0)] [] M L Q) ∧ (¬ ((imax i1 0) ≤ (imin i3 19)) → Q none M L))) : RX xs S md_Patch_put 0 [.ref p0, .int i1, .int i2, .int i3, .int i4, .int i5] [] M L Q := by
  refine r_weak (lv' := [.ref p0, .int i1, .int i2, .int i3, .int i4, .int i5, .null, .null, .null, .null, .null]) (by repeat (first | exact trivial | refine ⟨rfl, ?_⟩ | exact lle_nil)) ?_
  refine r_iload_n d_Patch_put_0 rfl ?_
  refine r_iconst (v := 0) d_Patch_put_1 (by decide) ?_
  refine x_callS (as := [.int i1, .int 0]) (st := []) d_Patch_put_2 ml_Patch_39 mc_JMath_max ms_JMath_max ⟨by decide, by decide⟩ rfl (Nat.le_of_ble_eq_true rfl) (Nat.le_of_ble_eq_true rfl) (Q1 := fun r M1 L1 => some (.int (imax i1 0)) = r ∧ M = M1 ∧ L = L1) (s_JMath_max ⟨rfl, rfl, rfl⟩) ?_
  rintro _ _ _ ⟨rfl, rfl, rfl⟩
  refine r_istore d_Patch_put_5 (by decide) ?_
  refine r_iload_n d_Patch_put_7 rfl ?_
  refine r_bipush (v := 19) d_Patch_put_8 (by decide) ?_
  refine x_callS (as := [.int i3, .int 19]) (st := []) d_Patch_put_10 ml_Patch_45 mc_JMath_min ms_JMath_min ⟨by decide, by decide⟩ rfl (Nat.le_of_ble_eq_true rfl) (Nat.le_of_ble_eq_true rfl) (Q1 := fun r M1 L1 => some (.int (imin i3 19)) = r ∧ M = M1 ∧ L = L1) (s_JMath_min ⟨rfl, rfl, rfl⟩) ?_
  rintro _ _ _ ⟨rfl, rfl, rfl⟩
  refine r_istore d_Patch_put_13 (by decide) ?_
  refine r_iload d_Patch_put_15 rfl ?_
  refine r_iload d_Patch_put_17 rfl ?_
  refine r_ic_le d_Patch_put_19 (fun c_1 => ?_) (fun c_1 => ?_)
  · have h9 := h.1 c_1
    refine r_iload d_Patch_put_23 rfl ?_
    refine r_iconst (v := 1) d_Patch_put_25 (by decide) ?_
    refine r_iadd d_Patch_put_26 ?_
    refine x_callS (as := [.int ((imin i3 19) + 1)]) (st := []) d_Patch_put_27 ml_Patch_48 mc_Patch_firstBits ms_Patch_firstBits ⟨by decide, by decide⟩ rfl (Nat.le_of_ble_eq_true rfl) (Nat.le_of_ble_eq_true rfl) (Q1 := fun r M1 L1 => some (.int (fbits ((imin i3 19) + 1))) = r ∧ M = M1 ∧ L = L1) (s_Patch_firstBits ⟨rfl, rfl, rfl⟩) ?_
    rintro _ _ _ ⟨rfl, rfl, rfl⟩
    refine r_iload d_Patch_put_30 rfl ?_
    refine x_callS (as := [.int (imax i1 0)]) (st := [.int (fbits ((imin i3 19) + 1))]) d_Patch_put_32 ml_Patch_48 mc_Patch_firstBits ms_Patch_firstBits ⟨by decide, by decide⟩ rfl (Nat.le_of_ble_eq_true rfl) (Nat.le_of_ble_eq_true rfl) (Q1 := fun r M1 L1 => some (.int (fbits (imax i1 0))) = r ∧ M = M1 ∧ L = L1) (s_Patch_firstBits ⟨rfl, rfl, rfl⟩) ?_
    rintro _ _ _ ⟨rfl, rfl, rfl⟩
    refine r_iconst (v := (-1)) d_Patch_put_35 (by decide) ?_
    refine r_ixor d_Patch_put_36 ?_
    refine r_iand d_Patch_put_37 ?_
    refine r_istore d_Patch_put_38 (by decide) ?_
    refine r_iload d_Patch_put_40 rfl ?_
    refine r_bipush (v := 19) d_Patch_put_42 (by decide) ?_
    refine x_callS (as := [.int i4, .int 19]) (st := []) d_Patch_put_44 ml_Patch_45 mc_JMath_min ms_JMath_min ⟨by decide, by decide⟩ rfl (Nat.le_of_ble_eq_true rfl) (Nat.le_of_ble_eq_true rfl) (Q1 := fun r M1 L1 => some (.int (imin i4 19)) = r ∧ M = M1 ∧ L = L1) (s_JMath_min ⟨rfl, rfl, rfl⟩) ?_
    rintro _ _ _ ⟨rfl, rfl, rfl⟩
    refine r_istore d_Patch_put_47 (by decide) ?_
    refine r_iload_n d_Patch_put_49 rfl ?_
    refine r_iconst (v := 0) d_Patch_put_50 (by decide) ?_
    refine x_callS (as := [.int i2, .int 0]) (st := []) d_Patch_put_51 ml_Patch_39 mc_JMath_max ms_JMath_max ⟨by decide, by decide⟩ rfl (Nat.le_of_ble_eq_true rfl) (Nat.le_of_ble_eq_true rfl) (Q1 := fun r M1 L1 => some (.int (imax i2 0)) = r ∧ M = M1 ∧ L = L1) (s_JMath_max ⟨rfl, rfl, rfl⟩) ?_
    rintro _ _ _ ⟨rfl, rfl, rfl⟩
    refine r_istore d_Patch_put_54 (by decide) ?_
    refine r_weak (lv' := [.ref p0, .null, .null, .null, .null, .int i5, .null, .null, .int ((fbits ((imin i3 19) + 1)) &&& ((fbits (imax i1 0)) ^^^ (-1))), .int (imin i4 19), .int (imax i2 0)]) (by repeat (first | exact trivial | refine ⟨rfl, ?_⟩ | exact lle_nil)) ?_
    exact h9
  · have h9 := h.2 c_1
    exact r_vret ⟨d_Patch_put_22, rfl⟩ ⟨M, L, rfl, h9⟩
theorem L_Patch_put_56 {xs : List Int32} {S : List Shp} {p0 : Nat} {i5 : Int32} {i8 : Int32} {i9 : Int32} {i10 : Int32} {M : Mem} {L : Int64} {Q : Option Value → Mem → Int64 → Prop} (hp0 : isP S p0)
    (h : ((i9 < i10 → Q none M L) ∧ (¬ (i9 < i10) → ((i5 = 0 → (vp_in i10 20 ∧ RX xs S md_Patch_put 56 [.ref p0, .null, .null, .null, .null, .int i5, .null, .null, .int i8, .int i9, .int (i10 + 1)] [] (up M (p0 + 1) i10.toNatClampNeg ((M (p0 + 1) i10.toNatClampNeg) &&& (i8 ^^^ (-1)))) L Q)) ∧ (¬ (i5 = 0) → (vp_in i10 20 ∧ RX xs S md_Patch_put 56 [.ref p0, .null, .null, .null, .null, .int i5, .null, .null, .int i8, .int i9, .int (i10 + 1)] [] (up M (p0 + 1) i10.toNatClampNeg ((M (p0 + 1) i10.toNatClampNeg) ||| i8)) L Q)))))) : RX xs S md_Patch_put 56 [.ref p0, .null, .null, .null, .null, .int i5, .null, .null, .int i8, .int i9, .int i10] [] M L Q := by
  refine r_iload d_Patch_put_56 rfl ?_
  refine r_iload d_Patch_put_58 rfl ?_
  refine r_ic_gt d_Patch_put_60 (fun c_2 => ?_) (fun c_2 => ?_)
  · have h9 := h.1 c_2
    exact r_vret ⟨d_Patch_put_106, rfl⟩ ⟨M, L, rfl, h9⟩
  · have h9 := h.2 c_2
    refine r_aload_n d_Patch_put_63 rfl ?_
    refine x_getR d_Patch_put_64 fl_Patch_9 (isP_R hp0) ?_
    refine r_iload d_Patch_put_67 rfl ?_
    refine r_iload d_Patch_put_69 rfl ?_
    refine r_if_eq d_Patch_put_71 (fun c_3 => ?_) (fun c_3 => ?_)
    · have h9 := h9.1 c_3
      refine r_aload_n d_Patch_put_87 rfl ?_
      refine x_getR d_Patch_put_88 fl_Patch_9 (isP_R hp0) ?_
      refine r_iload d_Patch_put_91 rfl ?_
      obtain ⟨o_4, h9⟩ := h9
      refine x_iald d_Patch_put_93 (isP_A hp0) o_4 ?_
      refine r_iload d_Patch_put_94 rfl ?_
      refine r_iconst (v := (-1)) d_Patch_put_96 (by decide) ?_
      refine r_ixor d_Patch_put_97 ?_
      refine r_iand d_Patch_put_98 ?_
      refine x_iast d_Patch_put_99 (isP_A hp0) o_4 ?_
      refine r_iinc (v := i10 + 1) d_Patch_put_100 rfl rfl (by decide) ?_
      refine r_goto d_Patch_put_103 ?_
      exact h9
    · have h9 := h9.2 c_3
      refine r_aload_n d_Patch_put_74 rfl ?_
      refine x_getR d_Patch_put_75 fl_Patch_9 (isP_R hp0) ?_
      refine r_iload d_Patch_put_78 rfl ?_
      obtain ⟨o_5, h9⟩ := h9
      refine x_iald d_Patch_put_80 (isP_A hp0) o_5 ?_
      refine r_iload d_Patch_put_81 rfl ?_
      refine r_ior d_Patch_put_83 ?_
      refine r_goto d_Patch_put_84 ?_
      refine x_iast d_Patch_put_99 (isP_A hp0) o_5 ?_
      refine r_iinc (v := i10 + 1) d_Patch_put_100 rfl rfl (by decide) ?_
      refine r_goto d_Patch_put_103 ?_
      exact h9
theorem L_Patch_seenFrom_0 {xs : List Int32} {S : List Shp} {p0 : Nat} {i1 : Int32} {i2 : Int32} {M : Mem} {L : Int64} {Q : Option Value → Mem → Int64 → Prop} (hp0 : isP S p0)
    (h : ((((0 : Int32) ≤ i2 ∧ i2 ≤ 19) → (((((-19) : Int32) ≤ i1 ∧ i1 ≤ 19) → ((i1 < 0 → (vp_in i2 20 ∧ Q (some (.int (((M (p0 + 1) i2.toNatClampNeg) <<< ((-i1) &&& 31)) &&& (fbits 20)))) M L)) ∧ (¬ (i1 < 0) → (vp_in i2 20 ∧ Q (some (.int ((M (p0 + 1) i2.toNatClampNeg) >>> (i1 &&& 31)))) M L)))) ∧ (¬ (((-19) : Int32) ≤ i1 ∧ i1 ≤ 19) → Q (some (.int 0)) M L))) ∧ (¬ ((0 : Int32) ≤ i2 ∧ i2 ≤ 19) → Q (some (.int 0)) M L))) : RX xs S md_Patch_seenFrom 0 [.ref p0, .int i1, .int i2] [] M L Q := by
  refine r_iload_n d_Patch_seenFrom_0 rfl ?_
  refine r_iconst (v := 0) d_Patch_seenFrom_1 (by decide) ?_
  refine r_bipush (v := 19) d_Patch_seenFrom_2 (by decide) ?_
  refine x_callS (as := [.int i2, .int 0, .int 19]) (st := []) d_Patch_seenFrom_4 ml_Patch_33 mc_Peg_isWithin ms_Peg_isWithin ⟨by decide, by decide⟩ rfl (Nat.le_of_ble_eq_true rfl) (Nat.le_of_ble_eq_true rfl) (Q1 := fun r M1 L1 => some (.int (bI ((0 : Int32) ≤ i2 ∧ i2 ≤ 19))) = r ∧ M = M1 ∧ L = L1) (s_Peg_isWithin ⟨rfl, rfl, rfl⟩) ?_
  rintro _ _ _ ⟨rfl, rfl, rfl⟩
  refine r_if_eq d_Patch_seenFrom_7 (fun c_1 => ?_) (fun c_1 => ?_)
  · have h9 := h.2 (bI_p0 c_1)
    refine r_iconst (v := 0) d_Patch_seenFrom_21 (by decide) ?_
    exact r_iret ⟨d_Patch_seenFrom_22, _, rfl, rfl⟩ ⟨_, _, rfl, h9⟩
  · have h9 := h.1 (bI_p1 c_1)
    refine r_iload_n d_Patch_seenFrom_10 rfl ?_
    refine r_bipush (v := (-19)) d_Patch_seenFrom_11 (by decide) ?_
    refine r_bipush (v := 19) d_Patch_seenFrom_13 (by decide) ?_
    refine x_callS (as := [.int i1, .int (-19), .int 19]) (st := []) d_Patch_seenFrom_15 ml_Patch_33 mc_Peg_isWithin ms_Peg_isWithin ⟨by decide, by decide⟩ rfl (Nat.le_of_ble_eq_true rfl) (Nat.le_of_ble_eq_true rfl) (Q1 := fun r M1 L1 => some (.int (bI (((-19) : Int32) ≤ i1 ∧ i1 ≤ 19))) = r ∧ M = M1 ∧ L = L1) (s_Peg_isWithin ⟨rfl, rfl, rfl⟩) ?_
    rintro _ _ _ ⟨rfl, rfl, rfl⟩
    refine r_if_ne d_Patch_seenFrom_18 (fun c_2 => ?_) (fun c_2 => ?_)
    · have h9 := h9.1 (bI_p1 c_2)
      refine r_iload_n d_Patch_seenFrom_23 rfl ?_
      refine r_if_lt d_Patch_seenFrom_24 (fun c_3 => ?_) (fun c_3 => ?_)
      · have h9 := h9.1 c_3
        refine r_aload_n d_Patch_seenFrom_38 rfl ?_
        refine x_getR d_Patch_seenFrom_39 fl_Patch_9 (isP_R hp0) ?_
        refine r_iload_n d_Patch_seenFrom_42 rfl ?_
        obtain ⟨o_4, h9⟩ := h9
        refine x_iald d_Patch_seenFrom_43 (isP_A hp0) o_4 ?_
        refine r_iload_n d_Patch_seenFrom_44 rfl ?_
        refine r_ineg d_Patch_seenFrom_45 ?_
        refine r_ishl d_Patch_seenFrom_46 ?_
        refine r_bipush (v := 20) d_Patch_seenFrom_47 (by decide) ?_
        refine x_callS (as := [.int 20]) (st := [.int ((M (p0 + 1) i2.toNatClampNeg) <<< ((-i1) &&& 31))]) d_Patch_seenFrom_49 ml_Patch_48 mc_Patch_firstBits ms_Patch_firstBits ⟨by decide, by decide⟩ rfl (Nat.le_of_ble_eq_true rfl) (Nat.le_of_ble_eq_true rfl) (Q1 := fun r M1 L1 => some (.int (fbits 20)) = r ∧ M = M1 ∧ L = L1) (s_Patch_firstBits ⟨rfl, rfl, rfl⟩) ?_
        rintro _ _ _ ⟨rfl, rfl, rfl⟩
        refine r_iand d_Patch_seenFrom_52 ?_
        exact r_iret ⟨d_Patch_seenFrom_53, _, rfl, rfl⟩ ⟨_, _, rfl, h9⟩
      · have h9 := h9.2 c_3
        refine r_aload_n d_Patch_seenFrom_27 rfl ?_
        refine x_getR d_Patch_seenFrom_28 fl_Patch_9 (isP_R hp0) ?_
        refine r_iload_n d_Patch_seenFrom_31 rfl ?_
        obtain ⟨o_5, h9⟩ := h9
        refine x_iald d_Patch_seenFrom_32 (isP_A hp0) o_5 ?_
        refine r_iload_n d_Patch_seenFrom_33 rfl ?_
        refine r_ishr d_Patch_seenFrom_34 ?_
        refine r_goto d_Patch_seenFrom_35 ?_
        exact r_iret ⟨d_Patch_seenFrom_53, _, rfl, rfl⟩ ⟨_, _, rfl, h9⟩
    · have h9 := h9.2 (bI_p0 c_2)
      refine r_iconst (v := 0) d_Patch_seenFrom_21 (by decide) ?_
      exact r_iret ⟨d_Patch_seenFrom_22, _, rfl, rfl⟩ ⟨_, _, rfl, h9⟩
theorem L_Patch_size_0 {xs : List Int32} {S : List Shp} {p0 : Nat} {M : Mem} {L : Int64} {Q : Option Value → Mem → Int64 → Prop} (hp0 : isP S p0)
    (h : RX xs S md_Patch_size 4 [.ref p0, .int 0, .int 0] [] M L Q) : RX xs S md_Patch_size 0 [.ref p0] [] M L Q := by
  refine r_weak (lv' := [.ref p0, .null, .null]) (by repeat (first | exact trivial | refine ⟨rfl, ?_⟩ | exact lle_nil)) ?_
  refine r_iconst (v := 0) d_Patch_size_0 (by decide) ?_
  refine r_istore_n d_Patch_size_1 (by decide) ?_
  refine r_iconst (v := 0) d_Patch_size_2 (by decide) ?_
  refine r_istore_n d_Patch_size_3 (by decide) ?_
  exact h
theorem L_Patch_size_4 {xs : List Int32} {S : List Shp} {p0 : Nat} {i1 : Int32} {i2 : Int32} {M : Mem} {L : Int64} {Q : Option Value → Mem → Int64 → Prop} (hp0 : isP S p0)
    (h : ((20 ≤ i2 → Q (some (.int i1)) M L) ∧ (¬ (20 ≤ i2) → (vp_in i2 20 ∧ RX xs S md_JInteger_bitCount 0 [.int (M (p0 + 1) i2.toNatClampNeg)] [] M L (fun r M_3 L_4 => ∃ v_5 : Int32, r = some (.int v_5) ∧ RX xs S md_Patch_size 4 [.ref p0, .int (i1 + v_5), .int (i2 + 1)] [] M_3 L_4 Q))))) : RX xs S md_Patch_size 4 [.ref p0, .int i1, .int i2] [] M L Q := by
  refine r_iload_n d_Patch_size_4 rfl ?_
  refine r_bipush (v := 20) d_Patch_size_5 (by decide) ?_
  refine r_ic_ge d_Patch_size_7 (fun c_1 => ?_) (fun c_1 => ?_)
  · have h9 := h.1 c_1
    refine r_iload_n d_Patch_size_28 rfl ?_
    exact r_iret ⟨d_Patch_size_29, _, rfl, rfl⟩ ⟨_, _, rfl, h9⟩
  · have h9 := h.2 c_1
    refine r_iload_n d_Patch_size_10 rfl ?_
    refine r_aload_n d_Patch_size_11 rfl ?_
    refine x_getR d_Patch_size_12 fl_Patch_9 (isP_R hp0) ?_
    refine r_iload_n d_Patch_size_15 rfl ?_
    obtain ⟨o_2, h9⟩ := h9
    refine x_iald d_Patch_size_16 (isP_A hp0) o_2 ?_
    refine x_callS (as := [.int (M (p0 + 1) i2.toNatClampNeg)]) (st := [.int i1]) d_Patch_size_17 ml_Patch_27 mc_JInteger_bitCount ms_JInteger_bitCount ⟨by decide, by decide⟩ rfl (Nat.le_of_ble_eq_true rfl) (Nat.le_of_ble_eq_true rfl) h9 ?_
    rintro _ M_3 L_4 ⟨v_5, rfl, h9⟩
    refine r_iadd d_Patch_size_20 ?_
    refine r_istore_n d_Patch_size_21 (by decide) ?_
    refine r_iinc (v := i2 + 1) d_Patch_size_22 rfl rfl (by decide) ?_
    refine r_goto d_Patch_size_25 ?_
    exact h9
theorem L_Reach_cellsDown_0 {xs : List Int32} {S : List Shp} {i0 : Int32} {M : Mem} {L : Int64} {Q : Option Value → Mem → Int64 → Prop} 
    (h : Q (some (.int (fdv i0 8000))) M L) : RX xs S md_Reach_cellsDown 0 [.int i0] [] M L Q := by
  refine r_iload_n d_Reach_cellsDown_0 rfl ?_
  refine r_sipush (v := 8000) d_Reach_cellsDown_1 (by decide) ?_
  refine x_callS (as := [.int i0, .int 8000]) (st := []) d_Reach_cellsDown_4 ml_Reach_24 mc_JMath_floorDiv ms_JMath_floorDiv ⟨by decide, by decide⟩ rfl (Nat.le_of_ble_eq_true rfl) (Nat.le_of_ble_eq_true rfl) (Q1 := fun r M1 L1 => some (.int (fdv i0 8000)) = r ∧ M = M1 ∧ L = L1) (s_JMath_floorDiv (by decide) ⟨rfl, rfl, rfl⟩) ?_
  rintro _ _ _ ⟨rfl, rfl, rfl⟩
  exact r_iret ⟨d_Reach_cellsDown_7, _, rfl, rfl⟩ ⟨_, _, rfl, h⟩
theorem L_Reach_cellsUp_0 {xs : List Int32} {S : List Shp} {i0 : Int32} {M : Mem} {L : Int64} {Q : Option Value → Mem → Int64 → Prop} 
    (h : Q (some (.int (-(fdv (-i0) 8000)))) M L) : RX xs S md_Reach_cellsUp 0 [.int i0] [] M L Q := by
  refine r_iload_n d_Reach_cellsUp_0 rfl ?_
  refine r_ineg d_Reach_cellsUp_1 ?_
  refine r_sipush (v := 8000) d_Reach_cellsUp_2 (by decide) ?_
  refine x_callS (as := [.int (-i0), .int 8000]) (st := []) d_Reach_cellsUp_5 ml_Reach_24 mc_JMath_floorDiv ms_JMath_floorDiv ⟨by decide, by decide⟩ rfl (Nat.le_of_ble_eq_true rfl) (Nat.le_of_ble_eq_true rfl) (Q1 := fun r M1 L1 => some (.int (fdv (-i0) 8000)) = r ∧ M = M1 ∧ L = L1) (s_JMath_floorDiv (by decide) ⟨rfl, rfl, rfl⟩) ?_
  rintro _ _ _ ⟨rfl, rfl, rfl⟩
  refine r_ineg d_Reach_cellsUp_8 ?_
  exact r_iret ⟨d_Reach_cellsUp_9, _, rfl, rfl⟩ ⟨_, _, rfl, h⟩
theorem L_Row_cut_0 {xs : List Int32} {t0 : Nat} {i1 : Int32} {p2 : Nat} {p3 : Nat} {M : Mem} {L : Int64} {Q : Option Value → Mem → Int64 → Prop} (ht0 : t0 < 40) (hp2 : isP shL p2) (hp3 : isP shL p3)
    (h : ((i1 = 0 → Q none (cpR M (p3 + 1) (p2 + 1) 20) L) ∧ (¬ (i1 = 0) → Q none (rowN (cpR M (p3 + 1) (p2 + 1) 20) (p3 + 1) 20 (fun y => (cpR M (p3 + 1) (p2 + 1) 20) (p3 + 1) y &&& (cpR M (p3 + 1) (p2 + 1) 20) ((136 + 5 * t0 + 3) + 1) y)) L))) : RX xs shL md_Row_cut 0 [.ref (136 + 5 * t0), .int i1, .ref p2, .ref p3] [] M L Q := by
  refine r_aload_n d_Row_cut_0 rfl ?_
  refine r_aload_n d_Row_cut_1 rfl ?_
  refine x_callV (as := [.ref p2]) (st := []) d_Row_cut_2 ml_Row_77 mc_Patch_copy mv_Patch_copy ⟨by decide, by decide⟩ (isP_O hp3) ⟨_, rfl, rfl⟩ rfl (Nat.le_of_ble_eq_true rfl) (Nat.le_of_ble_eq_true rfl) (Q1 := fun r M1 L1 => none = r ∧ cpR M (p3 + 1) (p2 + 1) 20 = M1 ∧ L = L1) (s_Patch_copy hp3 hp2 ⟨rfl, rfl, rfl⟩) ?_
  rintro _ _ _ ⟨rfl, rfl, rfl⟩
  refine r_iload_n d_Row_cut_5 rfl ?_
  refine r_if_eq d_Row_cut_6 (fun c_1 => ?_) (fun c_1 => ?_)
  · have h9 := h.1 c_1
    exact r_vret ⟨d_Row_cut_17, rfl⟩ ⟨cpR M (p3 + 1) (p2 + 1) 20, L, rfl, h9⟩
  · have h9 := h.2 c_1
    refine r_aload_n d_Row_cut_9 rfl ?_
    refine r_aload_n d_Row_cut_10 rfl ?_
    refine x_getR d_Row_cut_11 fl_Row_24 (rw_R2 ht0) ?_
    refine x_callV (as := [.ref (136 + 5 * t0 + 3)]) (st := []) d_Row_cut_14 ml_Row_117 mc_Patch_cutTo mv_Patch_cutTo ⟨by decide, by decide⟩ (isP_O hp3) ⟨_, rfl, rfl⟩ rfl (Nat.le_of_ble_eq_true rfl) (Nat.le_of_ble_eq_true rfl) (Q1 := fun r M1 L1 => none = r ∧ rowN (cpR M (p3 + 1) (p2 + 1) 20) (p3 + 1) 20 (fun y => (cpR M (p3 + 1) (p2 + 1) 20) (p3 + 1) y &&& (cpR M (p3 + 1) (p2 + 1) 20) ((136 + 5 * t0 + 3) + 1) y) = M1 ∧ L = L1) (s_Patch_cutTo hp3 (rw_p ht0) ⟨rfl, rfl, rfl⟩) ?_
    rintro _ _ _ ⟨rfl, rfl, rfl⟩
    exact r_vret ⟨d_Row_cut_17, rfl⟩ ⟨rowN (cpR M (p3 + 1) (p2 + 1) 20) (p3 + 1) 20 (fun y => (cpR M (p3 + 1) (p2 + 1) 20) (p3 + 1) y &&& (cpR M (p3 + 1) (p2 + 1) 20) ((136 + 5 * t0 + 3) + 1) y), L, rfl, h9⟩
theorem L_Row_fact_0 {xs : List Int32} {t0 : Nat} {i1 : Int32} {M : Mem} {L : Int64} {Q : Option Value → Mem → Int64 → Prop} (ht0 : t0 < 40)
    (h : ((i1 = 0 ∧ Q (some (.int (M (136 + 5 * t0) 3))) M L) ∨ (i1 = 1 ∧ Q (some (.int (M (136 + 5 * t0) 4))) M L) ∨ (i1 = 2 ∧ Q (some (.int (M (136 + 5 * t0) 5))) M L) ∨ (i1 = 3 ∧ Q (some (.int (M (136 + 5 * t0) 6))) M L) ∨ ((i1 < 0 ∨ 3 < i1) ∧ Q (some (.int (bI (¬ (M (136 + 5 * t0) 7) = 0)))) M L))) : RX xs shL md_Row_fact 0 [.ref (136 + 5 * t0), .int i1] [] M L Q := by
  refine r_iload_n d_Row_fact_0 rfl ?_
  rcases h with h9 | h9 | h9 | h9 | h9
  · obtain ⟨c9, h9⟩ := h9
    refine r_switch (tgt := 32) ⟨_, _, _, _, _, d_Row_fact_1, Or.inr ⟨by rw [c9]; decide, by rw [c9]; decide, 31, by rw [c9]; rfl, by decide⟩⟩ ?_
    refine r_aload_n d_Row_fact_32 rfl ?_
    refine x_getI d_Row_fact_33 fl_Row_45 (rw_I ht0 3 (by decide) (by decide)) ?_
    exact r_iret ⟨d_Row_fact_36, _, rfl, rfl⟩ ⟨_, _, rfl, h9⟩
  · obtain ⟨c9, h9⟩ := h9
    refine r_switch (tgt := 37) ⟨_, _, _, _, _, d_Row_fact_1, Or.inr ⟨by rw [c9]; decide, by rw [c9]; decide, 36, by rw [c9]; rfl, by decide⟩⟩ ?_
    refine r_aload_n d_Row_fact_37 rfl ?_
    refine x_getI d_Row_fact_38 fl_Row_49 (rw_I ht0 4 (by decide) (by decide)) ?_
    exact r_iret ⟨d_Row_fact_41, _, rfl, rfl⟩ ⟨_, _, rfl, h9⟩
  · obtain ⟨c9, h9⟩ := h9
    refine r_switch (tgt := 42) ⟨_, _, _, _, _, d_Row_fact_1, Or.inr ⟨by rw [c9]; decide, by rw [c9]; decide, 41, by rw [c9]; rfl, by decide⟩⟩ ?_
    refine r_aload_n d_Row_fact_42 rfl ?_
    refine x_getI d_Row_fact_43 fl_Row_52 (rw_I ht0 5 (by decide) (by decide)) ?_
    exact r_iret ⟨d_Row_fact_46, _, rfl, rfl⟩ ⟨_, _, rfl, h9⟩
  · obtain ⟨c9, h9⟩ := h9
    refine r_switch (tgt := 47) ⟨_, _, _, _, _, d_Row_fact_1, Or.inr ⟨by rw [c9]; decide, by rw [c9]; decide, 46, by rw [c9]; rfl, by decide⟩⟩ ?_
    refine r_aload_n d_Row_fact_47 rfl ?_
    refine x_getI d_Row_fact_48 fl_Row_55 (rw_I ht0 6 (by decide) (by decide)) ?_
    exact r_iret ⟨d_Row_fact_51, _, rfl, rfl⟩ ⟨_, _, rfl, h9⟩
  · obtain ⟨c9, h9⟩ := h9
    refine r_switch (tgt := 52) ⟨_, _, _, _, _, d_Row_fact_1, Or.inl ⟨sw_out c9 (by decide) (by decide), by decide⟩⟩ ?_
    refine r_aload_n d_Row_fact_52 rfl ?_
    refine x_getI d_Row_fact_53 fl_Row_58 (rw_I ht0 7 (by decide) (by decide)) ?_
    refine x_callS (as := [.int (M (136 + 5 * t0) 7)]) (st := []) d_Row_fact_56 ml_Row_62 mc_Peg_asNumber ms_Peg_asNumber ⟨by decide, by decide⟩ rfl (Nat.le_of_ble_eq_true rfl) (Nat.le_of_ble_eq_true rfl) (Q1 := fun r M1 L1 => some (.int (bI (¬ (M (136 + 5 * t0) 7) = 0))) = r ∧ M = M1 ∧ L = L1) (s_Peg_asNumber ⟨rfl, rfl, rfl⟩) ?_
    rintro _ _ _ ⟨rfl, rfl, rfl⟩
    exact r_iret ⟨d_Row_fact_59, _, rfl, rfl⟩ ⟨_, _, rfl, h9⟩
set_option maxHeartbeats 4000000 in
theorem L_Row_isSign_0 {xs : List Int32} {S : List Shp} {i0 : Int32} {i1 : Int32} {i2 : Int32} {M : Mem} {L : Int64} {Q : Option Value → Mem → Int64 → Prop} 
    (h : ((((0 : Int32) ≤ i0 ∧ i0 ≤ 5) → ((i0 = 2 → (((¬ i0 = 3) → ((((0 : Int32) ≤ i1 ∧ i1 ≤ 8) → (((i0 = 0 ∨ i0 = 4) → (((i1 ≤ i2 ∧ i2 ≤ 8) → Q (some (.int 1)) M L) ∧ (¬ (i1 ≤ i2 ∧ i2 ≤ 8) → Q (some (.int 0)) M L))) ∧ (¬ (i0 = 0 ∨ i0 = 4) → Q (some (.int 1)) M L))) ∧ (¬ ((0 : Int32) ≤ i1 ∧ i1 ≤ 8) → Q (some (.int 0)) M L))) ∧ (¬ (¬ i0 = 3) → (((i0 = 0 ∨ i0 = 4) → (((i1 ≤ i2 ∧ i2 ≤ 8) → Q (some (.int 1)) M L) ∧ (¬ (i1 ≤ i2 ∧ i2 ≤ 8) → Q (some (.int 0)) M L))) ∧ (¬ (i0 = 0 ∨ i0 = 4) → Q (some (.int 1)) M L))))) ∧ (¬ (i0 = 2) → ((i0 = 5 → (((¬ i0 = 3) → ((((0 : Int32) ≤ i1 ∧ i1 ≤ 8) → (((i0 = 0 ∨ i0 = 4) → (((i1 ≤ i2 ∧ i2 ≤ 8) → Q (some (.int 1)) M L) ∧ (¬ (i1 ≤ i2 ∧ i2 ≤ 8) → Q (some (.int 0)) M L))) ∧ (¬ (i0 = 0 ∨ i0 = 4) → Q (some (.int 1)) M L))) ∧ (¬ ((0 : Int32) ≤ i1 ∧ i1 ≤ 8) → Q (some (.int 0)) M L))) ∧ (¬ (¬ i0 = 3) → (((i0 = 0 ∨ i0 = 4) → (((i1 ≤ i2 ∧ i2 ≤ 8) → Q (some (.int 1)) M L) ∧ (¬ (i1 ≤ i2 ∧ i2 ≤ 8) → Q (some (.int 0)) M L))) ∧ (¬ (i0 = 0 ∨ i0 = 4) → Q (some (.int 1)) M L))))) ∧ (¬ (i0 = 5) → (((¬ i0 = 3) → ((((0 : Int32) ≤ i1 ∧ i1 ≤ 99) → (((i0 = 0 ∨ i0 = 4) → (((i1 ≤ i2 ∧ i2 ≤ 99) → Q (some (.int 1)) M L) ∧ (¬ (i1 ≤ i2 ∧ i2 ≤ 99) → Q (some (.int 0)) M L))) ∧ (¬ (i0 = 0 ∨ i0 = 4) → Q (some (.int 1)) M L))) ∧ (¬ ((0 : Int32) ≤ i1 ∧ i1 ≤ 99) → Q (some (.int 0)) M L))) ∧ (¬ (¬ i0 = 3) → (((i0 = 0 ∨ i0 = 4) → (((i1 ≤ i2 ∧ i2 ≤ 99) → Q (some (.int 1)) M L) ∧ (¬ (i1 ≤ i2 ∧ i2 ≤ 99) → Q (some (.int 0)) M L))) ∧ (¬ (i0 = 0 ∨ i0 = 4) → Q (some (.int 1)) M L))))))))) ∧ (¬ ((0 : Int32) ≤ i0 ∧ i0 ≤ 5) → Q (some (.int 0)) M L))) : RX xs S md_Row_isSign 0 [.int i0, .int i1, .int i2] [] M L Q := by
  refine r_weak (lv' := [.int i0, .int i1, .int i2, .null]) (by repeat (first | exact trivial | refine ⟨rfl, ?_⟩ | exact lle_nil)) ?_
  refine r_iload_n d_Row_isSign_0 rfl ?_
  refine r_iconst (v := 0) d_Row_isSign_1 (by decide) ?_
  refine r_iconst (v := 5) d_Row_isSign_2 (by decide) ?_
  refine x_callS (as := [.int i0, .int 0, .int 5]) (st := []) d_Row_isSign_3 ml_Row_32 mc_Peg_isWithin ms_Peg_isWithin ⟨by decide, by decide⟩ rfl (Nat.le_of_ble_eq_true rfl) (Nat.le_of_ble_eq_true rfl) (Q1 := fun r M1 L1 => some (.int (bI ((0 : Int32) ≤ i0 ∧ i0 ≤ 5))) = r ∧ M = M1 ∧ L = L1) (s_Peg_isWithin ⟨rfl, rfl, rfl⟩) ?_
  rintro _ _ _ ⟨rfl, rfl, rfl⟩
  refine r_if_ne d_Row_isSign_6 (fun c_1 => ?_) (fun c_1 => ?_)
  · have h9 := h.1 (bI_p1 c_1)
    refine r_iload_n d_Row_isSign_11 rfl ?_
    refine r_iconst (v := 2) d_Row_isSign_12 (by decide) ?_
    refine r_ic_eq d_Row_isSign_13 (fun c_2 => ?_) (fun c_2 => ?_)
    · have h9 := h9.1 c_2
      refine r_bipush (v := 8) d_Row_isSign_21 (by decide) ?_
      refine r_goto d_Row_isSign_23 ?_
      refine r_istore_n d_Row_isSign_28 (by decide) ?_
      refine r_iload_n d_Row_isSign_29 rfl ?_
      refine x_callS (as := [.int i0]) (st := []) d_Row_isSign_30 ml_Row_38 mc_Row_needsFirst ms_Row_needsFirst ⟨by decide, by decide⟩ rfl (Nat.le_of_ble_eq_true rfl) (Nat.le_of_ble_eq_true rfl) (Q1 := fun r M1 L1 => some (.int (bI (¬ i0 = 3))) = r ∧ M = M1 ∧ L = L1) (s_Row_needsFirst ⟨rfl, rfl, rfl⟩) ?_
      rintro _ _ _ ⟨rfl, rfl, rfl⟩
      refine r_if_eq d_Row_isSign_33 (fun c_3 => ?_) (fun c_3 => ?_)
      · have h9 := h9.2 (bI_p0 c_3)
        refine r_iload_n d_Row_isSign_47 rfl ?_
        refine x_callS (as := [.int i0]) (st := []) d_Row_isSign_48 ml_Row_42 mc_Row_needsSecond ms_Row_needsSecond ⟨by decide, by decide⟩ rfl (Nat.le_of_ble_eq_true rfl) (Nat.le_of_ble_eq_true rfl) (Q1 := fun r M1 L1 => some (.int (bI (i0 = 0 ∨ i0 = 4))) = r ∧ M = M1 ∧ L = L1) (s_Row_needsSecond ⟨rfl, rfl, rfl⟩) ?_
        rintro _ _ _ ⟨rfl, rfl, rfl⟩
        refine r_if_eq d_Row_isSign_51 (fun c_4 => ?_) (fun c_4 => ?_)
        · have h9 := h9.2 (bI_p0 c_4)
          refine r_iconst (v := 1) d_Row_isSign_63 (by decide) ?_
          refine r_goto d_Row_isSign_64 ?_
          exact r_iret ⟨d_Row_isSign_68, _, rfl, rfl⟩ ⟨_, _, rfl, h9⟩
        · have h9 := h9.1 (bI_p1 c_4)
          refine r_iload_n d_Row_isSign_54 rfl ?_
          refine r_iload_n d_Row_isSign_55 rfl ?_
          refine r_iload_n d_Row_isSign_56 rfl ?_
          refine x_callS (as := [.int i2, .int i1, .int 8]) (st := []) d_Row_isSign_57 ml_Row_32 mc_Peg_isWithin ms_Peg_isWithin ⟨by decide, by decide⟩ rfl (Nat.le_of_ble_eq_true rfl) (Nat.le_of_ble_eq_true rfl) (Q1 := fun r M1 L1 => some (.int (bI (i1 ≤ i2 ∧ i2 ≤ 8))) = r ∧ M = M1 ∧ L = L1) (s_Peg_isWithin ⟨rfl, rfl, rfl⟩) ?_
          rintro _ _ _ ⟨rfl, rfl, rfl⟩
          refine r_if_eq d_Row_isSign_60 (fun c_5 => ?_) (fun c_5 => ?_)
          · have h9 := h9.2 (bI_p0 c_5)
            refine r_iconst (v := 0) d_Row_isSign_67 (by decide) ?_
            exact r_iret ⟨d_Row_isSign_68, _, rfl, rfl⟩ ⟨_, _, rfl, h9⟩
          · have h9 := h9.1 (bI_p1 c_5)
            refine r_iconst (v := 1) d_Row_isSign_63 (by decide) ?_
            refine r_goto d_Row_isSign_64 ?_
            exact r_iret ⟨d_Row_isSign_68, _, rfl, rfl⟩ ⟨_, _, rfl, h9⟩
      · have h9 := h9.1 (bI_p1 c_3)
        refine r_iload_n d_Row_isSign_36 rfl ?_
        refine r_iconst (v := 0) d_Row_isSign_37 (by decide) ?_
        refine r_iload_n d_Row_isSign_38 rfl ?_
        refine x_callS (as := [.int i1, .int 0, .int 8]) (st := []) d_Row_isSign_39 ml_Row_32 mc_Peg_isWithin ms_Peg_isWithin ⟨by decide, by decide⟩ rfl (Nat.le_of_ble_eq_true rfl) (Nat.le_of_ble_eq_true rfl) (Q1 := fun r M1 L1 => some (.int (bI ((0 : Int32) ≤ i1 ∧ i1 ≤ 8))) = r ∧ M = M1 ∧ L = L1) (s_Peg_isWithin ⟨rfl, rfl, rfl⟩) ?_
        rintro _ _ _ ⟨rfl, rfl, rfl⟩
        refine r_if_ne d_Row_isSign_42 (fun c_6 => ?_) (fun c_6 => ?_)
        · have h9 := h9.1 (bI_p1 c_6)
          refine r_iload_n d_Row_isSign_47 rfl ?_
          refine x_callS (as := [.int i0]) (st := []) d_Row_isSign_48 ml_Row_42 mc_Row_needsSecond ms_Row_needsSecond ⟨by decide, by decide⟩ rfl (Nat.le_of_ble_eq_true rfl) (Nat.le_of_ble_eq_true rfl) (Q1 := fun r M1 L1 => some (.int (bI (i0 = 0 ∨ i0 = 4))) = r ∧ M = M1 ∧ L = L1) (s_Row_needsSecond ⟨rfl, rfl, rfl⟩) ?_
          rintro _ _ _ ⟨rfl, rfl, rfl⟩
          refine r_if_eq d_Row_isSign_51 (fun c_7 => ?_) (fun c_7 => ?_)
          · have h9 := h9.2 (bI_p0 c_7)
            refine r_iconst (v := 1) d_Row_isSign_63 (by decide) ?_
            refine r_goto d_Row_isSign_64 ?_
            exact r_iret ⟨d_Row_isSign_68, _, rfl, rfl⟩ ⟨_, _, rfl, h9⟩
          · have h9 := h9.1 (bI_p1 c_7)
            refine r_iload_n d_Row_isSign_54 rfl ?_
            refine r_iload_n d_Row_isSign_55 rfl ?_
            refine r_iload_n d_Row_isSign_56 rfl ?_
            refine x_callS (as := [.int i2, .int i1, .int 8]) (st := []) d_Row_isSign_57 ml_Row_32 mc_Peg_isWithin ms_Peg_isWithin ⟨by decide, by decide⟩ rfl (Nat.le_of_ble_eq_true rfl) (Nat.le_of_ble_eq_true rfl) (Q1 := fun r M1 L1 => some (.int (bI (i1 ≤ i2 ∧ i2 ≤ 8))) = r ∧ M = M1 ∧ L = L1) (s_Peg_isWithin ⟨rfl, rfl, rfl⟩) ?_
            rintro _ _ _ ⟨rfl, rfl, rfl⟩
            refine r_if_eq d_Row_isSign_60 (fun c_8 => ?_) (fun c_8 => ?_)
            · have h9 := h9.2 (bI_p0 c_8)
              refine r_iconst (v := 0) d_Row_isSign_67 (by decide) ?_
              exact r_iret ⟨d_Row_isSign_68, _, rfl, rfl⟩ ⟨_, _, rfl, h9⟩
            · have h9 := h9.1 (bI_p1 c_8)
              refine r_iconst (v := 1) d_Row_isSign_63 (by decide) ?_
              refine r_goto d_Row_isSign_64 ?_
              exact r_iret ⟨d_Row_isSign_68, _, rfl, rfl⟩ ⟨_, _, rfl, h9⟩
        · have h9 := h9.2 (bI_p0 c_6)
          refine r_iconst (v := 0) d_Row_isSign_45 (by decide) ?_
          exact r_iret ⟨d_Row_isSign_46, _, rfl, rfl⟩ ⟨_, _, rfl, h9⟩
    · have h9 := h9.2 c_2
      refine r_iload_n d_Row_isSign_16 rfl ?_
      refine r_iconst (v := 5) d_Row_isSign_17 (by decide) ?_
      refine r_ic_ne d_Row_isSign_18 (fun c_9 => ?_) (fun c_9 => ?_)
      · have h9 := h9.2 c_9
        refine r_bipush (v := 99) d_Row_isSign_26 (by decide) ?_
        refine r_istore_n d_Row_isSign_28 (by decide) ?_
        refine r_iload_n d_Row_isSign_29 rfl ?_
        refine x_callS (as := [.int i0]) (st := []) d_Row_isSign_30 ml_Row_38 mc_Row_needsFirst ms_Row_needsFirst ⟨by decide, by decide⟩ rfl (Nat.le_of_ble_eq_true rfl) (Nat.le_of_ble_eq_true rfl) (Q1 := fun r M1 L1 => some (.int (bI (¬ i0 = 3))) = r ∧ M = M1 ∧ L = L1) (s_Row_needsFirst ⟨rfl, rfl, rfl⟩) ?_
        rintro _ _ _ ⟨rfl, rfl, rfl⟩
        refine r_if_eq d_Row_isSign_33 (fun c_10 => ?_) (fun c_10 => ?_)
        · have h9 := h9.2 (bI_p0 c_10)
          refine r_iload_n d_Row_isSign_47 rfl ?_
          refine x_callS (as := [.int i0]) (st := []) d_Row_isSign_48 ml_Row_42 mc_Row_needsSecond ms_Row_needsSecond ⟨by decide, by decide⟩ rfl (Nat.le_of_ble_eq_true rfl) (Nat.le_of_ble_eq_true rfl) (Q1 := fun r M1 L1 => some (.int (bI (i0 = 0 ∨ i0 = 4))) = r ∧ M = M1 ∧ L = L1) (s_Row_needsSecond ⟨rfl, rfl, rfl⟩) ?_
          rintro _ _ _ ⟨rfl, rfl, rfl⟩
          refine r_if_eq d_Row_isSign_51 (fun c_11 => ?_) (fun c_11 => ?_)
          · have h9 := h9.2 (bI_p0 c_11)
            refine r_iconst (v := 1) d_Row_isSign_63 (by decide) ?_
            refine r_goto d_Row_isSign_64 ?_
            exact r_iret ⟨d_Row_isSign_68, _, rfl, rfl⟩ ⟨_, _, rfl, h9⟩
          · have h9 := h9.1 (bI_p1 c_11)
            refine r_iload_n d_Row_isSign_54 rfl ?_
            refine r_iload_n d_Row_isSign_55 rfl ?_
            refine r_iload_n d_Row_isSign_56 rfl ?_
            refine x_callS (as := [.int i2, .int i1, .int 99]) (st := []) d_Row_isSign_57 ml_Row_32 mc_Peg_isWithin ms_Peg_isWithin ⟨by decide, by decide⟩ rfl (Nat.le_of_ble_eq_true rfl) (Nat.le_of_ble_eq_true rfl) (Q1 := fun r M1 L1 => some (.int (bI (i1 ≤ i2 ∧ i2 ≤ 99))) = r ∧ M = M1 ∧ L = L1) (s_Peg_isWithin ⟨rfl, rfl, rfl⟩) ?_
            rintro _ _ _ ⟨rfl, rfl, rfl⟩
            refine r_if_eq d_Row_isSign_60 (fun c_12 => ?_) (fun c_12 => ?_)
            · have h9 := h9.2 (bI_p0 c_12)
              refine r_iconst (v := 0) d_Row_isSign_67 (by decide) ?_
              exact r_iret ⟨d_Row_isSign_68, _, rfl, rfl⟩ ⟨_, _, rfl, h9⟩
            · have h9 := h9.1 (bI_p1 c_12)
              refine r_iconst (v := 1) d_Row_isSign_63 (by decide) ?_
              refine r_goto d_Row_isSign_64 ?_
              exact r_iret ⟨d_Row_isSign_68, _, rfl, rfl⟩ ⟨_, _, rfl, h9⟩
        · have h9 := h9.1 (bI_p1 c_10)
          refine r_iload_n d_Row_isSign_36 rfl ?_
          refine r_iconst (v := 0) d_Row_isSign_37 (by decide) ?_
          refine r_iload_n d_Row_isSign_38 rfl ?_
          refine x_callS (as := [.int i1, .int 0, .int 99]) (st := []) d_Row_isSign_39 ml_Row_32 mc_Peg_isWithin ms_Peg_isWithin ⟨by decide, by decide⟩ rfl (Nat.le_of_ble_eq_true rfl) (Nat.le_of_ble_eq_true rfl) (Q1 := fun r M1 L1 => some (.int (bI ((0 : Int32) ≤ i1 ∧ i1 ≤ 99))) = r ∧ M = M1 ∧ L = L1) (s_Peg_isWithin ⟨rfl, rfl, rfl⟩) ?_
          rintro _ _ _ ⟨rfl, rfl, rfl⟩
          refine r_if_ne d_Row_isSign_42 (fun c_13 => ?_) (fun c_13 => ?_)
          · have h9 := h9.1 (bI_p1 c_13)
            refine r_iload_n d_Row_isSign_47 rfl ?_
            refine x_callS (as := [.int i0]) (st := []) d_Row_isSign_48 ml_Row_42 mc_Row_needsSecond ms_Row_needsSecond ⟨by decide, by decide⟩ rfl (Nat.le_of_ble_eq_true rfl) (Nat.le_of_ble_eq_true rfl) (Q1 := fun r M1 L1 => some (.int (bI (i0 = 0 ∨ i0 = 4))) = r ∧ M = M1 ∧ L = L1) (s_Row_needsSecond ⟨rfl, rfl, rfl⟩) ?_
            rintro _ _ _ ⟨rfl, rfl, rfl⟩
            refine r_if_eq d_Row_isSign_51 (fun c_14 => ?_) (fun c_14 => ?_)
            · have h9 := h9.2 (bI_p0 c_14)
              refine r_iconst (v := 1) d_Row_isSign_63 (by decide) ?_
              refine r_goto d_Row_isSign_64 ?_
              exact r_iret ⟨d_Row_isSign_68, _, rfl, rfl⟩ ⟨_, _, rfl, h9⟩
            · have h9 := h9.1 (bI_p1 c_14)
              refine r_iload_n d_Row_isSign_54 rfl ?_
              refine r_iload_n d_Row_isSign_55 rfl ?_
              refine r_iload_n d_Row_isSign_56 rfl ?_
              refine x_callS (as := [.int i2, .int i1, .int 99]) (st := []) d_Row_isSign_57 ml_Row_32 mc_Peg_isWithin ms_Peg_isWithin ⟨by decide, by decide⟩ rfl (Nat.le_of_ble_eq_true rfl) (Nat.le_of_ble_eq_true rfl) (Q1 := fun r M1 L1 => some (.int (bI (i1 ≤ i2 ∧ i2 ≤ 99))) = r ∧ M = M1 ∧ L = L1) (s_Peg_isWithin ⟨rfl, rfl, rfl⟩) ?_
              rintro _ _ _ ⟨rfl, rfl, rfl⟩
              refine r_if_eq d_Row_isSign_60 (fun c_15 => ?_) (fun c_15 => ?_)
              · have h9 := h9.2 (bI_p0 c_15)
                refine r_iconst (v := 0) d_Row_isSign_67 (by decide) ?_
                exact r_iret ⟨d_Row_isSign_68, _, rfl, rfl⟩ ⟨_, _, rfl, h9⟩
              · have h9 := h9.1 (bI_p1 c_15)
                refine r_iconst (v := 1) d_Row_isSign_63 (by decide) ?_
                refine r_goto d_Row_isSign_64 ?_
                exact r_iret ⟨d_Row_isSign_68, _, rfl, rfl⟩ ⟨_, _, rfl, h9⟩
          · have h9 := h9.2 (bI_p0 c_13)
            refine r_iconst (v := 0) d_Row_isSign_45 (by decide) ?_
            exact r_iret ⟨d_Row_isSign_46, _, rfl, rfl⟩ ⟨_, _, rfl, h9⟩
      · have h9 := h9.1 c_9
        refine r_bipush (v := 8) d_Row_isSign_21 (by decide) ?_
        refine r_goto d_Row_isSign_23 ?_
        refine r_istore_n d_Row_isSign_28 (by decide) ?_
        refine r_iload_n d_Row_isSign_29 rfl ?_
        refine x_callS (as := [.int i0]) (st := []) d_Row_isSign_30 ml_Row_38 mc_Row_needsFirst ms_Row_needsFirst ⟨by decide, by decide⟩ rfl (Nat.le_of_ble_eq_true rfl) (Nat.le_of_ble_eq_true rfl) (Q1 := fun r M1 L1 => some (.int (bI (¬ i0 = 3))) = r ∧ M = M1 ∧ L = L1) (s_Row_needsFirst ⟨rfl, rfl, rfl⟩) ?_
        rintro _ _ _ ⟨rfl, rfl, rfl⟩
        refine r_if_eq d_Row_isSign_33 (fun c_16 => ?_) (fun c_16 => ?_)
        · have h9 := h9.2 (bI_p0 c_16)
          refine r_iload_n d_Row_isSign_47 rfl ?_
          refine x_callS (as := [.int i0]) (st := []) d_Row_isSign_48 ml_Row_42 mc_Row_needsSecond ms_Row_needsSecond ⟨by decide, by decide⟩ rfl (Nat.le_of_ble_eq_true rfl) (Nat.le_of_ble_eq_true rfl) (Q1 := fun r M1 L1 => some (.int (bI (i0 = 0 ∨ i0 = 4))) = r ∧ M = M1 ∧ L = L1) (s_Row_needsSecond ⟨rfl, rfl, rfl⟩) ?_
          rintro _ _ _ ⟨rfl, rfl, rfl⟩
          refine r_if_eq d_Row_isSign_51 (fun c_17 => ?_) (fun c_17 => ?_)
          · have h9 := h9.2 (bI_p0 c_17)
            refine r_iconst (v := 1) d_Row_isSign_63 (by decide) ?_
            refine r_goto d_Row_isSign_64 ?_
            exact r_iret ⟨d_Row_isSign_68, _, rfl, rfl⟩ ⟨_, _, rfl, h9⟩
          · have h9 := h9.1 (bI_p1 c_17)
            refine r_iload_n d_Row_isSign_54 rfl ?_
            refine r_iload_n d_Row_isSign_55 rfl ?_
            refine r_iload_n d_Row_isSign_56 rfl ?_
            refine x_callS (as := [.int i2, .int i1, .int 8]) (st := []) d_Row_isSign_57 ml_Row_32 mc_Peg_isWithin ms_Peg_isWithin ⟨by decide, by decide⟩ rfl (Nat.le_of_ble_eq_true rfl) (Nat.le_of_ble_eq_true rfl) (Q1 := fun r M1 L1 => some (.int (bI (i1 ≤ i2 ∧ i2 ≤ 8))) = r ∧ M = M1 ∧ L = L1) (s_Peg_isWithin ⟨rfl, rfl, rfl⟩) ?_
            rintro _ _ _ ⟨rfl, rfl, rfl⟩
            refine r_if_eq d_Row_isSign_60 (fun c_18 => ?_) (fun c_18 => ?_)
            · have h9 := h9.2 (bI_p0 c_18)
              refine r_iconst (v := 0) d_Row_isSign_67 (by decide) ?_
              exact r_iret ⟨d_Row_isSign_68, _, rfl, rfl⟩ ⟨_, _, rfl, h9⟩
            · have h9 := h9.1 (bI_p1 c_18)
              refine r_iconst (v := 1) d_Row_isSign_63 (by decide) ?_
              refine r_goto d_Row_isSign_64 ?_
              exact r_iret ⟨d_Row_isSign_68, _, rfl, rfl⟩ ⟨_, _, rfl, h9⟩
        · have h9 := h9.1 (bI_p1 c_16)
          refine r_iload_n d_Row_isSign_36 rfl ?_
          refine r_iconst (v := 0) d_Row_isSign_37 (by decide) ?_
          refine r_iload_n d_Row_isSign_38 rfl ?_
          refine x_callS (as := [.int i1, .int 0, .int 8]) (st := []) d_Row_isSign_39 ml_Row_32 mc_Peg_isWithin ms_Peg_isWithin ⟨by decide, by decide⟩ rfl (Nat.le_of_ble_eq_true rfl) (Nat.le_of_ble_eq_true rfl) (Q1 := fun r M1 L1 => some (.int (bI ((0 : Int32) ≤ i1 ∧ i1 ≤ 8))) = r ∧ M = M1 ∧ L = L1) (s_Peg_isWithin ⟨rfl, rfl, rfl⟩) ?_
          rintro _ _ _ ⟨rfl, rfl, rfl⟩
          refine r_if_ne d_Row_isSign_42 (fun c_19 => ?_) (fun c_19 => ?_)
          · have h9 := h9.1 (bI_p1 c_19)
            refine r_iload_n d_Row_isSign_47 rfl ?_
            refine x_callS (as := [.int i0]) (st := []) d_Row_isSign_48 ml_Row_42 mc_Row_needsSecond ms_Row_needsSecond ⟨by decide, by decide⟩ rfl (Nat.le_of_ble_eq_true rfl) (Nat.le_of_ble_eq_true rfl) (Q1 := fun r M1 L1 => some (.int (bI (i0 = 0 ∨ i0 = 4))) = r ∧ M = M1 ∧ L = L1) (s_Row_needsSecond ⟨rfl, rfl, rfl⟩) ?_
            rintro _ _ _ ⟨rfl, rfl, rfl⟩
            refine r_if_eq d_Row_isSign_51 (fun c_20 => ?_) (fun c_20 => ?_)
            · have h9 := h9.2 (bI_p0 c_20)
              refine r_iconst (v := 1) d_Row_isSign_63 (by decide) ?_
              refine r_goto d_Row_isSign_64 ?_
              exact r_iret ⟨d_Row_isSign_68, _, rfl, rfl⟩ ⟨_, _, rfl, h9⟩
            · have h9 := h9.1 (bI_p1 c_20)
              refine r_iload_n d_Row_isSign_54 rfl ?_
              refine r_iload_n d_Row_isSign_55 rfl ?_
              refine r_iload_n d_Row_isSign_56 rfl ?_
              refine x_callS (as := [.int i2, .int i1, .int 8]) (st := []) d_Row_isSign_57 ml_Row_32 mc_Peg_isWithin ms_Peg_isWithin ⟨by decide, by decide⟩ rfl (Nat.le_of_ble_eq_true rfl) (Nat.le_of_ble_eq_true rfl) (Q1 := fun r M1 L1 => some (.int (bI (i1 ≤ i2 ∧ i2 ≤ 8))) = r ∧ M = M1 ∧ L = L1) (s_Peg_isWithin ⟨rfl, rfl, rfl⟩) ?_
              rintro _ _ _ ⟨rfl, rfl, rfl⟩
              refine r_if_eq d_Row_isSign_60 (fun c_21 => ?_) (fun c_21 => ?_)
              · have h9 := h9.2 (bI_p0 c_21)
                refine r_iconst (v := 0) d_Row_isSign_67 (by decide) ?_
                exact r_iret ⟨d_Row_isSign_68, _, rfl, rfl⟩ ⟨_, _, rfl, h9⟩
              · have h9 := h9.1 (bI_p1 c_21)
                refine r_iconst (v := 1) d_Row_isSign_63 (by decide) ?_
                refine r_goto d_Row_isSign_64 ?_
                exact r_iret ⟨d_Row_isSign_68, _, rfl, rfl⟩ ⟨_, _, rfl, h9⟩
          · have h9 := h9.2 (bI_p0 c_19)
            refine r_iconst (v := 0) d_Row_isSign_45 (by decide) ?_
            exact r_iret ⟨d_Row_isSign_46, _, rfl, rfl⟩ ⟨_, _, rfl, h9⟩
  · have h9 := h.2 (bI_p0 c_1)
    refine r_iconst (v := 0) d_Row_isSign_9 (by decide) ?_
    exact r_iret ⟨d_Row_isSign_10, _, rfl, rfl⟩ ⟨_, _, rfl, h9⟩
theorem L_Voyage_isVoyage_0 {xs : List Int32} {S : List Shp} {i0 : Int32} {i1 : Int32} {i2 : Int32} {i3 : Int32} {M : Mem} {L : Int64} {Q : Option Value → Mem → Int64 → Prop} 
    (h : ((((1 : Int32) ≤ i0 ∧ i0 ≤ 12) → ((((1 : Int32) ≤ i1 ∧ i1 ≤ 96) → ((((0 : Int32) ≤ i2 ∧ i2 ≤ 47) → ((((0 : Int32) ≤ i3 ∧ i3 ≤ 8) → Q (some (.int 1)) M L) ∧ (¬ ((0 : Int32) ≤ i3 ∧ i3 ≤ 8) → Q (some (.int 0)) M L))) ∧ (¬ ((0 : Int32) ≤ i2 ∧ i2 ≤ 47) → Q (some (.int 0)) M L))) ∧ (¬ ((1 : Int32) ≤ i1 ∧ i1 ≤ 96) → Q (some (.int 0)) M L))) ∧ (¬ ((1 : Int32) ≤ i0 ∧ i0 ≤ 12) → Q (some (.int 0)) M L))) : RX xs S md_Voyage_isVoyage 0 [.int i0, .int i1, .int i2, .int i3] [] M L Q := by
  refine r_iload_n d_Voyage_isVoyage_0 rfl ?_
  refine r_iconst (v := 1) d_Voyage_isVoyage_1 (by decide) ?_
  refine r_bipush (v := 12) d_Voyage_isVoyage_2 (by decide) ?_
  refine x_callS (as := [.int i0, .int 1, .int 12]) (st := []) d_Voyage_isVoyage_4 ml_Voyage_41 mc_Peg_isWithin ms_Peg_isWithin ⟨by decide, by decide⟩ rfl (Nat.le_of_ble_eq_true rfl) (Nat.le_of_ble_eq_true rfl) (Q1 := fun r M1 L1 => some (.int (bI ((1 : Int32) ≤ i0 ∧ i0 ≤ 12))) = r ∧ M = M1 ∧ L = L1) (s_Peg_isWithin ⟨rfl, rfl, rfl⟩) ?_
  rintro _ _ _ ⟨rfl, rfl, rfl⟩
  refine r_if_eq d_Voyage_isVoyage_7 (fun c_1 => ?_) (fun c_1 => ?_)
  · have h9 := h.2 (bI_p0 c_1)
    refine r_iconst (v := 0) d_Voyage_isVoyage_44 (by decide) ?_
    exact r_iret ⟨d_Voyage_isVoyage_45, _, rfl, rfl⟩ ⟨_, _, rfl, h9⟩
  · have h9 := h.1 (bI_p1 c_1)
    refine r_iload_n d_Voyage_isVoyage_10 rfl ?_
    refine r_iconst (v := 1) d_Voyage_isVoyage_11 (by decide) ?_
    refine r_bipush (v := 96) d_Voyage_isVoyage_12 (by decide) ?_
    refine x_callS (as := [.int i1, .int 1, .int 96]) (st := []) d_Voyage_isVoyage_14 ml_Voyage_41 mc_Peg_isWithin ms_Peg_isWithin ⟨by decide, by decide⟩ rfl (Nat.le_of_ble_eq_true rfl) (Nat.le_of_ble_eq_true rfl) (Q1 := fun r M1 L1 => some (.int (bI ((1 : Int32) ≤ i1 ∧ i1 ≤ 96))) = r ∧ M = M1 ∧ L = L1) (s_Peg_isWithin ⟨rfl, rfl, rfl⟩) ?_
    rintro _ _ _ ⟨rfl, rfl, rfl⟩
    refine r_if_eq d_Voyage_isVoyage_17 (fun c_2 => ?_) (fun c_2 => ?_)
    · have h9 := h9.2 (bI_p0 c_2)
      refine r_iconst (v := 0) d_Voyage_isVoyage_44 (by decide) ?_
      exact r_iret ⟨d_Voyage_isVoyage_45, _, rfl, rfl⟩ ⟨_, _, rfl, h9⟩
    · have h9 := h9.1 (bI_p1 c_2)
      refine r_iload_n d_Voyage_isVoyage_20 rfl ?_
      refine r_iconst (v := 0) d_Voyage_isVoyage_21 (by decide) ?_
      refine r_bipush (v := 47) d_Voyage_isVoyage_22 (by decide) ?_
      refine x_callS (as := [.int i2, .int 0, .int 47]) (st := []) d_Voyage_isVoyage_24 ml_Voyage_41 mc_Peg_isWithin ms_Peg_isWithin ⟨by decide, by decide⟩ rfl (Nat.le_of_ble_eq_true rfl) (Nat.le_of_ble_eq_true rfl) (Q1 := fun r M1 L1 => some (.int (bI ((0 : Int32) ≤ i2 ∧ i2 ≤ 47))) = r ∧ M = M1 ∧ L = L1) (s_Peg_isWithin ⟨rfl, rfl, rfl⟩) ?_
      rintro _ _ _ ⟨rfl, rfl, rfl⟩
      refine r_if_eq d_Voyage_isVoyage_27 (fun c_3 => ?_) (fun c_3 => ?_)
      · have h9 := h9.2 (bI_p0 c_3)
        refine r_iconst (v := 0) d_Voyage_isVoyage_44 (by decide) ?_
        exact r_iret ⟨d_Voyage_isVoyage_45, _, rfl, rfl⟩ ⟨_, _, rfl, h9⟩
      · have h9 := h9.1 (bI_p1 c_3)
        refine r_iload_n d_Voyage_isVoyage_30 rfl ?_
        refine r_iconst (v := 0) d_Voyage_isVoyage_31 (by decide) ?_
        refine r_bipush (v := 8) d_Voyage_isVoyage_32 (by decide) ?_
        refine x_callS (as := [.int i3, .int 0, .int 8]) (st := []) d_Voyage_isVoyage_34 ml_Voyage_41 mc_Peg_isWithin ms_Peg_isWithin ⟨by decide, by decide⟩ rfl (Nat.le_of_ble_eq_true rfl) (Nat.le_of_ble_eq_true rfl) (Q1 := fun r M1 L1 => some (.int (bI ((0 : Int32) ≤ i3 ∧ i3 ≤ 8))) = r ∧ M = M1 ∧ L = L1) (s_Peg_isWithin ⟨rfl, rfl, rfl⟩) ?_
        rintro _ _ _ ⟨rfl, rfl, rfl⟩
        refine r_if_eq d_Voyage_isVoyage_37 (fun c_4 => ?_) (fun c_4 => ?_)
        · have h9 := h9.2 (bI_p0 c_4)
          refine r_iconst (v := 0) d_Voyage_isVoyage_44 (by decide) ?_
          exact r_iret ⟨d_Voyage_isVoyage_45, _, rfl, rfl⟩ ⟨_, _, rfl, h9⟩
        · have h9 := h9.1 (bI_p1 c_4)
          refine r_iconst (v := 1) d_Voyage_isVoyage_40 (by decide) ?_
          refine r_goto d_Voyage_isVoyage_41 ?_
          exact r_iret ⟨d_Voyage_isVoyage_45, _, rfl, rfl⟩ ⟨_, _, rfl, h9⟩
theorem L_Watch_byGlass_0 {xs : List Int32} {S : List Shp} {i0 : Int32} {i1 : Int32} {M : Mem} {L : Int64} {Q : Option Value → Mem → Int64 → Prop} 
    (h : Q (some (.int (fdv (i0 * (100 + i1)) 100))) M L) : RX xs S md_Watch_byGlass 0 [.int i0, .int i1] [] M L Q := by
  refine r_iload_n d_Watch_byGlass_0 rfl ?_
  refine r_bipush (v := 100) d_Watch_byGlass_1 (by decide) ?_
  refine r_iload_n d_Watch_byGlass_3 rfl ?_
  refine r_iadd d_Watch_byGlass_4 ?_
  refine r_imul d_Watch_byGlass_5 ?_
  refine r_bipush (v := 100) d_Watch_byGlass_6 (by decide) ?_
  refine x_callS (as := [.int (i0 * (100 + i1)), .int 100]) (st := []) d_Watch_byGlass_8 ml_Watch_59 mc_JMath_floorDiv ms_JMath_floorDiv ⟨by decide, by decide⟩ rfl (Nat.le_of_ble_eq_true rfl) (Nat.le_of_ble_eq_true rfl) (Q1 := fun r M1 L1 => some (.int (fdv (i0 * (100 + i1)) 100)) = r ∧ M = M1 ∧ L = L1) (s_JMath_floorDiv (by decide) ⟨rfl, rfl, rfl⟩) ?_
  rintro _ _ _ ⟨rfl, rfl, rfl⟩
  exact r_iret ⟨d_Watch_byGlass_11, _, rfl, rfl⟩ ⟨_, _, rfl, h⟩
theorem L_Watch_foldInto_0 {xs : List Int32} {t0 : Nat} {l1 : Int64} {M : Mem} {L : Int64} {Q : Option Value → Mem → Int64 → Prop} (ht0 : t0 < 24)
    (h : RX xs shL md_Watch_foldInto 5 [.ref (6 + 5 * t0), .null, .null, .long l1, .null, .int 0] [] M L Q) : RX xs shL md_Watch_foldInto 0 [.ref (6 + 5 * t0), .long l1, .null] [] M L Q := by
  refine r_weak (lv' := [.ref (6 + 5 * t0), .long l1, .null, .null, .null, .null]) (by repeat (first | exact trivial | refine ⟨rfl, ?_⟩ | exact lle_nil)) ?_
  refine r_lload_n d_Watch_foldInto_0 rfl ?_
  refine r_lstore_n d_Watch_foldInto_1 (by decide) ?_
  refine r_iconst (v := 0) d_Watch_foldInto_2 (by decide) ?_
  refine r_istore d_Watch_foldInto_3 (by decide) ?_
  refine r_weak (lv' := [.ref (6 + 5 * t0), .null, .null, .long l1, .null, .int 0]) (by repeat (first | exact trivial | refine ⟨rfl, ?_⟩ | exact lle_nil)) ?_
  exact h
theorem L_Watch_foldInto_5 {xs : List Int32} {t0 : Nat} {l3 : Int64} {i5 : Int32} {M : Mem} {L : Int64} {Q : Option Value → Mem → Int64 → Prop} (ht0 : t0 < 24)
    (h : ((8 ≤ i5 → RX xs shL md_Watch_foldInto 33 [.ref (6 + 5 * t0), .null, .null, .long l3, .null, .int 0] [] M L Q) ∧ (¬ (8 ≤ i5) → (vp_in i5 8 ∧ RX xs shL md_Watch_foldInto 5 [.ref (6 + 5 * t0), .null, .null, .long (31 * l3 + (M (6 + 5 * t0 + 1) i5.toNatClampNeg).toInt64), .null, .int (i5 + 1)] [] M L Q)))) : RX xs shL md_Watch_foldInto 5 [.ref (6 + 5 * t0), .null, .null, .long l3, .null, .int i5] [] M L Q := by
  refine r_iload d_Watch_foldInto_5 rfl ?_
  refine r_bipush (v := 8) d_Watch_foldInto_7 (by decide) ?_
  refine r_ic_ge d_Watch_foldInto_9 (fun c_1 => ?_) (fun c_1 => ?_)
  · have h9 := h.1 c_1
    refine r_iconst (v := 0) d_Watch_foldInto_30 (by decide) ?_
    refine r_istore d_Watch_foldInto_31 (by decide) ?_
    exact h9
  · have h9 := h.2 c_1
    refine r_lload_n d_Watch_foldInto_12 rfl ?_
    refine r_aload_n d_Watch_foldInto_13 rfl ?_
    refine x_getR d_Watch_foldInto_14 fl_Watch_11 (wt_R0 ht0) ?_
    refine r_iload d_Watch_foldInto_17 rfl ?_
    obtain ⟨o_2, h9⟩ := h9
    refine x_iald d_Watch_foldInto_19 (wt_A0 ht0) o_2 ?_
    refine x_callS (as := [.long l3, .int (M (6 + 5 * t0 + 1) i5.toNatClampNeg)]) (st := []) d_Watch_foldInto_20 ml_Watch_55 mc_Peg_fold ms_Peg_fold ⟨by decide, by decide⟩ rfl (Nat.le_of_ble_eq_true rfl) (Nat.le_of_ble_eq_true rfl) (Q1 := fun r M1 L1 => some (.long (31 * l3 + (M (6 + 5 * t0 + 1) i5.toNatClampNeg).toInt64)) = r ∧ M = M1 ∧ L = L1) (s_Peg_fold ⟨rfl, rfl, rfl⟩) ?_
    rintro _ _ _ ⟨rfl, rfl, rfl⟩
    refine r_lstore_n d_Watch_foldInto_23 (by decide) ?_
    refine r_iinc (v := i5 + 1) d_Watch_foldInto_24 rfl rfl (by decide) ?_
    refine r_goto d_Watch_foldInto_27 ?_
    exact h9
theorem L_Watch_foldInto_33 {xs : List Int32} {t0 : Nat} {l3 : Int64} {i5 : Int32} {M : Mem} {L : Int64} {Q : Option Value → Mem → Int64 → Prop} (ht0 : t0 < 24)
    (h : ((4 ≤ i5 → Q (some (.long (31 * (31 * (31 * l3 + (M (6 + 5 * t0) 6).toInt64) + (M (6 + 5 * t0) 7).toInt64) + (M (6 + 5 * t0) 8).toInt64))) M L) ∧ (¬ (4 ≤ i5) → (vp_in i5 4 ∧ RX xs shL md_Watch_foldInto 33 [.ref (6 + 5 * t0), .null, .null, .long (31 * l3 + (M (6 + 5 * t0 + 2) i5.toNatClampNeg).toInt64), .null, .int (i5 + 1)] [] M L Q)))) : RX xs shL md_Watch_foldInto 33 [.ref (6 + 5 * t0), .null, .null, .long l3, .null, .int i5] [] M L Q := by
  refine r_iload d_Watch_foldInto_33 rfl ?_
  refine r_iconst (v := 4) d_Watch_foldInto_35 (by decide) ?_
  refine r_ic_ge d_Watch_foldInto_36 (fun c_3 => ?_) (fun c_3 => ?_)
  · have h9 := h.1 c_3
    refine r_lload_n d_Watch_foldInto_57 rfl ?_
    refine r_aload_n d_Watch_foldInto_58 rfl ?_
    refine x_getI d_Watch_foldInto_59 fl_Watch_37 (wt_I ht0 6 (by decide) (by decide)) ?_
    refine x_callS (as := [.long l3, .int (M (6 + 5 * t0) 6)]) (st := []) d_Watch_foldInto_62 ml_Watch_55 mc_Peg_fold ms_Peg_fold ⟨by decide, by decide⟩ rfl (Nat.le_of_ble_eq_true rfl) (Nat.le_of_ble_eq_true rfl) (Q1 := fun r M1 L1 => some (.long (31 * l3 + (M (6 + 5 * t0) 6).toInt64)) = r ∧ M = M1 ∧ L = L1) (s_Peg_fold ⟨rfl, rfl, rfl⟩) ?_
    rintro _ _ _ ⟨rfl, rfl, rfl⟩
    refine r_aload_n d_Watch_foldInto_65 rfl ?_
    refine x_getI d_Watch_foldInto_66 fl_Watch_40 (wt_I ht0 7 (by decide) (by decide)) ?_
    refine x_callS (as := [.long (31 * l3 + (M (6 + 5 * t0) 6).toInt64), .int (M (6 + 5 * t0) 7)]) (st := []) d_Watch_foldInto_69 ml_Watch_55 mc_Peg_fold ms_Peg_fold ⟨by decide, by decide⟩ rfl (Nat.le_of_ble_eq_true rfl) (Nat.le_of_ble_eq_true rfl) (Q1 := fun r M1 L1 => some (.long (31 * (31 * l3 + (M (6 + 5 * t0) 6).toInt64) + (M (6 + 5 * t0) 7).toInt64)) = r ∧ M = M1 ∧ L = L1) (s_Peg_fold ⟨rfl, rfl, rfl⟩) ?_
    rintro _ _ _ ⟨rfl, rfl, rfl⟩
    refine r_aload_n d_Watch_foldInto_72 rfl ?_
    refine x_getI d_Watch_foldInto_73 fl_Watch_43 (wt_I ht0 8 (by decide) (by decide)) ?_
    refine x_callS (as := [.long (31 * (31 * l3 + (M (6 + 5 * t0) 6).toInt64) + (M (6 + 5 * t0) 7).toInt64), .int (M (6 + 5 * t0) 8)]) (st := []) d_Watch_foldInto_76 ml_Watch_55 mc_Peg_fold ms_Peg_fold ⟨by decide, by decide⟩ rfl (Nat.le_of_ble_eq_true rfl) (Nat.le_of_ble_eq_true rfl) (Q1 := fun r M1 L1 => some (.long (31 * (31 * (31 * l3 + (M (6 + 5 * t0) 6).toInt64) + (M (6 + 5 * t0) 7).toInt64) + (M (6 + 5 * t0) 8).toInt64)) = r ∧ M = M1 ∧ L = L1) (s_Peg_fold ⟨rfl, rfl, rfl⟩) ?_
    rintro _ _ _ ⟨rfl, rfl, rfl⟩
    exact r_lret ⟨d_Watch_foldInto_79, rfl⟩ ⟨_, _, rfl, h9⟩
  · have h9 := h.2 c_3
    refine r_lload_n d_Watch_foldInto_39 rfl ?_
    refine r_aload_n d_Watch_foldInto_40 rfl ?_
    refine x_getR d_Watch_foldInto_41 fl_Watch_21 (wt_R1 ht0) ?_
    refine r_iload d_Watch_foldInto_44 rfl ?_
    obtain ⟨o_4, h9⟩ := h9
    refine x_iald d_Watch_foldInto_46 (wt_A1 ht0) o_4 ?_
    refine x_callS (as := [.long l3, .int (M (6 + 5 * t0 + 2) i5.toNatClampNeg)]) (st := []) d_Watch_foldInto_47 ml_Watch_55 mc_Peg_fold ms_Peg_fold ⟨by decide, by decide⟩ rfl (Nat.le_of_ble_eq_true rfl) (Nat.le_of_ble_eq_true rfl) (Q1 := fun r M1 L1 => some (.long (31 * l3 + (M (6 + 5 * t0 + 2) i5.toNatClampNeg).toInt64)) = r ∧ M = M1 ∧ L = L1) (s_Peg_fold ⟨rfl, rfl, rfl⟩) ?_
    rintro _ _ _ ⟨rfl, rfl, rfl⟩
    refine r_lstore_n d_Watch_foldInto_50 (by decide) ?_
    refine r_iinc (v := i5 + 1) d_Watch_foldInto_51 rfl rfl (by decide) ?_
    refine r_goto d_Watch_foldInto_54 ?_
    exact h9
theorem L_Watch_sumSpreads_0 {xs : List Int32} {t0 : Nat} {M : Mem} {L : Int64} {Q : Option Value → Mem → Int64 → Prop} (ht0 : t0 < 24)
    (h : RX xs shL md_Watch_sumSpreads 6 [.ref (6 + 5 * t0), .int 0, .int 0, .int 0] [] M L Q) : RX xs shL md_Watch_sumSpreads 0 [.ref (6 + 5 * t0)] [] M L Q := by
  refine r_weak (lv' := [.ref (6 + 5 * t0), .null, .null, .null]) (by repeat (first | exact trivial | refine ⟨rfl, ?_⟩ | exact lle_nil)) ?_
  refine r_iconst (v := 0) d_Watch_sumSpreads_0 (by decide) ?_
  refine r_istore_n d_Watch_sumSpreads_1 (by decide) ?_
  refine r_iconst (v := 0) d_Watch_sumSpreads_2 (by decide) ?_
  refine r_istore_n d_Watch_sumSpreads_3 (by decide) ?_
  refine r_iconst (v := 0) d_Watch_sumSpreads_4 (by decide) ?_
  refine r_istore_n d_Watch_sumSpreads_5 (by decide) ?_
  exact h
theorem L_Watch_sumSpreads_6 {xs : List Int32} {t0 : Nat} {i1 : Int32} {i2 : Int32} {i3 : Int32} {M : Mem} {L : Int64} {Q : Option Value → Mem → Int64 → Prop} (ht0 : t0 < 24)
    (h : ((8 ≤ i3 → Q none (up (up M (6 + 5 * t0) 4 (i1 * 1000)) (6 + 5 * t0) 5 (i2 * 1000)) L) ∧ (¬ (8 ≤ i3) → RX xs shL md_Watch_knotsOfPeg 0 [.ref (6 + 5 * t0), .int i3] [] M L (fun r M_2 L_3 => ∃ v_4 : Int32, r = some (.int v_4) ∧ (vp_in i3 8 ∧ (((M_2 (6 + 5 * t0 + 1) i3.toNatClampNeg) = (-1) → RX xs shL md_Watch_knotsOfPeg 0 [.ref (6 + 5 * t0), .int i3] [] M_2 L_3 (fun r M_7 L_8 => ∃ v_9 : Int32, r = some (.int v_9) ∧ RX xs shL md_Watch_sumSpreads 6 [.ref (6 + 5 * t0), .int (i1 + v_9), .int (i2 + v_4), .int (i3 + 1)] [] M_7 L_8 Q)) ∧ (¬ ((M_2 (6 + 5 * t0 + 1) i3.toNatClampNeg) = (-1)) → RX xs shL md_Watch_sumSpreads 6 [.ref (6 + 5 * t0), .int (i1 + 0), .int (i2 + v_4), .int (i3 + 1)] [] M_2 L_3 Q))))))) : RX xs shL md_Watch_sumSpreads 6 [.ref (6 + 5 * t0), .int i1, .int i2, .int i3] [] M L Q := by
  refine r_iload_n d_Watch_sumSpreads_6 rfl ?_
  refine r_bipush (v := 8) d_Watch_sumSpreads_7 (by decide) ?_
  refine r_ic_ge d_Watch_sumSpreads_9 (fun c_1 => ?_) (fun c_1 => ?_)
  · have h9 := h.1 c_1
    refine r_aload_n d_Watch_sumSpreads_48 rfl ?_
    refine r_iload_n d_Watch_sumSpreads_49 rfl ?_
    refine r_sipush (v := 1000) d_Watch_sumSpreads_50 (by decide) ?_
    refine r_imul d_Watch_sumSpreads_53 ?_
    refine x_putI d_Watch_sumSpreads_54 fl_Watch_30 (fun r hr => by cases hr; rfl) (wt_I ht0 4 (by decide) (by decide)) (VOk_int _) ?_
    refine r_aload_n d_Watch_sumSpreads_57 rfl ?_
    refine r_iload_n d_Watch_sumSpreads_58 rfl ?_
    refine r_sipush (v := 1000) d_Watch_sumSpreads_59 (by decide) ?_
    refine r_imul d_Watch_sumSpreads_62 ?_
    refine x_putI d_Watch_sumSpreads_63 fl_Watch_34 (fun r hr => by cases hr; rfl) (wt_I ht0 5 (by decide) (by decide)) (VOk_int _) ?_
    exact r_vret ⟨d_Watch_sumSpreads_66, rfl⟩ ⟨up (up M (6 + 5 * t0) 4 (i1 * 1000)) (6 + 5 * t0) 5 (i2 * 1000), L, rfl, h9⟩
  · have h9 := h.2 c_1
    refine r_iload_n d_Watch_sumSpreads_12 rfl ?_
    refine r_aload_n d_Watch_sumSpreads_13 rfl ?_
    refine r_iload_n d_Watch_sumSpreads_14 rfl ?_
    refine x_callV (as := [.int i3]) (st := [.int i2]) d_Watch_sumSpreads_15 ml_Watch_71 mc_Watch_knotsOfPeg mv_Watch_knotsOfPeg ⟨by decide, by decide⟩ (wt_O ht0) ⟨_, rfl, rfl⟩ rfl (Nat.le_of_ble_eq_true rfl) (Nat.le_of_ble_eq_true rfl) h9 ?_
    rintro _ M_2 L_3 ⟨v_4, rfl, h9⟩
    refine r_iadd d_Watch_sumSpreads_18 ?_
    refine r_istore_n d_Watch_sumSpreads_19 (by decide) ?_
    refine r_iload_n d_Watch_sumSpreads_20 rfl ?_
    refine r_aload_n d_Watch_sumSpreads_21 rfl ?_
    refine x_getR d_Watch_sumSpreads_22 fl_Watch_11 (wt_R0 ht0) ?_
    refine r_iload_n d_Watch_sumSpreads_25 rfl ?_
    obtain ⟨o_5, h9⟩ := h9
    refine x_iald d_Watch_sumSpreads_26 (wt_A0 ht0) o_5 ?_
    refine r_iconst (v := (-1)) d_Watch_sumSpreads_27 (by decide) ?_
    refine r_ic_ne d_Watch_sumSpreads_28 (fun c_6 => ?_) (fun c_6 => ?_)
    · have h9 := h9.2 c_6
      refine r_iconst (v := 0) d_Watch_sumSpreads_39 (by decide) ?_
      refine r_iadd d_Watch_sumSpreads_40 ?_
      refine r_istore_n d_Watch_sumSpreads_41 (by decide) ?_
      refine r_iinc (v := i3 + 1) d_Watch_sumSpreads_42 rfl rfl (by decide) ?_
      refine r_goto d_Watch_sumSpreads_45 ?_
      exact h9
    · have h9 := h9.1 c_6
      refine r_aload_n d_Watch_sumSpreads_31 rfl ?_
      refine r_iload_n d_Watch_sumSpreads_32 rfl ?_
      refine x_callV (as := [.int i3]) (st := [.int i1]) d_Watch_sumSpreads_33 ml_Watch_71 mc_Watch_knotsOfPeg mv_Watch_knotsOfPeg ⟨by decide, by decide⟩ (wt_O ht0) ⟨_, rfl, rfl⟩ rfl (Nat.le_of_ble_eq_true rfl) (Nat.le_of_ble_eq_true rfl) h9 ?_
      rintro _ M_7 L_8 ⟨v_9, rfl, h9⟩
      refine r_goto d_Watch_sumSpreads_36 ?_
      refine r_iadd d_Watch_sumSpreads_40 ?_
      refine r_istore_n d_Watch_sumSpreads_41 (by decide) ?_
      refine r_iinc (v := i3 + 1) d_Watch_sumSpreads_42 rfl rfl (by decide) ?_
      refine r_goto d_Watch_sumSpreads_45 ?_
      exact h9
theorem L_Words_foldInto_0 {xs : List Int32} {l1 : Int64} {M : Mem} {L : Int64} {Q : Option Value → Mem → Int64 → Prop} 
    (h : RX xs shL md_Words_foldInto 5 [.ref 1, .null, .null, .long l1, .null, .int 0] [] M L Q) : RX xs shL md_Words_foldInto 0 [.ref 1, .long l1, .null] [] M L Q := by
  refine r_weak (lv' := [.ref 1, .long l1, .null, .null, .null, .null]) (by repeat (first | exact trivial | refine ⟨rfl, ?_⟩ | exact lle_nil)) ?_
  refine r_lload_n d_Words_foldInto_0 rfl ?_
  refine r_lstore_n d_Words_foldInto_1 (by decide) ?_
  refine r_iconst (v := 0) d_Words_foldInto_2 (by decide) ?_
  refine r_istore d_Words_foldInto_3 (by decide) ?_
  refine r_weak (lv' := [.ref 1, .null, .null, .long l1, .null, .int 0]) (by repeat (first | exact trivial | refine ⟨rfl, ?_⟩ | exact lle_nil)) ?_
  exact h
theorem L_Words_foldInto_5 {xs : List Int32} {l3 : Int64} {i5 : Int32} {M : Mem} {L : Int64} {Q : Option Value → Mem → Int64 → Prop} 
    (h : (((M 1 2) ≤ i5 → Q (some (.long l3)) M L) ∧ (¬ ((M 1 2) ≤ i5) → (vp_in i5 24 ∧ RX xs shL md_Words_foldInto 5 [.ref 1, .null, .null, .long (31 * l3 + (M 2 i5.toNatClampNeg).toInt64), .null, .int (i5 + 1)] [] M L Q)))) : RX xs shL md_Words_foldInto 5 [.ref 1, .null, .null, .long l3, .null, .int i5] [] M L Q := by
  refine r_iload d_Words_foldInto_5 rfl ?_
  refine r_aload_n d_Words_foldInto_7 rfl ?_
  refine x_getI d_Words_foldInto_8 fl_Words_18 gI_1_2 ?_
  refine r_ic_ge d_Words_foldInto_11 (fun c_1 => ?_) (fun c_1 => ?_)
  · have h9 := h.1 c_1
    refine r_lload_n d_Words_foldInto_32 rfl ?_
    exact r_lret ⟨d_Words_foldInto_33, rfl⟩ ⟨_, _, rfl, h9⟩
  · have h9 := h.2 c_1
    refine r_lload_n d_Words_foldInto_14 rfl ?_
    refine r_aload_n d_Words_foldInto_15 rfl ?_
    refine x_getR d_Words_foldInto_16 fl_Words_11 gR_1_0 ?_
    refine r_iload d_Words_foldInto_19 rfl ?_
    obtain ⟨o_2, h9⟩ := h9
    refine x_iald d_Words_foldInto_21 aI_2 o_2 ?_
    refine x_callS (as := [.long l3, .int (M 2 i5.toNatClampNeg)]) (st := []) d_Words_foldInto_22 ml_Words_42 mc_Peg_fold ms_Peg_fold ⟨by decide, by decide⟩ rfl (Nat.le_of_ble_eq_true rfl) (Nat.le_of_ble_eq_true rfl) (Q1 := fun r M1 L1 => some (.long (31 * l3 + (M 2 i5.toNatClampNeg).toInt64)) = r ∧ M = M1 ∧ L = L1) (s_Peg_fold ⟨rfl, rfl, rfl⟩) ?_
    rintro _ _ _ ⟨rfl, rfl, rfl⟩
    refine r_lstore_n d_Words_foldInto_25 (by decide) ?_
    refine r_iinc (v := i5 + 1) d_Words_foldInto_26 rfl rfl (by decide) ?_
    refine r_goto d_Words_foldInto_29 ?_
    exact h9
theorem L_Words_halfway_0 {xs : List Int32} {S : List Shp} {i0 : Int32} {i1 : Int32} {M : Mem} {L : Int64} {Q : Option Value → Mem → Int64 → Prop} 
    (h : Q (some (.int ((i0 + (((i1 - i0) &&& 31) / 2)) &&& 31))) M L) : RX xs S md_Words_halfway 0 [.int i0, .int i1] [] M L Q := by
  refine r_iload_n d_Words_halfway_0 rfl ?_
  refine r_iload_n d_Words_halfway_1 rfl ?_
  refine r_iload_n d_Words_halfway_2 rfl ?_
  refine x_callS (as := [.int i0, .int i1]) (st := [.int i0]) d_Words_halfway_3 ml_Words_50 mc_Compass_turnsBetween ms_Compass_turnsBetween ⟨by decide, by decide⟩ rfl (Nat.le_of_ble_eq_true rfl) (Nat.le_of_ble_eq_true rfl) (Q1 := fun r M1 L1 => some (.int ((i1 - i0) &&& 31)) = r ∧ M = M1 ∧ L = L1) (s_Compass_turnsBetween ⟨rfl, rfl, rfl⟩) ?_
  rintro _ _ _ ⟨rfl, rfl, rfl⟩
  refine r_iconst (v := 2) d_Words_halfway_6 (by decide) ?_
  refine r_idiv d_Words_halfway_7 (by decide) ?_
  refine x_callS (as := [.int i0, .int (((i1 - i0) &&& 31) / 2)]) (st := []) d_Words_halfway_8 ml_Words_39 mc_Compass_turned ms_Compass_turned ⟨by decide, by decide⟩ rfl (Nat.le_of_ble_eq_true rfl) (Nat.le_of_ble_eq_true rfl) (Q1 := fun r M1 L1 => some (.int ((i0 + (((i1 - i0) &&& 31) / 2)) &&& 31)) = r ∧ M = M1 ∧ L = L1) (s_Compass_turned ⟨rfl, rfl, rfl⟩) ?_
  rintro _ _ _ ⟨rfl, rfl, rfl⟩
  exact r_iret ⟨d_Words_halfway_11, _, rfl, rfl⟩ ⟨_, _, rfl, h⟩
theorem L_Words_turnOf_0 {xs : List Int32} {S : List Shp} {i0 : Int32} {M : Mem} {L : Int64} {Q : Option Value → Mem → Int64 → Prop} 
    (h : ((((101 : Int32) ≤ i0 ∧ i0 ≤ 116) → Q (some (.int (i0 - 100))) M L) ∧ (¬ ((101 : Int32) ≤ i0 ∧ i0 ≤ 116) → ((((201 : Int32) ≤ i0 ∧ i0 ≤ 216) → Q (some (.int (200 - i0))) M L) ∧ (¬ ((201 : Int32) ≤ i0 ∧ i0 ≤ 216) → ((i0 = 300 → Q (some (.int 16)) M L) ∧ (¬ (i0 = 300) → Q (some (.int 0)) M L))))))) : RX xs S md_Words_turnOf 0 [.int i0] [] M L Q := by
  refine r_iload_n d_Words_turnOf_0 rfl ?_
  refine r_bipush (v := 101) d_Words_turnOf_1 (by decide) ?_
  refine r_bipush (v := 116) d_Words_turnOf_3 (by decide) ?_
  refine x_callS (as := [.int i0, .int 101, .int 116]) (st := []) d_Words_turnOf_5 ml_Words_46 mc_Peg_isWithin ms_Peg_isWithin ⟨by decide, by decide⟩ rfl (Nat.le_of_ble_eq_true rfl) (Nat.le_of_ble_eq_true rfl) (Q1 := fun r M1 L1 => some (.int (bI ((101 : Int32) ≤ i0 ∧ i0 ≤ 116))) = r ∧ M = M1 ∧ L = L1) (s_Peg_isWithin ⟨rfl, rfl, rfl⟩) ?_
  rintro _ _ _ ⟨rfl, rfl, rfl⟩
  refine r_if_eq d_Words_turnOf_8 (fun c_1 => ?_) (fun c_1 => ?_)
  · have h9 := h.2 (bI_p0 c_1)
    refine r_iload_n d_Words_turnOf_16 rfl ?_
    refine r_sipush (v := 201) d_Words_turnOf_17 (by decide) ?_
    refine r_sipush (v := 216) d_Words_turnOf_20 (by decide) ?_
    refine x_callS (as := [.int i0, .int 201, .int 216]) (st := []) d_Words_turnOf_23 ml_Words_46 mc_Peg_isWithin ms_Peg_isWithin ⟨by decide, by decide⟩ rfl (Nat.le_of_ble_eq_true rfl) (Nat.le_of_ble_eq_true rfl) (Q1 := fun r M1 L1 => some (.int (bI ((201 : Int32) ≤ i0 ∧ i0 ≤ 216))) = r ∧ M = M1 ∧ L = L1) (s_Peg_isWithin ⟨rfl, rfl, rfl⟩) ?_
    rintro _ _ _ ⟨rfl, rfl, rfl⟩
    refine r_if_eq d_Words_turnOf_26 (fun c_2 => ?_) (fun c_2 => ?_)
    · have h9 := h9.2 (bI_p0 c_2)
      refine r_iload_n d_Words_turnOf_35 rfl ?_
      refine r_sipush (v := 300) d_Words_turnOf_36 (by decide) ?_
      refine r_ic_ne d_Words_turnOf_39 (fun c_3 => ?_) (fun c_3 => ?_)
      · have h9 := h9.2 c_3
        refine r_iconst (v := 0) d_Words_turnOf_47 (by decide) ?_
        exact r_iret ⟨d_Words_turnOf_48, _, rfl, rfl⟩ ⟨_, _, rfl, h9⟩
      · have h9 := h9.1 c_3
        refine r_bipush (v := 16) d_Words_turnOf_42 (by decide) ?_
        refine r_goto d_Words_turnOf_44 ?_
        exact r_iret ⟨d_Words_turnOf_48, _, rfl, rfl⟩ ⟨_, _, rfl, h9⟩
    · have h9 := h9.1 (bI_p1 c_2)
      refine r_sipush (v := 200) d_Words_turnOf_29 (by decide) ?_
      refine r_iload_n d_Words_turnOf_32 rfl ?_
      refine r_isub d_Words_turnOf_33 ?_
      exact r_iret ⟨d_Words_turnOf_34, _, rfl, rfl⟩ ⟨_, _, rfl, h9⟩
  · have h9 := h.1 (bI_p1 c_1)
    refine r_iload_n d_Words_turnOf_11 rfl ?_
    refine r_bipush (v := 100) d_Words_turnOf_12 (by decide) ?_
    refine r_isub d_Words_turnOf_14 ?_
    exact r_iret ⟨d_Words_turnOf_15, _, rfl, rfl⟩ ⟨_, _, rfl, h9⟩
theorem L_Chart_depthAt_0 {xs : List Int32} {i1 : Int32} {i2 : Int32} {M : Mem} {L : Int64} {Q : Option Value → Mem → Int64 → Prop} 
    (h : ((((0 ≤ i1 ∧ i1 < M 126 4) ∧ 0 ≤ i2 ∧ i2 < M 126 5) → (vp_in ((i2 * 20) + i1) 400 ∧ Q (some (.int (M 127 (((i2 * 20) + i1).toNatClampNeg)))) M L)) ∧ (¬ ((0 ≤ i1 ∧ i1 < M 126 4) ∧ 0 ≤ i2 ∧ i2 < M 126 5) → Q (some (.int 50)) M L))) : RX xs shL md_Chart_depthAt 0 [.ref 126, .int i1, .int i2] [] M L Q := by
  refine r_aload_n d_Chart_depthAt_0 rfl ?_
  refine r_iload_n d_Chart_depthAt_1 rfl ?_
  refine r_iload_n d_Chart_depthAt_2 rfl ?_
  refine x_callV (as := [.int i1, .int i2]) (st := []) d_Chart_depthAt_3 ml_Chart_68 mc_Chart_isCell mv_Chart_isCell ⟨by decide, by decide⟩ gO_126 ⟨_, rfl, rfl⟩ rfl (Nat.le_of_ble_eq_true rfl) (Nat.le_of_ble_eq_true rfl) (Q1 := fun r M1 L1 => some (.int (bI ((0 ≤ i1 ∧ i1 < M 126 4) ∧ 0 ≤ i2 ∧ i2 < M 126 5))) = r ∧ M = M1 ∧ L = L1) (s_Chart_isCell ⟨rfl, rfl, rfl⟩) ?_
  rintro _ _ _ ⟨rfl, rfl, rfl⟩
  refine r_if_eq d_Chart_depthAt_6 (fun c_1 => ?_) (fun c_1 => ?_)
  · have h9 := h.2 (bI_p0 c_1)
    refine r_bipush (v := 50) d_Chart_depthAt_23 (by decide) ?_
    exact r_iret ⟨d_Chart_depthAt_25, _, rfl, rfl⟩ ⟨_, _, rfl, h9⟩
  · have h9 := h.1 (bI_p1 c_1)
    refine r_aload_n d_Chart_depthAt_9 rfl ?_
    refine x_getR d_Chart_depthAt_10 fl_Chart_11 gR_126_0 ?_
    refine r_iload_n d_Chart_depthAt_13 rfl ?_
    refine r_bipush (v := 20) d_Chart_depthAt_14 (by decide) ?_
    refine r_imul d_Chart_depthAt_16 ?_
    refine r_iload_n d_Chart_depthAt_17 rfl ?_
    refine r_iadd d_Chart_depthAt_18 ?_
    obtain ⟨o_2, h9⟩ := h9
    refine x_iald d_Chart_depthAt_19 aI_127 o_2 ?_
    refine r_goto d_Chart_depthAt_20 ?_
    exact r_iret ⟨d_Chart_depthAt_25, _, rfl, rfl⟩ ⟨_, _, rfl, h9⟩

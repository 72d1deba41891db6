theorem L_Compass_northOf_0 {xs : List Int32} {S : List Shp} {i0 : Int32} {M : Mem} {L : Int64} {Q : Option Value → Mem → Int64 → Prop} 
    (h : (((imin (((0 : Int32) - i0) &&& 31) (32 - (((0 : Int32) - i0) &&& 31))) ≤ 8 → (vp_in (imin (imin (((0 : Int32) - i0) &&& 31) (32 - (((0 : Int32) - i0) &&& 31))) (16 - (imin (((0 : Int32) - i0) &&& 31) (32 - (((0 : Int32) - i0) &&& 31))))) 9 ∧ Q (some (.int ((roT xs 2).getD (imin (imin (((0 : Int32) - i0) &&& 31) (32 - (((0 : Int32) - i0) &&& 31))) (16 - (imin (((0 : Int32) - i0) &&& 31) (32 - (((0 : Int32) - i0) &&& 31))))).toNatClampNeg 0))) M L)) ∧ (¬ ((imin (((0 : Int32) - i0) &&& 31) (32 - (((0 : Int32) - i0) &&& 31))) ≤ 8) → (vp_in (imin (imin (((0 : Int32) - i0) &&& 31) (32 - (((0 : Int32) - i0) &&& 31))) (16 - (imin (((0 : Int32) - i0) &&& 31) (32 - (((0 : Int32) - i0) &&& 31))))) 9 ∧ Q (some (.int (-((roT xs 2).getD (imin (imin (((0 : Int32) - i0) &&& 31) (32 - (((0 : Int32) - i0) &&& 31))) (16 - (imin (((0 : Int32) - i0) &&& 31) (32 - (((0 : Int32) - i0) &&& 31))))).toNatClampNeg 0)))) M L)))) : RX xs S md_Compass_northOf 0 [.int i0] [] M L Q := by
  refine r_weak (lv' := [.int i0, .null, .null]) (by repeat (first | exact trivial | refine ⟨rfl, ?_⟩ | exact lle_nil)) ?_
  refine r_iload_n d_Compass_northOf_0 rfl ?_
  refine r_iconst (v := 0) d_Compass_northOf_1 (by decide) ?_
  refine x_callS (as := [.int i0, .int 0]) (st := []) d_Compass_northOf_2 ml_Compass_20 mc_Compass_angle ms_Compass_angle ⟨by decide, by decide⟩ rfl (Nat.le_of_ble_eq_true rfl) (Nat.le_of_ble_eq_true rfl) (Q1 := fun r M1 L1 => some (.int (imin (((0 : Int32) - i0) &&& 31) (32 - (((0 : Int32) - i0) &&& 31)))) = r ∧ M = M1 ∧ L = L1) (L_Compass_angle_0 ⟨rfl, rfl, rfl⟩) ?_
  rintro _ _ _ ⟨rfl, rfl, rfl⟩
  refine r_istore_n d_Compass_northOf_5 (by decide) ?_
  refine r_iload_n d_Compass_northOf_6 rfl ?_
  refine r_bipush (v := 16) d_Compass_northOf_7 (by decide) ?_
  refine r_iload_n d_Compass_northOf_9 rfl ?_
  refine r_isub d_Compass_northOf_10 ?_
  refine x_callS (as := [.int (imin (((0 : Int32) - i0) &&& 31) (32 - (((0 : Int32) - i0) &&& 31))), .int (16 - (imin (((0 : Int32) - i0) &&& 31) (32 - (((0 : Int32) - i0) &&& 31))))]) (st := []) d_Compass_northOf_11 ml_Compass_15 mc_JMath_min ms_JMath_min ⟨by decide, by decide⟩ rfl (Nat.le_of_ble_eq_true rfl) (Nat.le_of_ble_eq_true rfl) (Q1 := fun r M1 L1 => some (.int (imin (imin (((0 : Int32) - i0) &&& 31) (32 - (((0 : Int32) - i0) &&& 31))) (16 - (imin (((0 : Int32) - i0) &&& 31) (32 - (((0 : Int32) - i0) &&& 31)))))) = r ∧ M = M1 ∧ L = L1) (s_JMath_min ⟨rfl, rfl, rfl⟩) ?_
  rintro _ _ _ ⟨rfl, rfl, rfl⟩
  refine r_istore_n d_Compass_northOf_14 (by decide) ?_
  refine r_iload_n d_Compass_northOf_15 rfl ?_
  refine r_bipush (v := 8) d_Compass_northOf_16 (by decide) ?_
  refine r_ic_le d_Compass_northOf_18 (fun c_1 => ?_) (fun c_1 => ?_)
  · have h9 := h.1 c_1
    refine r_gets (k := 2) d_Compass_northOf_30 sl_Compass_23 (by decide) ?_
    refine r_iload_n d_Compass_northOf_33 rfl ?_
    obtain ⟨o_2, h9⟩ := h9
    refine r_rald (k := 2) d_Compass_northOf_34 (by decide) o_2 ?_
    exact r_iret ⟨d_Compass_northOf_35, _, rfl, rfl⟩ ⟨_, _, rfl, h9⟩
  · have h9 := h.2 c_1
    refine r_gets (k := 2) d_Compass_northOf_21 sl_Compass_23 (by decide) ?_
    refine r_iload_n d_Compass_northOf_24 rfl ?_
    obtain ⟨o_3, h9⟩ := h9
    refine r_rald (k := 2) d_Compass_northOf_25 (by decide) o_3 ?_
    refine r_ineg d_Compass_northOf_26 ?_
    refine r_goto d_Compass_northOf_27 ?_
    exact r_iret ⟨d_Compass_northOf_35, _, rfl, rfl⟩ ⟨_, _, rfl, h9⟩
theorem L_Compass_eastOf_0 {xs : List Int32} {S : List Shp} {i0 : Int32} {M : Mem} {L : Int64} {Q : Option Value → Mem → Int64 → Prop} 
    (h : RX xs S md_Compass_northOf 0 [.int ((i0 + (-8)) &&& 31)] [] M L (fun r M_1 L_2 => ∃ v_3 : Int32, r = some (.int v_3) ∧ Q (some (.int v_3)) M_1 L_2)) : RX xs S md_Compass_eastOf 0 [.int i0] [] M L Q := by
  refine r_iload_n d_Compass_eastOf_0 rfl ?_
  refine r_bipush (v := (-8)) d_Compass_eastOf_1 (by decide) ?_
  refine x_callS (as := [.int i0, .int (-8)]) (st := []) d_Compass_eastOf_3 ml_Compass_27 mc_Compass_turned ms_Compass_turned ⟨by decide, by decide⟩ rfl (Nat.le_of_ble_eq_true rfl) (Nat.le_of_ble_eq_true rfl) (Q1 := fun r M1 L1 => some (.int ((i0 + (-8)) &&& 31)) = r ∧ M = M1 ∧ L = L1) (s_Compass_turned ⟨rfl, rfl, rfl⟩) ?_
  rintro _ _ _ ⟨rfl, rfl, rfl⟩
  refine x_callS (as := [.int ((i0 + (-8)) &&& 31)]) (st := []) d_Compass_eastOf_6 ml_Compass_30 mc_Compass_northOf ms_Compass_northOf ⟨by decide, by decide⟩ rfl (Nat.le_of_ble_eq_true rfl) (Nat.le_of_ble_eq_true rfl) h ?_
  rintro _ M_1 L_2 ⟨v_3, rfl, h9⟩
  exact r_iret ⟨d_Compass_eastOf_9, _, rfl, rfl⟩ ⟨_, _, rfl, h9⟩
theorem L_Compass_pointsFarther_0 {xs : List Int32} {S : List Shp} {i0 : Int32} {i1 : Int32} {i2 : Int32} {M : Mem} {L : Int64} {Q : Option Value → Mem → Int64 → Prop} 
    (h : ((i2 = 0 → Q (some (.int 0)) M L) ∧ (¬ (i2 = 0) → ((6 ≤ (imin ((i1 - i0) &&& 31) (32 - ((i1 - i0) &&& 31))) → ((8 ≤ (imin ((i1 - i0) &&& 31) (32 - ((i1 - i0) &&& 31))) → ((12 ≤ (imin ((i1 - i0) &&& 31) (32 - ((i1 - i0) &&& 31))) → Q (some (.int 0)) M L) ∧ (¬ (12 ≤ (imin ((i1 - i0) &&& 31) (32 - ((i1 - i0) &&& 31)))) → Q (some (.int (2 - i2))) M L))) ∧ (¬ (8 ≤ (imin ((i1 - i0) &&& 31) (32 - ((i1 - i0) &&& 31)))) → Q (some (.int (3 - i2))) M L))) ∧ (¬ (6 ≤ (imin ((i1 - i0) &&& 31) (32 - ((i1 - i0) &&& 31)))) → Q (some (.int (-1))) M L))))) : RX xs S md_Compass_pointsFarther 0 [.int i0, .int i1, .int i2] [] M L Q := by
  refine r_weak (lv' := [.int i0, .int i1, .int i2, .null]) (by repeat (first | exact trivial | refine ⟨rfl, ?_⟩ | exact lle_nil)) ?_
  refine r_iload_n d_Compass_pointsFarther_0 rfl ?_
  refine r_if_ne d_Compass_pointsFarther_1 (fun c_1 => ?_) (fun c_1 => ?_)
  · have h9 := h.2 c_1
    refine r_iload_n d_Compass_pointsFarther_6 rfl ?_
    refine r_iload_n d_Compass_pointsFarther_7 rfl ?_
    refine x_callS (as := [.int i0, .int i1]) (st := []) d_Compass_pointsFarther_8 ml_Compass_20 mc_Compass_angle ms_Compass_angle ⟨by decide, by decide⟩ rfl (Nat.le_of_ble_eq_true rfl) (Nat.le_of_ble_eq_true rfl) (Q1 := fun r M1 L1 => some (.int (imin ((i1 - i0) &&& 31) (32 - ((i1 - i0) &&& 31)))) = r ∧ M = M1 ∧ L = L1) (L_Compass_angle_0 ⟨rfl, rfl, rfl⟩) ?_
    rintro _ _ _ ⟨rfl, rfl, rfl⟩
    refine r_istore_n d_Compass_pointsFarther_11 (by decide) ?_
    refine r_iload_n d_Compass_pointsFarther_12 rfl ?_
    refine r_bipush (v := 6) d_Compass_pointsFarther_13 (by decide) ?_
    refine r_ic_ge d_Compass_pointsFarther_15 (fun c_2 => ?_) (fun c_2 => ?_)
    · have h9 := h9.1 c_2
      refine r_iload_n d_Compass_pointsFarther_20 rfl ?_
      refine r_bipush (v := 8) d_Compass_pointsFarther_21 (by decide) ?_
      refine r_ic_ge d_Compass_pointsFarther_23 (fun c_3 => ?_) (fun c_3 => ?_)
      · have h9 := h9.1 c_3
        refine r_iload_n d_Compass_pointsFarther_30 rfl ?_
        refine r_bipush (v := 12) d_Compass_pointsFarther_31 (by decide) ?_
        refine r_ic_ge d_Compass_pointsFarther_33 (fun c_4 => ?_) (fun c_4 => ?_)
        · have h9 := h9.1 c_4
          refine r_iconst (v := 0) d_Compass_pointsFarther_42 (by decide) ?_
          exact r_iret ⟨d_Compass_pointsFarther_43, _, rfl, rfl⟩ ⟨_, _, rfl, h9⟩
        · have h9 := h9.2 c_4
          refine r_iconst (v := 2) d_Compass_pointsFarther_36 (by decide) ?_
          refine r_iload_n d_Compass_pointsFarther_37 rfl ?_
          refine r_isub d_Compass_pointsFarther_38 ?_
          refine r_goto d_Compass_pointsFarther_39 ?_
          exact r_iret ⟨d_Compass_pointsFarther_43, _, rfl, rfl⟩ ⟨_, _, rfl, h9⟩
      · have h9 := h9.2 c_3
        refine r_iconst (v := 3) d_Compass_pointsFarther_26 (by decide) ?_
        refine r_iload_n d_Compass_pointsFarther_27 rfl ?_
        refine r_isub d_Compass_pointsFarther_28 ?_
        exact r_iret ⟨d_Compass_pointsFarther_29, _, rfl, rfl⟩ ⟨_, _, rfl, h9⟩
    · have h9 := h9.2 c_2
      refine r_iconst (v := (-1)) d_Compass_pointsFarther_18 (by decide) ?_
      exact r_iret ⟨d_Compass_pointsFarther_19, _, rfl, rfl⟩ ⟨_, _, rfl, h9⟩
  · have h9 := h.1 c_1
    refine r_iconst (v := 0) d_Compass_pointsFarther_4 (by decide) ?_
    exact r_iret ⟨d_Compass_pointsFarther_5, _, rfl, rfl⟩ ⟨_, _, rfl, h9⟩
theorem L_Words_isWord_0 {xs : List Int32} {S : List Shp} {i0 : Int32} {M : Mem} {L : Int64} {Q : Option Value → Mem → Int64 → Prop} 
    (h : (((0 ≤ i0 ∧ i0 ≤ 31) → Q (some (.int 1)) M L) ∧ (¬ (0 ≤ i0 ∧ i0 ≤ 31) → ((i0 = 301 → Q (some (.int 1)) M L) ∧ (¬ (i0 = 301) → (((trn i0) = 0 → Q (some (.int 0)) M L) ∧ (¬ ((trn i0) = 0) → Q (some (.int 1)) M L))))))) : RX xs S md_Words_isWord 0 [.int i0] [] M L Q := by
  refine r_iload_n d_Words_isWord_0 rfl ?_
  refine x_callS (as := [.int i0]) (st := []) d_Words_isWord_1 ml_Words_26 mc_Compass_isPoint ms_Compass_isPoint ⟨by decide, by decide⟩ rfl (Nat.le_of_ble_eq_true rfl) (Nat.le_of_ble_eq_true rfl) (Q1 := fun r M1 L1 => some (.int (bI (0 ≤ i0 ∧ i0 ≤ 31))) = r ∧ M = M1 ∧ L = L1) (s_Compass_isPoint ⟨rfl, rfl, rfl⟩) ?_
  rintro _ _ _ ⟨rfl, rfl, rfl⟩
  refine r_if_ne d_Words_isWord_4 (fun c_1 => ?_) (fun c_1 => ?_)
  · have h9 := h.1 (bI_p1 c_1)
    refine r_iconst (v := 1) d_Words_isWord_21 (by decide) ?_
    refine r_goto d_Words_isWord_22 ?_
    exact r_iret ⟨d_Words_isWord_26, _, rfl, rfl⟩ ⟨_, _, rfl, h9⟩
  · have h9 := h.2 (bI_p0 c_1)
    refine r_iload_n d_Words_isWord_7 rfl ?_
    refine r_sipush (v := 301) d_Words_isWord_8 (by decide) ?_
    refine r_ic_eq d_Words_isWord_11 (fun c_2 => ?_) (fun c_2 => ?_)
    · have h9 := h9.1 c_2
      refine r_iconst (v := 1) d_Words_isWord_21 (by decide) ?_
      refine r_goto d_Words_isWord_22 ?_
      exact r_iret ⟨d_Words_isWord_26, _, rfl, rfl⟩ ⟨_, _, rfl, h9⟩
    · have h9 := h9.2 c_2
      refine r_iload_n d_Words_isWord_14 rfl ?_
      refine x_callS (as := [.int i0]) (st := []) d_Words_isWord_15 ml_Words_35 mc_Words_turnOf ms_Words_turnOf ⟨by decide, by decide⟩ rfl (Nat.le_of_ble_eq_true rfl) (Nat.le_of_ble_eq_true rfl) (Q1 := fun r M1 L1 => some (.int (trn i0)) = r ∧ M = M1 ∧ L = L1) (s_Words_turnOf ⟨rfl, rfl, rfl⟩) ?_
      rintro _ _ _ ⟨rfl, rfl, rfl⟩
      refine r_if_eq d_Words_isWord_18 (fun c_3 => ?_) (fun c_3 => ?_)
      · have h9 := h9.1 c_3
        refine r_iconst (v := 0) d_Words_isWord_25 (by decide) ?_
        exact r_iret ⟨d_Words_isWord_26, _, rfl, rfl⟩ ⟨_, _, rfl, h9⟩
      · have h9 := h9.2 c_3
        refine r_iconst (v := 1) d_Words_isWord_21 (by decide) ?_
        refine r_goto d_Words_isWord_22 ?_
        exact r_iret ⟨d_Words_isWord_26, _, rfl, rfl⟩ ⟨_, _, rfl, h9⟩
set_option maxHeartbeats 4000000 in
theorem L_Chart_drawAnew_0 {xs : List Int32} {S : List Shp} {i1 : Int32} {i2 : Int32} {M : Mem} {L : Int64} {Q : Option Value → Mem → Int64 → Prop} (hS : cvr S 126 134)
    (h : Q none (setP (setP (setP (setP (rowN (up (up M 126 4 i1) 126 5 i2) 127 400 (fun _ => 50)) 132 (fun _ _ => false)) 130 (fun _ _ => false)) 128 (fun _ _ => false)) 128 (rcF (0 : Int32).toInt (0 : Int32).toInt (i1 - 1).toInt (i2 - 1).toInt (bB (¬ (1 : Int32) = 0)) (gp (setP (setP (setP (rowN (up (up M 126 4 i1) 126 5 i2) 127 400 (fun _ => 50)) 132 (fun _ _ => false)) 130 (fun _ _ => false)) 128 (fun _ _ => false)) 128))) L) : RX xs S md_Chart_drawAnew 0 [.ref 126, .int i1, .int i2] [] M L Q := by
  refine r_aload_n d_Chart_drawAnew_0 rfl ?_
  refine r_iload_n d_Chart_drawAnew_1 rfl ?_
  refine x_putI d_Chart_drawAnew_2 fl_Chart_36 (fun r hr => by cases hr; rfl) (fI_cv gI_126_4 (hS 126 (by decide) (by decide))) (VOk_int _) ?_
  refine r_aload_n d_Chart_drawAnew_5 rfl ?_
  refine r_iload_n d_Chart_drawAnew_6 rfl ?_
  refine x_putI d_Chart_drawAnew_7 fl_Chart_40 (fun r hr => by cases hr; rfl) (fI_cv gI_126_5 (hS 126 (by decide) (by decide))) (VOk_int _) ?_
  refine r_aload_n d_Chart_drawAnew_10 rfl ?_
  refine x_getR d_Chart_drawAnew_11 fl_Chart_11 (fR_cv gR_126_0 (hS 126 (by decide) (by decide))) ?_
  refine r_bipush (v := 50) d_Chart_drawAnew_14 (by decide) ?_
  refine x_callS (as := [.ref 127, .int 50]) (st := []) d_Chart_drawAnew_16 ml_Chart_43 mc_JArrays_fill ms_JArrays_fill ⟨by decide, by decide⟩ rfl (Nat.le_of_ble_eq_true rfl) (Nat.le_of_ble_eq_true rfl) (Q1 := fun r M1 L1 => none = r ∧ rowN (up (up M 126 4 i1) 126 5 i2) 127 400 (fun _ => 50) = M1 ∧ L = L1) (s_JArrays_fill (aI_cv aI_127 (hS 127 (by decide) (by decide))) (by decide) ⟨rfl, rfl, rfl⟩) ?_
  rintro _ _ _ ⟨rfl, rfl, rfl⟩
  refine r_aload_n d_Chart_drawAnew_19 rfl ?_
  refine x_getR d_Chart_drawAnew_20 fl_Chart_25 (fR_cv gR_126_3 (hS 126 (by decide) (by decide))) ?_
  refine x_callV (as := []) (st := []) d_Chart_drawAnew_23 ml_Chart_49 mc_Patch_clear mv_Patch_clear ⟨by decide, by decide⟩ (isP_O (isP_cv isP_132 (hS 132 (by decide) (by decide)) (hS 133 (by decide) (by decide)))) ⟨_, rfl, rfl⟩ rfl (Nat.le_of_ble_eq_true rfl) (Nat.le_of_ble_eq_true rfl) (Q1 := fun r M1 L1 => none = r ∧ setP (rowN (up (up M 126 4 i1) 126 5 i2) 127 400 (fun _ => 50)) 132 (fun _ _ => false) = M1 ∧ L = L1) (t_clear (isP_cv isP_132 (hS 132 (by decide) (by decide)) (hS 133 (by decide) (by decide))) ⟨rfl, rfl, rfl⟩) ?_
  rintro _ _ _ ⟨rfl, rfl, rfl⟩
  refine r_aload_n d_Chart_drawAnew_26 rfl ?_
  refine x_getR d_Chart_drawAnew_27 fl_Chart_22 (fR_cv gR_126_2 (hS 126 (by decide) (by decide))) ?_
  refine x_callV (as := []) (st := []) d_Chart_drawAnew_30 ml_Chart_49 mc_Patch_clear mv_Patch_clear ⟨by decide, by decide⟩ (isP_O (isP_cv isP_130 (hS 130 (by decide) (by decide)) (hS 131 (by decide) (by decide)))) ⟨_, rfl, rfl⟩ rfl (Nat.le_of_ble_eq_true rfl) (Nat.le_of_ble_eq_true rfl) (Q1 := fun r M1 L1 => none = r ∧ setP (setP (rowN (up (up M 126 4 i1) 126 5 i2) 127 400 (fun _ => 50)) 132 (fun _ _ => false)) 130 (fun _ _ => false) = M1 ∧ L = L1) (t_clear (isP_cv isP_130 (hS 130 (by decide) (by decide)) (hS 131 (by decide) (by decide))) ⟨rfl, rfl, rfl⟩) ?_
  rintro _ _ _ ⟨rfl, rfl, rfl⟩
  refine r_aload_n d_Chart_drawAnew_33 rfl ?_
  refine x_getR d_Chart_drawAnew_34 fl_Chart_18 (fR_cv gR_126_1 (hS 126 (by decide) (by decide))) ?_
  refine x_callV (as := []) (st := []) d_Chart_drawAnew_37 ml_Chart_49 mc_Patch_clear mv_Patch_clear ⟨by decide, by decide⟩ (isP_O (isP_cv isP_128 (hS 128 (by decide) (by decide)) (hS 129 (by decide) (by decide)))) ⟨_, rfl, rfl⟩ rfl (Nat.le_of_ble_eq_true rfl) (Nat.le_of_ble_eq_true rfl) (Q1 := fun r M1 L1 => none = r ∧ setP (setP (setP (rowN (up (up M 126 4 i1) 126 5 i2) 127 400 (fun _ => 50)) 132 (fun _ _ => false)) 130 (fun _ _ => false)) 128 (fun _ _ => false) = M1 ∧ L = L1) (t_clear (isP_cv isP_128 (hS 128 (by decide) (by decide)) (hS 129 (by decide) (by decide))) ⟨rfl, rfl, rfl⟩) ?_
  rintro _ _ _ ⟨rfl, rfl, rfl⟩
  refine r_aload_n d_Chart_drawAnew_40 rfl ?_
  refine x_getR d_Chart_drawAnew_41 fl_Chart_18 (fR_cv gR_126_1 (hS 126 (by decide) (by decide))) ?_
  refine r_iconst (v := 0) d_Chart_drawAnew_44 (by decide) ?_
  refine r_iconst (v := 0) d_Chart_drawAnew_45 (by decide) ?_
  refine r_iload_n d_Chart_drawAnew_46 rfl ?_
  refine r_iconst (v := 1) d_Chart_drawAnew_47 (by decide) ?_
  refine r_isub d_Chart_drawAnew_48 ?_
  refine r_iload_n d_Chart_drawAnew_49 rfl ?_
  refine r_iconst (v := 1) d_Chart_drawAnew_50 (by decide) ?_
  refine r_isub d_Chart_drawAnew_51 ?_
  refine r_iconst (v := 1) d_Chart_drawAnew_52 (by decide) ?_
  refine x_callV (as := [.int 0, .int 0, .int (i1 - 1), .int (i2 - 1), .int 1]) (st := []) d_Chart_drawAnew_53 ml_Chart_52 mc_Patch_put mv_Patch_put ⟨by decide, by decide⟩ (isP_O (isP_cv isP_128 (hS 128 (by decide) (by decide)) (hS 129 (by decide) (by decide)))) ⟨_, rfl, rfl⟩ rfl (Nat.le_of_ble_eq_true rfl) (Nat.le_of_ble_eq_true rfl) (Q1 := fun r M1 L1 => none = r ∧ setP (setP (setP (setP (rowN (up (up M 126 4 i1) 126 5 i2) 127 400 (fun _ => 50)) 132 (fun _ _ => false)) 130 (fun _ _ => false)) 128 (fun _ _ => false)) 128 (rcF (0 : Int32).toInt (0 : Int32).toInt (i1 - 1).toInt (i2 - 1).toInt (bB (¬ (1 : Int32) = 0)) (gp (setP (setP (setP (rowN (up (up M 126 4 i1) 126 5 i2) 127 400 (fun _ => 50)) 132 (fun _ _ => false)) 130 (fun _ _ => false)) 128 (fun _ _ => false)) 128)) = M1 ∧ L = L1) (t_put (isP_cv isP_128 (hS 128 (by decide) (by decide)) (hS 129 (by decide) (by decide))) ⟨rfl, rfl, rfl⟩) ?_
  rintro _ _ _ ⟨rfl, rfl, rfl⟩
  exact r_vret ⟨d_Chart_drawAnew_56, rfl⟩ ⟨setP (setP (setP (setP (rowN (up (up M 126 4 i1) 126 5 i2) 127 400 (fun _ => 50)) 132 (fun _ _ => false)) 130 (fun _ _ => false)) 128 (fun _ _ => false)) 128 (rcF (0 : Int32).toInt (0 : Int32).toInt (i1 - 1).toInt (i2 - 1).toInt (bB (¬ (1 : Int32) = 0)) (gp (setP (setP (setP (rowN (up (up M 126 4 i1) 126 5 i2) 127 400 (fun _ => 50)) 132 (fun _ _ => false)) 130 (fun _ _ => false)) 128 (fun _ _ => false)) 128)), L, rfl, h⟩
set_option maxHeartbeats 4000000 in
theorem L_Row_takeOn_0 {xs : List Int32} {t0 : Nat} {i1 : Int32} {p2 : Nat} {p3 : Nat} {M : Mem} {L : Int64} {Q : Option Value → Mem → Int64 → Prop} (ht0 : t0 < 40) (hp2 : isP shL p2) (hp3 : isP shL p3)
    (h : (((¬ M (136 + 5 * t0) 3 = -1) → ((i1 = 0 → RX xs shL md_Patch_becomeReached 0 [.ref p3, .ref p2, .int (M (136 + 5 * t0 + 2) 0), .int (M (136 + 5 * t0 + 2) 1), .int (M (136 + 5 * t0 + 2) 2), .int (M (136 + 5 * t0 + 2) 3), .ref 126] [] M L (fun r M_5 L_6 => r = none ∧ Q none (setP M_5 p3 (fun x y => gp M_5 p3 x y && gp M_5 128 x y)) L_6)) ∧ (¬ (i1 = 0) → RX xs shL md_Patch_becomeReached 0 [.ref p3, .ref p2, .int (M (136 + 5 * t0 + 1) 0), .int (M (136 + 5 * t0 + 1) 1), .int (M (136 + 5 * t0 + 1) 2), .int (M (136 + 5 * t0 + 1) 3), .ref 126] [] M L (fun r M_7 L_8 => r = none ∧ Q none (setP M_7 p3 (fun x y => gp M_7 p3 x y && gp M_7 128 x y)) L_8)))) ∧ (¬ (¬ M (136 + 5 * t0) 3 = -1) → RX xs shL md_Row_cut 0 [.ref (136 + 5 * t0), .int i1, .ref p2, .ref p3] [] M L (fun r M_2 L_3 => r = none ∧ Q none M_2 L_3)))) : RX xs shL md_Row_takeOn 0 [.ref (136 + 5 * t0), .int i1, .ref p2, .ref p3, .ref 126] [] M L Q := by
  refine r_weak (lv' := [.ref (136 + 5 * t0), .int i1, .ref p2, .ref p3, .ref 126, .null]) (by repeat (first | exact trivial | refine ⟨rfl, ?_⟩ | exact lle_nil)) ?_
  refine r_aload_n d_Row_takeOn_0 rfl ?_
  refine x_callV (as := []) (st := []) d_Row_takeOn_1 ml_Row_97 mc_Row_isWatch mv_Row_isWatch ⟨by decide, by decide⟩ (rw_O ht0) ⟨_, rfl, rfl⟩ rfl (Nat.le_of_ble_eq_true rfl) (Nat.le_of_ble_eq_true rfl) (Q1 := fun r M1 L1 => some (.int (bI (¬ M (136 + 5 * t0) 3 = -1))) = r ∧ M = M1 ∧ L = L1) (s_Row_isWatch ht0 ⟨rfl, rfl, rfl⟩) ?_
  rintro _ _ _ ⟨rfl, rfl, rfl⟩
  refine r_if_eq d_Row_takeOn_4 (fun c_1 => ?_) (fun c_1 => ?_)
  · have h9 := h.2 (bI_p0 c_1)
    refine r_aload_n d_Row_takeOn_63 rfl ?_
    refine r_iload_n d_Row_takeOn_64 rfl ?_
    refine r_aload_n d_Row_takeOn_65 rfl ?_
    refine r_aload_n d_Row_takeOn_66 rfl ?_
    refine x_callV (as := [.int i1, .ref p2, .ref p3]) (st := []) d_Row_takeOn_67 ml_Row_120 mc_Row_cut mv_Row_cut ⟨by decide, by decide⟩ (rw_O ht0) ⟨_, rfl, rfl⟩ rfl (Nat.le_of_ble_eq_true rfl) (Nat.le_of_ble_eq_true rfl) h9 ?_
    rintro _ M_2 L_3 ⟨rfl, h9⟩
    exact r_vret ⟨d_Row_takeOn_70, rfl⟩ ⟨M_2, L_3, rfl, h9⟩
  · have h9 := h.1 (bI_p1 c_1)
    refine r_iload_n d_Row_takeOn_7 rfl ?_
    refine r_if_eq d_Row_takeOn_8 (fun c_4 => ?_) (fun c_4 => ?_)
    · have h9 := h9.1 c_4
      refine r_aload_n d_Row_takeOn_18 rfl ?_
      refine x_getR d_Row_takeOn_19 fl_Row_18 (rw_R1 ht0) ?_
      refine r_astore d_Row_takeOn_22 (by decide) ?_
      refine r_aload_n d_Row_takeOn_24 rfl ?_
      refine r_aload_n d_Row_takeOn_25 rfl ?_
      refine r_aload d_Row_takeOn_26 rfl ?_
      refine x_getI d_Row_takeOn_28 fl_Row_101 (isRe_I (rw_re2 ht0) 0 (by decide)) ?_
      refine r_aload d_Row_takeOn_31 rfl ?_
      refine x_getI d_Row_takeOn_33 fl_Row_104 (isRe_I (rw_re2 ht0) 1 (by decide)) ?_
      refine r_aload d_Row_takeOn_36 rfl ?_
      refine x_getI d_Row_takeOn_38 fl_Row_107 (isRe_I (rw_re2 ht0) 2 (by decide)) ?_
      refine r_aload d_Row_takeOn_41 rfl ?_
      refine x_getI d_Row_takeOn_43 fl_Row_110 (isRe_I (rw_re2 ht0) 3 (by decide)) ?_
      refine r_aload d_Row_takeOn_46 rfl ?_
      refine x_callV (as := [.ref p2, .int (M (136 + 5 * t0 + 2) 0), .int (M (136 + 5 * t0 + 2) 1), .int (M (136 + 5 * t0 + 2) 2), .int (M (136 + 5 * t0 + 2) 3), .ref 126]) (st := []) d_Row_takeOn_48 ml_Row_113 mc_Patch_becomeReached mv_Patch_becomeReached ⟨by decide, by decide⟩ (isP_O hp3) ⟨_, rfl, rfl⟩ rfl (Nat.le_of_ble_eq_true rfl) (Nat.le_of_ble_eq_true rfl) h9 ?_
      rintro _ M_5 L_6 ⟨rfl, h9⟩
      refine r_aload_n d_Row_takeOn_51 rfl ?_
      refine r_aload d_Row_takeOn_52 rfl ?_
      refine x_getR d_Row_takeOn_54 fl_Row_91 gR_126_1 ?_
      refine x_callV (as := [.ref 128]) (st := []) d_Row_takeOn_57 ml_Row_117 mc_Patch_cutTo mv_Patch_cutTo ⟨by decide, by decide⟩ (isP_O hp3) ⟨_, rfl, rfl⟩ rfl (Nat.le_of_ble_eq_true rfl) (Nat.le_of_ble_eq_true rfl) (Q1 := fun r M1 L1 => none = r ∧ setP M_5 p3 (fun x y => gp M_5 p3 x y && gp M_5 128 x y) = M1 ∧ L_6 = L1) (t_cutTo hp3 isP_128 ⟨rfl, rfl, rfl⟩) ?_
      rintro _ _ _ ⟨rfl, rfl, rfl⟩
      refine r_goto d_Row_takeOn_60 ?_
      exact r_vret ⟨d_Row_takeOn_70, rfl⟩ ⟨setP M_5 p3 (fun x y => gp M_5 p3 x y && gp M_5 128 x y), L_6, rfl, h9⟩
    · have h9 := h9.2 c_4
      refine r_aload_n d_Row_takeOn_11 rfl ?_
      refine x_getR d_Row_takeOn_12 fl_Row_12 (rw_R0 ht0) ?_
      refine r_goto d_Row_takeOn_15 ?_
      refine r_astore d_Row_takeOn_22 (by decide) ?_
      refine r_aload_n d_Row_takeOn_24 rfl ?_
      refine r_aload_n d_Row_takeOn_25 rfl ?_
      refine r_aload d_Row_takeOn_26 rfl ?_
      refine x_getI d_Row_takeOn_28 fl_Row_101 (isRe_I (rw_re1 ht0) 0 (by decide)) ?_
      refine r_aload d_Row_takeOn_31 rfl ?_
      refine x_getI d_Row_takeOn_33 fl_Row_104 (isRe_I (rw_re1 ht0) 1 (by decide)) ?_
      refine r_aload d_Row_takeOn_36 rfl ?_
      refine x_getI d_Row_takeOn_38 fl_Row_107 (isRe_I (rw_re1 ht0) 2 (by decide)) ?_
      refine r_aload d_Row_takeOn_41 rfl ?_
      refine x_getI d_Row_takeOn_43 fl_Row_110 (isRe_I (rw_re1 ht0) 3 (by decide)) ?_
      refine r_aload d_Row_takeOn_46 rfl ?_
      refine x_callV (as := [.ref p2, .int (M (136 + 5 * t0 + 1) 0), .int (M (136 + 5 * t0 + 1) 1), .int (M (136 + 5 * t0 + 1) 2), .int (M (136 + 5 * t0 + 1) 3), .ref 126]) (st := []) d_Row_takeOn_48 ml_Row_113 mc_Patch_becomeReached mv_Patch_becomeReached ⟨by decide, by decide⟩ (isP_O hp3) ⟨_, rfl, rfl⟩ rfl (Nat.le_of_ble_eq_true rfl) (Nat.le_of_ble_eq_true rfl) h9 ?_
      rintro _ M_7 L_8 ⟨rfl, h9⟩
      refine r_aload_n d_Row_takeOn_51 rfl ?_
      refine r_aload d_Row_takeOn_52 rfl ?_
      refine x_getR d_Row_takeOn_54 fl_Row_91 gR_126_1 ?_
      refine x_callV (as := [.ref 128]) (st := []) d_Row_takeOn_57 ml_Row_117 mc_Patch_cutTo mv_Patch_cutTo ⟨by decide, by decide⟩ (isP_O hp3) ⟨_, rfl, rfl⟩ rfl (Nat.le_of_ble_eq_true rfl) (Nat.le_of_ble_eq_true rfl) (Q1 := fun r M1 L1 => none = r ∧ setP M_7 p3 (fun x y => gp M_7 p3 x y && gp M_7 128 x y) = M1 ∧ L_8 = L1) (t_cutTo hp3 isP_128 ⟨rfl, rfl, rfl⟩) ?_
      rintro _ _ _ ⟨rfl, rfl, rfl⟩
      refine r_goto d_Row_takeOn_60 ?_
      exact r_vret ⟨d_Row_takeOn_70, rfl⟩ ⟨setP M_7 p3 (fun x y => gp M_7 p3 x y && gp M_7 128 x y), L_8, rfl, h9⟩
set_option maxHeartbeats 4000000 in
theorem L_Row_takeBack_0 {xs : List Int32} {t0 : Nat} {p1 : Nat} {p2 : Nat} {M : Mem} {L : Int64} {Q : Option Value → Mem → Int64 → Prop} (ht0 : t0 < 40) (hp1 : isP shL p1) (hp2 : isP shL p2)
    (h : (((¬ M (136 + 5 * t0) 3 = -1) → (((M (136 + 5 * t0) 7) = 0 → RX xs shL md_Patch_becomeReached 0 [.ref p2, .ref p1, .int (-(M (136 + 5 * t0 + 2) 1)), .int (-(M (136 + 5 * t0 + 2) 0)), .int (-(M (136 + 5 * t0 + 2) 3)), .int (-(M (136 + 5 * t0 + 2) 2)), .ref 126] [] M L (fun r M_5 L_6 => r = none ∧ Q none (setP M_5 p2 (fun x y => gp M_5 p2 x y && gp M_5 128 x y)) L_6)) ∧ (¬ ((M (136 + 5 * t0) 7) = 0) → RX xs shL md_Patch_becomeReached 0 [.ref p2, .ref p1, .int (-(M (136 + 5 * t0 + 1) 1)), .int (-(M (136 + 5 * t0 + 1) 0)), .int (-(M (136 + 5 * t0 + 1) 3)), .int (-(M (136 + 5 * t0 + 1) 2)), .ref 126] [] M L (fun r M_7 L_8 => r = none ∧ Q none (setP M_7 p2 (fun x y => gp M_7 p2 x y && gp M_7 128 x y)) L_8)))) ∧ (¬ (¬ M (136 + 5 * t0) 3 = -1) → RX xs shL md_Row_cut 0 [.ref (136 + 5 * t0), .int (M (136 + 5 * t0) 7), .ref p1, .ref p2] [] M L (fun r M_2 L_3 => r = none ∧ Q none M_2 L_3)))) : RX xs shL md_Row_takeBack 0 [.ref (136 + 5 * t0), .ref p1, .ref p2, .ref 126] [] M L Q := by
  refine r_weak (lv' := [.ref (136 + 5 * t0), .ref p1, .ref p2, .ref 126, .null]) (by repeat (first | exact trivial | refine ⟨rfl, ?_⟩ | exact lle_nil)) ?_
  refine r_aload_n d_Row_takeBack_0 rfl ?_
  refine x_callV (as := []) (st := []) d_Row_takeBack_1 ml_Row_97 mc_Row_isWatch mv_Row_isWatch ⟨by decide, by decide⟩ (rw_O ht0) ⟨_, rfl, rfl⟩ rfl (Nat.le_of_ble_eq_true rfl) (Nat.le_of_ble_eq_true rfl) (Q1 := fun r M1 L1 => some (.int (bI (¬ M (136 + 5 * t0) 3 = -1))) = r ∧ M = M1 ∧ L = L1) (s_Row_isWatch ht0 ⟨rfl, rfl, rfl⟩) ?_
  rintro _ _ _ ⟨rfl, rfl, rfl⟩
  refine r_if_eq d_Row_takeBack_4 (fun c_1 => ?_) (fun c_1 => ?_)
  · have h9 := h.2 (bI_p0 c_1)
    refine r_aload_n d_Row_takeBack_68 rfl ?_
    refine r_aload_n d_Row_takeBack_69 rfl ?_
    refine x_getI d_Row_takeBack_70 fl_Row_58 (rw_I ht0 7 (by decide) (by decide)) ?_
    refine r_aload_n d_Row_takeBack_73 rfl ?_
    refine r_aload_n d_Row_takeBack_74 rfl ?_
    refine x_callV (as := [.int (M (136 + 5 * t0) 7), .ref p1, .ref p2]) (st := []) d_Row_takeBack_75 ml_Row_120 mc_Row_cut mv_Row_cut ⟨by decide, by decide⟩ (rw_O ht0) ⟨_, rfl, rfl⟩ rfl (Nat.le_of_ble_eq_true rfl) (Nat.le_of_ble_eq_true rfl) h9 ?_
    rintro _ M_2 L_3 ⟨rfl, h9⟩
    exact r_vret ⟨d_Row_takeBack_78, rfl⟩ ⟨M_2, L_3, rfl, h9⟩
  · have h9 := h.1 (bI_p1 c_1)
    refine r_aload_n d_Row_takeBack_7 rfl ?_
    refine x_getI d_Row_takeBack_8 fl_Row_58 (rw_I ht0 7 (by decide) (by decide)) ?_
    refine r_if_eq d_Row_takeBack_11 (fun c_4 => ?_) (fun c_4 => ?_)
    · have h9 := h9.1 c_4
      refine r_aload_n d_Row_takeBack_21 rfl ?_
      refine x_getR d_Row_takeBack_22 fl_Row_18 (rw_R1 ht0) ?_
      refine r_astore d_Row_takeBack_25 (by decide) ?_
      refine r_aload_n d_Row_takeBack_27 rfl ?_
      refine r_aload_n d_Row_takeBack_28 rfl ?_
      refine r_aload d_Row_takeBack_29 rfl ?_
      refine x_getI d_Row_takeBack_31 fl_Row_104 (isRe_I (rw_re2 ht0) 1 (by decide)) ?_
      refine r_ineg d_Row_takeBack_34 ?_
      refine r_aload d_Row_takeBack_35 rfl ?_
      refine x_getI d_Row_takeBack_37 fl_Row_101 (isRe_I (rw_re2 ht0) 0 (by decide)) ?_
      refine r_ineg d_Row_takeBack_40 ?_
      refine r_aload d_Row_takeBack_41 rfl ?_
      refine x_getI d_Row_takeBack_43 fl_Row_110 (isRe_I (rw_re2 ht0) 3 (by decide)) ?_
      refine r_ineg d_Row_takeBack_46 ?_
      refine r_aload d_Row_takeBack_47 rfl ?_
      refine x_getI d_Row_takeBack_49 fl_Row_107 (isRe_I (rw_re2 ht0) 2 (by decide)) ?_
      refine r_ineg d_Row_takeBack_52 ?_
      refine r_aload_n d_Row_takeBack_53 rfl ?_
      refine x_callV (as := [.ref p1, .int (-(M (136 + 5 * t0 + 2) 1)), .int (-(M (136 + 5 * t0 + 2) 0)), .int (-(M (136 + 5 * t0 + 2) 3)), .int (-(M (136 + 5 * t0 + 2) 2)), .ref 126]) (st := []) d_Row_takeBack_54 ml_Row_113 mc_Patch_becomeReached mv_Patch_becomeReached ⟨by decide, by decide⟩ (isP_O hp2) ⟨_, rfl, rfl⟩ rfl (Nat.le_of_ble_eq_true rfl) (Nat.le_of_ble_eq_true rfl) h9 ?_
      rintro _ M_5 L_6 ⟨rfl, h9⟩
      refine r_aload_n d_Row_takeBack_57 rfl ?_
      refine r_aload_n d_Row_takeBack_58 rfl ?_
      refine x_getR d_Row_takeBack_59 fl_Row_91 gR_126_1 ?_
      refine x_callV (as := [.ref 128]) (st := []) d_Row_takeBack_62 ml_Row_117 mc_Patch_cutTo mv_Patch_cutTo ⟨by decide, by decide⟩ (isP_O hp2) ⟨_, rfl, rfl⟩ rfl (Nat.le_of_ble_eq_true rfl) (Nat.le_of_ble_eq_true rfl) (Q1 := fun r M1 L1 => none = r ∧ setP M_5 p2 (fun x y => gp M_5 p2 x y && gp M_5 128 x y) = M1 ∧ L_6 = L1) (t_cutTo hp2 isP_128 ⟨rfl, rfl, rfl⟩) ?_
      rintro _ _ _ ⟨rfl, rfl, rfl⟩
      refine r_goto d_Row_takeBack_65 ?_
      exact r_vret ⟨d_Row_takeBack_78, rfl⟩ ⟨setP M_5 p2 (fun x y => gp M_5 p2 x y && gp M_5 128 x y), L_6, rfl, h9⟩
    · have h9 := h9.2 c_4
      refine r_aload_n d_Row_takeBack_14 rfl ?_
      refine x_getR d_Row_takeBack_15 fl_Row_12 (rw_R0 ht0) ?_
      refine r_goto d_Row_takeBack_18 ?_
      refine r_astore d_Row_takeBack_25 (by decide) ?_
      refine r_aload_n d_Row_takeBack_27 rfl ?_
      refine r_aload_n d_Row_takeBack_28 rfl ?_
      refine r_aload d_Row_takeBack_29 rfl ?_
      refine x_getI d_Row_takeBack_31 fl_Row_104 (isRe_I (rw_re1 ht0) 1 (by decide)) ?_
      refine r_ineg d_Row_takeBack_34 ?_
      refine r_aload d_Row_takeBack_35 rfl ?_
      refine x_getI d_Row_takeBack_37 fl_Row_101 (isRe_I (rw_re1 ht0) 0 (by decide)) ?_
      refine r_ineg d_Row_takeBack_40 ?_
      refine r_aload d_Row_takeBack_41 rfl ?_
      refine x_getI d_Row_takeBack_43 fl_Row_110 (isRe_I (rw_re1 ht0) 3 (by decide)) ?_
      refine r_ineg d_Row_takeBack_46 ?_
      refine r_aload d_Row_takeBack_47 rfl ?_
      refine x_getI d_Row_takeBack_49 fl_Row_107 (isRe_I (rw_re1 ht0) 2 (by decide)) ?_
      refine r_ineg d_Row_takeBack_52 ?_
      refine r_aload_n d_Row_takeBack_53 rfl ?_
      refine x_callV (as := [.ref p1, .int (-(M (136 + 5 * t0 + 1) 1)), .int (-(M (136 + 5 * t0 + 1) 0)), .int (-(M (136 + 5 * t0 + 1) 3)), .int (-(M (136 + 5 * t0 + 1) 2)), .ref 126]) (st := []) d_Row_takeBack_54 ml_Row_113 mc_Patch_becomeReached mv_Patch_becomeReached ⟨by decide, by decide⟩ (isP_O hp2) ⟨_, rfl, rfl⟩ rfl (Nat.le_of_ble_eq_true rfl) (Nat.le_of_ble_eq_true rfl) h9 ?_
      rintro _ M_7 L_8 ⟨rfl, h9⟩
      refine r_aload_n d_Row_takeBack_57 rfl ?_
      refine r_aload_n d_Row_takeBack_58 rfl ?_
      refine x_getR d_Row_takeBack_59 fl_Row_91 gR_126_1 ?_
      refine x_callV (as := [.ref 128]) (st := []) d_Row_takeBack_62 ml_Row_117 mc_Patch_cutTo mv_Patch_cutTo ⟨by decide, by decide⟩ (isP_O hp2) ⟨_, rfl, rfl⟩ rfl (Nat.le_of_ble_eq_true rfl) (Nat.le_of_ble_eq_true rfl) (Q1 := fun r M1 L1 => none = r ∧ setP M_7 p2 (fun x y => gp M_7 p2 x y && gp M_7 128 x y) = M1 ∧ L_8 = L1) (t_cutTo hp2 isP_128 ⟨rfl, rfl, rfl⟩) ?_
      rintro _ _ _ ⟨rfl, rfl, rfl⟩
      refine r_goto d_Row_takeBack_65 ?_
      exact r_vret ⟨d_Row_takeBack_78, rfl⟩ ⟨setP M_7 p2 (fun x y => gp M_7 p2 x y && gp M_7 128 x y), L_8, rfl, h9⟩
theorem L_Chart_findNear_0 {xs : List Int32} {i1 : Int32} {p2 : Nat} {M : Mem} {L : Int64} {Q : Option Value → Mem → Int64 → Prop} (hp2 : isP shL p2)
    (h : RX xs shL md_Patch_becomeReached 0 [.ref p2, .ref 130, .int (-i1), .int i1, .int (-i1), .int i1, .ref 126] [] M L (fun r M_1 L_2 => r = none ∧ Q none M_1 L_2)) : RX xs shL md_Chart_findNear 0 [.ref 126, .int i1, .ref p2] [] M L Q := by
  refine r_aload_n d_Chart_findNear_0 rfl ?_
  refine r_aload_n d_Chart_findNear_1 rfl ?_
  refine x_getR d_Chart_findNear_2 fl_Chart_22 gR_126_2 ?_
  refine r_iload_n d_Chart_findNear_5 rfl ?_
  refine r_ineg d_Chart_findNear_6 ?_
  refine r_iload_n d_Chart_findNear_7 rfl ?_
  refine r_iload_n d_Chart_findNear_8 rfl ?_
  refine r_ineg d_Chart_findNear_9 ?_
  refine r_iload_n d_Chart_findNear_10 rfl ?_
  refine r_aload_n d_Chart_findNear_11 rfl ?_
  refine x_callV (as := [.ref 130, .int (-i1), .int i1, .int (-i1), .int i1, .ref 126]) (st := []) d_Chart_findNear_12 ml_Chart_75 mc_Patch_becomeReached mv_Patch_becomeReached ⟨by decide, by decide⟩ (isP_O hp2) ⟨_, rfl, rfl⟩ rfl (Nat.le_of_ble_eq_true rfl) (Nat.le_of_ble_eq_true rfl) h ?_
  rintro _ M_1 L_2 ⟨rfl, h9⟩
  exact r_vret ⟨d_Chart_findNear_15, rfl⟩ ⟨M_1, L_2, rfl, h9⟩
theorem L_Chart_findDepths_0 {xs : List Int32} {i1 : Int32} {i2 : Int32} {p3 : Nat} {M : Mem} {L : Int64} {Q : Option Value → Mem → Int64 → Prop} (hp3 : isP shL p3)
    (h : RX xs shL md_Chart_findDepths 7 [.ref 126, .int i1, .int i2, .ref p3, .int 0, .null] [] (setP M p3 (fun _ _ => false)) L Q) : RX xs shL md_Chart_findDepths 0 [.ref 126, .int i1, .int i2, .ref p3] [] M L Q := by
  refine r_weak (lv' := [.ref 126, .int i1, .int i2, .ref p3, .null, .null]) (by repeat (first | exact trivial | refine ⟨rfl, ?_⟩ | exact lle_nil)) ?_
  refine r_aload_n d_Chart_findDepths_0 rfl ?_
  refine x_callV (as := []) (st := []) d_Chart_findDepths_1 ml_Chart_49 mc_Patch_clear mv_Patch_clear ⟨by decide, by decide⟩ (isP_O hp3) ⟨_, rfl, rfl⟩ rfl (Nat.le_of_ble_eq_true rfl) (Nat.le_of_ble_eq_true rfl) (Q1 := fun r M1 L1 => none = r ∧ setP M p3 (fun _ _ => false) = M1 ∧ L = L1) (t_clear hp3 ⟨rfl, rfl, rfl⟩) ?_
  rintro _ _ _ ⟨rfl, rfl, rfl⟩
  refine r_iconst (v := 0) d_Chart_findDepths_4 (by decide) ?_
  refine r_istore d_Chart_findDepths_5 (by decide) ?_
  exact h
theorem L_Chart_findDepths_7 {xs : List Int32} {i1 : Int32} {i2 : Int32} {p3 : Nat} {i4 : Int32} {M : Mem} {L : Int64} {Q : Option Value → Mem → Int64 → Prop} 
    (h : (((M 126 5) ≤ i4 → Q none M L) ∧ (¬ ((M 126 5) ≤ i4) → RX xs shL md_Chart_findDepths 19 [.ref 126, .int i1, .int i2, .ref p3, .int i4, .int 0] [] M L Q))) : RX xs shL md_Chart_findDepths 7 [.ref 126, .int i1, .int i2, .ref p3, .int i4, .null] [] M L Q := by
  refine r_iload d_Chart_findDepths_7 rfl ?_
  refine r_aload_n d_Chart_findDepths_9 rfl ?_
  refine x_getI d_Chart_findDepths_10 fl_Chart_40 gI_126_5 ?_
  refine r_ic_ge d_Chart_findDepths_13 (fun c_1 => ?_) (fun c_1 => ?_)
  · have h9 := h.1 c_1
    exact r_vret ⟨d_Chart_findDepths_74, rfl⟩ ⟨M, L, rfl, h9⟩
  · have h9 := h.2 c_1
    refine r_iconst (v := 0) d_Chart_findDepths_16 (by decide) ?_
    refine r_istore d_Chart_findDepths_17 (by decide) ?_
    exact h9
theorem L_Chart_findDepths_19 {xs : List Int32} {i1 : Int32} {i2 : Int32} {p3 : Nat} {i4 : Int32} {i5 : Int32} {M : Mem} {L : Int64} {Q : Option Value → Mem → Int64 → Prop} (hp3 : isP shL p3)
    (h : (((M 126 4) ≤ i5 → RX xs shL md_Chart_findDepths 7 [.ref 126, .int i1, .int i2, .ref p3, .int (i4 + 1), .null] [] M L Q) ∧ (¬ ((M 126 4) ≤ i5) → (vp_in ((i4 * 20) + i5) 400 ∧ (((i1 ≤ (M 127 (((i4 * 20) + i5).toNatClampNeg)) ∧ (M 127 (((i4 * 20) + i5).toNatClampNeg)) ≤ i2) → RX xs shL md_Chart_findDepths 19 [.ref 126, .int i1, .int i2, .ref p3, .int i4, .int (i5 + 1)] [] (setP M p3 (rcF i5.toInt i4.toInt i5.toInt i4.toInt (bB (¬ (1 : Int32) = 0)) (gp M p3))) L Q) ∧ (¬ (i1 ≤ (M 127 (((i4 * 20) + i5).toNatClampNeg)) ∧ (M 127 (((i4 * 20) + i5).toNatClampNeg)) ≤ i2) → RX xs shL md_Chart_findDepths 19 [.ref 126, .int i1, .int i2, .ref p3, .int i4, .int (i5 + 1)] [] M L Q)))))) : RX xs shL md_Chart_findDepths 19 [.ref 126, .int i1, .int i2, .ref p3, .int i4, .int i5] [] M L Q := by
  refine r_iload d_Chart_findDepths_19 rfl ?_
  refine r_aload_n d_Chart_findDepths_21 rfl ?_
  refine x_getI d_Chart_findDepths_22 fl_Chart_36 gI_126_4 ?_
  refine r_ic_ge d_Chart_findDepths_25 (fun c_2 => ?_) (fun c_2 => ?_)
  · have h9 := h.1 c_2
    refine r_iinc (v := i4 + 1) d_Chart_findDepths_68 rfl rfl (by decide) ?_
    refine r_goto d_Chart_findDepths_71 ?_
    refine r_weak (lv' := [.ref 126, .int i1, .int i2, .ref p3, .int (i4 + 1), .null]) (by repeat (first | exact trivial | refine ⟨rfl, ?_⟩ | exact lle_nil)) ?_
    exact h9
  · have h9 := h.2 c_2
    refine r_aload_n d_Chart_findDepths_28 rfl ?_
    refine x_getR d_Chart_findDepths_29 fl_Chart_11 gR_126_0 ?_
    refine r_iload d_Chart_findDepths_32 rfl ?_
    refine r_bipush (v := 20) d_Chart_findDepths_34 (by decide) ?_
    refine r_imul d_Chart_findDepths_36 ?_
    refine r_iload d_Chart_findDepths_37 rfl ?_
    refine r_iadd d_Chart_findDepths_39 ?_
    obtain ⟨o_3, h9⟩ := h9
    refine x_iald d_Chart_findDepths_40 aI_127 o_3 ?_
    refine r_iload_n d_Chart_findDepths_41 rfl ?_
    refine r_iload_n d_Chart_findDepths_42 rfl ?_
    refine x_callS (as := [.int (M 127 (((i4 * 20) + i5).toNatClampNeg)), .int i1, .int i2]) (st := []) d_Chart_findDepths_43 ml_Chart_79 mc_Peg_isWithin ms_Peg_isWithin ⟨by decide, by decide⟩ rfl (Nat.le_of_ble_eq_true rfl) (Nat.le_of_ble_eq_true rfl) (Q1 := fun r M1 L1 => some (.int (bI (i1 ≤ (M 127 (((i4 * 20) + i5).toNatClampNeg)) ∧ (M 127 (((i4 * 20) + i5).toNatClampNeg)) ≤ i2))) = r ∧ M = M1 ∧ L = L1) (s_Peg_isWithin ⟨rfl, rfl, rfl⟩) ?_
    rintro _ _ _ ⟨rfl, rfl, rfl⟩
    refine r_if_eq d_Chart_findDepths_46 (fun c_4 => ?_) (fun c_4 => ?_)
    · have h9 := h9.2 (bI_p0 c_4)
      refine r_iinc (v := i5 + 1) d_Chart_findDepths_62 rfl rfl (by decide) ?_
      refine r_goto d_Chart_findDepths_65 ?_
      exact h9
    · have h9 := h9.1 (bI_p1 c_4)
      refine r_aload_n d_Chart_findDepths_49 rfl ?_
      refine r_iload d_Chart_findDepths_50 rfl ?_
      refine r_iload d_Chart_findDepths_52 rfl ?_
      refine r_iload d_Chart_findDepths_54 rfl ?_
      refine r_iload d_Chart_findDepths_56 rfl ?_
      refine r_iconst (v := 1) d_Chart_findDepths_58 (by decide) ?_
      refine x_callV (as := [.int i5, .int i4, .int i5, .int i4, .int 1]) (st := []) d_Chart_findDepths_59 ml_Chart_52 mc_Patch_put mv_Patch_put ⟨by decide, by decide⟩ (isP_O hp3) ⟨_, rfl, rfl⟩ rfl (Nat.le_of_ble_eq_true rfl) (Nat.le_of_ble_eq_true rfl) (Q1 := fun r M1 L1 => none = r ∧ setP M p3 (rcF i5.toInt i4.toInt i5.toInt i4.toInt (bB (¬ (1 : Int32) = 0)) (gp M p3)) = M1 ∧ L = L1) (t_put hp3 ⟨rfl, rfl, rfl⟩) ?_
      rintro _ _ _ ⟨rfl, rfl, rfl⟩
      refine r_iinc (v := i5 + 1) d_Chart_findDepths_62 rfl rfl (by decide) ?_
      refine r_goto d_Chart_findDepths_65 ?_
      exact h9
set_option maxHeartbeats 4000000 in
theorem L_Row_findStaying_0 {xs : List Int32} {t0 : Nat} {M : Mem} {L : Int64} {Q : Option Value → Mem → Int64 → Prop} (ht0 : t0 < 40)
    (h : (((M (136 + 5 * t0) 4) = 0 ∧ RX xs shL md_Chart_findDepths 0 [.ref 126, .int (M (136 + 5 * t0) 5), .int (M (136 + 5 * t0) 6), .ref (136 + 5 * t0 + 3)] [] M L (fun r M_1 L_2 => r = none ∧ Q none M_1 L_2)) ∨ ((M (136 + 5 * t0) 4) = 1 ∧ RX xs shL md_Chart_findDepths 0 [.ref 126, .int ((M (136 + 5 * t0) 5) + 1), .int 99, .ref (136 + 5 * t0 + 3)] [] M L (fun r M_3 L_4 => r = none ∧ Q none M_3 L_4)) ∨ ((M (136 + 5 * t0) 4) = 2 ∧ RX xs shL md_Chart_findNear 0 [.ref 126, .int (M (136 + 5 * t0) 5), .ref (136 + 5 * t0 + 3)] [] M L (fun r M_5 L_6 => r = none ∧ Q none M_5 L_6)) ∨ ((M (136 + 5 * t0) 4) = 3 ∧ Q none (setP M (136 + 5 * t0 + 3) (gp M 132)) L) ∨ ((M (136 + 5 * t0) 4) = 4 ∧ Q none (setP (setP M (136 + 5 * t0 + 3) (fun _ _ => false)) (136 + 5 * t0 + 3) (rcF (0 : Int32).toInt ((setP M (136 + 5 * t0 + 3) (fun _ _ => false)) (136 + 5 * t0) 5).toInt (((setP M (136 + 5 * t0 + 3) (fun _ _ => false)) 126 4) - 1).toInt ((setP M (136 + 5 * t0 + 3) (fun _ _ => false)) (136 + 5 * t0) 6).toInt (bB (¬ (1 : Int32) = 0)) (gp (setP M (136 + 5 * t0 + 3) (fun _ _ => false)) (136 + 5 * t0 + 3)))) L) ∨ (((M (136 + 5 * t0) 4) < 0 ∨ 4 < (M (136 + 5 * t0) 4)) ∧ RX xs shL md_Chart_findNear 0 [.ref 126, .int (M (136 + 5 * t0) 5), .ref (136 + 5 * t0 + 3)] [] M L (fun r M_7 L_8 => r = none ∧ Q none (setP M_7 (136 + 5 * t0 + 3) (fun x y => gp M_7 128 x y && !gp M_7 (136 + 5 * t0 + 3) x y)) L_8)))) : RX xs shL md_Row_findStaying 0 [.ref (136 + 5 * t0), .ref 126] [] M L Q := by
  refine r_aload_n d_Row_findStaying_0 rfl ?_
  refine x_getI d_Row_findStaying_1 fl_Row_49 (rw_I ht0 4 (by decide) (by decide)) ?_
  rcases h with h9 | h9 | h9 | h9 | h9 | h9
  · obtain ⟨c9, h9⟩ := h9
    refine r_switch (tgt := 40) ⟨_, _, _, _, _, d_Row_findStaying_4, Or.inr ⟨by rw [c9]; decide, by rw [c9]; decide, 36, by rw [c9]; rfl, by decide⟩⟩ ?_
    refine r_aload_n d_Row_findStaying_40 rfl ?_
    refine r_aload_n d_Row_findStaying_41 rfl ?_
    refine x_getI d_Row_findStaying_42 fl_Row_52 (rw_I ht0 5 (by decide) (by decide)) ?_
    refine r_aload_n d_Row_findStaying_45 rfl ?_
    refine x_getI d_Row_findStaying_46 fl_Row_55 (rw_I ht0 6 (by decide) (by decide)) ?_
    refine r_aload_n d_Row_findStaying_49 rfl ?_
    refine x_getR d_Row_findStaying_50 fl_Row_24 (rw_R2 ht0) ?_
    refine x_callV (as := [.int (M (136 + 5 * t0) 5), .int (M (136 + 5 * t0) 6), .ref (136 + 5 * t0 + 3)]) (st := []) d_Row_findStaying_53 ml_Row_66 mc_Chart_findDepths mv_Chart_findDepths ⟨by decide, by decide⟩ gO_126 ⟨_, rfl, rfl⟩ rfl (Nat.le_of_ble_eq_true rfl) (Nat.le_of_ble_eq_true rfl) h9 ?_
    rintro _ M_1 L_2 ⟨rfl, h9⟩
    refine r_goto d_Row_findStaying_56 ?_
    exact r_vret ⟨d_Row_findStaying_163, rfl⟩ ⟨M_1, L_2, rfl, h9⟩
  · obtain ⟨c9, h9⟩ := h9
    refine r_switch (tgt := 59) ⟨_, _, _, _, _, d_Row_findStaying_4, Or.inr ⟨by rw [c9]; decide, by rw [c9]; decide, 55, by rw [c9]; rfl, by decide⟩⟩ ?_
    refine r_aload_n d_Row_findStaying_59 rfl ?_
    refine r_aload_n d_Row_findStaying_60 rfl ?_
    refine x_getI d_Row_findStaying_61 fl_Row_52 (rw_I ht0 5 (by decide) (by decide)) ?_
    refine r_iconst (v := 1) d_Row_findStaying_64 (by decide) ?_
    refine r_iadd d_Row_findStaying_65 ?_
    refine r_bipush (v := 99) d_Row_findStaying_66 (by decide) ?_
    refine r_aload_n d_Row_findStaying_68 rfl ?_
    refine x_getR d_Row_findStaying_69 fl_Row_24 (rw_R2 ht0) ?_
    refine x_callV (as := [.int ((M (136 + 5 * t0) 5) + 1), .int 99, .ref (136 + 5 * t0 + 3)]) (st := []) d_Row_findStaying_72 ml_Row_66 mc_Chart_findDepths mv_Chart_findDepths ⟨by decide, by decide⟩ gO_126 ⟨_, rfl, rfl⟩ rfl (Nat.le_of_ble_eq_true rfl) (Nat.le_of_ble_eq_true rfl) h9 ?_
    rintro _ M_3 L_4 ⟨rfl, h9⟩
    refine r_goto d_Row_findStaying_75 ?_
    exact r_vret ⟨d_Row_findStaying_163, rfl⟩ ⟨M_3, L_4, rfl, h9⟩
  · obtain ⟨c9, h9⟩ := h9
    refine r_switch (tgt := 78) ⟨_, _, _, _, _, d_Row_findStaying_4, Or.inr ⟨by rw [c9]; decide, by rw [c9]; decide, 74, by rw [c9]; rfl, by decide⟩⟩ ?_
    refine r_aload_n d_Row_findStaying_78 rfl ?_
    refine r_aload_n d_Row_findStaying_79 rfl ?_
    refine x_getI d_Row_findStaying_80 fl_Row_52 (rw_I ht0 5 (by decide) (by decide)) ?_
    refine r_aload_n d_Row_findStaying_83 rfl ?_
    refine x_getR d_Row_findStaying_84 fl_Row_24 (rw_R2 ht0) ?_
    refine x_callV (as := [.int (M (136 + 5 * t0) 5), .ref (136 + 5 * t0 + 3)]) (st := []) d_Row_findStaying_87 ml_Row_70 mc_Chart_findNear mv_Chart_findNear ⟨by decide, by decide⟩ gO_126 ⟨_, rfl, rfl⟩ rfl (Nat.le_of_ble_eq_true rfl) (Nat.le_of_ble_eq_true rfl) h9 ?_
    rintro _ M_5 L_6 ⟨rfl, h9⟩
    refine r_goto d_Row_findStaying_90 ?_
    exact r_vret ⟨d_Row_findStaying_163, rfl⟩ ⟨M_5, L_6, rfl, h9⟩
  · obtain ⟨c9, h9⟩ := h9
    refine r_switch (tgt := 93) ⟨_, _, _, _, _, d_Row_findStaying_4, Or.inr ⟨by rw [c9]; decide, by rw [c9]; decide, 89, by rw [c9]; rfl, by decide⟩⟩ ?_
    refine r_aload_n d_Row_findStaying_93 rfl ?_
    refine x_getR d_Row_findStaying_94 fl_Row_24 (rw_R2 ht0) ?_
    refine r_aload_n d_Row_findStaying_97 rfl ?_
    refine x_getR d_Row_findStaying_98 fl_Row_74 gR_126_3 ?_
    refine x_callV (as := [.ref 132]) (st := []) d_Row_findStaying_101 ml_Row_77 mc_Patch_copy mv_Patch_copy ⟨by decide, by decide⟩ (isP_O (rw_p ht0)) ⟨_, rfl, rfl⟩ rfl (Nat.le_of_ble_eq_true rfl) (Nat.le_of_ble_eq_true rfl) (Q1 := fun r M1 L1 => none = r ∧ setP M (136 + 5 * t0 + 3) (gp M 132) = M1 ∧ L = L1) (t_copy (rw_p ht0) isP_132 ⟨rfl, rfl, rfl⟩) ?_
    rintro _ _ _ ⟨rfl, rfl, rfl⟩
    refine r_goto d_Row_findStaying_104 ?_
    exact r_vret ⟨d_Row_findStaying_163, rfl⟩ ⟨setP M (136 + 5 * t0 + 3) (gp M 132), L, rfl, h9⟩
  · obtain ⟨c9, h9⟩ := h9
    refine r_switch (tgt := 107) ⟨_, _, _, _, _, d_Row_findStaying_4, Or.inr ⟨by rw [c9]; decide, by rw [c9]; decide, 103, by rw [c9]; rfl, by decide⟩⟩ ?_
    refine r_aload_n d_Row_findStaying_107 rfl ?_
    refine x_getR d_Row_findStaying_108 fl_Row_24 (rw_R2 ht0) ?_
    refine x_callV (as := []) (st := []) d_Row_findStaying_111 ml_Row_81 mc_Patch_clear mv_Patch_clear ⟨by decide, by decide⟩ (isP_O (rw_p ht0)) ⟨_, rfl, rfl⟩ rfl (Nat.le_of_ble_eq_true rfl) (Nat.le_of_ble_eq_true rfl) (Q1 := fun r M1 L1 => none = r ∧ setP M (136 + 5 * t0 + 3) (fun _ _ => false) = M1 ∧ L = L1) (t_clear (rw_p ht0) ⟨rfl, rfl, rfl⟩) ?_
    rintro _ _ _ ⟨rfl, rfl, rfl⟩
    refine r_aload_n d_Row_findStaying_114 rfl ?_
    refine x_getR d_Row_findStaying_115 fl_Row_24 (rw_R2 ht0) ?_
    refine r_iconst (v := 0) d_Row_findStaying_118 (by decide) ?_
    refine r_aload_n d_Row_findStaying_119 rfl ?_
    refine x_getI d_Row_findStaying_120 fl_Row_52 (rw_I ht0 5 (by decide) (by decide)) ?_
    refine r_aload_n d_Row_findStaying_123 rfl ?_
    refine x_getI d_Row_findStaying_124 fl_Row_84 gI_126_4 ?_
    refine r_iconst (v := 1) d_Row_findStaying_127 (by decide) ?_
    refine r_isub d_Row_findStaying_128 ?_
    refine r_aload_n d_Row_findStaying_129 rfl ?_
    refine x_getI d_Row_findStaying_130 fl_Row_55 (rw_I ht0 6 (by decide) (by decide)) ?_
    refine r_iconst (v := 1) d_Row_findStaying_133 (by decide) ?_
    refine x_callV (as := [.int 0, .int ((setP M (136 + 5 * t0 + 3) (fun _ _ => false)) (136 + 5 * t0) 5), .int (((setP M (136 + 5 * t0 + 3) (fun _ _ => false)) 126 4) - 1), .int ((setP M (136 + 5 * t0 + 3) (fun _ _ => false)) (136 + 5 * t0) 6), .int 1]) (st := []) d_Row_findStaying_134 ml_Row_87 mc_Patch_put mv_Patch_put ⟨by decide, by decide⟩ (isP_O (rw_p ht0)) ⟨_, rfl, rfl⟩ rfl (Nat.le_of_ble_eq_true rfl) (Nat.le_of_ble_eq_true rfl) (Q1 := fun r M1 L1 => none = r ∧ setP (setP M (136 + 5 * t0 + 3) (fun _ _ => false)) (136 + 5 * t0 + 3) (rcF (0 : Int32).toInt ((setP M (136 + 5 * t0 + 3) (fun _ _ => false)) (136 + 5 * t0) 5).toInt (((setP M (136 + 5 * t0 + 3) (fun _ _ => false)) 126 4) - 1).toInt ((setP M (136 + 5 * t0 + 3) (fun _ _ => false)) (136 + 5 * t0) 6).toInt (bB (¬ (1 : Int32) = 0)) (gp (setP M (136 + 5 * t0 + 3) (fun _ _ => false)) (136 + 5 * t0 + 3))) = M1 ∧ L = L1) (t_put (rw_p ht0) ⟨rfl, rfl, rfl⟩) ?_
    rintro _ _ _ ⟨rfl, rfl, rfl⟩
    refine r_goto d_Row_findStaying_137 ?_
    exact r_vret ⟨d_Row_findStaying_163, rfl⟩ ⟨setP (setP M (136 + 5 * t0 + 3) (fun _ _ => false)) (136 + 5 * t0 + 3) (rcF (0 : Int32).toInt ((setP M (136 + 5 * t0 + 3) (fun _ _ => false)) (136 + 5 * t0) 5).toInt (((setP M (136 + 5 * t0 + 3) (fun _ _ => false)) 126 4) - 1).toInt ((setP M (136 + 5 * t0 + 3) (fun _ _ => false)) (136 + 5 * t0) 6).toInt (bB (¬ (1 : Int32) = 0)) (gp (setP M (136 + 5 * t0 + 3) (fun _ _ => false)) (136 + 5 * t0 + 3))), L, rfl, h9⟩
  · obtain ⟨c9, h9⟩ := h9
    refine r_switch (tgt := 140) ⟨_, _, _, _, _, d_Row_findStaying_4, Or.inl ⟨sw_out c9 (by decide) (by decide), by decide⟩⟩ ?_
    refine r_aload_n d_Row_findStaying_140 rfl ?_
    refine r_aload_n d_Row_findStaying_141 rfl ?_
    refine x_getI d_Row_findStaying_142 fl_Row_52 (rw_I ht0 5 (by decide) (by decide)) ?_
    refine r_aload_n d_Row_findStaying_145 rfl ?_
    refine x_getR d_Row_findStaying_146 fl_Row_24 (rw_R2 ht0) ?_
    refine x_callV (as := [.int (M (136 + 5 * t0) 5), .ref (136 + 5 * t0 + 3)]) (st := []) d_Row_findStaying_149 ml_Row_70 mc_Chart_findNear mv_Chart_findNear ⟨by decide, by decide⟩ gO_126 ⟨_, rfl, rfl⟩ rfl (Nat.le_of_ble_eq_true rfl) (Nat.le_of_ble_eq_true rfl) h9 ?_
    rintro _ M_7 L_8 ⟨rfl, h9⟩
    refine r_aload_n d_Row_findStaying_152 rfl ?_
    refine x_getR d_Row_findStaying_153 fl_Row_24 (rw_R2 ht0) ?_
    refine r_aload_n d_Row_findStaying_156 rfl ?_
    refine x_getR d_Row_findStaying_157 fl_Row_91 gR_126_1 ?_
    refine x_callV (as := [.ref 128]) (st := []) d_Row_findStaying_160 ml_Row_94 mc_Patch_turnOver mv_Patch_turnOver ⟨by decide, by decide⟩ (isP_O (rw_p ht0)) ⟨_, rfl, rfl⟩ rfl (Nat.le_of_ble_eq_true rfl) (Nat.le_of_ble_eq_true rfl) (Q1 := fun r M1 L1 => none = r ∧ setP M_7 (136 + 5 * t0 + 3) (fun x y => gp M_7 128 x y && !gp M_7 (136 + 5 * t0 + 3) x y) = M1 ∧ L_8 = L1) (t_turnOver (rw_p ht0) isP_128 ⟨rfl, rfl, rfl⟩) ?_
    rintro _ _ _ ⟨rfl, rfl, rfl⟩
    exact r_vret ⟨d_Row_findStaying_163, rfl⟩ ⟨setP M_7 (136 + 5 * t0 + 3) (fun x y => gp M_7 128 x y && !gp M_7 (136 + 5 * t0 + 3) x y), L_8, rfl, h9⟩
theorem L_Chart_putDepth_0 {xs : List Int32} {i1 : Int32} {i2 : Int32} {i3 : Int32} {i4 : Int32} {i5 : Int32} {M : Mem} {L : Int64} {Q : Option Value → Mem → Int64 → Prop} 
    (h : RX xs shL md_Chart_putDepth 3 [.ref 126, .int i1, .int i2, .int i3, .int i4, .int i5, .int i2, .null] [] M L Q) : RX xs shL md_Chart_putDepth 0 [.ref 126, .int i1, .int i2, .int i3, .int i4, .int i5] [] M L Q := by
  refine r_weak (lv' := [.ref 126, .int i1, .int i2, .int i3, .int i4, .int i5, .null, .null]) (by repeat (first | exact trivial | refine ⟨rfl, ?_⟩ | exact lle_nil)) ?_
  refine r_iload_n d_Chart_putDepth_0 rfl ?_
  refine r_istore d_Chart_putDepth_1 (by decide) ?_
  exact h
set_option maxHeartbeats 4000000 in
theorem L_Chart_putDepth_3 {xs : List Int32} {i1 : Int32} {i2 : Int32} {i3 : Int32} {i4 : Int32} {i5 : Int32} {i6 : Int32} {M : Mem} {L : Int64} {Q : Option Value → Mem → Int64 → Prop} 
    (h : ((i4 < i6 → ((i5 = 0 → ((i5 = 0 → Q none (setP (setP M 130 (rcF i1.toInt i2.toInt i3.toInt i4.toInt (bB (¬ (1 : Int32) = 0)) (gp M 130))) 128 (rcF i1.toInt i2.toInt i3.toInt i4.toInt (bB (¬ (0 : Int32) = 0)) (gp (setP M 130 (rcF i1.toInt i2.toInt i3.toInt i4.toInt (bB (¬ (1 : Int32) = 0)) (gp M 130))) 128))) L) ∧ (¬ (i5 = 0) → Q none (setP (setP M 130 (rcF i1.toInt i2.toInt i3.toInt i4.toInt (bB (¬ (1 : Int32) = 0)) (gp M 130))) 128 (rcF i1.toInt i2.toInt i3.toInt i4.toInt (bB (¬ (1 : Int32) = 0)) (gp (setP M 130 (rcF i1.toInt i2.toInt i3.toInt i4.toInt (bB (¬ (1 : Int32) = 0)) (gp M 130))) 128))) L))) ∧ (¬ (i5 = 0) → ((i5 = 0 → Q none (setP (setP M 130 (rcF i1.toInt i2.toInt i3.toInt i4.toInt (bB (¬ (0 : Int32) = 0)) (gp M 130))) 128 (rcF i1.toInt i2.toInt i3.toInt i4.toInt (bB (¬ (0 : Int32) = 0)) (gp (setP M 130 (rcF i1.toInt i2.toInt i3.toInt i4.toInt (bB (¬ (0 : Int32) = 0)) (gp M 130))) 128))) L) ∧ (¬ (i5 = 0) → Q none (setP (setP M 130 (rcF i1.toInt i2.toInt i3.toInt i4.toInt (bB (¬ (0 : Int32) = 0)) (gp M 130))) 128 (rcF i1.toInt i2.toInt i3.toInt i4.toInt (bB (¬ (1 : Int32) = 0)) (gp (setP M 130 (rcF i1.toInt i2.toInt i3.toInt i4.toInt (bB (¬ (0 : Int32) = 0)) (gp M 130))) 128))) L))))) ∧ (¬ (i4 < i6) → RX xs shL md_Chart_putDepth 13 [.ref 126, .int i1, .int i2, .int i3, .int i4, .int i5, .int i6, .int i1] [] M L Q))) : RX xs shL md_Chart_putDepth 3 [.ref 126, .int i1, .int i2, .int i3, .int i4, .int i5, .int i6, .null] [] M L Q := by
  refine r_iload d_Chart_putDepth_3 rfl ?_
  refine r_iload d_Chart_putDepth_5 rfl ?_
  refine r_ic_gt d_Chart_putDepth_7 (fun c_1 => ?_) (fun c_1 => ?_)
  · have h9 := h.1 c_1
    refine r_aload_n d_Chart_putDepth_46 rfl ?_
    refine x_getR d_Chart_putDepth_47 fl_Chart_22 gR_126_2 ?_
    refine r_iload_n d_Chart_putDepth_50 rfl ?_
    refine r_iload_n d_Chart_putDepth_51 rfl ?_
    refine r_iload_n d_Chart_putDepth_52 rfl ?_
    refine r_iload d_Chart_putDepth_53 rfl ?_
    refine r_iload d_Chart_putDepth_55 rfl ?_
    refine r_if_ne d_Chart_putDepth_57 (fun c_2 => ?_) (fun c_2 => ?_)
    · have h9 := h9.2 c_2
      refine r_iconst (v := 0) d_Chart_putDepth_64 (by decide) ?_
      refine x_callV (as := [.int i1, .int i2, .int i3, .int i4, .int 0]) (st := []) d_Chart_putDepth_65 ml_Chart_52 mc_Patch_put mv_Patch_put ⟨by decide, by decide⟩ (isP_O isP_130) ⟨_, rfl, rfl⟩ rfl (Nat.le_of_ble_eq_true rfl) (Nat.le_of_ble_eq_true rfl) (Q1 := fun r M1 L1 => none = r ∧ setP M 130 (rcF i1.toInt i2.toInt i3.toInt i4.toInt (bB (¬ (0 : Int32) = 0)) (gp M 130)) = M1 ∧ L = L1) (t_put isP_130 ⟨rfl, rfl, rfl⟩) ?_
      rintro _ _ _ ⟨rfl, rfl, rfl⟩
      refine r_aload_n d_Chart_putDepth_68 rfl ?_
      refine x_getR d_Chart_putDepth_69 fl_Chart_18 gR_126_1 ?_
      refine r_iload_n d_Chart_putDepth_72 rfl ?_
      refine r_iload_n d_Chart_putDepth_73 rfl ?_
      refine r_iload_n d_Chart_putDepth_74 rfl ?_
      refine r_iload d_Chart_putDepth_75 rfl ?_
      refine r_iload d_Chart_putDepth_77 rfl ?_
      refine r_if_eq d_Chart_putDepth_79 (fun c_3 => ?_) (fun c_3 => ?_)
      · have h9 := h9.1 c_3
        refine r_iconst (v := 0) d_Chart_putDepth_86 (by decide) ?_
        refine x_callV (as := [.int i1, .int i2, .int i3, .int i4, .int 0]) (st := []) d_Chart_putDepth_87 ml_Chart_52 mc_Patch_put mv_Patch_put ⟨by decide, by decide⟩ (isP_O isP_128) ⟨_, rfl, rfl⟩ rfl (Nat.le_of_ble_eq_true rfl) (Nat.le_of_ble_eq_true rfl) (Q1 := fun r M1 L1 => none = r ∧ setP (setP M 130 (rcF i1.toInt i2.toInt i3.toInt i4.toInt (bB (¬ (0 : Int32) = 0)) (gp M 130))) 128 (rcF i1.toInt i2.toInt i3.toInt i4.toInt (bB (¬ (0 : Int32) = 0)) (gp (setP M 130 (rcF i1.toInt i2.toInt i3.toInt i4.toInt (bB (¬ (0 : Int32) = 0)) (gp M 130))) 128)) = M1 ∧ L = L1) (t_put isP_128 ⟨rfl, rfl, rfl⟩) ?_
        rintro _ _ _ ⟨rfl, rfl, rfl⟩
        exact r_vret ⟨d_Chart_putDepth_90, rfl⟩ ⟨setP (setP M 130 (rcF i1.toInt i2.toInt i3.toInt i4.toInt (bB (¬ (0 : Int32) = 0)) (gp M 130))) 128 (rcF i1.toInt i2.toInt i3.toInt i4.toInt (bB (¬ (0 : Int32) = 0)) (gp (setP M 130 (rcF i1.toInt i2.toInt i3.toInt i4.toInt (bB (¬ (0 : Int32) = 0)) (gp M 130))) 128)), L, rfl, h9⟩
      · have h9 := h9.2 c_3
        refine r_iconst (v := 1) d_Chart_putDepth_82 (by decide) ?_
        refine r_goto d_Chart_putDepth_83 ?_
        refine x_callV (as := [.int i1, .int i2, .int i3, .int i4, .int 1]) (st := []) d_Chart_putDepth_87 ml_Chart_52 mc_Patch_put mv_Patch_put ⟨by decide, by decide⟩ (isP_O isP_128) ⟨_, rfl, rfl⟩ rfl (Nat.le_of_ble_eq_true rfl) (Nat.le_of_ble_eq_true rfl) (Q1 := fun r M1 L1 => none = r ∧ setP (setP M 130 (rcF i1.toInt i2.toInt i3.toInt i4.toInt (bB (¬ (0 : Int32) = 0)) (gp M 130))) 128 (rcF i1.toInt i2.toInt i3.toInt i4.toInt (bB (¬ (1 : Int32) = 0)) (gp (setP M 130 (rcF i1.toInt i2.toInt i3.toInt i4.toInt (bB (¬ (0 : Int32) = 0)) (gp M 130))) 128)) = M1 ∧ L = L1) (t_put isP_128 ⟨rfl, rfl, rfl⟩) ?_
        rintro _ _ _ ⟨rfl, rfl, rfl⟩
        exact r_vret ⟨d_Chart_putDepth_90, rfl⟩ ⟨setP (setP M 130 (rcF i1.toInt i2.toInt i3.toInt i4.toInt (bB (¬ (0 : Int32) = 0)) (gp M 130))) 128 (rcF i1.toInt i2.toInt i3.toInt i4.toInt (bB (¬ (1 : Int32) = 0)) (gp (setP M 130 (rcF i1.toInt i2.toInt i3.toInt i4.toInt (bB (¬ (0 : Int32) = 0)) (gp M 130))) 128)), L, rfl, h9⟩
    · have h9 := h9.1 c_2
      refine r_iconst (v := 1) d_Chart_putDepth_60 (by decide) ?_
      refine r_goto d_Chart_putDepth_61 ?_
      refine x_callV (as := [.int i1, .int i2, .int i3, .int i4, .int 1]) (st := []) d_Chart_putDepth_65 ml_Chart_52 mc_Patch_put mv_Patch_put ⟨by decide, by decide⟩ (isP_O isP_130) ⟨_, rfl, rfl⟩ rfl (Nat.le_of_ble_eq_true rfl) (Nat.le_of_ble_eq_true rfl) (Q1 := fun r M1 L1 => none = r ∧ setP M 130 (rcF i1.toInt i2.toInt i3.toInt i4.toInt (bB (¬ (1 : Int32) = 0)) (gp M 130)) = M1 ∧ L = L1) (t_put isP_130 ⟨rfl, rfl, rfl⟩) ?_
      rintro _ _ _ ⟨rfl, rfl, rfl⟩
      refine r_aload_n d_Chart_putDepth_68 rfl ?_
      refine x_getR d_Chart_putDepth_69 fl_Chart_18 gR_126_1 ?_
      refine r_iload_n d_Chart_putDepth_72 rfl ?_
      refine r_iload_n d_Chart_putDepth_73 rfl ?_
      refine r_iload_n d_Chart_putDepth_74 rfl ?_
      refine r_iload d_Chart_putDepth_75 rfl ?_
      refine r_iload d_Chart_putDepth_77 rfl ?_
      refine r_if_eq d_Chart_putDepth_79 (fun c_4 => ?_) (fun c_4 => ?_)
      · have h9 := h9.1 c_4
        refine r_iconst (v := 0) d_Chart_putDepth_86 (by decide) ?_
        refine x_callV (as := [.int i1, .int i2, .int i3, .int i4, .int 0]) (st := []) d_Chart_putDepth_87 ml_Chart_52 mc_Patch_put mv_Patch_put ⟨by decide, by decide⟩ (isP_O isP_128) ⟨_, rfl, rfl⟩ rfl (Nat.le_of_ble_eq_true rfl) (Nat.le_of_ble_eq_true rfl) (Q1 := fun r M1 L1 => none = r ∧ setP (setP M 130 (rcF i1.toInt i2.toInt i3.toInt i4.toInt (bB (¬ (1 : Int32) = 0)) (gp M 130))) 128 (rcF i1.toInt i2.toInt i3.toInt i4.toInt (bB (¬ (0 : Int32) = 0)) (gp (setP M 130 (rcF i1.toInt i2.toInt i3.toInt i4.toInt (bB (¬ (1 : Int32) = 0)) (gp M 130))) 128)) = M1 ∧ L = L1) (t_put isP_128 ⟨rfl, rfl, rfl⟩) ?_
        rintro _ _ _ ⟨rfl, rfl, rfl⟩
        exact r_vret ⟨d_Chart_putDepth_90, rfl⟩ ⟨setP (setP M 130 (rcF i1.toInt i2.toInt i3.toInt i4.toInt (bB (¬ (1 : Int32) = 0)) (gp M 130))) 128 (rcF i1.toInt i2.toInt i3.toInt i4.toInt (bB (¬ (0 : Int32) = 0)) (gp (setP M 130 (rcF i1.toInt i2.toInt i3.toInt i4.toInt (bB (¬ (1 : Int32) = 0)) (gp M 130))) 128)), L, rfl, h9⟩
      · have h9 := h9.2 c_4
        refine r_iconst (v := 1) d_Chart_putDepth_82 (by decide) ?_
        refine r_goto d_Chart_putDepth_83 ?_
        refine x_callV (as := [.int i1, .int i2, .int i3, .int i4, .int 1]) (st := []) d_Chart_putDepth_87 ml_Chart_52 mc_Patch_put mv_Patch_put ⟨by decide, by decide⟩ (isP_O isP_128) ⟨_, rfl, rfl⟩ rfl (Nat.le_of_ble_eq_true rfl) (Nat.le_of_ble_eq_true rfl) (Q1 := fun r M1 L1 => none = r ∧ setP (setP M 130 (rcF i1.toInt i2.toInt i3.toInt i4.toInt (bB (¬ (1 : Int32) = 0)) (gp M 130))) 128 (rcF i1.toInt i2.toInt i3.toInt i4.toInt (bB (¬ (1 : Int32) = 0)) (gp (setP M 130 (rcF i1.toInt i2.toInt i3.toInt i4.toInt (bB (¬ (1 : Int32) = 0)) (gp M 130))) 128)) = M1 ∧ L = L1) (t_put isP_128 ⟨rfl, rfl, rfl⟩) ?_
        rintro _ _ _ ⟨rfl, rfl, rfl⟩
        exact r_vret ⟨d_Chart_putDepth_90, rfl⟩ ⟨setP (setP M 130 (rcF i1.toInt i2.toInt i3.toInt i4.toInt (bB (¬ (1 : Int32) = 0)) (gp M 130))) 128 (rcF i1.toInt i2.toInt i3.toInt i4.toInt (bB (¬ (1 : Int32) = 0)) (gp (setP M 130 (rcF i1.toInt i2.toInt i3.toInt i4.toInt (bB (¬ (1 : Int32) = 0)) (gp M 130))) 128)), L, rfl, h9⟩
  · have h9 := h.2 c_1
    refine r_iload_n d_Chart_putDepth_10 rfl ?_
    refine r_istore d_Chart_putDepth_11 (by decide) ?_
    exact h9
theorem L_Chart_putDepth_13 {xs : List Int32} {i1 : Int32} {i2 : Int32} {i3 : Int32} {i4 : Int32} {i5 : Int32} {i6 : Int32} {i7 : Int32} {M : Mem} {L : Int64} {Q : Option Value → Mem → Int64 → Prop} 
    (h : ((i3 < i7 → RX xs shL md_Chart_putDepth 3 [.ref 126, .int i1, .int i2, .int i3, .int i4, .int i5, .int (i6 + 1), .null] [] M L Q) ∧ (¬ (i3 < i7) → (vp_in ((i6 * 20) + i7) 400 ∧ RX xs shL md_Chart_putDepth 13 [.ref 126, .int i1, .int i2, .int i3, .int i4, .int i5, .int i6, .int (i7 + 1)] [] (up M 127 (((i6 * 20) + i7).toNatClampNeg) i5) L Q)))) : RX xs shL md_Chart_putDepth 13 [.ref 126, .int i1, .int i2, .int i3, .int i4, .int i5, .int i6, .int i7] [] M L Q := by
  refine r_iload d_Chart_putDepth_13 rfl ?_
  refine r_iload_n d_Chart_putDepth_15 rfl ?_
  refine r_ic_gt d_Chart_putDepth_16 (fun c_5 => ?_) (fun c_5 => ?_)
  · have h9 := h.1 c_5
    refine r_iinc (v := i6 + 1) d_Chart_putDepth_40 rfl rfl (by decide) ?_
    refine r_goto d_Chart_putDepth_43 ?_
    refine r_weak (lv' := [.ref 126, .int i1, .int i2, .int i3, .int i4, .int i5, .int (i6 + 1), .null]) (by repeat (first | exact trivial | refine ⟨rfl, ?_⟩ | exact lle_nil)) ?_
    exact h9
  · have h9 := h.2 c_5
    refine r_aload_n d_Chart_putDepth_19 rfl ?_
    refine x_getR d_Chart_putDepth_20 fl_Chart_11 gR_126_0 ?_
    refine r_iload d_Chart_putDepth_23 rfl ?_
    refine r_bipush (v := 20) d_Chart_putDepth_25 (by decide) ?_
    refine r_imul d_Chart_putDepth_27 ?_
    refine r_iload d_Chart_putDepth_28 rfl ?_
    refine r_iadd d_Chart_putDepth_30 ?_
    refine r_iload d_Chart_putDepth_31 rfl ?_
    obtain ⟨o_6, h9⟩ := h9
    refine x_iast d_Chart_putDepth_33 aI_127 o_6 ?_
    refine r_iinc (v := i7 + 1) d_Chart_putDepth_34 rfl rfl (by decide) ?_
    refine r_goto d_Chart_putDepth_37 ?_
    exact h9
theorem L_Chart_leastNear_0 {xs : List Int32} {i1 : Int32} {i2 : Int32} {M : Mem} {L : Int64} {Q : Option Value → Mem → Int64 → Prop} 
    (h : RX xs shL md_Chart_leastNear 2 [.ref 126, .int i1, .int i2, .int 0, .null, .null] [] M L Q) : RX xs shL md_Chart_leastNear 0 [.ref 126, .int i1, .int i2] [] M L Q := by
  refine r_weak (lv' := [.ref 126, .int i1, .int i2, .null, .null, .null]) (by repeat (first | exact trivial | refine ⟨rfl, ?_⟩ | exact lle_nil)) ?_
  refine r_iconst (v := 0) d_Chart_leastNear_0 (by decide) ?_
  refine r_istore_n d_Chart_leastNear_1 (by decide) ?_
  exact h
theorem L_Chart_leastNear_2 {xs : List Int32} {i1 : Int32} {i2 : Int32} {i3 : Int32} {M : Mem} {L : Int64} {Q : Option Value → Mem → Int64 → Prop} 
    (h : ((8 < i3 → Q (some (.int (-1))) M L) ∧ (¬ (8 < i3) → RX xs shL md_Chart_leastNear 13 [.ref 126, .int i1, .int i2, .int i3, .int (i2 - i3), .null] [] M L Q))) : RX xs shL md_Chart_leastNear 2 [.ref 126, .int i1, .int i2, .int i3, .null, .null] [] M L Q := by
  refine r_iload_n d_Chart_leastNear_2 rfl ?_
  refine r_bipush (v := 8) d_Chart_leastNear_3 (by decide) ?_
  refine r_ic_gt d_Chart_leastNear_5 (fun c_1 => ?_) (fun c_1 => ?_)
  · have h9 := h.1 c_1
    refine r_iconst (v := (-1)) d_Chart_leastNear_68 (by decide) ?_
    exact r_iret ⟨d_Chart_leastNear_69, _, rfl, rfl⟩ ⟨_, _, rfl, h9⟩
  · have h9 := h.2 c_1
    refine r_iload_n d_Chart_leastNear_8 rfl ?_
    refine r_iload_n d_Chart_leastNear_9 rfl ?_
    refine r_isub d_Chart_leastNear_10 ?_
    refine r_istore d_Chart_leastNear_11 (by decide) ?_
    exact h9
theorem L_Chart_leastNear_13 {xs : List Int32} {i1 : Int32} {i2 : Int32} {i3 : Int32} {i4 : Int32} {M : Mem} {L : Int64} {Q : Option Value → Mem → Int64 → Prop} 
    (h : (((i2 + i3) < i4 → RX xs shL md_Chart_leastNear 2 [.ref 126, .int i1, .int i2, .int (i3 + 1), .null, .null] [] M L Q) ∧ (¬ ((i2 + i3) < i4) → RX xs shL md_Chart_leastNear 26 [.ref 126, .int i1, .int i2, .int i3, .int i4, .int (i1 - i3)] [] M L Q))) : RX xs shL md_Chart_leastNear 13 [.ref 126, .int i1, .int i2, .int i3, .int i4, .null] [] M L Q := by
  refine r_iload d_Chart_leastNear_13 rfl ?_
  refine r_iload_n d_Chart_leastNear_15 rfl ?_
  refine r_iload_n d_Chart_leastNear_16 rfl ?_
  refine r_iadd d_Chart_leastNear_17 ?_
  refine r_ic_gt d_Chart_leastNear_18 (fun c_2 => ?_) (fun c_2 => ?_)
  · have h9 := h.1 c_2
    refine r_iinc (v := i3 + 1) d_Chart_leastNear_62 rfl rfl (by decide) ?_
    refine r_goto d_Chart_leastNear_65 ?_
    refine r_weak (lv' := [.ref 126, .int i1, .int i2, .int (i3 + 1), .null, .null]) (by repeat (first | exact trivial | refine ⟨rfl, ?_⟩ | exact lle_nil)) ?_
    exact h9
  · have h9 := h.2 c_2
    refine r_iload_n d_Chart_leastNear_21 rfl ?_
    refine r_iload_n d_Chart_leastNear_22 rfl ?_
    refine r_isub d_Chart_leastNear_23 ?_
    refine r_istore d_Chart_leastNear_24 (by decide) ?_
    exact h9
theorem L_Chart_leastNear_26 {xs : List Int32} {i1 : Int32} {i2 : Int32} {i3 : Int32} {i4 : Int32} {i5 : Int32} {M : Mem} {L : Int64} {Q : Option Value → Mem → Int64 → Prop} 
    (h : (((i1 + i3) < i5 → RX xs shL md_Chart_leastNear 13 [.ref 126, .int i1, .int i2, .int i3, .int (i4 + 1), .null] [] M L Q) ∧ (¬ ((i1 + i3) < i5) → ((((0 ≤ i5 ∧ i5 ≤ 19) ∧ (0 ≤ i4 ∧ i4 ≤ 19) ∧ gp M 130 i5.toNatClampNeg i4.toNatClampNeg = true) → Q (some (.int i3)) M L) ∧ (¬ ((0 ≤ i5 ∧ i5 ≤ 19) ∧ (0 ≤ i4 ∧ i4 ≤ 19) ∧ gp M 130 i5.toNatClampNeg i4.toNatClampNeg = true) → RX xs shL md_Chart_leastNear 26 [.ref 126, .int i1, .int i2, .int i3, .int i4, .int (i5 + 1)] [] M L Q))))) : RX xs shL md_Chart_leastNear 26 [.ref 126, .int i1, .int i2, .int i3, .int i4, .int i5] [] M L Q := by
  refine r_iload d_Chart_leastNear_26 rfl ?_
  refine r_iload_n d_Chart_leastNear_28 rfl ?_
  refine r_iload_n d_Chart_leastNear_29 rfl ?_
  refine r_iadd d_Chart_leastNear_30 ?_
  refine r_ic_gt d_Chart_leastNear_31 (fun c_3 => ?_) (fun c_3 => ?_)
  · have h9 := h.1 c_3
    refine r_iinc (v := i4 + 1) d_Chart_leastNear_56 rfl rfl (by decide) ?_
    refine r_goto d_Chart_leastNear_59 ?_
    refine r_weak (lv' := [.ref 126, .int i1, .int i2, .int i3, .int (i4 + 1), .null]) (by repeat (first | exact trivial | refine ⟨rfl, ?_⟩ | exact lle_nil)) ?_
    exact h9
  · have h9 := h.2 c_3
    refine r_aload_n d_Chart_leastNear_34 rfl ?_
    refine x_getR d_Chart_leastNear_35 fl_Chart_22 gR_126_2 ?_
    refine r_iload d_Chart_leastNear_38 rfl ?_
    refine r_iload d_Chart_leastNear_40 rfl ?_
    refine x_callV (as := [.int i5, .int i4]) (st := []) d_Chart_leastNear_42 ml_Chart_72 mc_Patch_holds mv_Patch_holds ⟨by decide, by decide⟩ (isP_O isP_130) ⟨_, rfl, rfl⟩ rfl (Nat.le_of_ble_eq_true rfl) (Nat.le_of_ble_eq_true rfl) (Q1 := fun r M1 L1 => some (.int (bI ((0 ≤ i5 ∧ i5 ≤ 19) ∧ (0 ≤ i4 ∧ i4 ≤ 19) ∧ gp M 130 i5.toNatClampNeg i4.toNatClampNeg = true))) = r ∧ M = M1 ∧ L = L1) (t_holds isP_130 ⟨rfl, rfl, rfl⟩) ?_
    rintro _ _ _ ⟨rfl, rfl, rfl⟩
    refine r_if_eq d_Chart_leastNear_45 (fun c_4 => ?_) (fun c_4 => ?_)
    · have h9 := h9.2 (bI_p0 c_4)
      refine r_iinc (v := i5 + 1) d_Chart_leastNear_50 rfl rfl (by decide) ?_
      refine r_goto d_Chart_leastNear_53 ?_
      exact h9
    · have h9 := h9.1 (bI_p1 c_4)
      refine r_iload_n d_Chart_leastNear_48 rfl ?_
      exact r_iret ⟨d_Chart_leastNear_49, _, rfl, rfl⟩ ⟨_, _, rfl, h9⟩
theorem L_Mod_isLand_0 {xs : List Int32} {i1 : Int32} {i2 : Int32} {M : Mem} {L : Int64} {Q : Option Value → Mem → Int64 → Prop} 
    (h : ((((0 ≤ i1 ∧ i1 ≤ (M 516 9) - 1) ∧ 0 ≤ i2 ∧ i2 ≤ (M 516 10) - 1) → (vp_in (20 * i2 + i1) 400 ∧ (((M 523 ((20 * i2 + i1).toNatClampNeg)) = 0 → Q (some (.int 1)) M L) ∧ (¬ ((M 523 ((20 * i2 + i1).toNatClampNeg)) = 0) → Q (some (.int 0)) M L)))) ∧ (¬ ((0 ≤ i1 ∧ i1 ≤ (M 516 9) - 1) ∧ 0 ≤ i2 ∧ i2 ≤ (M 516 10) - 1) → Q (some (.int 0)) M L))) : RX xs shL md_Mod_isLand 0 [.ref 516, .int i1, .int i2] [] M L Q := by
  refine r_aload_n d_Mod_isLand_0 rfl ?_
  refine r_iload_n d_Mod_isLand_1 rfl ?_
  refine r_iload_n d_Mod_isLand_2 rfl ?_
  refine x_callV (as := [.int i1, .int i2]) (st := []) d_Mod_isLand_3 ml_Mod_143 mc_Mod_isCell mv_Mod_isCell ⟨by decide, by decide⟩ gO_516 ⟨_, rfl, rfl⟩ rfl (Nat.le_of_ble_eq_true rfl) (Nat.le_of_ble_eq_true rfl) (Q1 := fun r M1 L1 => some (.int (bI ((0 ≤ i1 ∧ i1 ≤ (M 516 9) - 1) ∧ 0 ≤ i2 ∧ i2 ≤ (M 516 10) - 1))) = r ∧ M = M1 ∧ L = L1) (s_Mod_isCell ⟨rfl, rfl, rfl⟩) ?_
  rintro _ _ _ ⟨rfl, rfl, rfl⟩
  refine r_if_eq d_Mod_isLand_6 (fun c_1 => ?_) (fun c_1 => ?_)
  · have h9 := h.2 (bI_p0 c_1)
    refine r_iconst (v := 0) d_Mod_isLand_26 (by decide) ?_
    exact r_iret ⟨d_Mod_isLand_27, _, rfl, rfl⟩ ⟨_, _, rfl, h9⟩
  · have h9 := h.1 (bI_p1 c_1)
    refine r_aload_n d_Mod_isLand_9 rfl ?_
    refine x_getR d_Mod_isLand_10 fl_Mod_38 gR_516_11 ?_
    refine r_iload_n d_Mod_isLand_13 rfl ?_
    refine r_iload_n d_Mod_isLand_14 rfl ?_
    refine x_callS (as := [.int i1, .int i2]) (st := [.ref 523]) d_Mod_isLand_15 ml_Mod_147 mc_Mod_at ms_Mod_at ⟨by decide, by decide⟩ rfl (Nat.le_of_ble_eq_true rfl) (Nat.le_of_ble_eq_true rfl) (Q1 := fun r M1 L1 => some (.int (20 * i2 + i1)) = r ∧ M = M1 ∧ L = L1) (s_Mod_at ⟨rfl, rfl, rfl⟩) ?_
    rintro _ _ _ ⟨rfl, rfl, rfl⟩
    obtain ⟨o_2, h9⟩ := h9
    refine x_iald d_Mod_isLand_18 aI_523 o_2 ?_
    refine r_if_ne d_Mod_isLand_19 (fun c_3 => ?_) (fun c_3 => ?_)
    · have h9 := h9.2 c_3
      refine r_iconst (v := 0) d_Mod_isLand_26 (by decide) ?_
      exact r_iret ⟨d_Mod_isLand_27, _, rfl, rfl⟩ ⟨_, _, rfl, h9⟩
    · have h9 := h9.1 c_3
      refine r_iconst (v := 1) d_Mod_isLand_22 (by decide) ?_
      refine r_goto d_Mod_isLand_23 ?_
      exact r_iret ⟨d_Mod_isLand_27, _, rfl, rfl⟩ ⟨_, _, rfl, h9⟩
theorem L_Mod_isNear_0 {xs : List Int32} {i1 : Int32} {i2 : Int32} {i3 : Int32} {M : Mem} {L : Int64} {Q : Option Value → Mem → Int64 → Prop} 
    (h : ((((0 ≤ i1 ∧ i1 ≤ (M 516 9) - 1) ∧ 0 ≤ i2 ∧ i2 ≤ (M 516 10) - 1) → (vp_in (20 * i2 + i1) 400 ∧ (((M 530 ((20 * i2 + i1).toNatClampNeg)) = (-1) → Q (some (.int 0)) M L) ∧ (¬ ((M 530 ((20 * i2 + i1).toNatClampNeg)) = (-1)) → ((i3 < (M 530 ((20 * i2 + i1).toNatClampNeg)) → Q (some (.int 0)) M L) ∧ (¬ (i3 < (M 530 ((20 * i2 + i1).toNatClampNeg))) → Q (some (.int 1)) M L)))))) ∧ (¬ ((0 ≤ i1 ∧ i1 ≤ (M 516 9) - 1) ∧ 0 ≤ i2 ∧ i2 ≤ (M 516 10) - 1) → Q (some (.int 0)) M L))) : RX xs shL md_Mod_isNear 0 [.ref 516, .int i1, .int i2, .int i3] [] M L Q := by
  refine r_aload_n d_Mod_isNear_0 rfl ?_
  refine r_iload_n d_Mod_isNear_1 rfl ?_
  refine r_iload_n d_Mod_isNear_2 rfl ?_
  refine x_callV (as := [.int i1, .int i2]) (st := []) d_Mod_isNear_3 ml_Mod_143 mc_Mod_isCell mv_Mod_isCell ⟨by decide, by decide⟩ gO_516 ⟨_, rfl, rfl⟩ rfl (Nat.le_of_ble_eq_true rfl) (Nat.le_of_ble_eq_true rfl) (Q1 := fun r M1 L1 => some (.int (bI ((0 ≤ i1 ∧ i1 ≤ (M 516 9) - 1) ∧ 0 ≤ i2 ∧ i2 ≤ (M 516 10) - 1))) = r ∧ M = M1 ∧ L = L1) (s_Mod_isCell ⟨rfl, rfl, rfl⟩) ?_
  rintro _ _ _ ⟨rfl, rfl, rfl⟩
  refine r_if_eq d_Mod_isNear_6 (fun c_1 => ?_) (fun c_1 => ?_)
  · have h9 := h.2 (bI_p0 c_1)
    refine r_iconst (v := 0) d_Mod_isNear_41 (by decide) ?_
    exact r_iret ⟨d_Mod_isNear_42, _, rfl, rfl⟩ ⟨_, _, rfl, h9⟩
  · have h9 := h.1 (bI_p1 c_1)
    refine r_aload_n d_Mod_isNear_9 rfl ?_
    refine x_getR d_Mod_isNear_10 fl_Mod_60 gR_516_32 ?_
    refine r_iload_n d_Mod_isNear_13 rfl ?_
    refine r_iload_n d_Mod_isNear_14 rfl ?_
    refine x_callS (as := [.int i1, .int i2]) (st := [.ref 530]) d_Mod_isNear_15 ml_Mod_147 mc_Mod_at ms_Mod_at ⟨by decide, by decide⟩ rfl (Nat.le_of_ble_eq_true rfl) (Nat.le_of_ble_eq_true rfl) (Q1 := fun r M1 L1 => some (.int (20 * i2 + i1)) = r ∧ M = M1 ∧ L = L1) (s_Mod_at ⟨rfl, rfl, rfl⟩) ?_
    rintro _ _ _ ⟨rfl, rfl, rfl⟩
    obtain ⟨o_2, h9⟩ := h9
    refine x_iald d_Mod_isNear_18 aI_530 o_2 ?_
    refine r_iconst (v := (-1)) d_Mod_isNear_19 (by decide) ?_
    refine r_ic_eq d_Mod_isNear_20 (fun c_3 => ?_) (fun c_3 => ?_)
    · have h9 := h9.1 c_3
      refine r_iconst (v := 0) d_Mod_isNear_41 (by decide) ?_
      exact r_iret ⟨d_Mod_isNear_42, _, rfl, rfl⟩ ⟨_, _, rfl, h9⟩
    · have h9 := h9.2 c_3
      refine r_aload_n d_Mod_isNear_23 rfl ?_
      refine x_getR d_Mod_isNear_24 fl_Mod_60 gR_516_32 ?_
      refine r_iload_n d_Mod_isNear_27 rfl ?_
      refine r_iload_n d_Mod_isNear_28 rfl ?_
      refine x_callS (as := [.int i1, .int i2]) (st := [.ref 530]) d_Mod_isNear_29 ml_Mod_147 mc_Mod_at ms_Mod_at ⟨by decide, by decide⟩ rfl (Nat.le_of_ble_eq_true rfl) (Nat.le_of_ble_eq_true rfl) (Q1 := fun r M1 L1 => some (.int (20 * i2 + i1)) = r ∧ M = M1 ∧ L = L1) (s_Mod_at ⟨rfl, rfl, rfl⟩) ?_
      rintro _ _ _ ⟨rfl, rfl, rfl⟩
      refine x_iald d_Mod_isNear_32 aI_530 o_2 ?_
      refine r_iload_n d_Mod_isNear_33 rfl ?_
      refine r_ic_gt d_Mod_isNear_34 (fun c_4 => ?_) (fun c_4 => ?_)
      · have h9 := h9.1 c_4
        refine r_iconst (v := 0) d_Mod_isNear_41 (by decide) ?_
        exact r_iret ⟨d_Mod_isNear_42, _, rfl, rfl⟩ ⟨_, _, rfl, h9⟩
      · have h9 := h9.2 c_4
        refine r_iconst (v := 1) d_Mod_isNear_37 (by decide) ?_
        refine r_goto d_Mod_isNear_38 ?_
        exact r_iret ⟨d_Mod_isNear_42, _, rfl, rfl⟩ ⟨_, _, rfl, h9⟩
theorem L_Mod_nearest_0 {xs : List Int32} {i1 : Int32} {i2 : Int32} {M : Mem} {L : Int64} {Q : Option Value → Mem → Int64 → Prop} 
    (h : RX xs shL md_Mod_nearest 2 [.ref 516, .int i1, .int i2, .int 0, .null, .null] [] M L Q) : RX xs shL md_Mod_nearest 0 [.ref 516, .int i1, .int i2] [] M L Q := by
  refine r_weak (lv' := [.ref 516, .int i1, .int i2, .null, .null, .null]) (by repeat (first | exact trivial | refine ⟨rfl, ?_⟩ | exact lle_nil)) ?_
  refine r_iconst (v := 0) d_Mod_nearest_0 (by decide) ?_
  refine r_istore_n d_Mod_nearest_1 (by decide) ?_
  exact h
theorem L_Mod_nearest_2 {xs : List Int32} {i1 : Int32} {i2 : Int32} {i3 : Int32} {M : Mem} {L : Int64} {Q : Option Value → Mem → Int64 → Prop} 
    (h : ((8 < i3 → Q (some (.int (-1))) M L) ∧ (¬ (8 < i3) → RX xs shL md_Mod_nearest 13 [.ref 516, .int i1, .int i2, .int i3, .int (i2 - i3), .null] [] M L Q))) : RX xs shL md_Mod_nearest 2 [.ref 516, .int i1, .int i2, .int i3, .null, .null] [] M L Q := by
  refine r_iload_n d_Mod_nearest_2 rfl ?_
  refine r_bipush (v := 8) d_Mod_nearest_3 (by decide) ?_
  refine r_ic_gt d_Mod_nearest_5 (fun c_1 => ?_) (fun c_1 => ?_)
  · have h9 := h.1 c_1
    refine r_iconst (v := (-1)) d_Mod_nearest_65 (by decide) ?_
    exact r_iret ⟨d_Mod_nearest_66, _, rfl, rfl⟩ ⟨_, _, rfl, h9⟩
  · have h9 := h.2 c_1
    refine r_iload_n d_Mod_nearest_8 rfl ?_
    refine r_iload_n d_Mod_nearest_9 rfl ?_
    refine r_isub d_Mod_nearest_10 ?_
    refine r_istore d_Mod_nearest_11 (by decide) ?_
    exact h9
theorem L_Mod_nearest_13 {xs : List Int32} {i1 : Int32} {i2 : Int32} {i3 : Int32} {i4 : Int32} {M : Mem} {L : Int64} {Q : Option Value → Mem → Int64 → Prop} 
    (h : (((i2 + i3) < i4 → RX xs shL md_Mod_nearest 2 [.ref 516, .int i1, .int i2, .int (i3 + 1), .null, .null] [] M L Q) ∧ (¬ ((i2 + i3) < i4) → RX xs shL md_Mod_nearest 26 [.ref 516, .int i1, .int i2, .int i3, .int i4, .int (i1 - i3)] [] M L Q))) : RX xs shL md_Mod_nearest 13 [.ref 516, .int i1, .int i2, .int i3, .int i4, .null] [] M L Q := by
  refine r_iload d_Mod_nearest_13 rfl ?_
  refine r_iload_n d_Mod_nearest_15 rfl ?_
  refine r_iload_n d_Mod_nearest_16 rfl ?_
  refine r_iadd d_Mod_nearest_17 ?_
  refine r_ic_gt d_Mod_nearest_18 (fun c_2 => ?_) (fun c_2 => ?_)
  · have h9 := h.1 c_2
    refine r_iinc (v := i3 + 1) d_Mod_nearest_59 rfl rfl (by decide) ?_
    refine r_goto d_Mod_nearest_62 ?_
    refine r_weak (lv' := [.ref 516, .int i1, .int i2, .int (i3 + 1), .null, .null]) (by repeat (first | exact trivial | refine ⟨rfl, ?_⟩ | exact lle_nil)) ?_
    exact h9
  · have h9 := h.2 c_2
    refine r_iload_n d_Mod_nearest_21 rfl ?_
    refine r_iload_n d_Mod_nearest_22 rfl ?_
    refine r_isub d_Mod_nearest_23 ?_
    refine r_istore d_Mod_nearest_24 (by decide) ?_
    exact h9
theorem L_Mod_nearest_26 {xs : List Int32} {i1 : Int32} {i2 : Int32} {i3 : Int32} {i4 : Int32} {i5 : Int32} {M : Mem} {L : Int64} {Q : Option Value → Mem → Int64 → Prop} 
    (h : (((i1 + i3) < i5 → RX xs shL md_Mod_nearest 13 [.ref 516, .int i1, .int i2, .int i3, .int (i4 + 1), .null] [] M L Q) ∧ (¬ ((i1 + i3) < i5) → RX xs shL md_Mod_isLand 0 [.ref 516, .int i5, .int i4] [] M L (fun r M_4 L_5 => ∃ v_6 : Int32, r = some (.int v_6) ∧ ((v_6 = 0 → RX xs shL md_Mod_nearest 26 [.ref 516, .int i1, .int i2, .int i3, .int i4, .int (i5 + 1)] [] M_4 L_5 Q) ∧ (¬ (v_6 = 0) → Q (some (.int i3)) M_4 L_5)))))) : RX xs shL md_Mod_nearest 26 [.ref 516, .int i1, .int i2, .int i3, .int i4, .int i5] [] M L Q := by
  refine r_iload d_Mod_nearest_26 rfl ?_
  refine r_iload_n d_Mod_nearest_28 rfl ?_
  refine r_iload_n d_Mod_nearest_29 rfl ?_
  refine r_iadd d_Mod_nearest_30 ?_
  refine r_ic_gt d_Mod_nearest_31 (fun c_3 => ?_) (fun c_3 => ?_)
  · have h9 := h.1 c_3
    refine r_iinc (v := i4 + 1) d_Mod_nearest_53 rfl rfl (by decide) ?_
    refine r_goto d_Mod_nearest_56 ?_
    refine r_weak (lv' := [.ref 516, .int i1, .int i2, .int i3, .int (i4 + 1), .null]) (by repeat (first | exact trivial | refine ⟨rfl, ?_⟩ | exact lle_nil)) ?_
    exact h9
  · have h9 := h.2 c_3
    refine r_aload_n d_Mod_nearest_34 rfl ?_
    refine r_iload d_Mod_nearest_35 rfl ?_
    refine r_iload d_Mod_nearest_37 rfl ?_
    refine x_callV (as := [.int i5, .int i4]) (st := []) d_Mod_nearest_39 ml_Mod_150 mc_Mod_isLand mv_Mod_isLand ⟨by decide, by decide⟩ gO_516 ⟨_, rfl, rfl⟩ rfl (Nat.le_of_ble_eq_true rfl) (Nat.le_of_ble_eq_true rfl) h9 ?_
    rintro _ M_4 L_5 ⟨v_6, rfl, h9⟩
    refine r_if_eq d_Mod_nearest_42 (fun c_7 => ?_) (fun c_7 => ?_)
    · have h9 := h9.1 c_7
      refine r_iinc (v := i5 + 1) d_Mod_nearest_47 rfl rfl (by decide) ?_
      refine r_goto d_Mod_nearest_50 ?_
      exact h9
    · have h9 := h9.2 c_7
      refine r_iload_n d_Mod_nearest_45 rfl ?_
      exact r_iret ⟨d_Mod_nearest_46, _, rfl, rfl⟩ ⟨_, _, rfl, h9⟩

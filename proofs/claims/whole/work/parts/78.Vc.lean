/-! constructors that call -/
section BORNC
variable {xs : List Int32} {m mj : Md} {pc pc' : Nat} {lv : List Value} {st as : List Value} {S T U : List Shp} {M : Mem} {bc bs n idx a ci k j : Nat} {Q : Option Value → List Ce → Prop}
theorem n_callS {Q1 : Option Value → Mem → Int64 → Prop} (hd : dc3 (mB m) pc (.invokestatic idx) pc') (hL : ML (mY m).cls idx (mY mj)) (hC : MC mj n) (hS : Cond.static (mY mj) ∈ wsG) (hR : RmOk m mj) (hn : as.length = n) (hs : (st.map fun v => v.category).sum ≤ 8) (hlen : (ent as).length ≤ mL mj)
    (k1 : RX xs S mj 0 (ent as) [] M 0 Q1) (kk : ∀ r M1 L1, Q1 r M1 L1 → RR xs m pc' lv (r.toList ++ st) (mkH S M1 L1) bc bs Q) : RR xs m pc lv (as.reverse ++ st) (mkH S M 0) bc bs Q :=
  r_callS (bc := bc) (bs := bs) (b1 := 0) (b2 := 0) hd hL hC hS hR hn hs hlen k1 (fun r h' ⟨M1, L1, e, q⟩ => by subst e; exact kk r M1 L1 q)
theorem n_callV {b : Nat} {Q1 : Option Value → Mem → Int64 → Prop} (hd : dc3 (mB m) pc (.invokevirtual idx) pc') (hL : Cond.methodLink (mY m).cls idx (mY mj) ∈ wsG) (hC : MC mj n) (hS : Cond.instanceMethod (mY mj) ∈ wsG ∧ Cond.selects (mY mj).cls (mY mj) (mY mj) ∈ wsG) (hR : RmOk m mj) (hb : isO S b ci) (hci : ∃ r : vw_C, clsL[ci]? = some r ∧ r.1 = (mY mj).cls) (hn : as.length = n) (hs : (st.map fun v => v.category).sum ≤ 8) (hlen : (ent (.ref b :: as)).length ≤ mL mj)
    (k1 : RX xs S mj 0 (ent (.ref b :: as)) [] M 0 Q1) (kk : ∀ r M1 L1, Q1 r M1 L1 → RR xs m pc' lv (r.toList ++ st) (mkH S M1 L1) bc bs Q) : RR xs m pc lv (as.reverse ++ .ref b :: st) (mkH S M 0) bc bs Q := by
  obtain ⟨x, y, sl, h1⟩ := isO_spec hb
  exact r_callV (bc := bc) (bs := bs) (b1 := 0) (b2 := 0) hd hL hC hS hR (by rw [mk_get, h1]; rfl) hci hn hs hlen k1 (fun r h' ⟨M1, L1, e, q⟩ => by subst e; exact kk r M1 L1 q)
theorem n_cvr {lo n : Nat} (hT : T.length = lo) (h : ∀ j, j < n → U[j]? = shL[lo + j]?) : cvr (T ++ U) lo (lo + n) := fun b h1 h2 => by
  have e : b = lo + (b - lo) := by omega
  rw [get_app (j := b - lo) (by omega), h (b - lo) (by omega), ← e]
end BORNC
def wtM (M : Mem) (a : Nat) : Mem := rowN M (a + 1) 8 (fun _ => -1)
theorem wtM_o {M : Mem} {a b : Nat} (h : b ≠ a + 1) (k : Nat) : wtM M a b k = M b k := rowN_o M 8 _ h k
def rwM (M : Mem) (a : Nat) : Mem := up (up (up (up (up M a 3 (-1)) a 4 (-1)) a 5 0) a 6 0) a 7 1
theorem rwM_o {M : Mem} {a b : Nat} (h : b ≠ a) (k : Nat) : rwM M a b k = M b k := by
  unfold rwM
  rw [up_ne _ _ (fun e => h e.1), up_ne _ _ (fun e => h e.1), up_ne _ _ (fun e => h e.1), up_ne _ _ (fun e => h e.1), up_ne _ _ (fun e => h e.1)]
theorem shL_row : ∀ t, t < 40 → shL[136 + 5 * t]? = some (0, 7, 0, 0, [5, 7, 9, 0, 0, 0, 0, 0]) := by
  have h : ∀ t : Fin 40, shL[136 + 5 * t.val]? = some (0, 7, 0, 0, [5, 7, 9, 0, 0, 0, 0, 0]) := by decide +kernel
  exact fun t ht => h ⟨t, ht⟩
def ChF (M M1 : Mem) : Prop := (∀ j k, ¬ (j = 126 ∧ (k = 4 ∨ k = 5)) → j ≠ 127 → j ≠ 133 → j ≠ 131 → j ≠ 129 → M1 j k = M j k) ∧ M1 126 4 = 8 ∧ M1 126 5 = 8 ∧ (∀ k, k < 400 → M1 127 k = 50) ∧ ∀ x y, x < 32 → y < 20 → gp M1 132 x y = false ∧ gp M1 130 x y = false ∧ (gp M1 128 x y = true ↔ x < 8 ∧ y < 8)
theorem ChF_of {M : Mem} : ChF M (setP (setP (setP (setP (rowN (up (up M 126 4 8) 126 5 8) 127 400 (fun _ => 50)) 132 (fun _ _ => false)) 130 (fun _ _ => false)) 128 (fun _ _ => false)) 128 (rcF (0 : Int32).toInt (0 : Int32).toInt ((8 : Int32) - 1).toInt ((8 : Int32) - 1).toInt (bB (¬ (1 : Int32) = 0)) (gp (setP (setP (setP (rowN (up (up M 126 4 8) 126 5 8) 127 400 (fun _ => 50)) 132 (fun _ _ => false)) 130 (fun _ _ => false)) 128 (fun _ _ => false)) 128))) := by
  rw [setP_set]
  refine ⟨fun j k q1 q2 q3 q4 q5 => ?_, ?_, ?_, fun k hk => ?_, fun x y hx hy => ⟨?_, ?_, ?_⟩⟩
  · rw [setP_o _ _ q5, setP_o _ _ q4, setP_o _ _ q3, rowN_o _ _ _ q2, up_ne _ _ (by omega), up_ne _ _ (by omega)]
  · rw [setP_o _ _ (by decide), setP_o _ _ (by decide), setP_o _ _ (by decide), rowN_o _ _ _ (by decide), up_ne _ _ (by omega)]; exact up_same _ _ _ _
  · rw [setP_o _ _ (by decide), setP_o _ _ (by decide), setP_o _ _ (by decide), rowN_o _ _ _ (by decide)]; exact up_same _ _ _ _
  · rw [setP_o _ _ (by decide), setP_o _ _ (by decide), setP_o _ _ (by decide), rowN_lt _ _ _ hk]
  · unfold gp
    rw [setP_o _ _ (by decide), setP_o _ _ (by decide)]
    exact gp_set _ 132 _ hx hy
  · unfold gp
    rw [setP_o _ _ (by decide)]
    exact gp_set _ 130 _ hx hy
  · rw [gp_set _ 128 _ hx hy]
    unfold rcF
    rw [gp_set _ _ _ hx hy, bB_t (show ¬ (1 : Int32) = 0 by decide)]
    have e7 : ((8 : Int32) - 1).toInt = 7 := by decide
    have e0 : (0 : Int32).toInt = 0 := rfl
    rw [e7, e0]
    by_cases e : x < 8 ∧ y < 8
    · rw [ifB_t ⟨by omega, by omega, by omega, by omega, by omega⟩]
      exact ⟨fun _ => e, fun _ => rfl⟩
    · rw [ifB_f (fun z => e ⟨by omega, by omega⟩)]
      exact ⟨fun q => (by cases q), fun q => absurd q e⟩
theorem i_Watch {xs : List Int32} {T : List Shp} {M : Mem} {a : Nat} (hT : T.length = a) (hM : ∀ b, a ≤ b → ∀ k, M b k = 0) : RR xs md_Watch_init 0 [.ref a] [] (mkH (T ++ [(0, 9, 0, 0, [2, 2, 2, 2, 0, 0, 0, 0, 0])]) M 0) 4 22 (fun r h' => r = none ∧ h' = mkH (T ++ shWatch) (wtM M a) 0) := by
  refine r_aload_n d_Watch_init_0 rfl ?_
  refine r_objInit d_Watch_init_1 ml_Watch_5 ob_i ob_c (Nat.le_of_ble_eq_true rfl) (Nat.le_of_ble_eq_true rfl) ?_
  refine r_aload_n d_Watch_init_4 rfl ?_
  refine r_bipush (v := 8) d_Watch_init_5 (by decide) ?_
  refine n_newi (bc := 3) (bs := 14) (a := (a + 1)) (N := 8) (U' := [(0, 9, 0, 0, [2, 2, 2, 2, 0, 0, 0, 0, 0]), (1, 8, 0, 0, [])]) d_Watch_init_7 (by decide) (by decide) (by decide) (by omega) (by omega) (by rw [List.length_append, hT]; rfl) (fun k => hM _ (by omega) k) rfl ?_
  refine n_putF (j := 0) (e := 5) (sl := [2, 2, 2, 2, 0, 0, 0, 0, 0]) (b := (a + 1)) (U' := [(0, 9, 0, 0, [5, 2, 2, 2, 0, 0, 0, 0, 0]), (1, 8, 0, 0, [])]) d_Watch_init_9 ff_Watch_11 rfl (by omega) rfl rfl rfl (VOk_arr _ _) ?_
  refine r_aload_n d_Watch_init_12 rfl ?_
  refine n_getR (j := 0) (e := 5) (sl := [5, 2, 2, 2, 0, 0, 0, 0, 0]) (b := (a + 1)) d_Watch_init_13 fl_Watch_11 (by omega) rfl rfl rfl ?_
  refine r_iconst (v := -1) d_Watch_init_16 (by decide) ?_
  refine n_callS (as := [.ref (a + 1), .int (-1)]) (st := []) d_Watch_init_17 ml_Watch_15 mc_JArrays_fill ms_JArrays_fill ⟨by decide, by decide⟩ rfl (Nat.le_of_ble_eq_true rfl) (Nat.le_of_ble_eq_true rfl) (Q1 := fun r M1 L1 => none = r ∧ wtM M a = M1 ∧ 0 = L1) (s_JArrays_fill (n_aI (j := 1) (by omega) rfl) (by decide) ⟨rfl, rfl, rfl⟩) ?_
  rintro _ _ _ ⟨rfl, rfl, rfl⟩
  change RR xs md_Watch_init 20 [.ref a] [] _ _ _ _
  refine r_aload_n d_Watch_init_20 rfl ?_
  refine r_iconst (v := 4) d_Watch_init_21 (by decide) ?_
  refine n_newi (bc := 2) (bs := 10) (a := (a + 2)) (N := 4) (U' := [(0, 9, 0, 0, [5, 2, 2, 2, 0, 0, 0, 0, 0]), (1, 8, 0, 0, []), (1, 4, 0, 0, [])]) d_Watch_init_22 (by decide) (by decide) (by decide) (by omega) (by omega) (by rw [List.length_append, hT]; rfl) (fun k => (wtM_o (by omega) k).trans (hM _ (by omega) k)) rfl ?_
  refine n_putF (j := 0) (e := 7) (sl := [5, 2, 2, 2, 0, 0, 0, 0, 0]) (b := (a + 2)) (U' := [(0, 9, 0, 0, [5, 7, 2, 2, 0, 0, 0, 0, 0]), (1, 8, 0, 0, []), (1, 4, 0, 0, [])]) d_Watch_init_24 ff_Watch_21 rfl (by omega) rfl rfl rfl (VOk_arr _ _) ?_
  refine r_aload_n d_Watch_init_27 rfl ?_
  refine r_iconst (v := 5) d_Watch_init_28 (by decide) ?_
  refine n_newi (bc := 1) (bs := 5) (a := (a + 3)) (N := 5) (U' := [(0, 9, 0, 0, [5, 7, 2, 2, 0, 0, 0, 0, 0]), (1, 8, 0, 0, []), (1, 4, 0, 0, []), (1, 5, 0, 0, [])]) d_Watch_init_29 (by decide) (by decide) (by decide) (by omega) (by omega) (by rw [List.length_append, hT]; rfl) (fun k => (wtM_o (by omega) k).trans (hM _ (by omega) k)) rfl ?_
  refine n_putF (j := 0) (e := 9) (sl := [5, 7, 2, 2, 0, 0, 0, 0, 0]) (b := (a + 3)) (U' := [(0, 9, 0, 0, [5, 7, 9, 2, 0, 0, 0, 0, 0]), (1, 8, 0, 0, []), (1, 4, 0, 0, []), (1, 5, 0, 0, [])]) d_Watch_init_31 ff_Watch_24 rfl (by omega) rfl rfl rfl (VOk_arr _ _) ?_
  refine r_aload_n d_Watch_init_34 rfl ?_
  refine r_iconst (v := 5) d_Watch_init_35 (by decide) ?_
  refine n_newi (bc := 0) (bs := 0) (a := (a + 4)) (N := 5) (U' := [(0, 9, 0, 0, [5, 7, 9, 2, 0, 0, 0, 0, 0]), (1, 8, 0, 0, []), (1, 4, 0, 0, []), (1, 5, 0, 0, []), (1, 5, 0, 0, [])]) d_Watch_init_36 (by decide) (by decide) (by decide) (by omega) (by omega) (by rw [List.length_append, hT]; rfl) (fun k => (wtM_o (by omega) k).trans (hM _ (by omega) k)) rfl ?_
  refine n_putF (j := 0) (e := 11) (sl := [5, 7, 9, 2, 0, 0, 0, 0, 0]) (b := (a + 4)) (U' := [(0, 9, 0, 0, [5, 7, 9, 11, 0, 0, 0, 0, 0]), (1, 8, 0, 0, []), (1, 4, 0, 0, []), (1, 5, 0, 0, []), (1, 5, 0, 0, [])]) d_Watch_init_38 ff_Watch_27 rfl (by omega) rfl rfl rfl (VOk_arr _ _) ?_
  refine r_aload_n d_Watch_init_41 rfl ?_
  refine r_iconst (v := 0) d_Watch_init_42 (by decide) ?_
  refine n_putZ d_Watch_init_43 fl_Watch_30 (fun r hr => by cases hr; rfl) (n_fI (j := 0) (by omega) rfl rfl) (VOk_int _) ((fun k => (wtM_o (by omega) k).trans (hM _ (by omega) k)) _) ?_
  refine r_aload_n d_Watch_init_46 rfl ?_
  refine r_iconst (v := 0) d_Watch_init_47 (by decide) ?_
  refine n_putZ d_Watch_init_48 fl_Watch_34 (fun r hr => by cases hr; rfl) (n_fI (j := 0) (by omega) rfl rfl) (VOk_int _) ((fun k => (wtM_o (by omega) k).trans (hM _ (by omega) k)) _) ?_
  refine r_aload_n d_Watch_init_51 rfl ?_
  refine r_iconst (v := 0) d_Watch_init_52 (by decide) ?_
  refine n_putZ d_Watch_init_53 fl_Watch_37 (fun r hr => by cases hr; rfl) (n_fI (j := 0) (by omega) rfl rfl) (VOk_int _) ((fun k => (wtM_o (by omega) k).trans (hM _ (by omega) k)) _) ?_
  refine r_aload_n d_Watch_init_56 rfl ?_
  refine r_iconst (v := 0) d_Watch_init_57 (by decide) ?_
  refine n_putZ d_Watch_init_58 fl_Watch_40 (fun r hr => by cases hr; rfl) (n_fI (j := 0) (by omega) rfl rfl) (VOk_int _) ((fun k => (wtM_o (by omega) k).trans (hM _ (by omega) k)) _) ?_
  refine r_aload_n d_Watch_init_61 rfl ?_
  refine r_iconst (v := 0) d_Watch_init_62 (by decide) ?_
  refine n_putZ d_Watch_init_63 fl_Watch_43 (fun r hr => by cases hr; rfl) (n_fI (j := 0) (by omega) rfl rfl) (VOk_int _) ((fun k => (wtM_o (by omega) k).trans (hM _ (by omega) k)) _) ?_
  exact r_vret ⟨d_Watch_init_66, rfl⟩ ⟨rfl, rfl⟩
theorem i_Row {xs : List Int32} {T : List Shp} {M : Mem} {t : Nat} (ht : t < 40) (hT : T.length = 136 + 5 * t) (hM : ∀ b, 136 + 5 * t ≤ b → ∀ k, M b k = 0) : RR xs md_Row_init 0 [.ref (136 + 5 * t)] [] (mkH (T ++ [(0, 7, 0, 0, [2, 2, 2, 0, 0, 0, 0, 0])]) M 0) 4 29 (fun r h' => r = none ∧ h' = mkH (T ++ shRow) (rwM M (136 + 5 * t)) 0) := by
  refine r_aload_n d_Row_init_0 rfl ?_
  refine r_objInit d_Row_init_1 ml_Row_3 ob_i ob_c (Nat.le_of_ble_eq_true rfl) (Nat.le_of_ble_eq_true rfl) ?_
  refine r_aload_n d_Row_init_4 rfl ?_
  refine n_new (bc := 3) (bs := 25) (a := ((136 + 5 * t) + 1)) (dsl := [0, 0, 0, 0]) d_Row_init_5 cl_Row_9 (by omega) (by omega) (by rw [List.length_append, hT]; rfl) (fun k => hM _ (by omega) k) (by decide) rfl ?_
  refine r_dup d_Row_init_8 rfl ?_
  refine r_bud (bc := 3 + 0) (bs := 25 + 0) (by omega) (by omega) (r_callI (as := []) (st := [.ref ((136 + 5 * t) + 1), .ref (136 + 5 * t)]) d_Row_init_9 ml_Row_11 mc_Reach_init mi_Reach_init rfl rfl ⟨by decide, by decide⟩ rfl (Nat.le_of_ble_eq_true rfl) (Nat.le_of_ble_eq_true rfl) (i_Reach (by rw [List.length_append, hT]; rfl) (fun k => hM _ (by omega) k)) ?_)
  rintro _ _ ⟨rfl, rfl⟩
  rw [show (T ++ [(0, 7, 0, 0, [2, 2, 2, 0, 0, 0, 0, 0])]) ++ [shReach] = T ++ [(0, 7, 0, 0, [2, 2, 2, 0, 0, 0, 0, 0]), (0, 5, 0, 0, [0, 0, 0, 0])] from List.append_assoc _ _ _]
  change RR xs md_Row_init 12 [.ref (136 + 5 * t)] [.ref ((136 + 5 * t) + 1), .ref (136 + 5 * t)] _ _ _ _
  refine n_putF (j := 0) (e := 5) (sl := [2, 2, 2, 0, 0, 0, 0, 0]) (b := ((136 + 5 * t) + 1)) (U' := [(0, 7, 0, 0, [5, 2, 2, 0, 0, 0, 0, 0]), (0, 5, 0, 0, [0, 0, 0, 0])]) d_Row_init_12 ff_Row_12 rfl (by omega) rfl rfl rfl (VOk_obj _ _) ?_
  refine r_aload_n d_Row_init_15 rfl ?_
  refine n_new (bc := 2) (bs := 21) (a := ((136 + 5 * t) + 2)) (dsl := [0, 0, 0, 0]) d_Row_init_16 cl_Row_9 (by omega) (by omega) (by rw [List.length_append, hT]; rfl) (fun k => hM _ (by omega) k) (by decide) rfl ?_
  refine r_dup d_Row_init_19 rfl ?_
  refine r_bud (bc := 2 + 0) (bs := 21 + 0) (by omega) (by omega) (r_callI (as := []) (st := [.ref ((136 + 5 * t) + 2), .ref (136 + 5 * t)]) d_Row_init_20 ml_Row_11 mc_Reach_init mi_Reach_init rfl rfl ⟨by decide, by decide⟩ rfl (Nat.le_of_ble_eq_true rfl) (Nat.le_of_ble_eq_true rfl) (i_Reach (by rw [List.length_append, hT]; rfl) (fun k => hM _ (by omega) k)) ?_)
  rintro _ _ ⟨rfl, rfl⟩
  rw [show (T ++ [(0, 7, 0, 0, [5, 2, 2, 0, 0, 0, 0, 0]), (0, 5, 0, 0, [0, 0, 0, 0])]) ++ [shReach] = T ++ [(0, 7, 0, 0, [5, 2, 2, 0, 0, 0, 0, 0]), (0, 5, 0, 0, [0, 0, 0, 0]), (0, 5, 0, 0, [0, 0, 0, 0])] from List.append_assoc _ _ _]
  change RR xs md_Row_init 23 [.ref (136 + 5 * t)] [.ref ((136 + 5 * t) + 2), .ref (136 + 5 * t)] _ _ _ _
  refine n_putF (j := 0) (e := 7) (sl := [5, 2, 2, 0, 0, 0, 0, 0]) (b := ((136 + 5 * t) + 2)) (U' := [(0, 7, 0, 0, [5, 7, 2, 0, 0, 0, 0, 0]), (0, 5, 0, 0, [0, 0, 0, 0]), (0, 5, 0, 0, [0, 0, 0, 0])]) d_Row_init_23 ff_Row_18 rfl (by omega) rfl rfl rfl (VOk_obj _ _) ?_
  refine r_aload_n d_Row_init_26 rfl ?_
  refine n_new (bc := 1) (bs := 20) (a := ((136 + 5 * t) + 3)) (dsl := [2]) d_Row_init_27 cl_Row_21 (by omega) (by omega) (by rw [List.length_append, hT]; rfl) (fun k => hM _ (by omega) k) (by decide) rfl ?_
  refine r_dup d_Row_init_30 rfl ?_
  refine r_bud (bc := 0 + 1) (bs := 0 + 20) (by omega) (by omega) (r_callI (as := []) (st := [.ref ((136 + 5 * t) + 3), .ref (136 + 5 * t)]) d_Row_init_31 ml_Row_23 mc_Patch_init mi_Patch_init rfl rfl ⟨by decide, by decide⟩ rfl (Nat.le_of_ble_eq_true rfl) (Nat.le_of_ble_eq_true rfl) (i_Patch (by rw [List.length_append, hT]; rfl) (fun k => hM _ (by omega) k)) ?_)
  rintro _ _ ⟨rfl, rfl⟩
  rw [show (T ++ [(0, 7, 0, 0, [5, 7, 2, 0, 0, 0, 0, 0]), (0, 5, 0, 0, [0, 0, 0, 0]), (0, 5, 0, 0, [0, 0, 0, 0])]) ++ shPatch = T ++ [(0, 7, 0, 0, [5, 7, 2, 0, 0, 0, 0, 0]), (0, 5, 0, 0, [0, 0, 0, 0]), (0, 5, 0, 0, [0, 0, 0, 0]), (0, 4, 0, 0, [5]), (1, 20, 0, 0, [])] from List.append_assoc _ _ _]
  change RR xs md_Row_init 34 [.ref (136 + 5 * t)] [.ref ((136 + 5 * t) + 3), .ref (136 + 5 * t)] _ _ _ _
  refine n_putF (j := 0) (e := 9) (sl := [5, 7, 2, 0, 0, 0, 0, 0]) (b := ((136 + 5 * t) + 3)) (U' := [(0, 7, 0, 0, [5, 7, 9, 0, 0, 0, 0, 0]), (0, 5, 0, 0, [0, 0, 0, 0]), (0, 5, 0, 0, [0, 0, 0, 0]), (0, 4, 0, 0, [5]), (1, 20, 0, 0, [])]) d_Row_init_34 ff_Row_24 rfl (by omega) rfl rfl rfl (VOk_obj _ _) ?_
  refine r_aload_n d_Row_init_37 rfl ?_
  refine r_iconst (v := -1) d_Row_init_38 (by decide) ?_
  refine r_iconst (v := -1) d_Row_init_39 (by decide) ?_
  refine r_iconst (v := 0) d_Row_init_40 (by decide) ?_
  refine r_iconst (v := 0) d_Row_init_41 (by decide) ?_
  refine n_callV (as := [.int (-1), .int (-1), .int 0, .int 0]) (st := []) (b := (136 + 5 * t)) (ci := 7) d_Row_init_42 ml_Row_28 mc_Row_become mv_Row_become ⟨by decide, by decide⟩ (n_isO (j := 0) (by omega) rfl) ⟨_, rfl, rfl⟩ rfl (Nat.le_of_ble_eq_true rfl) (Nat.le_of_ble_eq_true rfl) (Q1 := fun r M1 L1 => none = r ∧ rwM M (136 + 5 * t) = M1 ∧ 0 = L1) (L_Row_become_0 ht ((get_app (j := 0) (by omega)).trans (shL_row t ht).symm) ⟨rfl, rfl, rfl⟩) ?_
  rintro _ _ _ ⟨rfl, rfl, rfl⟩
  change RR xs md_Row_init 45 [.ref (136 + 5 * t)] [] _ _ _ _
  exact r_vret ⟨d_Row_init_45, rfl⟩ ⟨rfl, rfl⟩
theorem i_Chart {xs : List Int32} {T : List Shp} {M : Mem} (hT : T.length = 126) (hM : ∀ b, 126 ≤ b → ∀ k, M b k = 0) : RR xs md_Chart_init 0 [.ref 126] [] (mkH (T ++ [(0, 1, 0, 0, [2, 2, 2, 2, 0, 0, 0, 0, 0, 0])]) M 0) 7 463 (fun r h' => r = none ∧ ∃ M1, h' = mkH (T ++ [(0, 1, 0, 0, [256, 258, 262, 266, 0, 0, 0, 0, 0, 0]), (1, 400, 0, 0, []), (0, 4, 0, 0, [5]), (1, 20, 0, 0, []), (0, 4, 0, 0, [5]), (1, 20, 0, 0, []), (0, 4, 0, 0, [5]), (1, 20, 0, 0, [])]) M1 0 ∧ ChF M M1) := by
  refine r_aload_n d_Chart_init_0 rfl ?_
  refine r_objInit d_Chart_init_1 ml_Chart_3 ob_i ob_c (Nat.le_of_ble_eq_true rfl) (Nat.le_of_ble_eq_true rfl) ?_
  refine r_aload_n d_Chart_init_4 rfl ?_
  refine r_sipush (v := 400) d_Chart_init_5 (by decide) ?_
  refine n_newi (bc := 6) (bs := 63) (a := 127) (N := 400) (U' := [(0, 1, 0, 0, [2, 2, 2, 2, 0, 0, 0, 0, 0, 0]), (1, 400, 0, 0, [])]) d_Chart_init_8 (by decide) (by decide) (by decide) (by omega) (by omega) (by rw [List.length_append, hT]; rfl) (fun k => hM _ (by omega) k) rfl ?_
  refine n_putF (j := 0) (e := 256) (sl := [2, 2, 2, 2, 0, 0, 0, 0, 0, 0]) (b := 127) (U' := [(0, 1, 0, 0, [256, 2, 2, 2, 0, 0, 0, 0, 0, 0]), (1, 400, 0, 0, [])]) d_Chart_init_10 ff_Chart_11 rfl (by omega) rfl rfl rfl (VOk_arr _ _) ?_
  refine r_aload_n d_Chart_init_13 rfl ?_
  refine n_new (bc := 5) (bs := 62) (a := 128) (dsl := [2]) d_Chart_init_14 cl_Chart_15 (by omega) (by omega) (by rw [List.length_append, hT]; rfl) (fun k => hM _ (by omega) k) (by decide) rfl ?_
  refine r_dup d_Chart_init_17 rfl ?_
  refine r_bud (bc := 4 + 1) (bs := 42 + 20) (by omega) (by omega) (r_callI (as := []) (st := [.ref 128, .ref 126]) d_Chart_init_18 ml_Chart_17 mc_Patch_init mi_Patch_init rfl rfl ⟨by decide, by decide⟩ rfl (Nat.le_of_ble_eq_true rfl) (Nat.le_of_ble_eq_true rfl) (i_Patch (by rw [List.length_append, hT]; rfl) (fun k => hM _ (by omega) k)) ?_)
  rintro _ _ ⟨rfl, rfl⟩
  rw [show (T ++ [(0, 1, 0, 0, [256, 2, 2, 2, 0, 0, 0, 0, 0, 0]), (1, 400, 0, 0, [])]) ++ shPatch = T ++ [(0, 1, 0, 0, [256, 2, 2, 2, 0, 0, 0, 0, 0, 0]), (1, 400, 0, 0, []), (0, 4, 0, 0, [5]), (1, 20, 0, 0, [])] from List.append_assoc _ _ _]
  change RR xs md_Chart_init 21 [.ref 126] [.ref 128, .ref 126] _ _ _ _
  refine n_putF (j := 0) (e := 258) (sl := [256, 2, 2, 2, 0, 0, 0, 0, 0, 0]) (b := 128) (U' := [(0, 1, 0, 0, [256, 258, 2, 2, 0, 0, 0, 0, 0, 0]), (1, 400, 0, 0, []), (0, 4, 0, 0, [5]), (1, 20, 0, 0, [])]) d_Chart_init_21 ff_Chart_18 rfl (by omega) rfl rfl rfl (VOk_obj _ _) ?_
  refine r_aload_n d_Chart_init_24 rfl ?_
  refine n_new (bc := 3) (bs := 41) (a := 130) (dsl := [2]) d_Chart_init_25 cl_Chart_15 (by omega) (by omega) (by rw [List.length_append, hT]; rfl) (fun k => hM _ (by omega) k) (by decide) rfl ?_
  refine r_dup d_Chart_init_28 rfl ?_
  refine r_bud (bc := 2 + 1) (bs := 21 + 20) (by omega) (by omega) (r_callI (as := []) (st := [.ref 130, .ref 126]) d_Chart_init_29 ml_Chart_17 mc_Patch_init mi_Patch_init rfl rfl ⟨by decide, by decide⟩ rfl (Nat.le_of_ble_eq_true rfl) (Nat.le_of_ble_eq_true rfl) (i_Patch (by rw [List.length_append, hT]; rfl) (fun k => hM _ (by omega) k)) ?_)
  rintro _ _ ⟨rfl, rfl⟩
  rw [show (T ++ [(0, 1, 0, 0, [256, 258, 2, 2, 0, 0, 0, 0, 0, 0]), (1, 400, 0, 0, []), (0, 4, 0, 0, [5]), (1, 20, 0, 0, [])]) ++ shPatch = T ++ [(0, 1, 0, 0, [256, 258, 2, 2, 0, 0, 0, 0, 0, 0]), (1, 400, 0, 0, []), (0, 4, 0, 0, [5]), (1, 20, 0, 0, []), (0, 4, 0, 0, [5]), (1, 20, 0, 0, [])] from List.append_assoc _ _ _]
  change RR xs md_Chart_init 32 [.ref 126] [.ref 130, .ref 126] _ _ _ _
  refine n_putF (j := 0) (e := 262) (sl := [256, 258, 2, 2, 0, 0, 0, 0, 0, 0]) (b := 130) (U' := [(0, 1, 0, 0, [256, 258, 262, 2, 0, 0, 0, 0, 0, 0]), (1, 400, 0, 0, []), (0, 4, 0, 0, [5]), (1, 20, 0, 0, []), (0, 4, 0, 0, [5]), (1, 20, 0, 0, [])]) d_Chart_init_32 ff_Chart_22 rfl (by omega) rfl rfl rfl (VOk_obj _ _) ?_
  refine r_aload_n d_Chart_init_35 rfl ?_
  refine n_new (bc := 1) (bs := 20) (a := 132) (dsl := [2]) d_Chart_init_36 cl_Chart_15 (by omega) (by omega) (by rw [List.length_append, hT]; rfl) (fun k => hM _ (by omega) k) (by decide) rfl ?_
  refine r_dup d_Chart_init_39 rfl ?_
  refine r_bud (bc := 0 + 1) (bs := 0 + 20) (by omega) (by omega) (r_callI (as := []) (st := [.ref 132, .ref 126]) d_Chart_init_40 ml_Chart_17 mc_Patch_init mi_Patch_init rfl rfl ⟨by decide, by decide⟩ rfl (Nat.le_of_ble_eq_true rfl) (Nat.le_of_ble_eq_true rfl) (i_Patch (by rw [List.length_append, hT]; rfl) (fun k => hM _ (by omega) k)) ?_)
  rintro _ _ ⟨rfl, rfl⟩
  rw [show (T ++ [(0, 1, 0, 0, [256, 258, 262, 2, 0, 0, 0, 0, 0, 0]), (1, 400, 0, 0, []), (0, 4, 0, 0, [5]), (1, 20, 0, 0, []), (0, 4, 0, 0, [5]), (1, 20, 0, 0, [])]) ++ shPatch = T ++ [(0, 1, 0, 0, [256, 258, 262, 2, 0, 0, 0, 0, 0, 0]), (1, 400, 0, 0, []), (0, 4, 0, 0, [5]), (1, 20, 0, 0, []), (0, 4, 0, 0, [5]), (1, 20, 0, 0, []), (0, 4, 0, 0, [5]), (1, 20, 0, 0, [])] from List.append_assoc _ _ _]
  change RR xs md_Chart_init 43 [.ref 126] [.ref 132, .ref 126] _ _ _ _
  refine n_putF (j := 0) (e := 266) (sl := [256, 258, 262, 2, 0, 0, 0, 0, 0, 0]) (b := 132) (U' := [(0, 1, 0, 0, [256, 258, 262, 266, 0, 0, 0, 0, 0, 0]), (1, 400, 0, 0, []), (0, 4, 0, 0, [5]), (1, 20, 0, 0, []), (0, 4, 0, 0, [5]), (1, 20, 0, 0, []), (0, 4, 0, 0, [5]), (1, 20, 0, 0, [])]) d_Chart_init_43 ff_Chart_25 rfl (by omega) rfl rfl rfl (VOk_obj _ _) ?_
  refine r_aload_n d_Chart_init_46 rfl ?_
  refine r_iconst (v := 0) d_Chart_init_47 (by decide) ?_
  refine r_iconst (v := 0) d_Chart_init_48 (by decide) ?_
  refine r_iconst (v := 0) d_Chart_init_49 (by decide) ?_
  refine r_iconst (v := 0) d_Chart_init_50 (by decide) ?_
  have hcv : cvr (T ++ [(0, 1, 0, 0, [256, 258, 262, 266, 0, 0, 0, 0, 0, 0]), (1, 400, 0, 0, []), (0, 4, 0, 0, [5]), (1, 20, 0, 0, []), (0, 4, 0, 0, [5]), (1, 20, 0, 0, []), (0, 4, 0, 0, [5]), (1, 20, 0, 0, [])]) 126 (126 + 8) := n_cvr hT (fun j hj => (by decide +kernel : ∀ j : Fin 8, ([(0, 1, 0, 0, [256, 258, 262, 266, 0, 0, 0, 0, 0, 0]), (1, 400, 0, 0, []), (0, 4, 0, 0, [5]), (1, 20, 0, 0, []), (0, 4, 0, 0, [5]), (1, 20, 0, 0, []), (0, 4, 0, 0, [5]), (1, 20, 0, 0, [])] : List Shp)[j.val]? = shL[126 + j.val]?) ⟨j, hj⟩)
  refine n_callV (as := [.int 0, .int 0, .int 0, .int 0]) (st := []) (b := 126) (ci := 1) d_Chart_init_51 ml_Chart_28 mc_Chart_streamBecomes mv_Chart_streamBecomes ⟨by decide, by decide⟩ (n_isO (j := 0) (by omega) rfl) ⟨_, rfl, rfl⟩ rfl (Nat.le_of_ble_eq_true rfl) (Nat.le_of_ble_eq_true rfl) (Q1 := fun r M1 L1 => none = r ∧ M = M1 ∧ 0 = L1) (L_Chart_streamBecomes_0 hcv ⟨rfl, ?_, rfl⟩) ?_
  · rw [up_id (M := M) (a := 126) (k := 6) (hM _ (by omega) _), up_id (M := M) (a := 126) (k := 7) (hM _ (by omega) _), up_id (M := M) (a := 126) (k := 8) (hM _ (by omega) _), up_id (M := M) (a := 126) (k := 9) (hM _ (by omega) _)]
  rintro _ _ _ ⟨rfl, rfl, rfl⟩
  change RR xs md_Chart_init 54 [.ref 126] [] _ _ _ _
  refine r_aload_n d_Chart_init_54 rfl ?_
  refine r_bipush (v := 8) d_Chart_init_55 (by decide) ?_
  refine r_bipush (v := 8) d_Chart_init_57 (by decide) ?_
  refine n_callV (as := [.int 8, .int 8]) (st := []) (b := 126) (ci := 1) d_Chart_init_59 ml_Chart_32 mc_Chart_drawAnew mv_Chart_drawAnew ⟨by decide, by decide⟩ (n_isO (j := 0) (by omega) rfl) ⟨_, rfl, rfl⟩ rfl (Nat.le_of_ble_eq_true rfl) (Nat.le_of_ble_eq_true rfl) (Q1 := fun r M1 L1 => none = r ∧ ChF M M1 ∧ 0 = L1) (L_Chart_drawAnew_0 hcv ⟨rfl, ChF_of, rfl⟩) ?_
  rintro _ M1 _ ⟨rfl, hf, rfl⟩
  change RR xs md_Chart_init 62 [.ref 126] [] _ _ _ _
  exact r_vret ⟨d_Chart_init_62, rfl⟩ ⟨rfl, M1, rfl, hf⟩

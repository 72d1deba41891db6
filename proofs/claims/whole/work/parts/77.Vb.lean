/-! the constructors of the small classes -/
theorem i_Patch {xs : List Int32} {T : List Shp} {M : Mem} {a : Nat} (hT : T.length = a) (hM : ∀ k, M (a + 1) k = 0) : RR xs md_Patch_init 0 [.ref a] [] (mkH (T ++ [(0, 4, 0, 0, [2])]) M 0) 1 20 (fun r h' => r = none ∧ h' = mkH (T ++ shPatch) M 0) := by
  refine r_aload_n d_Patch_init_0 rfl ?_
  refine r_objInit d_Patch_init_1 ml_Patch_1 ob_i ob_c (Nat.le_of_ble_eq_true rfl) (Nat.le_of_ble_eq_true rfl) ?_
  refine r_aload_n d_Patch_init_4 rfl ?_
  refine r_bipush (v := 20) d_Patch_init_5 (by decide) ?_
  refine n_newi (bc := 0) (bs := 0) (a := (a + 1)) (N := 20) (U' := [(0, 4, 0, 0, [2]), (1, 20, 0, 0, [])]) d_Patch_init_7 (by decide) (by decide) (by decide) (by omega) (by omega) (by rw [List.length_append, hT]; rfl) hM rfl ?_
  refine n_putF (j := 0) (e := 5) (sl := [2]) (b := (a + 1)) (U' := [(0, 4, 0, 0, [5]), (1, 20, 0, 0, [])]) d_Patch_init_9 ff_Patch_9 rfl (by omega) rfl rfl rfl (VOk_arr _ _) ?_
  exact r_vret ⟨d_Patch_init_12, rfl⟩ ⟨rfl, rfl⟩
theorem i_Reach {xs : List Int32} {T : List Shp} {M : Mem} {a : Nat} (hT : T.length = a) (hM : ∀ k, M a k = 0) : RR xs md_Reach_init 0 [.ref a] [] (mkH (T ++ [(0, 5, 0, 0, [0, 0, 0, 0])]) M 0) 0 0 (fun r h' => r = none ∧ h' = mkH (T ++ [shReach]) M 0) := by
  refine r_aload_n d_Reach_init_0 rfl ?_
  refine r_objInit d_Reach_init_1 ml_Reach_1 ob_i ob_c (Nat.le_of_ble_eq_true rfl) (Nat.le_of_ble_eq_true rfl) ?_
  refine r_aload_n d_Reach_init_4 rfl ?_
  refine r_iconst (v := 0) d_Reach_init_5 (by decide) ?_
  refine n_putZ d_Reach_init_6 fl_Reach_7 (fun r hr => by cases hr; rfl) (n_fI (j := 0) (by omega) rfl rfl) (VOk_int _) (hM _) ?_
  refine r_aload_n d_Reach_init_9 rfl ?_
  refine r_iconst (v := 0) d_Reach_init_10 (by decide) ?_
  refine n_putZ d_Reach_init_11 fl_Reach_13 (fun r hr => by cases hr; rfl) (n_fI (j := 0) (by omega) rfl rfl) (VOk_int _) (hM _) ?_
  refine r_aload_n d_Reach_init_14 rfl ?_
  refine r_iconst (v := 0) d_Reach_init_15 (by decide) ?_
  refine n_putZ d_Reach_init_16 fl_Reach_16 (fun r hr => by cases hr; rfl) (n_fI (j := 0) (by omega) rfl rfl) (VOk_int _) (hM _) ?_
  refine r_aload_n d_Reach_init_19 rfl ?_
  refine r_iconst (v := 0) d_Reach_init_20 (by decide) ?_
  refine n_putZ d_Reach_init_21 fl_Reach_19 (fun r hr => by cases hr; rfl) (n_fI (j := 0) (by omega) rfl rfl) (VOk_int _) (hM _) ?_
  exact r_vret ⟨d_Reach_init_24, rfl⟩ ⟨rfl, rfl⟩
theorem i_Words {xs : List Int32} {T : List Shp} {M : Mem} (hT : T.length = 1) (hM : ∀ b, 1 ≤ b → ∀ k, M b k = 0) : RR xs md_Words_init 0 [.ref 1] [] (mkH (T ++ [(0, 10, 0, 0, [2, 2, 0])]) M 0) 2 48 (fun r h' => r = none ∧ h' = mkH (T ++ [(0, 10, 0, 0, [6, 8, 0]), (1, 24, 0, 0, []), (1, 24, 0, 0, [])]) M 0) := by
  refine r_aload_n d_Words_init_0 rfl ?_
  refine r_objInit d_Words_init_1 ml_Words_3 ob_i ob_c (Nat.le_of_ble_eq_true rfl) (Nat.le_of_ble_eq_true rfl) ?_
  refine r_aload_n d_Words_init_4 rfl ?_
  refine r_bipush (v := 24) d_Words_init_5 (by decide) ?_
  refine n_newi (bc := 1) (bs := 24) (a := 2) (N := 24) (U' := [(0, 10, 0, 0, [2, 2, 0]), (1, 24, 0, 0, [])]) d_Words_init_7 (by decide) (by decide) (by decide) (by omega) (by omega) (by rw [List.length_append, hT]; rfl) (fun k => hM _ (by omega) k) rfl ?_
  refine n_putF (j := 0) (e := 6) (sl := [2, 2, 0]) (b := 2) (U' := [(0, 10, 0, 0, [6, 2, 0]), (1, 24, 0, 0, [])]) d_Words_init_9 ff_Words_11 rfl (by omega) rfl rfl rfl (VOk_arr _ _) ?_
  refine r_aload_n d_Words_init_12 rfl ?_
  refine r_bipush (v := 24) d_Words_init_13 (by decide) ?_
  refine n_newi (bc := 0) (bs := 0) (a := 3) (N := 24) (U' := [(0, 10, 0, 0, [6, 2, 0]), (1, 24, 0, 0, []), (1, 24, 0, 0, [])]) d_Words_init_15 (by decide) (by decide) (by decide) (by omega) (by omega) (by rw [List.length_append, hT]; rfl) (fun k => hM _ (by omega) k) rfl ?_
  refine n_putF (j := 0) (e := 8) (sl := [6, 2, 0]) (b := 3) (U' := [(0, 10, 0, 0, [6, 8, 0]), (1, 24, 0, 0, []), (1, 24, 0, 0, [])]) d_Words_init_17 ff_Words_15 rfl (by omega) rfl rfl rfl (VOk_arr _ _) ?_
  refine r_aload_n d_Words_init_20 rfl ?_
  refine r_iconst (v := 0) d_Words_init_21 (by decide) ?_
  refine n_putZ d_Words_init_22 fl_Words_18 (fun r hr => by cases hr; rfl) (n_fI (j := 0) (by omega) rfl rfl) (VOk_int _) ((fun k => hM _ (by omega) k) _) ?_
  exact r_vret ⟨d_Words_init_25, rfl⟩ ⟨rfl, rfl⟩
theorem i_Voyage {xs : List Int32} {T : List Shp} {M : Mem} (hT : T.length = 510) (hM : ∀ b, 510 ≤ b → ∀ k, M b k = 0) : RR xs md_Voyage_init 0 [.ref 510, .ref 126] [] (mkH (T ++ [(0, 8, 0, 0, [2, 2, 2, 2, 0, 0])]) M 0) 5 46 (fun r h' => r = none ∧ h' = mkH (T ++ [(0, 8, 0, 0, [254, 1024, 1028, 1032, 0, 0]), (0, 4, 0, 0, [5]), (1, 20, 0, 0, []), (0, 4, 0, 0, [5]), (1, 20, 0, 0, []), (0, 5, 0, 0, [0, 0, 0, 0])]) M 0) := by
  refine r_aload_n d_Voyage_init_0 rfl ?_
  refine r_objInit d_Voyage_init_1 ml_Voyage_3 ob_i ob_c (Nat.le_of_ble_eq_true rfl) (Nat.le_of_ble_eq_true rfl) ?_
  refine r_aload_n d_Voyage_init_4 rfl ?_
  refine r_aload_n d_Voyage_init_5 rfl ?_
  refine n_putF (j := 0) (e := 254) (sl := [2, 2, 2, 2, 0, 0]) (b := 126) (U' := [(0, 8, 0, 0, [254, 2, 2, 2, 0, 0])]) d_Voyage_init_6 ff_Voyage_9 rfl (by omega) rfl rfl rfl (VOk_obj _ _) ?_
  refine r_aload_n d_Voyage_init_9 rfl ?_
  refine n_new (bc := 4) (bs := 45) (a := 511) (dsl := [2]) d_Voyage_init_10 cl_Voyage_15 (by omega) (by omega) (by rw [List.length_append, hT]; rfl) (fun k => hM _ (by omega) k) (by decide) rfl ?_
  refine r_dup d_Voyage_init_13 rfl ?_
  refine r_bud (bc := 3 + 1) (bs := 25 + 20) (by omega) (by omega) (r_callI (as := []) (st := [.ref 511, .ref 510]) d_Voyage_init_14 ml_Voyage_17 mc_Patch_init mi_Patch_init rfl rfl ⟨by decide, by decide⟩ rfl (Nat.le_of_ble_eq_true rfl) (Nat.le_of_ble_eq_true rfl) (i_Patch (by rw [List.length_append, hT]; rfl) (fun k => hM _ (by omega) k)) ?_)
  rintro _ _ ⟨rfl, rfl⟩
  rw [show (T ++ [(0, 8, 0, 0, [254, 2, 2, 2, 0, 0])]) ++ shPatch = T ++ [(0, 8, 0, 0, [254, 2, 2, 2, 0, 0]), (0, 4, 0, 0, [5]), (1, 20, 0, 0, [])] from List.append_assoc _ _ _]
  change RR xs md_Voyage_init 17 [.ref 510, .ref 126] [.ref 511, .ref 510] _ _ _ _
  refine n_putF (j := 0) (e := 1024) (sl := [254, 2, 2, 2, 0, 0]) (b := 511) (U' := [(0, 8, 0, 0, [254, 1024, 2, 2, 0, 0]), (0, 4, 0, 0, [5]), (1, 20, 0, 0, [])]) d_Voyage_init_17 ff_Voyage_18 rfl (by omega) rfl rfl rfl (VOk_obj _ _) ?_
  refine r_aload_n d_Voyage_init_20 rfl ?_
  refine n_new (bc := 2) (bs := 24) (a := 513) (dsl := [2]) d_Voyage_init_21 cl_Voyage_15 (by omega) (by omega) (by rw [List.length_append, hT]; rfl) (fun k => hM _ (by omega) k) (by decide) rfl ?_
  refine r_dup d_Voyage_init_24 rfl ?_
  refine r_bud (bc := 1 + 1) (bs := 4 + 20) (by omega) (by omega) (r_callI (as := []) (st := [.ref 513, .ref 510]) d_Voyage_init_25 ml_Voyage_17 mc_Patch_init mi_Patch_init rfl rfl ⟨by decide, by decide⟩ rfl (Nat.le_of_ble_eq_true rfl) (Nat.le_of_ble_eq_true rfl) (i_Patch (by rw [List.length_append, hT]; rfl) (fun k => hM _ (by omega) k)) ?_)
  rintro _ _ ⟨rfl, rfl⟩
  rw [show (T ++ [(0, 8, 0, 0, [254, 1024, 2, 2, 0, 0]), (0, 4, 0, 0, [5]), (1, 20, 0, 0, [])]) ++ shPatch = T ++ [(0, 8, 0, 0, [254, 1024, 2, 2, 0, 0]), (0, 4, 0, 0, [5]), (1, 20, 0, 0, []), (0, 4, 0, 0, [5]), (1, 20, 0, 0, [])] from List.append_assoc _ _ _]
  change RR xs md_Voyage_init 28 [.ref 510, .ref 126] [.ref 513, .ref 510] _ _ _ _
  refine n_putF (j := 0) (e := 1028) (sl := [254, 1024, 2, 2, 0, 0]) (b := 513) (U' := [(0, 8, 0, 0, [254, 1024, 1028, 2, 0, 0]), (0, 4, 0, 0, [5]), (1, 20, 0, 0, []), (0, 4, 0, 0, [5]), (1, 20, 0, 0, [])]) d_Voyage_init_28 ff_Voyage_22 rfl (by omega) rfl rfl rfl (VOk_obj _ _) ?_
  refine r_aload_n d_Voyage_init_31 rfl ?_
  refine n_new (bc := 0) (bs := 0) (a := 515) (dsl := [0, 0, 0, 0]) d_Voyage_init_32 cl_Voyage_25 (by omega) (by omega) (by rw [List.length_append, hT]; rfl) (fun k => hM _ (by omega) k) (by decide) rfl ?_
  refine r_dup d_Voyage_init_35 rfl ?_
  refine r_bud (bc := 0 + 0) (bs := 0 + 0) (by omega) (by omega) (r_callI (as := []) (st := [.ref 515, .ref 510]) d_Voyage_init_36 ml_Voyage_27 mc_Reach_init mi_Reach_init rfl rfl ⟨by decide, by decide⟩ rfl (Nat.le_of_ble_eq_true rfl) (Nat.le_of_ble_eq_true rfl) (i_Reach (by rw [List.length_append, hT]; rfl) (fun k => hM _ (by omega) k)) ?_)
  rintro _ _ ⟨rfl, rfl⟩
  rw [show (T ++ [(0, 8, 0, 0, [254, 1024, 1028, 2, 0, 0]), (0, 4, 0, 0, [5]), (1, 20, 0, 0, []), (0, 4, 0, 0, [5]), (1, 20, 0, 0, [])]) ++ [shReach] = T ++ [(0, 8, 0, 0, [254, 1024, 1028, 2, 0, 0]), (0, 4, 0, 0, [5]), (1, 20, 0, 0, []), (0, 4, 0, 0, [5]), (1, 20, 0, 0, []), (0, 5, 0, 0, [0, 0, 0, 0])] from List.append_assoc _ _ _]
  change RR xs md_Voyage_init 39 [.ref 510, .ref 126] [.ref 515, .ref 510] _ _ _ _
  refine n_putF (j := 0) (e := 1032) (sl := [254, 1024, 1028, 2, 0, 0]) (b := 515) (U' := [(0, 8, 0, 0, [254, 1024, 1028, 1032, 0, 0]), (0, 4, 0, 0, [5]), (1, 20, 0, 0, []), (0, 4, 0, 0, [5]), (1, 20, 0, 0, []), (0, 5, 0, 0, [0, 0, 0, 0])]) d_Voyage_init_39 ff_Voyage_28 rfl (by omega) rfl rfl rfl (VOk_obj _ _) ?_
  refine r_aload_n d_Voyage_init_42 rfl ?_
  refine r_iconst (v := 0) d_Voyage_init_43 (by decide) ?_
  refine n_putZ d_Voyage_init_44 fl_Voyage_32 (fun r hr => by cases hr; rfl) (n_fI (j := 0) (by omega) rfl rfl) (VOk_int _) ((fun k => hM _ (by omega) k) _) ?_
  refine r_aload_n d_Voyage_init_47 rfl ?_
  refine r_iconst (v := 0) d_Voyage_init_48 (by decide) ?_
  refine n_putZ d_Voyage_init_49 fl_Voyage_36 (fun r hr => by cases hr; rfl) (n_fI (j := 0) (by omega) rfl rfl) (VOk_int _) ((fun k => hM _ (by omega) k) _) ?_
  exact r_vret ⟨d_Voyage_init_52, rfl⟩ ⟨rfl, rfl⟩

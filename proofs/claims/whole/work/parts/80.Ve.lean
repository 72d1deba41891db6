/-! the reckoning's constructor -/
def rkO (a b c d e f g h i : Nat) : Shp := (0, 6, 0, 0, [a, b, c, d, e, f, g, h, i, 0])
def rkU (i j : Nat) : List Shp := [(0, 6, 0, 0, [254, 10, 270, 676, 678, 2, 2, 2, 2, 0]), (3, 4, 41, 339, [4, i]), (3, 4, 41, 341, [4, j])]
abbrev shP2 : List Shp := shPatch ++ shPatch
theorem i_Reck_tail {xs : List Int32} {T Y : List Shp} {M : Mem} (hT : T.length = 336) (hY : Y.length = 166) (hM : ∀ b, 336 ≤ b → ∀ k, M b k = 0) : RR xs md_Reckoning_init 81 [.ref 336, .ref 126, .ref 4, .ref 134, .int (nI 41)] [] (mkH (T ++ ((0, 6, 0, 0, [254, 10, 270, 676, 678, 2, 2, 2, 2, 0]) :: Y)) M 0) 7 843 (fun r h' => r = none ∧ h' = mkH (T ++ ((0, 6, 0, 0, [254, 10, 270, 676, 678, 1008, 1012, 1016, 1020, 0]) :: (Y ++ shPatch ++ shPatch ++ shPatch ++ [(1, 780, 0, 0, [])]))) M 0) := by
  have hY1 : (Y ++ shPatch).length = 168 := by rw [List.length_append, hY]; rfl
  have hY2 : (Y ++ shPatch ++ shPatch).length = 170 := by rw [List.length_append, hY1]; rfl
  have hY3 : (Y ++ shPatch ++ shPatch ++ shPatch).length = 172 := by rw [List.length_append, hY2]; rfl
  have hl0 : (T ++ ((0, 6, 0, 0, [254, 10, 270, 676, 678, 2, 2, 2, 2, 0]) :: (Y))).length = 503 := by simp [hT, hY]
  refine r_aload_n d_Reckoning_init_81 rfl ?_
  refine n_new (bc := 6) (bs := 842) (a := 503) (dsl := [2]) d_Reckoning_init_82 cl_Reckoning_25 (by omega) (by omega) hl0 (fun k => hM _ (by omega) k) (by decide) rfl ?_
  refine r_dup d_Reckoning_init_85 rfl ?_
  refine r_bud (bc := 5 + 1) (bs := 822 + 20) (by omega) (by omega) (r_callI (as := []) (st := [.ref 503, .ref 336]) d_Reckoning_init_86 ml_Reckoning_34 mc_Patch_init mi_Patch_init rfl rfl ⟨by decide, by decide⟩ rfl (Nat.le_of_ble_eq_true rfl) (Nat.le_of_ble_eq_true rfl) (i_Patch hl0 (fun k => hM _ (by omega) k)) ?_)
  rintro _ _ ⟨rfl, rfl⟩
  rw [show (T ++ ((0, 6, 0, 0, [254, 10, 270, 676, 678, 2, 2, 2, 2, 0]) :: (Y))) ++ shPatch = T ++ ((0, 6, 0, 0, [254, 10, 270, 676, 678, 2, 2, 2, 2, 0]) :: (Y ++ shPatch)) from List.append_assoc _ _ _]
  change RR xs md_Reckoning_init 89 [.ref 336, .ref 126, .ref 4, .ref 134, .int (nI 41)] [.ref 503, .ref 336] _ _ _ _
  refine n_putF (j := 0) (e := 1008) (sl := [254, 10, 270, 676, 678, 2, 2, 2, 2, 0]) (b := 503) (U' := (0, 6, 0, 0, [254, 10, 270, 676, 678, 1008, 2, 2, 2, 0]) :: (Y ++ shPatch)) d_Reckoning_init_89 ff_Reckoning_35 rfl (by omega) rfl rfl rfl (VOk_obj _ _) ?_
  have hl1 : (T ++ ((0, 6, 0, 0, [254, 10, 270, 676, 678, 1008, 2, 2, 2, 0]) :: (Y ++ shPatch))).length = 505 := by rw [List.length_append, List.length_cons, hT, hY1]
  refine r_aload_n d_Reckoning_init_92 rfl ?_
  refine n_new (bc := 4) (bs := 821) (a := 505) (dsl := [2]) d_Reckoning_init_93 cl_Reckoning_25 (by omega) (by omega) hl1 (fun k => hM _ (by omega) k) (by decide) rfl ?_
  refine r_dup d_Reckoning_init_96 rfl ?_
  refine r_bud (bc := 3 + 1) (bs := 801 + 20) (by omega) (by omega) (r_callI (as := []) (st := [.ref 505, .ref 336]) d_Reckoning_init_97 ml_Reckoning_34 mc_Patch_init mi_Patch_init rfl rfl ⟨by decide, by decide⟩ rfl (Nat.le_of_ble_eq_true rfl) (Nat.le_of_ble_eq_true rfl) (i_Patch hl1 (fun k => hM _ (by omega) k)) ?_)
  rintro _ _ ⟨rfl, rfl⟩
  rw [show (T ++ ((0, 6, 0, 0, [254, 10, 270, 676, 678, 1008, 2, 2, 2, 0]) :: (Y ++ shPatch))) ++ shPatch = T ++ ((0, 6, 0, 0, [254, 10, 270, 676, 678, 1008, 2, 2, 2, 0]) :: (Y ++ shPatch ++ shPatch)) from List.append_assoc _ _ _]
  change RR xs md_Reckoning_init 100 [.ref 336, .ref 126, .ref 4, .ref 134, .int (nI 41)] [.ref 505, .ref 336] _ _ _ _
  refine n_putF (j := 0) (e := 1012) (sl := [254, 10, 270, 676, 678, 1008, 2, 2, 2, 0]) (b := 505) (U' := (0, 6, 0, 0, [254, 10, 270, 676, 678, 1008, 1012, 2, 2, 0]) :: (Y ++ shPatch ++ shPatch)) d_Reckoning_init_100 ff_Reckoning_39 rfl (by omega) rfl rfl rfl (VOk_obj _ _) ?_
  have hl2 : (T ++ ((0, 6, 0, 0, [254, 10, 270, 676, 678, 1008, 1012, 2, 2, 0]) :: (Y ++ shPatch ++ shPatch))).length = 507 := by rw [List.length_append, List.length_cons, hT, hY2]
  refine r_aload_n d_Reckoning_init_103 rfl ?_
  refine n_new (bc := 2) (bs := 800) (a := 507) (dsl := [2]) d_Reckoning_init_104 cl_Reckoning_25 (by omega) (by omega) hl2 (fun k => hM _ (by omega) k) (by decide) rfl ?_
  refine r_dup d_Reckoning_init_107 rfl ?_
  refine r_bud (bc := 1 + 1) (bs := 780 + 20) (by omega) (by omega) (r_callI (as := []) (st := [.ref 507, .ref 336]) d_Reckoning_init_108 ml_Reckoning_34 mc_Patch_init mi_Patch_init rfl rfl ⟨by decide, by decide⟩ rfl (Nat.le_of_ble_eq_true rfl) (Nat.le_of_ble_eq_true rfl) (i_Patch hl2 (fun k => hM _ (by omega) k)) ?_)
  rintro _ _ ⟨rfl, rfl⟩
  rw [show (T ++ ((0, 6, 0, 0, [254, 10, 270, 676, 678, 1008, 1012, 2, 2, 0]) :: (Y ++ shPatch ++ shPatch))) ++ shPatch = T ++ ((0, 6, 0, 0, [254, 10, 270, 676, 678, 1008, 1012, 2, 2, 0]) :: (Y ++ shPatch ++ shPatch ++ shPatch)) from List.append_assoc _ _ _]
  change RR xs md_Reckoning_init 111 [.ref 336, .ref 126, .ref 4, .ref 134, .int (nI 41)] [.ref 507, .ref 336] _ _ _ _
  refine n_putF (j := 0) (e := 1016) (sl := [254, 10, 270, 676, 678, 1008, 1012, 2, 2, 0]) (b := 507) (U' := (0, 6, 0, 0, [254, 10, 270, 676, 678, 1008, 1012, 1016, 2, 0]) :: (Y ++ shPatch ++ shPatch ++ shPatch)) d_Reckoning_init_111 ff_Reckoning_42 rfl (by omega) rfl rfl rfl (VOk_obj _ _) ?_
  refine r_aload_n d_Reckoning_init_114 rfl ?_
  refine r_sipush (v := 780) d_Reckoning_init_115 (by decide) ?_
  refine n_newi (bc := 0) (bs := 0) (a := 509) (N := 780) (U' := (0, 6, 0, 0, [254, 10, 270, 676, 678, 1008, 1012, 1016, 2, 0]) :: (Y ++ shPatch ++ shPatch ++ shPatch ++ [(1, 780, 0, 0, [])])) d_Reckoning_init_118 (by decide) (by decide) (by decide) (by omega) (by omega) (by rw [List.length_append, List.length_cons, hT, hY3]) (fun k => hM _ (by omega) k) rfl ?_
  refine n_putF (j := 0) (e := 1020) (sl := [254, 10, 270, 676, 678, 1008, 1012, 1016, 2, 0]) (b := 509) (U' := (0, 6, 0, 0, [254, 10, 270, 676, 678, 1008, 1012, 1016, 1020, 0]) :: (Y ++ shPatch ++ shPatch ++ shPatch ++ [(1, 780, 0, 0, [])])) d_Reckoning_init_120 ff_Reckoning_45 rfl (by omega) rfl rfl rfl (VOk_arr _ _) ?_
  refine r_aload_n d_Reckoning_init_123 rfl ?_
  refine r_iconst (v := 0) d_Reckoning_init_124 (by decide) ?_
  refine n_putZ d_Reckoning_init_125 fl_Reckoning_49 (fun r hr => by cases hr; rfl) (n_fI (j := 0) (by omega) rfl rfl) (VOk_int _) (hM _ (by omega) _) ?_
  exact r_vret ⟨d_Reckoning_init_128, rfl⟩ ⟨rfl, rfl⟩
theorem i_Reck_loop {xs : List Int32} {T : List Shp} {M : Mem} {Q : Option Value → List Ce → Prop} (hT : T.length = 336) (hM : ∀ b, 336 ≤ b → ∀ k, M b k = 0) (kk : RR xs md_Reckoning_init 81 [.ref 336, .ref 126, .ref 4, .ref 134, .int (nI 41)] [] (mkH (T ++ (rkU 41 41 ++ repS shP2 41)) M 0) 7 843 Q) : ∀ n i, i + n = 41 → RR xs md_Reckoning_init 40 [.ref 336, .ref 126, .ref 4, .ref 134, .int (nI i)] [] (mkH (T ++ (rkU i i ++ repS shP2 i)) M 0) (4 * n + 7) (42 * n + 843) Q := by
  intro n
  induction n with
  | zero =>
    intro i hi
    have : i = 41 := by omega
    subst this
    refine r_iload d_Reckoning_init_40 rfl ?_
    refine r_bipush (v := 40) d_Reckoning_init_42 (by decide) ?_
    exact r_ic_gt d_Reckoning_init_44 (fun _ => kk) (fun c => absurd (by decide) c)
  | succ n ih =>
    intro i hi
    have hl : (T ++ (rkU i i ++ repS shP2 i)).length = 339 + 4 * i := by
      rw [List.length_append, List.length_append, repS_len, hT]
      show 336 + (3 + i * 4) = _
      omega
    have hl2 : (T ++ (rkU (i + 1) i ++ (repS shP2 i ++ shPatch))).length = 341 + 4 * i := by
      rw [List.length_append, List.length_append, List.length_append, repS_len, hT]
      show 336 + (3 + (i * 4 + 2)) = _
      omega
    refine r_iload d_Reckoning_init_40 rfl ?_
    refine r_bipush (v := 40) d_Reckoning_init_42 (by decide) ?_
    refine r_ic_gt d_Reckoning_init_44 (fun c => absurd ((nI_ltI (a := 40) (b := i) (by omega) (by omega)).mp c) (by omega)) (fun _ => ?_)
    refine r_aload_n d_Reckoning_init_47 rfl ?_
    refine n_getR (j := 0) (e := 676) (sl := [254, 10, 270, 676, 678, 2, 2, 2, 2, 0]) (b := 337) d_Reckoning_init_48 fl_Reckoning_27 (by omega) rfl rfl rfl ?_
    refine r_iload d_Reckoning_init_51 rfl ?_
    refine n_new (bc := 4 * n + 7 + 3) (bs := 42 * n + 843 + 41) (a := (339 + 4 * i)) (dsl := [2]) d_Reckoning_init_53 cl_Reckoning_25 (by omega) (by omega) hl (fun k => hM _ (by omega) k) (by decide) rfl ?_
    refine r_dup d_Reckoning_init_56 rfl ?_
    refine r_bud (bc := 4 * n + 7 + 2 + 1) (bs := 42 * n + 843 + 21 + 20) (by omega) (by omega) (r_callI (as := []) (st := [.ref (339 + 4 * i), .int (nI i), .ref 337]) d_Reckoning_init_57 ml_Reckoning_34 mc_Patch_init mi_Patch_init rfl rfl ⟨by decide, by decide⟩ rfl (Nat.le_of_ble_eq_true rfl) (Nat.le_of_ble_eq_true rfl) (i_Patch hl (fun k => hM _ (by omega) k)) ?_)
    rintro _ _ ⟨rfl, rfl⟩
    change RR xs md_Reckoning_init 60 [.ref 336, .ref 126, .ref 4, .ref 134, .int (nI i)] [.ref (339 + 4 * i), .int (nI i), .ref 337] _ _ _ _
    refine n_aast (N := 41) (b := 339) (d := 4) (i := i) (ci := 4) (fs := slotsV M 0 (339 + 4 * i) [5]) (S' := T ++ (rkU (i + 1) i ++ (repS shP2 i ++ shPatch))) d_Reckoning_init_60 ?_ (vp_nI (by omega) (by omega)) (nI_cl (by omega)) rfl ?_ ?_ ?_
    · rw [List.append_assoc, get_app (j := 1) (by omega)]; rfl
    · rw [mk_get, get_app (j := 0) (by omega)]; rfl
    · rw [List.append_assoc, List.append_assoc, set_app (j := 1) (by omega)]; rfl
    refine r_aload_n d_Reckoning_init_61 rfl ?_
    refine n_getR (j := 0) (e := 678) (sl := [254, 10, 270, 676, 678, 2, 2, 2, 2, 0]) (b := 338) d_Reckoning_init_62 fl_Reckoning_31 (by omega) rfl rfl rfl ?_
    refine r_iload d_Reckoning_init_65 rfl ?_
    refine n_new (bc := 4 * n + 7 + 1) (bs := 42 * n + 843 + 20) (a := (341 + 4 * i)) (dsl := [2]) d_Reckoning_init_67 cl_Reckoning_25 (by omega) (by omega) hl2 (fun k => hM _ (by omega) k) (by decide) rfl ?_
    refine r_dup d_Reckoning_init_70 rfl ?_
    refine r_bud (bc := 4 * n + 7 + 1) (bs := 42 * n + 843 + 20) (by omega) (by omega) (r_callI (as := []) (st := [.ref (341 + 4 * i), .int (nI i), .ref 338]) d_Reckoning_init_71 ml_Reckoning_34 mc_Patch_init mi_Patch_init rfl rfl ⟨by decide, by decide⟩ rfl (Nat.le_of_ble_eq_true rfl) (Nat.le_of_ble_eq_true rfl) (i_Patch hl2 (fun k => hM _ (by omega) k)) ?_)
    rintro _ _ ⟨rfl, rfl⟩
    change RR xs md_Reckoning_init 74 [.ref 336, .ref 126, .ref 4, .ref 134, .int (nI i)] [.ref (341 + 4 * i), .int (nI i), .ref 338] _ _ _ _
    refine n_aast (N := 41) (b := 341) (d := 4) (i := i) (ci := 4) (fs := slotsV M 0 (341 + 4 * i) [5]) (S' := T ++ (rkU (i + 1) (i + 1) ++ repS shP2 (i + 1))) d_Reckoning_init_74 ?_ (vp_nI (by omega) (by omega)) (nI_cl (by omega)) rfl ?_ ?_ ?_
    · rw [List.append_assoc, get_app (j := 2) (by omega)]; rfl
    · rw [mk_get, get_app (j := 0) (by omega)]; rfl
    · rw [List.append_assoc, List.append_assoc, List.append_assoc, set_app (j := 2) (by omega), repS_1]; rfl
    refine r_iinc (v := nI (i + 1)) d_Reckoning_init_75 rfl (nI_1 i) (by decide) ?_
    refine r_goto d_Reckoning_init_78 ?_
    exact ih (i + 1) (by omega)
theorem i_Reck {xs : List Int32} {T : List Shp} {M : Mem} (hT : T.length = 336) (hM : ∀ b, 336 ≤ b → ∀ k, M b k = 0) : RR xs md_Reckoning_init 0 [.ref 336, .ref 126, .ref 4, .ref 134] [] (mkH (T ++ [(0, 6, 0, 0, [2, 2, 2, 2, 2, 2, 2, 2, 2, 0])]) M 0) 173 2647 (fun r h' => r = none ∧ h' = mkH (T ++ ((0, 6, 0, 0, [254, 10, 270, 676, 678, 1008, 1012, 1016, 1020, 0]) :: ((3, 4, 41, 339, [4, 41]) :: (3, 4, 41, 341, [4, 41]) :: repS shP2 41 ++ shPatch ++ shPatch ++ shPatch ++ [(1, 780, 0, 0, [])]))) M 0) := by
  refine r_weak (lv' := [.ref 336, .ref 126, .ref 4, .ref 134, .null]) (by repeat (first | exact trivial | refine ⟨rfl, ?_⟩ | exact lle_nil)) ?_
  refine r_aload_n d_Reckoning_init_0 rfl ?_
  refine r_objInit d_Reckoning_init_1 ml_Reckoning_5 ob_i ob_c (Nat.le_of_ble_eq_true rfl) (Nat.le_of_ble_eq_true rfl) ?_
  refine r_aload_n d_Reckoning_init_4 rfl ?_
  refine r_aload_n d_Reckoning_init_5 rfl ?_
  refine n_putF (j := 0) (e := 254) (sl := [2, 2, 2, 2, 2, 2, 2, 2, 2, 0]) (b := 126) (U' := [(0, 6, 0, 0, [254, 2, 2, 2, 2, 2, 2, 2, 2, 0])]) d_Reckoning_init_6 ff_Reckoning_11 rfl (by omega) rfl rfl rfl (VOk_obj _ _) ?_
  refine r_aload_n d_Reckoning_init_9 rfl ?_
  refine r_aload_n d_Reckoning_init_10 rfl ?_
  refine n_putF (j := 0) (e := 10) (sl := [254, 2, 2, 2, 2, 2, 2, 2, 2, 0]) (b := 4) (U' := [(0, 6, 0, 0, [254, 10, 2, 2, 2, 2, 2, 2, 2, 0])]) d_Reckoning_init_11 ff_Reckoning_17 rfl (by omega) rfl rfl rfl (VOk_obj _ _) ?_
  refine r_aload_n d_Reckoning_init_14 rfl ?_
  refine r_aload_n d_Reckoning_init_15 rfl ?_
  refine n_putF (j := 0) (e := 270) (sl := [254, 10, 2, 2, 2, 2, 2, 2, 2, 0]) (b := 134) (U' := [(0, 6, 0, 0, [254, 10, 270, 2, 2, 2, 2, 2, 2, 0])]) d_Reckoning_init_16 ff_Reckoning_21 rfl (by omega) rfl rfl rfl (VOk_obj _ _) ?_
  refine r_aload_n d_Reckoning_init_19 rfl ?_
  refine r_bipush (v := 41) d_Reckoning_init_20 (by decide) ?_
  refine n_newq (bc := 172) (bs := 2606) (a := 337) (N := 41) (b := 339) (d := 4) (U' := [(0, 6, 0, 0, [254, 10, 270, 2, 2, 2, 2, 2, 2, 0]), (3, 4, 41, 339, [4, 0])]) d_Reckoning_init_22 cq_Reckoning_25 (by decide) (by decide) (by decide) (by omega) (by omega) (by rw [List.length_append, hT]; rfl) rfl ?_
  refine n_putF (j := 0) (e := 676) (sl := [254, 10, 270, 2, 2, 2, 2, 2, 2, 0]) (b := 337) (U' := [(0, 6, 0, 0, [254, 10, 270, 676, 2, 2, 2, 2, 2, 0]), (3, 4, 41, 339, [4, 0])]) d_Reckoning_init_25 ff_Reckoning_27 rfl (by omega) rfl rfl rfl (VOk_arr _ _) ?_
  refine r_aload_n d_Reckoning_init_28 rfl ?_
  refine r_bipush (v := 41) d_Reckoning_init_29 (by decide) ?_
  refine n_newq (bc := 171) (bs := 2565) (a := 338) (N := 41) (b := 341) (d := 4) (U' := [(0, 6, 0, 0, [254, 10, 270, 676, 2, 2, 2, 2, 2, 0]), (3, 4, 41, 339, [4, 0]), (3, 4, 41, 341, [4, 0])]) d_Reckoning_init_31 cq_Reckoning_25 (by decide) (by decide) (by decide) (by omega) (by omega) (by rw [List.length_append, hT]; rfl) rfl ?_
  refine n_putF (j := 0) (e := 678) (sl := [254, 10, 270, 676, 2, 2, 2, 2, 2, 0]) (b := 338) (U' := [(0, 6, 0, 0, [254, 10, 270, 676, 678, 2, 2, 2, 2, 0]), (3, 4, 41, 339, [4, 0]), (3, 4, 41, 341, [4, 0])]) d_Reckoning_init_34 ff_Reckoning_31 rfl (by omega) rfl rfl rfl (VOk_arr _ _) ?_
  refine r_iconst (v := 0) d_Reckoning_init_37 (by decide) ?_
  refine r_istore d_Reckoning_init_38 (by decide) ?_
  have key := i_Reck_loop (xs := xs) hT hM (i_Reck_tail (Y := (3, 4, 41, 339, [4, 41]) :: (3, 4, 41, 341, [4, 41]) :: repS shP2 41) hT (by rw [List.length_cons, List.length_cons, repS_len]; rfl) hM) 41 0 rfl
  rw [nI_0] at key
  exact key

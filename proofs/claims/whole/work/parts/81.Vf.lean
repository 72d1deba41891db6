/-! the constructor of the watch: everything behind it -/
def pX1 : List Shp := [] ++ [(0, 10, 0, 0, [6, 8, 0]), (1, 24, 0, 0, []), (1, 24, 0, 0, [])]
def pX2 : List Shp := pX1 ++ (bdU 24 ++ repS shWatch 24)
def pX3 : List Shp := pX2 ++ [(0, 1, 0, 0, [256, 258, 262, 266, 0, 0, 0, 0, 0, 0]), (1, 400, 0, 0, []), (0, 4, 0, 0, [5]), (1, 20, 0, 0, []), (0, 4, 0, 0, [5]), (1, 20, 0, 0, []), (0, 4, 0, 0, [5]), (1, 20, 0, 0, [])]
def pX4 : List Shp := pX3 ++ (lgU 40 ++ repS shRow 40)
def pX5 : List Shp := pX4 ++ ((0, 6, 0, 0, [254, 10, 270, 676, 678, 1008, 1012, 1016, 1020, 0]) :: ((3, 4, 41, 339, [4, 41]) :: (3, 4, 41, 341, [4, 41]) :: repS shP2 41 ++ shPatch ++ shPatch ++ shPatch ++ [(1, 780, 0, 0, [])]))
def pX6 : List Shp := pX5 ++ [(0, 8, 0, 0, [254, 1024, 1028, 1032, 0, 0]), (0, 4, 0, 0, [5]), (1, 20, 0, 0, []), (0, 4, 0, 0, [5]), (1, 20, 0, 0, []), (0, 5, 0, 0, [0, 0, 0, 0])]
def zM : Mem := fun _ _ => 0
def MB : Mem := up (pgM zM 24) 4 2 2000
theorem MB_z {b : Nat} (h : 126 ≤ b ∨ b < 4) (k : Nat) : MB b k = 0 := by
  unfold MB
  rw [up_ne _ _ (by omega), pgM_o (by omega)]; rfl
theorem ChF_z {M1 : Mem} (h : ChF MB M1) {b : Nat} (hb : 134 ≤ b ∨ b < 4) (k : Nat) : M1 b k = 0 := by
  rw [h.1 b k (by omega) (by omega) (by omega) (by omega) (by omega)]; exact MB_z (by omega) k
theorem i_Peg {xs : List Int32} : RR xs md_Peg_init 0 [.ref 0] [] (mkH ([] ++ [(0, 11, 0, 0, [2, 2, 2, 2, 2, 2, 0, 0, 0])]) zM 0) 515 5529 (fun r h' => r = none ∧ ∃ M1, ChF MB M1 ∧ h' = mkH ([] ++ ((0, 11, 0, 0, [4, 10, 254, 270, 674, 1022, 0, 0, 0]) :: pX6)) (rgM M1 40) 0) := by
  have hT : ([] : List Shp).length = 0 := rfl
  refine r_aload_n d_Peg_init_0 rfl ?_
  refine r_objInit d_Peg_init_1 ml_Peg_1 ob_i ob_c (Nat.le_of_ble_eq_true rfl) (Nat.le_of_ble_eq_true rfl) ?_
  have hl0 : ([] ++ ((0, 11, 0, 0, [2, 2, 2, 2, 2, 2, 0, 0, 0]) :: []) : List Shp).length = 1 := by decide +kernel
  refine r_aload_n d_Peg_init_4 rfl ?_
  refine n_new (bc := 514) (bs := 5526) (a := 1) (dsl := [2, 2, 0]) d_Peg_init_5 cl_Peg_7 (by omega) (by omega) hl0 (fun k => rfl) (by decide) rfl ?_
  refine r_dup d_Peg_init_8 rfl ?_
  refine r_bud (bc := 512 + 2) (bs := 5478 + 48) (by omega) (by omega) (r_callI (as := []) (st := [.ref 1, .ref 0]) d_Peg_init_9 ml_Peg_9 mc_Words_init mi_Words_init rfl rfl ⟨by decide, by decide⟩ rfl (Nat.le_of_ble_eq_true rfl) (Nat.le_of_ble_eq_true rfl) (i_Words (M := zM) hl0 (fun b hb k => rfl)) ?_)
  rintro _ _ ⟨rfl, rfl⟩
  rw [show ([] ++ ((0, 11, 0, 0, [2, 2, 2, 2, 2, 2, 0, 0, 0]) :: [])) ++ [(0, 10, 0, 0, [6, 8, 0]), (1, 24, 0, 0, []), (1, 24, 0, 0, [])] = [] ++ ((0, 11, 0, 0, [2, 2, 2, 2, 2, 2, 0, 0, 0]) :: pX1) from List.append_assoc _ _ _]
  change RR xs md_Peg_init 12 [.ref 0] [.ref 1, .ref 0] _ _ _ _
  refine n_putF (j := 0) (e := 4) (sl := [2, 2, 2, 2, 2, 2, 0, 0, 0]) (b := 1) (U' := (0, 11, 0, 0, [4, 2, 2, 2, 2, 2, 0, 0, 0]) :: pX1) d_Peg_init_12 ff_Peg_10 rfl (by omega) rfl rfl rfl (VOk_obj _ _) ?_
  have hl1 : ([] ++ ((0, 11, 0, 0, [4, 2, 2, 2, 2, 2, 0, 0, 0]) :: pX1) : List Shp).length = 4 := by decide +kernel
  refine r_aload_n d_Peg_init_15 rfl ?_
  refine n_new (bc := 511) (bs := 5475) (a := 4) (dsl := [2, 0, 0]) d_Peg_init_16 cl_Peg_16 (by omega) (by omega) hl1 (fun k => rfl) (by decide) rfl ?_
  refine r_dup d_Peg_init_19 rfl ?_
  refine r_bud (bc := 390 + 121) (bs := 4707 + 768) (by omega) (by omega) (r_callI (as := []) (st := [.ref 4, .ref 0]) d_Peg_init_20 ml_Peg_18 mc_Board_init mi_Board_init rfl rfl ⟨by decide, by decide⟩ rfl (Nat.le_of_ble_eq_true rfl) (Nat.le_of_ble_eq_true rfl) (i_Board (M := zM) hl1 (fun b hb k => rfl)) ?_)
  rintro _ _ ⟨rfl, rfl⟩
  rw [show ([] ++ ((0, 11, 0, 0, [4, 2, 2, 2, 2, 2, 0, 0, 0]) :: pX1)) ++ (bdU 24 ++ repS shWatch 24) = [] ++ ((0, 11, 0, 0, [4, 2, 2, 2, 2, 2, 0, 0, 0]) :: pX2) from List.append_assoc _ _ _]
  change RR xs md_Peg_init 23 [.ref 0] [.ref 4, .ref 0] _ _ _ _
  change RR xs md_Peg_init 23 [.ref 0] [.ref 4, .ref 0] (mkH _ MB 0) _ _ _
  refine n_putF (j := 0) (e := 10) (sl := [4, 2, 2, 2, 2, 2, 0, 0, 0]) (b := 4) (U' := (0, 11, 0, 0, [4, 10, 2, 2, 2, 2, 0, 0, 0]) :: pX2) d_Peg_init_23 ff_Peg_19 rfl (by omega) rfl rfl rfl (VOk_obj _ _) ?_
  have hl2 : ([] ++ ((0, 11, 0, 0, [4, 10, 2, 2, 2, 2, 0, 0, 0]) :: pX2) : List Shp).length = 126 := by decide +kernel
  refine r_aload_n d_Peg_init_26 rfl ?_
  refine n_new (bc := 389) (bs := 4697) (a := 126) (dsl := [2, 2, 2, 2, 0, 0, 0, 0, 0, 0]) d_Peg_init_27 cl_Peg_23 (by omega) (by omega) hl2 (MB_z (by decide)) (by decide) rfl ?_
  refine r_dup d_Peg_init_30 rfl ?_
  refine r_bud (bc := 382 + 7) (bs := 4234 + 463) (by omega) (by omega) (r_callI (as := []) (st := [.ref 126, .ref 0]) d_Peg_init_31 ml_Peg_25 mc_Chart_init mi_Chart_init rfl rfl ⟨by decide, by decide⟩ rfl (Nat.le_of_ble_eq_true rfl) (Nat.le_of_ble_eq_true rfl) (i_Chart (M := MB) hl2 (fun b hb k => MB_z (by omega) k)) ?_)
  rintro _ _ ⟨rfl, M1, rfl, hf⟩
  rw [show ([] ++ ((0, 11, 0, 0, [4, 10, 2, 2, 2, 2, 0, 0, 0]) :: pX2)) ++ [(0, 1, 0, 0, [256, 258, 262, 266, 0, 0, 0, 0, 0, 0]), (1, 400, 0, 0, []), (0, 4, 0, 0, [5]), (1, 20, 0, 0, []), (0, 4, 0, 0, [5]), (1, 20, 0, 0, []), (0, 4, 0, 0, [5]), (1, 20, 0, 0, [])] = [] ++ ((0, 11, 0, 0, [4, 10, 2, 2, 2, 2, 0, 0, 0]) :: pX3) from List.append_assoc _ _ _]
  change RR xs md_Peg_init 34 [.ref 0] [.ref 126, .ref 0] _ _ _ _
  refine n_putF (j := 0) (e := 254) (sl := [4, 10, 2, 2, 2, 2, 0, 0, 0]) (b := 126) (U' := (0, 11, 0, 0, [4, 10, 254, 2, 2, 2, 0, 0, 0]) :: pX3) d_Peg_init_34 ff_Peg_26 rfl (by omega) rfl rfl rfl (VOk_obj _ _) ?_
  have hl3 : ([] ++ ((0, 11, 0, 0, [4, 10, 254, 2, 2, 2, 0, 0, 0]) :: pX3) : List Shp).length = 134 := by decide +kernel
  refine r_aload_n d_Peg_init_37 rfl ?_
  refine n_new (bc := 381) (bs := 4229) (a := 134) (dsl := [2, 0, 0, 0, 0]) d_Peg_init_38 cl_Peg_30 (by omega) (by omega) hl3 (ChF_z hf (by decide)) (by decide) rfl ?_
  refine r_dup d_Peg_init_41 rfl ?_
  refine r_bud (bc := 180 + 201) (bs := 2709 + 1520) (by omega) (by omega) (r_callI (as := []) (st := [.ref 134, .ref 0]) d_Peg_init_42 ml_Peg_32 mc_Log_init mi_Log_init rfl rfl ⟨by decide, by decide⟩ rfl (Nat.le_of_ble_eq_true rfl) (Nat.le_of_ble_eq_true rfl) (i_Log (M := M1) hl3 (fun b hb k => ChF_z hf (by omega) k)) ?_)
  rintro _ _ ⟨rfl, rfl⟩
  rw [show ([] ++ ((0, 11, 0, 0, [4, 10, 254, 2, 2, 2, 0, 0, 0]) :: pX3)) ++ (lgU 40 ++ repS shRow 40) = [] ++ ((0, 11, 0, 0, [4, 10, 254, 2, 2, 2, 0, 0, 0]) :: pX4) from List.append_assoc _ _ _]
  change RR xs md_Peg_init 45 [.ref 0] [.ref 134, .ref 0] _ _ _ _
  have hL : ∀ b, (336 ≤ b ∨ b < 4) → ∀ k, rgM M1 40 b k = 0 := fun b hb k => (rgM_o (by omega) k).trans (ChF_z hf (by omega) k)
  refine n_putF (j := 0) (e := 270) (sl := [4, 10, 254, 2, 2, 2, 0, 0, 0]) (b := 134) (U' := (0, 11, 0, 0, [4, 10, 254, 270, 2, 2, 0, 0, 0]) :: pX4) d_Peg_init_45 ff_Peg_33 rfl (by omega) rfl rfl rfl (VOk_obj _ _) ?_
  have hl4 : ([] ++ ((0, 11, 0, 0, [4, 10, 254, 270, 2, 2, 0, 0, 0]) :: pX4) : List Shp).length = 336 := by decide +kernel
  refine r_aload_n d_Peg_init_48 rfl ?_
  refine n_new (bc := 179) (bs := 2699) (a := 336) (dsl := [2, 2, 2, 2, 2, 2, 2, 2, 2, 0]) d_Peg_init_49 cl_Peg_37 (by omega) (by omega) hl4 (hL _ (by decide)) (by decide) rfl ?_
  refine r_dup d_Peg_init_52 rfl ?_
  rw [show ([] ++ ((0, 11, 0, 0, [4, 10, 254, 270, 2, 2, 0, 0, 0]) :: pX4)) ++ [(0, 6, 0, 0, [2, 2, 2, 2, 2, 2, 2, 2, 2, 0])] = [] ++ ((0, 11, 0, 0, [4, 10, 254, 270, 2, 2, 0, 0, 0]) :: (pX4 ++ [(0, 6, 0, 0, [2, 2, 2, 2, 2, 2, 2, 2, 2, 0])])) from List.append_assoc _ _ _]
  refine r_aload_n d_Peg_init_53 rfl ?_
  refine n_getR (j := 0) (e := 254) (sl := [4, 10, 254, 270, 2, 2, 0, 0, 0]) (b := 126) d_Peg_init_54 fl_Peg_26 (by omega) rfl rfl rfl ?_
  refine r_aload_n d_Peg_init_57 rfl ?_
  refine n_getR (j := 0) (e := 10) (sl := [4, 10, 254, 270, 2, 2, 0, 0, 0]) (b := 4) d_Peg_init_58 fl_Peg_19 (by omega) rfl rfl rfl ?_
  refine r_aload_n d_Peg_init_61 rfl ?_
  refine n_getR (j := 0) (e := 270) (sl := [4, 10, 254, 270, 2, 2, 0, 0, 0]) (b := 134) d_Peg_init_62 fl_Peg_33 (by omega) rfl rfl rfl ?_
  rw [show [] ++ ((0, 11, 0, 0, [4, 10, 254, 270, 2, 2, 0, 0, 0]) :: (pX4 ++ [(0, 6, 0, 0, [2, 2, 2, 2, 2, 2, 2, 2, 2, 0])])) = ([] ++ ((0, 11, 0, 0, [4, 10, 254, 270, 2, 2, 0, 0, 0]) :: pX4)) ++ [(0, 6, 0, 0, [2, 2, 2, 2, 2, 2, 2, 2, 2, 0])] from rfl]
  refine r_bud (bc := 6 + 173) (bs := 52 + 2647) (by omega) (by omega) (r_callI (as := [.ref 126, .ref 4, .ref 134]) (st := [.ref 336, .ref 0]) d_Peg_init_65 ml_Peg_39 mc_Reckoning_init mi_Reckoning_init rfl rfl ⟨by decide, by decide⟩ rfl (Nat.le_of_ble_eq_true rfl) (Nat.le_of_ble_eq_true rfl) (i_Reck (M := rgM M1 40) hl4 (fun b hb k => hL b (by omega) k)) ?_)
  rintro _ _ ⟨rfl, rfl⟩
  rw [show ([] ++ ((0, 11, 0, 0, [4, 10, 254, 270, 2, 2, 0, 0, 0]) :: pX4)) ++ ((0, 6, 0, 0, [254, 10, 270, 676, 678, 1008, 1012, 1016, 1020, 0]) :: ((3, 4, 41, 339, [4, 41]) :: (3, 4, 41, 341, [4, 41]) :: repS shP2 41 ++ shPatch ++ shPatch ++ shPatch ++ [(1, 780, 0, 0, [])])) = [] ++ ((0, 11, 0, 0, [4, 10, 254, 270, 2, 2, 0, 0, 0]) :: pX5) from List.append_assoc _ _ _]
  change RR xs md_Peg_init 68 [.ref 0] [.ref 336, .ref 0] _ _ _ _
  refine n_putF (j := 0) (e := 674) (sl := [4, 10, 254, 270, 2, 2, 0, 0, 0]) (b := 336) (U' := (0, 11, 0, 0, [4, 10, 254, 270, 674, 2, 0, 0, 0]) :: pX5) d_Peg_init_68 ff_Peg_42 rfl (by omega) rfl rfl rfl (VOk_obj _ _) ?_
  have hl5 : ([] ++ ((0, 11, 0, 0, [4, 10, 254, 270, 674, 2, 0, 0, 0]) :: pX5) : List Shp).length = 510 := by decide +kernel
  refine r_aload_n d_Peg_init_71 rfl ?_
  refine n_new (bc := 5) (bs := 46) (a := 510) (dsl := [2, 2, 2, 2, 0, 0]) d_Peg_init_72 cl_Peg_46 (by omega) (by omega) hl5 (hL _ (by decide)) (by decide) rfl ?_
  refine r_dup d_Peg_init_75 rfl ?_
  rw [show ([] ++ ((0, 11, 0, 0, [4, 10, 254, 270, 674, 2, 0, 0, 0]) :: pX5)) ++ [(0, 8, 0, 0, [2, 2, 2, 2, 0, 0])] = [] ++ ((0, 11, 0, 0, [4, 10, 254, 270, 674, 2, 0, 0, 0]) :: (pX5 ++ [(0, 8, 0, 0, [2, 2, 2, 2, 0, 0])])) from List.append_assoc _ _ _]
  refine r_aload_n d_Peg_init_76 rfl ?_
  refine n_getR (j := 0) (e := 254) (sl := [4, 10, 254, 270, 674, 2, 0, 0, 0]) (b := 126) d_Peg_init_77 fl_Peg_26 (by omega) rfl rfl rfl ?_
  rw [show [] ++ ((0, 11, 0, 0, [4, 10, 254, 270, 674, 2, 0, 0, 0]) :: (pX5 ++ [(0, 8, 0, 0, [2, 2, 2, 2, 0, 0])])) = ([] ++ ((0, 11, 0, 0, [4, 10, 254, 270, 674, 2, 0, 0, 0]) :: pX5)) ++ [(0, 8, 0, 0, [2, 2, 2, 2, 0, 0])] from rfl]
  refine r_bud (bc := 0 + 5) (bs := 0 + 46) (by omega) (by omega) (r_callI (as := [.ref 126]) (st := [.ref 510, .ref 0]) d_Peg_init_80 ml_Peg_48 mc_Voyage_init mi_Voyage_init rfl rfl ⟨by decide, by decide⟩ rfl (Nat.le_of_ble_eq_true rfl) (Nat.le_of_ble_eq_true rfl) (i_Voyage (M := rgM M1 40) hl5 (fun b hb k => hL b (by omega) k)) ?_)
  rintro _ _ ⟨rfl, rfl⟩
  rw [show ([] ++ ((0, 11, 0, 0, [4, 10, 254, 270, 674, 2, 0, 0, 0]) :: pX5)) ++ [(0, 8, 0, 0, [254, 1024, 1028, 1032, 0, 0]), (0, 4, 0, 0, [5]), (1, 20, 0, 0, []), (0, 4, 0, 0, [5]), (1, 20, 0, 0, []), (0, 5, 0, 0, [0, 0, 0, 0])] = [] ++ ((0, 11, 0, 0, [4, 10, 254, 270, 674, 2, 0, 0, 0]) :: pX6) from List.append_assoc _ _ _]
  change RR xs md_Peg_init 83 [.ref 0] [.ref 510, .ref 0] _ _ _ _
  refine n_putF (j := 0) (e := 1022) (sl := [4, 10, 254, 270, 674, 2, 0, 0, 0]) (b := 510) (U' := (0, 11, 0, 0, [4, 10, 254, 270, 674, 1022, 0, 0, 0]) :: pX6) d_Peg_init_83 ff_Peg_51 rfl (by omega) rfl rfl rfl (VOk_obj _ _) ?_
  refine r_aload_n d_Peg_init_86 rfl ?_
  refine r_iconst (v := 0) d_Peg_init_87 (by decide) ?_
  refine n_putZ d_Peg_init_88 fl_Peg_55 (fun r hr => by cases hr; rfl) (n_fI (j := 0) (by omega) rfl rfl) (VOk_int _) (hL _ (by decide) _) ?_
  refine r_aload_n d_Peg_init_91 rfl ?_
  refine r_iconst (v := 0) d_Peg_init_92 (by decide) ?_
  refine n_putZ d_Peg_init_93 fl_Peg_59 (fun r hr => by cases hr; rfl) (n_fI (j := 0) (by omega) rfl rfl) (VOk_int _) (hL _ (by decide) _) ?_
  refine r_aload_n d_Peg_init_96 rfl ?_
  refine r_iconst (v := 0) d_Peg_init_97 (by decide) ?_
  refine n_putZ d_Peg_init_98 fl_Peg_62 (fun r hr => by cases hr; rfl) (n_fI (j := 0) (by omega) rfl rfl) (VOk_int _) (hL _ (by decide) _) ?_
  exact r_vret ⟨d_Peg_init_101, rfl⟩ ⟨rfl, M1, hf, rfl⟩

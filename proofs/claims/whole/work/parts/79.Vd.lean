/-! the constructors with loops -/
def repS (s : List Shp) (i : Nat) : List Shp := (List.replicate i s).flatten
theorem repS_1 (s : List Shp) (i : Nat) : repS s (i + 1) = repS s i ++ s := by
  unfold repS
  rw [List.replicate_succ', List.flatten_append]; simp
theorem repS_len (s : List Shp) (i : Nat) : (repS s i).length = i * s.length := by
  induction i with
  | zero => simp [repS]
  | succ i ih => rw [repS_1, List.length_append, ih, Nat.succ_mul]
def bdU (i : Nat) : List Shp := [(0, 0, 0, 0, [12, 0, 0]), (3, 9, 24, 6, [5, i])]
def pgM (M : Mem) (i : Nat) : Mem := fun b k => if 6 ≤ b ∧ b < 6 + 5 * i ∧ b % 5 = 2 ∧ k < 8 then -1 else M b k
theorem pgM_o {M : Mem} {i b : Nat} (h : 6 + 5 * i ≤ b ∨ b < 6) (k : Nat) : pgM M i b k = M b k := if_neg (by omega)
theorem pgM_0 (M : Mem) : pgM M 0 = M := by funext b k; exact if_neg (by omega)
theorem pgM_1 (M : Mem) (i : Nat) : wtM (pgM M i) (6 + 5 * i) = pgM M (i + 1) := by
  funext b k
  unfold wtM rowN pgM
  by_cases h1 : b = 6 + 5 * i + 1 ∧ k < 8
  · rw [if_pos h1, if_pos (by omega)]
  · rw [if_neg h1]
    by_cases h2 : 6 ≤ b ∧ b < 6 + 5 * i ∧ b % 5 = 2 ∧ k < 8
    · rw [if_pos h2, if_pos (by omega)]
    · rw [if_neg h2, if_neg (by omega)]
theorem i_Board_loop {xs : List Int32} {T : List Shp} {M : Mem} {Q : Option Value → List Ce → Prop} (hT : T.length = 4) (hM : ∀ b, 4 ≤ b → ∀ k, M b k = 0) (kk : RR xs md_Board_init 40 [.ref 4, .int (nI 24)] [] (mkH (T ++ (bdU 24 ++ repS shWatch 24)) (pgM M 24) 0) 0 0 Q) : ∀ n i, i + n = 24 → RR xs md_Board_init 15 [.ref 4, .int (nI i)] [] (mkH (T ++ (bdU i ++ repS shWatch i)) (pgM M i) 0) (5 * n) (31 * n) Q := by
  intro n
  induction n with
  | zero =>
    intro i hi
    have : i = 24 := by omega
    subst this
    refine r_iload_n d_Board_init_15 rfl ?_
    refine r_bipush (v := 24) d_Board_init_16 (by decide) ?_
    exact r_ic_ge d_Board_init_18 (fun _ => kk) (fun c => absurd (by decide) c)
  | succ n ih =>
    intro i hi
    have hl : (T ++ (bdU i ++ repS shWatch i)).length = 6 + 5 * i := by
      rw [List.length_append, List.length_append, repS_len, hT]
      show 4 + (2 + i * 5) = _
      omega
    have hz : ∀ b, 6 + 5 * i ≤ b → ∀ k, pgM M i b k = 0 := fun b hb k => (pgM_o (Or.inl hb) k).trans (hM b (by omega) k)
    refine r_iload_n d_Board_init_15 rfl ?_
    refine r_bipush (v := 24) d_Board_init_16 (by decide) ?_
    refine r_ic_ge d_Board_init_18 (fun c => absurd ((nI_leI (a := 24) (b := i) (by omega) (by omega)).mp c) (by omega)) (fun _ => ?_)
    refine r_aload_n d_Board_init_21 rfl ?_
    refine n_getR (j := 0) (e := 12) (sl := [12, 0, 0]) (b := 5) d_Board_init_22 fl_Board_11 (by omega) rfl rfl rfl ?_
    refine r_iload_n d_Board_init_25 rfl ?_
    refine n_new (bc := 5 * n + 4) (bs := 31 * n + 22) (a := 6 + 5 * i) (dsl := [2, 2, 2, 2, 0, 0, 0, 0, 0]) d_Board_init_26 cl_Board_9 (by omega) (by omega) hl (hz _ (by omega)) (by decide) rfl ?_
    refine r_dup d_Board_init_29 rfl ?_
    refine r_callI (as := []) (st := [.ref (6 + 5 * i), .int (nI i), .ref 5]) (bc := 5 * n) (b1 := 4) (bs := 31 * n) (b2 := 22) d_Board_init_30 ml_Board_15 mc_Watch_init mi_Watch_init rfl rfl ⟨by decide, by decide⟩ rfl (Nat.le_of_ble_eq_true rfl) (Nat.le_of_ble_eq_true rfl) (i_Watch hl (fun b hb => hz b hb)) ?_
    rintro _ _ ⟨rfl, rfl⟩
    change RR xs md_Board_init 33 [.ref 4, .int (nI i)] [.ref (6 + 5 * i), .int (nI i), .ref 5] _ _ _ _
    rw [pgM_1]
    refine n_aast (N := 24) (b := 6) (d := 5) (i := i) (ci := 9) (fs := slotsV (pgM M (i + 1)) 0 (6 + 5 * i) [5, 7, 9, 11, 0, 0, 0, 0, 0]) (S' := T ++ (bdU (i + 1) ++ repS shWatch (i + 1))) d_Board_init_33 ?_ (vp_nI (by omega) (by omega)) (nI_cl (by omega)) rfl ?_ ?_ ?_
    · rw [List.append_assoc, get_app (j := 1) (by omega)]; rfl
    · rw [mk_get, get_app (j := 0) (by omega)]; rfl
    · rw [List.append_assoc, List.append_assoc, set_app (j := 1) (by omega), repS_1]; rfl
    · refine r_iinc (v := nI (i + 1)) d_Board_init_34 rfl (nI_1 i) (by decide) ?_
      refine r_goto d_Board_init_37 ?_
      exact ih (i + 1) (by omega)
theorem i_Board {xs : List Int32} {T : List Shp} {M : Mem} (hT : T.length = 4) (hM : ∀ b, 4 ≤ b → ∀ k, M b k = 0) : RR xs md_Board_init 0 [.ref 4] [] (mkH (T ++ [(0, 0, 0, 0, [2, 0, 0])]) M 0) 121 768 (fun r h' => r = none ∧ h' = mkH (T ++ (bdU 24 ++ repS shWatch 24)) (up (pgM M 24) 4 2 2000) 0) := by
  refine r_weak (lv' := [.ref 4, .null]) (by repeat (first | exact trivial | refine ⟨rfl, ?_⟩ | exact lle_nil)) ?_
  refine r_aload_n d_Board_init_0 rfl ?_
  refine r_objInit d_Board_init_1 ml_Board_1 ob_i ob_c (Nat.le_of_ble_eq_true rfl) (Nat.le_of_ble_eq_true rfl) ?_
  refine r_aload_n d_Board_init_4 rfl ?_
  refine r_bipush (v := 24) d_Board_init_5 (by decide) ?_
  refine n_newq (bc := 120) (bs := 744) (a := 5) (N := 24) (b := 6) (d := 5) (U' := [(0, 0, 0, 0, [2, 0, 0]), (3, 9, 24, 6, [5, 0])]) d_Board_init_7 cq_Board_9 (by decide) (by decide) (by decide) (by omega) (by omega) (by rw [List.length_append, hT]; rfl) rfl ?_
  refine n_putF (j := 0) (e := 12) (sl := [2, 0, 0]) (b := 5) (U' := [(0, 0, 0, 0, [12, 0, 0]), (3, 9, 24, 6, [5, 0])]) d_Board_init_10 ff_Board_11 rfl (by omega) rfl rfl rfl (VOk_arr _ _) ?_
  refine r_iconst (v := 0) d_Board_init_13 (by decide) ?_
  refine r_istore_n d_Board_init_14 (by decide) ?_
  have key := i_Board_loop (xs := xs) (Q := fun r h' => r = none ∧ h' = mkH (T ++ (bdU 24 ++ repS shWatch 24)) (up (pgM M 24) 4 2 2000) 0) hT hM ?_ 24 0 rfl
  · rw [pgM_0, nI_0] at key
    exact key
  · refine r_aload_n d_Board_init_40 rfl ?_
    refine r_iconst (v := 0) d_Board_init_41 (by decide) ?_
    refine n_putZ d_Board_init_42 fl_Board_16 (fun r hr => by cases hr; rfl) (n_fI (j := 0) (by omega) rfl rfl) (VOk_int _) ((pgM_o (by omega) _).trans (hM _ (by omega) _)) ?_
    refine r_aload_n d_Board_init_45 rfl ?_
    refine r_sipush (v := 2000) d_Board_init_46 (by decide) ?_
    refine x_putI d_Board_init_49 fl_Board_20 (fun r hr => by cases hr; rfl) (n_fI (j := 0) (by omega) rfl rfl) (VOk_int _) ?_
    exact r_vret ⟨d_Board_init_52, rfl⟩ ⟨rfl, rfl⟩
def lgU (i : Nat) : List Shp := [(0, 3, 0, 0, [272, 0, 0, 0, 0]), (3, 7, 40, 136, [5, i])]
def rgM (M : Mem) (i : Nat) : Mem := fun b k => if 136 ≤ b ∧ b < 136 + 5 * i ∧ b % 5 = 1 ∧ 3 ≤ k ∧ k ≤ 7 then (if k < 5 then -1 else if k = 7 then 1 else 0) else M b k
theorem rgM_o {M : Mem} {i b : Nat} (h : 136 + 5 * i ≤ b ∨ b < 136) (k : Nat) : rgM M i b k = M b k := if_neg (by omega)
theorem rgM_0 (M : Mem) : rgM M 0 = M := by funext b k; exact if_neg (by omega)
theorem rgM_1 (M : Mem) (i : Nat) : rwM (rgM M i) (136 + 5 * i) = rgM M (i + 1) := by
  funext b k
  by_cases hb : b = 136 + 5 * i
  · unfold rwM
    by_cases k7 : k = 7
    · rw [hb, k7, up_same]; unfold rgM; rw [if_pos (by omega), if_neg (by omega), if_pos rfl]
    rw [up_ne _ _ (by omega)]
    by_cases k6 : k = 6
    · rw [hb, k6, up_same]; unfold rgM; rw [if_pos (by omega), if_neg (by omega), if_neg (by omega)]
    rw [up_ne _ _ (by omega)]
    by_cases k5 : k = 5
    · rw [hb, k5, up_same]; unfold rgM; rw [if_pos (by omega), if_neg (by omega), if_neg (by omega)]
    rw [up_ne _ _ (by omega)]
    by_cases k4 : k = 4
    · rw [hb, k4, up_same]; unfold rgM; rw [if_pos (by omega), if_pos (by omega)]
    rw [up_ne _ _ (by omega)]
    by_cases k3 : k = 3
    · rw [hb, k3, up_same]; unfold rgM; rw [if_pos (by omega), if_pos (by omega)]
    rw [up_ne _ _ (by omega)]
    unfold rgM
    rw [if_neg (by omega), if_neg (by omega)]
  · rw [rwM_o hb]
    unfold rgM
    by_cases h2 : 136 ≤ b ∧ b < 136 + 5 * i ∧ b % 5 = 1 ∧ 3 ≤ k ∧ k ≤ 7
    · rw [if_pos h2, if_pos (c := 136 ≤ b ∧ b < 136 + 5 * (i + 1) ∧ b % 5 = 1 ∧ 3 ≤ k ∧ k ≤ 7) (by omega)]
    · rw [if_neg h2, if_neg (by omega)]
theorem i_Log_loop {xs : List Int32} {T : List Shp} {M : Mem} {Q : Option Value → List Ce → Prop} (hT : T.length = 134) (hM : ∀ b, 134 ≤ b → ∀ k, M b k = 0) (kk : RR xs md_Log_init 40 [.ref 134, .int (nI 40)] [] (mkH (T ++ (lgU 40 ++ repS shRow 40)) (rgM M 40) 0) 0 0 Q) : ∀ n i, i + n = 40 → RR xs md_Log_init 15 [.ref 134, .int (nI i)] [] (mkH (T ++ (lgU i ++ repS shRow i)) (rgM M i) 0) (5 * n) (37 * n) Q := by
  intro n
  induction n with
  | zero =>
    intro i hi
    have : i = 40 := by omega
    subst this
    refine r_iload_n d_Log_init_15 rfl ?_
    refine r_bipush (v := 40) d_Log_init_16 (by decide) ?_
    exact r_ic_ge d_Log_init_18 (fun _ => kk) (fun c => absurd (by decide) c)
  | succ n ih =>
    intro i hi
    have hl : (T ++ (lgU i ++ repS shRow i)).length = 136 + 5 * i := by
      rw [List.length_append, List.length_append, repS_len, hT]
      show 134 + (2 + i * 5) = _
      omega
    have hz : ∀ b, 136 + 5 * i ≤ b → ∀ k, rgM M i b k = 0 := fun b hb k => (rgM_o (Or.inl hb) k).trans (hM b (by omega) k)
    refine r_iload_n d_Log_init_15 rfl ?_
    refine r_bipush (v := 40) d_Log_init_16 (by decide) ?_
    refine r_ic_ge d_Log_init_18 (fun c => absurd ((nI_leI (a := 40) (b := i) (by omega) (by omega)).mp c) (by omega)) (fun _ => ?_)
    refine r_aload_n d_Log_init_21 rfl ?_
    refine n_getR (j := 0) (e := 272) (sl := [272, 0, 0, 0, 0]) (b := 135) d_Log_init_22 fl_Log_13 (by omega) rfl rfl rfl ?_
    refine r_iload_n d_Log_init_25 rfl ?_
    refine n_new (bc := 5 * n + 4) (bs := 37 * n + 29) (a := 136 + 5 * i) (dsl := [2, 2, 2, 0, 0, 0, 0, 0]) d_Log_init_26 cl_Log_11 (by omega) (by omega) hl (hz _ (by omega)) (by decide) rfl ?_
    refine r_dup d_Log_init_29 rfl ?_
    refine r_callI (as := []) (st := [.ref (136 + 5 * i), .int (nI i), .ref 135]) (bc := 5 * n) (b1 := 4) (bs := 37 * n) (b2 := 29) d_Log_init_30 ml_Log_17 mc_Row_init mi_Row_init rfl rfl ⟨by decide, by decide⟩ rfl (Nat.le_of_ble_eq_true rfl) (Nat.le_of_ble_eq_true rfl) (i_Row (by omega) hl (fun b hb => hz b hb)) ?_
    rintro _ _ ⟨rfl, rfl⟩
    change RR xs md_Log_init 33 [.ref 134, .int (nI i)] [.ref (136 + 5 * i), .int (nI i), .ref 135] _ _ _ _
    rw [rgM_1]
    refine n_aast (N := 40) (b := 136) (d := 5) (i := i) (ci := 7) (fs := slotsV (rgM M (i + 1)) 0 (136 + 5 * i) [5, 7, 9, 0, 0, 0, 0, 0]) (S' := T ++ (lgU (i + 1) ++ repS shRow (i + 1))) d_Log_init_33 ?_ (vp_nI (by omega) (by omega)) (nI_cl (by omega)) rfl ?_ ?_ ?_
    · rw [List.append_assoc, get_app (j := 1) (by omega)]; rfl
    · rw [mk_get, get_app (j := 0) (by omega)]; rfl
    · rw [List.append_assoc, List.append_assoc, set_app (j := 1) (by omega), repS_1]; rfl
    · refine r_iinc (v := nI (i + 1)) d_Log_init_34 rfl (nI_1 i) (by decide) ?_
      refine r_goto d_Log_init_37 ?_
      exact ih (i + 1) (by omega)
theorem i_Log {xs : List Int32} {T : List Shp} {M : Mem} (hT : T.length = 134) (hM : ∀ b, 134 ≤ b → ∀ k, M b k = 0) : RR xs md_Log_init 0 [.ref 134] [] (mkH (T ++ [(0, 3, 0, 0, [2, 0, 0, 0, 0])]) M 0) 201 1520 (fun r h' => r = none ∧ h' = mkH (T ++ (lgU 40 ++ repS shRow 40)) (rgM M 40) 0) := by
  refine r_weak (lv' := [.ref 134, .null]) (by repeat (first | exact trivial | refine ⟨rfl, ?_⟩ | exact lle_nil)) ?_
  refine r_aload_n d_Log_init_0 rfl ?_
  refine r_objInit d_Log_init_1 ml_Log_3 ob_i ob_c (Nat.le_of_ble_eq_true rfl) (Nat.le_of_ble_eq_true rfl) ?_
  refine r_aload_n d_Log_init_4 rfl ?_
  refine r_bipush (v := 40) d_Log_init_5 (by decide) ?_
  refine n_newq (bc := 200) (bs := 1480) (a := 135) (N := 40) (b := 136) (d := 5) (U' := [(0, 3, 0, 0, [2, 0, 0, 0, 0]), (3, 7, 40, 136, [5, 0])]) d_Log_init_7 cq_Log_11 (by decide) (by decide) (by decide) (by omega) (by omega) (by rw [List.length_append, hT]; rfl) rfl ?_
  refine n_putF (j := 0) (e := 272) (sl := [2, 0, 0, 0, 0]) (b := 135) (U' := [(0, 3, 0, 0, [272, 0, 0, 0, 0]), (3, 7, 40, 136, [5, 0])]) d_Log_init_10 ff_Log_13 rfl (by omega) rfl rfl rfl (VOk_arr _ _) ?_
  refine r_iconst (v := 0) d_Log_init_13 (by decide) ?_
  refine r_istore_n d_Log_init_14 (by decide) ?_
  have key := i_Log_loop (xs := xs) (Q := fun r h' => r = none ∧ h' = mkH (T ++ (lgU 40 ++ repS shRow 40)) (rgM M 40) 0) hT hM ?_ 40 0 rfl
  · rw [rgM_0, nI_0] at key
    exact key
  · have z : ∀ k, rgM M 40 134 k = 0 := fun k => (rgM_o (by omega) k).trans (hM _ (by omega) k)
    refine r_aload_n d_Log_init_40 rfl ?_
    refine r_iconst (v := 0) d_Log_init_41 (by decide) ?_
    refine n_putZ d_Log_init_42 fl_Log_18 (fun r hr => by cases hr; rfl) (n_fI (j := 0) (by omega) rfl rfl) (VOk_int _) (z _) ?_
    refine r_aload_n d_Log_init_45 rfl ?_
    refine r_iconst (v := 0) d_Log_init_46 (by decide) ?_
    refine r_iconst (v := 0) d_Log_init_47 (by decide) ?_
    refine r_iconst (v := 0) d_Log_init_48 (by decide) ?_
    refine n_callV (as := [.int 0, .int 0, .int 0]) (st := []) (b := 134) (ci := 3) d_Log_init_49 ml_Log_22 mc_Log_startFrom mv_Log_startFrom ⟨by decide, by decide⟩ (n_isO (j := 0) (by omega) rfl) ⟨_, rfl, rfl⟩ rfl (Nat.le_of_ble_eq_true rfl) (Nat.le_of_ble_eq_true rfl) (Q1 := fun r M1 L1 => none = r ∧ rgM M 40 = M1 ∧ 0 = L1) (L_Log_startFrom_0 (n_cvr (n := 1) hT (fun j hj => by
      have : j = 0 := by omega
      subst this
      show some _ = _
      decide +kernel)) ⟨rfl, ?_, rfl⟩) ?_
    · rw [up_id (z 2), up_id (z 3), up_id (z 4)]
    rintro _ _ _ ⟨rfl, rfl, rfl⟩
    exact r_vret ⟨d_Log_init_52, rfl⟩ ⟨rfl, rfl⟩

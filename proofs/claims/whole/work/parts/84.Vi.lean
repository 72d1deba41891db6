/-! the law from its entry -/
theorem pX6_S : ([] ++ ((0, 11, 0, 0, [4, 10, 254, 270, 674, 1022, 0, 0, 0]) :: pX6) : List Shp) ++ shMod = shL := by decide +kernel
theorem pX6_l : ([] ++ ((0, 11, 0, 0, [4, 10, 254, 270, 674, 1022, 0, 0, 0]) :: pX6) : List Shp).length = 516 := by decide +kernel
theorem law_all (xs : List Int32) (hx : xs.length ≤ 4096) : RR xs md_Law_law 0 [.retAddr 0, .null, .null, .null] [] [] 600000 7302250 (fun r _ => r = some (.int 1)) := by
  change RR xs md_Law_law 0 [.retAddr 0, .null, .null, .null] [] (mkH ([] ++ []) zM 0) 600000 7302250 _
  refine n_new (bc := 599999) (bs := 7302241) (a := 0) (dsl := [2, 2, 2, 2, 2, 2, 0, 0, 0]) d_Law_law_0 cl_Law_7 (by omega) (by omega) rfl (fun k => rfl) (by decide) rfl ?_
  refine r_dup d_Law_law_3 rfl ?_
  refine r_bud (bc := 15 + 515) (bs := 19084 + 5529) (by omega) (by omega) (r_callI (as := []) (st := [.ref 0]) d_Law_law_4 ml_Law_9 mc_Peg_init mi_Peg_init rfl rfl ⟨by decide, by decide⟩ rfl (Nat.le_of_ble_eq_true rfl) (Nat.le_of_ble_eq_true rfl) i_Peg ?_)
  rintro _ _ ⟨rfl, M1, hf, rfl⟩
  change RR xs md_Law_law 7 [.retAddr 0, .null, .null, .null] [.ref 0] _ _ _ _
  have hz : ∀ b, 516 ≤ b → ∀ k, rgM M1 40 b k = 0 := fun b hb k => (rgM_o (by omega) k).trans (ChF_z hf (by omega) k)
  refine r_astore_n d_Law_law_7 (by decide) ?_
  refine n_new (bc := 14) (bs := 19049) (a := 516) (dsl := [2, 2, 0, 2, 0, 2, 2, 2, 0, 0, 0, 2, 2, 0, 0, 0, 0, 0, 0, 0, 0, 2, 0, 0, 0, 2, 0, 0, 0, 2, 2, 2, 2, 0, 1]) d_Law_law_8 cl_Law_10 (by omega) (by omega) pX6_l (hz _ (by decide)) (by decide) rfl ?_
  refine r_dup d_Law_law_11 rfl ?_
  refine r_bud (bc := 0 + 14) (bs := 0 + 19049) (by omega) (by omega) (r_callI (as := []) (st := [.ref 516]) d_Law_law_12 ml_Law_12 mc_Mod_init mi_Mod_init rfl rfl ⟨by decide, by decide⟩ rfl (Nat.le_of_ble_eq_true rfl) (Nat.le_of_ble_eq_true rfl) (i_Mod pX6_l pX6_S hz) ?_)
  rintro _ _ ⟨rfl, N, rfl, h1, h2, h3, h4, h5⟩
  change RR xs md_Law_law 15 [.retAddr 0, .ref 0, .null, .null] [.ref 516] _ _ _ _
  refine r_astore_n d_Law_law_15 (by decide) ?_
  refine r_iconst (v := 0) d_Law_law_16 (by decide) ?_
  refine r_istore_n d_Law_law_17 (by decide) ?_
  have key := law_loop hx 4096 0 (by omega) (by omega) N 0 (Rel_born hf h1 h2 h3 h4 h5)
  rw [nI_0] at key
  exact r_mono (fun r h' ⟨_, _, _, q⟩ => q) key

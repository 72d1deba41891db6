/-! the constructor of the reference -/
theorem n_fill {xs : List Int32} {m : Md} {pc pc' : Nat} {lv st : List Value} {S : List Shp} {M : Mem} {bc bs N a n : Nat} {Q : Option Value → List Ce → Prop} {f : Nat → Int32} {i v : Int32} (hd : dc1 (mB m) pc .iastore pc') (ha : aI S a N) (h0 : ¬ i < 0) (hn : n < N) (hi : i.toNatClampNeg = n) (hv : v = f n) (kk : RR xs m pc' lv st (mkH S (rowN M a (n + 1) f) 0) bc bs Q) : RR xs m pc lv (.int v :: .int i :: .ref a :: st) (mkH S (rowN M a n f) 0) bc bs Q := by
  refine x_iast hd ha (fun q => q.elim h0 (fun z => by rw [hi] at z; omega)) ?_
  rw [hi, rowN_up _ _ _ _ hv]
  exact kk
def fNm (k : Nat) : Int32 := namesT.getD k 0
def fTb (k : Nat) : Int32 := tTb.getD k 0
def MM (M : Mem) : Mem := up (up (up (rowN (rowN M 517 32 fNm) 518 9 fTb) 516 8 2000) 516 9 8) 516 10 8
theorem i_Mod {xs : List Int32} {T : List Shp} {M : Mem} (hT : T.length = 516) (hS : T ++ [(0, 12, 0, 0, [1036, 1038, 0, 1040, 0, 1042, 1044, 1046, 0, 0, 0, 1048, 1050, 0, 0, 0, 0, 0, 0, 0, 0, 1052, 0, 0, 0, 1054, 0, 0, 0, 1056, 1058, 1060, 1062, 0, 1]), (1, 32, 0, 0, []), (1, 9, 0, 0, []), (1, 24, 0, 0, []), (1, 192, 0, 0, []), (1, 96, 0, 0, []), (1, 72, 0, 0, []), (1, 400, 0, 0, []), (2, 400, 0, 0, []), (1, 200, 0, 0, []), (1, 24, 0, 0, []), (2, 400, 0, 0, []), (2, 400, 0, 0, []), (2, 16400, 0, 0, []), (1, 400, 0, 0, [])] = shL) (hM : ∀ b, 516 ≤ b → ∀ k, M b k = 0) : RR xs md_Mod_init 0 [.ref 516] [] (mkH (T ++ [(0, 12, 0, 0, [2, 2, 0, 2, 0, 2, 2, 2, 0, 0, 0, 2, 2, 0, 0, 0, 0, 0, 0, 0, 0, 2, 0, 0, 0, 2, 0, 0, 0, 2, 2, 2, 2, 0, 1])]) M 0) 14 19049 (fun r h' => r = none ∧ ∃ M', h' = mkH shL M' 0 ∧ (∀ b k, b ≠ 523 → b ≠ 524 → ¬ (b = 516 ∧ 17 ≤ k ∧ k ≤ 19) → M' b k = MM M b k) ∧ (∀ k, k < 400 → M' 523 k = 50 ∧ M' 524 k = 0) ∧ M' 516 17 = 0 ∧ M' 516 18 = 0 ∧ M' 516 19 = 0) := by
  refine r_aload_n d_Mod_init_0 rfl ?_
  refine r_objInit d_Mod_init_1 ml_Mod_1 ob_i ob_c (Nat.le_of_ble_eq_true rfl) (Nat.le_of_ble_eq_true rfl) ?_
  refine r_aload_n d_Mod_init_4 rfl ?_
  refine r_bipush (v := 32) d_Mod_init_5 (by decide) ?_
  refine n_newi (bc := 13) (bs := 19017) (a := 517) (N := 32) (U' := [(0, 12, 0, 0, [2, 2, 0, 2, 0, 2, 2, 2, 0, 0, 0, 2, 2, 0, 0, 0, 0, 0, 0, 0, 0, 2, 0, 0, 0, 2, 0, 0, 0, 2, 2, 2, 2, 0, 1]), (1, 32, 0, 0, [])]) d_Mod_init_7 (by decide) (by decide) (by decide) (by omega) (by omega) (by rw [List.length_append, hT]; rfl) (fun k => (hM _ (by omega) _)) rfl ?_
  rw [← rowN_0 M 517 fNm]
  refine r_dup d_Mod_init_9 rfl ?_
  refine r_iconst (v := 0) d_Mod_init_10 (by decide) ?_
  refine r_iconst (v := 1) d_Mod_init_11 (by decide) ?_
  refine n_fill (n := 0) (N := 32) d_Mod_init_12 (n_aI (j := 1) (by omega) rfl) (by decide) (by decide) (by decide) (by decide) ?_
  refine r_dup d_Mod_init_13 rfl ?_
  refine r_iconst (v := 1) d_Mod_init_14 (by decide) ?_
  refine r_bipush (v := 68) d_Mod_init_15 (by decide) ?_
  refine n_fill (n := 1) (N := 32) d_Mod_init_17 (n_aI (j := 1) (by omega) rfl) (by decide) (by decide) (by decide) (by decide) ?_
  refine r_dup d_Mod_init_18 rfl ?_
  refine r_iconst (v := 2) d_Mod_init_19 (by decide) ?_
  refine r_bipush (v := 44) d_Mod_init_20 (by decide) ?_
  refine n_fill (n := 2) (N := 32) d_Mod_init_22 (n_aI (j := 1) (by omega) rfl) (by decide) (by decide) (by decide) (by decide) ?_
  refine r_dup d_Mod_init_23 rfl ?_
  refine r_iconst (v := 3) d_Mod_init_24 (by decide) ?_
  refine r_sipush (v := 319) d_Mod_init_25 (by decide) ?_
  refine n_fill (n := 3) (N := 32) d_Mod_init_28 (n_aI (j := 1) (by omega) rfl) (by decide) (by decide) (by decide) (by decide) ?_
  refine r_dup d_Mod_init_29 rfl ?_
  refine r_iconst (v := 4) d_Mod_init_30 (by decide) ?_
  refine r_bipush (v := 8) d_Mod_init_31 (by decide) ?_
  refine n_fill (n := 4) (N := 32) d_Mod_init_33 (n_aI (j := 1) (by omega) rfl) (by decide) (by decide) (by decide) (by decide) ?_
  refine r_dup d_Mod_init_34 rfl ?_
  refine r_iconst (v := 5) d_Mod_init_35 (by decide) ?_
  refine r_sipush (v := 320) d_Mod_init_36 (by decide) ?_
  refine n_fill (n := 5) (N := 32) d_Mod_init_39 (n_aI (j := 1) (by omega) rfl) (by decide) (by decide) (by decide) (by decide) ?_
  refine r_dup d_Mod_init_40 rfl ?_
  refine r_bipush (v := 6) d_Mod_init_41 (by decide) ?_
  refine r_bipush (v := 80) d_Mod_init_43 (by decide) ?_
  refine n_fill (n := 6) (N := 32) d_Mod_init_45 (n_aI (j := 1) (by omega) rfl) (by decide) (by decide) (by decide) (by decide) ?_
  refine r_dup d_Mod_init_46 rfl ?_
  refine r_bipush (v := 7) d_Mod_init_47 (by decide) ?_
  refine r_bipush (v := 103) d_Mod_init_49 (by decide) ?_
  refine n_fill (n := 7) (N := 32) d_Mod_init_51 (n_aI (j := 1) (by omega) rfl) (by decide) (by decide) (by decide) (by decide) ?_
  refine r_dup d_Mod_init_52 rfl ?_
  refine r_bipush (v := 8) d_Mod_init_53 (by decide) ?_
  refine r_iconst (v := 2) d_Mod_init_55 (by decide) ?_
  refine n_fill (n := 8) (N := 32) d_Mod_init_56 (n_aI (j := 1) (by omega) rfl) (by decide) (by decide) (by decide) (by decide) ?_
  refine r_dup d_Mod_init_57 rfl ?_
  refine r_bipush (v := 9) d_Mod_init_58 (by decide) ?_
  refine r_bipush (v := 105) d_Mod_init_60 (by decide) ?_
  refine n_fill (n := 9) (N := 32) d_Mod_init_62 (n_aI (j := 1) (by omega) rfl) (by decide) (by decide) (by decide) (by decide) ?_
  refine r_dup d_Mod_init_63 rfl ?_
  refine r_bipush (v := 10) d_Mod_init_64 (by decide) ?_
  refine r_bipush (v := 92) d_Mod_init_66 (by decide) ?_
  refine n_fill (n := 10) (N := 32) d_Mod_init_68 (n_aI (j := 1) (by omega) rfl) (by decide) (by decide) (by decide) (by decide) ?_
  refine r_dup d_Mod_init_69 rfl ?_
  refine r_bipush (v := 11) d_Mod_init_70 (by decide) ?_
  refine r_sipush (v := 752) d_Mod_init_72 (by decide) ?_
  refine n_fill (n := 11) (N := 32) d_Mod_init_75 (n_aI (j := 1) (by omega) rfl) (by decide) (by decide) (by decide) (by decide) ?_
  refine r_dup d_Mod_init_76 rfl ?_
  refine r_bipush (v := 12) d_Mod_init_77 (by decide) ?_
  refine r_bipush (v := 20) d_Mod_init_79 (by decide) ?_
  refine n_fill (n := 12) (N := 32) d_Mod_init_81 (n_aI (j := 1) (by omega) rfl) (by decide) (by decide) (by decide) (by decide) ?_
  refine r_dup d_Mod_init_82 rfl ?_
  refine r_bipush (v := 13) d_Mod_init_83 (by decide) ?_
  refine r_sipush (v := 753) d_Mod_init_85 (by decide) ?_
  refine n_fill (n := 13) (N := 32) d_Mod_init_88 (n_aI (j := 1) (by omega) rfl) (by decide) (by decide) (by decide) (by decide) ?_
  refine r_dup d_Mod_init_89 rfl ?_
  refine r_bipush (v := 14) d_Mod_init_90 (by decide) ?_
  refine r_sipush (v := 128) d_Mod_init_92 (by decide) ?_
  refine n_fill (n := 14) (N := 32) d_Mod_init_95 (n_aI (j := 1) (by omega) rfl) (by decide) (by decide) (by decide) (by decide) ?_
  refine r_dup d_Mod_init_96 rfl ?_
  refine r_bipush (v := 15) d_Mod_init_97 (by decide) ?_
  refine r_sipush (v := 140) d_Mod_init_99 (by decide) ?_
  refine n_fill (n := 15) (N := 32) d_Mod_init_102 (n_aI (j := 1) (by omega) rfl) (by decide) (by decide) (by decide) (by decide) ?_
  refine r_dup d_Mod_init_103 rfl ?_
  refine r_bipush (v := 16) d_Mod_init_104 (by decide) ?_
  refine r_iconst (v := 3) d_Mod_init_106 (by decide) ?_
  refine n_fill (n := 16) (N := 32) d_Mod_init_107 (n_aI (j := 1) (by omega) rfl) (by decide) (by decide) (by decide) (by decide) ?_
  refine r_dup d_Mod_init_108 rfl ?_
  refine r_bipush (v := 17) d_Mod_init_109 (by decide) ?_
  refine r_sipush (v := 142) d_Mod_init_111 (by decide) ?_
  refine n_fill (n := 17) (N := 32) d_Mod_init_114 (n_aI (j := 1) (by omega) rfl) (by decide) (by decide) (by decide) (by decide) ?_
  refine r_dup d_Mod_init_115 rfl ?_
  refine r_bipush (v := 18) d_Mod_init_116 (by decide) ?_
  refine r_sipush (v := 130) d_Mod_init_118 (by decide) ?_
  refine n_fill (n := 18) (N := 32) d_Mod_init_121 (n_aI (j := 1) (by omega) rfl) (by decide) (by decide) (by decide) (by decide) ?_
  refine r_dup d_Mod_init_122 rfl ?_
  refine r_bipush (v := 19) d_Mod_init_123 (by decide) ?_
  refine r_sipush (v := 825) d_Mod_init_125 (by decide) ?_
  refine n_fill (n := 19) (N := 32) d_Mod_init_128 (n_aI (j := 1) (by omega) rfl) (by decide) (by decide) (by decide) (by decide) ?_
  refine r_dup d_Mod_init_129 rfl ?_
  refine r_bipush (v := 20) d_Mod_init_130 (by decide) ?_
  refine r_bipush (v := 22) d_Mod_init_132 (by decide) ?_
  refine n_fill (n := 20) (N := 32) d_Mod_init_134 (n_aI (j := 1) (by omega) rfl) (by decide) (by decide) (by decide) (by decide) ?_
  refine r_dup d_Mod_init_135 rfl ?_
  refine r_bipush (v := 21) d_Mod_init_136 (by decide) ?_
  refine r_sipush (v := 826) d_Mod_init_138 (by decide) ?_
  refine n_fill (n := 21) (N := 32) d_Mod_init_141 (n_aI (j := 1) (by omega) rfl) (by decide) (by decide) (by decide) (by decide) ?_
  refine r_dup d_Mod_init_142 rfl ?_
  refine r_bipush (v := 22) d_Mod_init_143 (by decide) ?_
  refine r_sipush (v := 166) d_Mod_init_145 (by decide) ?_
  refine n_fill (n := 22) (N := 32) d_Mod_init_148 (n_aI (j := 1) (by omega) rfl) (by decide) (by decide) (by decide) (by decide) ?_
  refine r_dup d_Mod_init_149 rfl ?_
  refine r_bipush (v := 23) d_Mod_init_150 (by decide) ?_
  refine r_sipush (v := 177) d_Mod_init_152 (by decide) ?_
  refine n_fill (n := 23) (N := 32) d_Mod_init_155 (n_aI (j := 1) (by omega) rfl) (by decide) (by decide) (by decide) (by decide) ?_
  refine r_dup d_Mod_init_156 rfl ?_
  refine r_bipush (v := 24) d_Mod_init_157 (by decide) ?_
  refine r_iconst (v := 4) d_Mod_init_159 (by decide) ?_
  refine n_fill (n := 24) (N := 32) d_Mod_init_160 (n_aI (j := 1) (by omega) rfl) (by decide) (by decide) (by decide) (by decide) ?_
  refine r_dup d_Mod_init_161 rfl ?_
  refine r_bipush (v := 25) d_Mod_init_162 (by decide) ?_
  refine r_sipush (v := 175) d_Mod_init_164 (by decide) ?_
  refine n_fill (n := 25) (N := 32) d_Mod_init_167 (n_aI (j := 1) (by omega) rfl) (by decide) (by decide) (by decide) (by decide) ?_
  refine r_dup d_Mod_init_168 rfl ?_
  refine r_bipush (v := 26) d_Mod_init_169 (by decide) ?_
  refine r_sipush (v := 154) d_Mod_init_171 (by decide) ?_
  refine n_fill (n := 26) (N := 32) d_Mod_init_174 (n_aI (j := 1) (by omega) rfl) (by decide) (by decide) (by decide) (by decide) ?_
  refine r_dup d_Mod_init_175 rfl ?_
  refine r_bipush (v := 27) d_Mod_init_176 (by decide) ?_
  refine r_sipush (v := 394) d_Mod_init_178 (by decide) ?_
  refine n_fill (n := 27) (N := 32) d_Mod_init_181 (n_aI (j := 1) (by omega) rfl) (by decide) (by decide) (by decide) (by decide) ?_
  refine r_dup d_Mod_init_182 rfl ?_
  refine r_bipush (v := 28) d_Mod_init_183 (by decide) ?_
  refine r_bipush (v := 10) d_Mod_init_185 (by decide) ?_
  refine n_fill (n := 28) (N := 32) d_Mod_init_187 (n_aI (j := 1) (by omega) rfl) (by decide) (by decide) (by decide) (by decide) ?_
  refine r_dup d_Mod_init_188 rfl ?_
  refine r_bipush (v := 29) d_Mod_init_189 (by decide) ?_
  refine r_sipush (v := 391) d_Mod_init_191 (by decide) ?_
  refine n_fill (n := 29) (N := 32) d_Mod_init_194 (n_aI (j := 1) (by omega) rfl) (by decide) (by decide) (by decide) (by decide) ?_
  refine r_dup d_Mod_init_195 rfl ?_
  refine r_bipush (v := 30) d_Mod_init_196 (by decide) ?_
  refine r_bipush (v := 46) d_Mod_init_198 (by decide) ?_
  refine n_fill (n := 30) (N := 32) d_Mod_init_200 (n_aI (j := 1) (by omega) rfl) (by decide) (by decide) (by decide) (by decide) ?_
  refine r_dup d_Mod_init_201 rfl ?_
  refine r_bipush (v := 31) d_Mod_init_202 (by decide) ?_
  refine r_bipush (v := 70) d_Mod_init_204 (by decide) ?_
  refine n_fill (n := 31) (N := 32) d_Mod_init_206 (n_aI (j := 1) (by omega) rfl) (by decide) (by decide) (by decide) (by decide) ?_
  refine n_putF (j := 0) (e := 1036) (sl := [2, 2, 0, 2, 0, 2, 2, 2, 0, 0, 0, 2, 2, 0, 0, 0, 0, 0, 0, 0, 0, 2, 0, 0, 0, 2, 0, 0, 0, 2, 2, 2, 2, 0, 1]) (b := 517) (U' := [(0, 12, 0, 0, [1036, 2, 0, 2, 0, 2, 2, 2, 0, 0, 0, 2, 2, 0, 0, 0, 0, 0, 0, 0, 0, 2, 0, 0, 0, 2, 0, 0, 0, 2, 2, 2, 2, 0, 1]), (1, 32, 0, 0, [])]) d_Mod_init_207 ff_Mod_7 rfl (by omega) rfl rfl rfl (VOk_arr _ _) ?_
  refine r_aload_n d_Mod_init_210 rfl ?_
  refine r_bipush (v := 9) d_Mod_init_211 (by decide) ?_
  refine n_newi (bc := 12) (bs := 19008) (a := 518) (N := 9) (U' := [(0, 12, 0, 0, [1036, 2, 0, 2, 0, 2, 2, 2, 0, 0, 0, 2, 2, 0, 0, 0, 0, 0, 0, 0, 0, 2, 0, 0, 0, 2, 0, 0, 0, 2, 2, 2, 2, 0, 1]), (1, 32, 0, 0, []), (1, 9, 0, 0, [])]) d_Mod_init_213 (by decide) (by decide) (by decide) (by omega) (by omega) (by rw [List.length_append, hT]; rfl) (fun k => (rowN_o _ _ _ (by decide) _).trans (hM _ (by omega) _)) rfl ?_
  rw [← rowN_0 (rowN M 517 32 fNm) 518 fTb]
  refine r_dup d_Mod_init_215 rfl ?_
  refine r_iconst (v := 0) d_Mod_init_216 (by decide) ?_
  refine r_sipush (v := 1000) d_Mod_init_217 (by decide) ?_
  refine n_fill (n := 0) (N := 9) d_Mod_init_220 (n_aI (j := 2) (by omega) rfl) (by decide) (by decide) (by decide) (by decide) ?_
  refine r_dup d_Mod_init_221 rfl ?_
  refine r_iconst (v := 1) d_Mod_init_222 (by decide) ?_
  refine r_sipush (v := 981) d_Mod_init_223 (by decide) ?_
  refine n_fill (n := 1) (N := 9) d_Mod_init_226 (n_aI (j := 2) (by omega) rfl) (by decide) (by decide) (by decide) (by decide) ?_
  refine r_dup d_Mod_init_227 rfl ?_
  refine r_iconst (v := 2) d_Mod_init_228 (by decide) ?_
  refine r_sipush (v := 924) d_Mod_init_229 (by decide) ?_
  refine n_fill (n := 2) (N := 9) d_Mod_init_232 (n_aI (j := 2) (by omega) rfl) (by decide) (by decide) (by decide) (by decide) ?_
  refine r_dup d_Mod_init_233 rfl ?_
  refine r_iconst (v := 3) d_Mod_init_234 (by decide) ?_
  refine r_sipush (v := 831) d_Mod_init_235 (by decide) ?_
  refine n_fill (n := 3) (N := 9) d_Mod_init_238 (n_aI (j := 2) (by omega) rfl) (by decide) (by decide) (by decide) (by decide) ?_
  refine r_dup d_Mod_init_239 rfl ?_
  refine r_iconst (v := 4) d_Mod_init_240 (by decide) ?_
  refine r_sipush (v := 707) d_Mod_init_241 (by decide) ?_
  refine n_fill (n := 4) (N := 9) d_Mod_init_244 (n_aI (j := 2) (by omega) rfl) (by decide) (by decide) (by decide) (by decide) ?_
  refine r_dup d_Mod_init_245 rfl ?_
  refine r_iconst (v := 5) d_Mod_init_246 (by decide) ?_
  refine r_sipush (v := 556) d_Mod_init_247 (by decide) ?_
  refine n_fill (n := 5) (N := 9) d_Mod_init_250 (n_aI (j := 2) (by omega) rfl) (by decide) (by decide) (by decide) (by decide) ?_
  refine r_dup d_Mod_init_251 rfl ?_
  refine r_bipush (v := 6) d_Mod_init_252 (by decide) ?_
  refine r_sipush (v := 383) d_Mod_init_254 (by decide) ?_
  refine n_fill (n := 6) (N := 9) d_Mod_init_257 (n_aI (j := 2) (by omega) rfl) (by decide) (by decide) (by decide) (by decide) ?_
  refine r_dup d_Mod_init_258 rfl ?_
  refine r_bipush (v := 7) d_Mod_init_259 (by decide) ?_
  refine r_sipush (v := 195) d_Mod_init_261 (by decide) ?_
  refine n_fill (n := 7) (N := 9) d_Mod_init_264 (n_aI (j := 2) (by omega) rfl) (by decide) (by decide) (by decide) (by decide) ?_
  refine r_dup d_Mod_init_265 rfl ?_
  refine r_bipush (v := 8) d_Mod_init_266 (by decide) ?_
  refine r_iconst (v := 0) d_Mod_init_268 (by decide) ?_
  refine n_fill (n := 8) (N := 9) d_Mod_init_269 (n_aI (j := 2) (by omega) rfl) (by decide) (by decide) (by decide) (by decide) ?_
  refine n_putF (j := 0) (e := 1038) (sl := [1036, 2, 0, 2, 0, 2, 2, 2, 0, 0, 0, 2, 2, 0, 0, 0, 0, 0, 0, 0, 0, 2, 0, 0, 0, 2, 0, 0, 0, 2, 2, 2, 2, 0, 1]) (b := 518) (U' := [(0, 12, 0, 0, [1036, 1038, 0, 2, 0, 2, 2, 2, 0, 0, 0, 2, 2, 0, 0, 0, 0, 0, 0, 0, 0, 2, 0, 0, 0, 2, 0, 0, 0, 2, 2, 2, 2, 0, 1]), (1, 32, 0, 0, []), (1, 9, 0, 0, [])]) d_Mod_init_270 ff_Mod_13 rfl (by omega) rfl rfl rfl (VOk_arr _ _) ?_
  refine r_aload_n d_Mod_init_273 rfl ?_
  refine r_bipush (v := 24) d_Mod_init_274 (by decide) ?_
  refine n_newi (bc := 11) (bs := 18984) (a := 519) (N := 24) (U' := [(0, 12, 0, 0, [1036, 1038, 0, 2, 0, 2, 2, 2, 0, 0, 0, 2, 2, 0, 0, 0, 0, 0, 0, 0, 0, 2, 0, 0, 0, 2, 0, 0, 0, 2, 2, 2, 2, 0, 1]), (1, 32, 0, 0, []), (1, 9, 0, 0, []), (1, 24, 0, 0, [])]) d_Mod_init_276 (by decide) (by decide) (by decide) (by omega) (by omega) (by rw [List.length_append, hT]; rfl) (fun k => (rowN_o _ _ _ (by decide) _).trans ((rowN_o _ _ _ (by decide) _).trans (hM _ (by omega) _))) rfl ?_
  refine n_putF (j := 0) (e := 1040) (sl := [1036, 1038, 0, 2, 0, 2, 2, 2, 0, 0, 0, 2, 2, 0, 0, 0, 0, 0, 0, 0, 0, 2, 0, 0, 0, 2, 0, 0, 0, 2, 2, 2, 2, 0, 1]) (b := 519) (U' := [(0, 12, 0, 0, [1036, 1038, 0, 1040, 0, 2, 2, 2, 0, 0, 0, 2, 2, 0, 0, 0, 0, 0, 0, 0, 0, 2, 0, 0, 0, 2, 0, 0, 0, 2, 2, 2, 2, 0, 1]), (1, 32, 0, 0, []), (1, 9, 0, 0, []), (1, 24, 0, 0, [])]) d_Mod_init_278 ff_Mod_16 rfl (by omega) rfl rfl rfl (VOk_arr _ _) ?_
  refine r_aload_n d_Mod_init_281 rfl ?_
  refine r_sipush (v := 192) d_Mod_init_282 (by decide) ?_
  refine n_newi (bc := 10) (bs := 18792) (a := 520) (N := 192) (U' := [(0, 12, 0, 0, [1036, 1038, 0, 1040, 0, 2, 2, 2, 0, 0, 0, 2, 2, 0, 0, 0, 0, 0, 0, 0, 0, 2, 0, 0, 0, 2, 0, 0, 0, 2, 2, 2, 2, 0, 1]), (1, 32, 0, 0, []), (1, 9, 0, 0, []), (1, 24, 0, 0, []), (1, 192, 0, 0, [])]) d_Mod_init_285 (by decide) (by decide) (by decide) (by omega) (by omega) (by rw [List.length_append, hT]; rfl) (fun k => (rowN_o _ _ _ (by decide) _).trans ((rowN_o _ _ _ (by decide) _).trans (hM _ (by omega) _))) rfl ?_
  refine n_putF (j := 0) (e := 1042) (sl := [1036, 1038, 0, 1040, 0, 2, 2, 2, 0, 0, 0, 2, 2, 0, 0, 0, 0, 0, 0, 0, 0, 2, 0, 0, 0, 2, 0, 0, 0, 2, 2, 2, 2, 0, 1]) (b := 520) (U' := [(0, 12, 0, 0, [1036, 1038, 0, 1040, 0, 1042, 2, 2, 0, 0, 0, 2, 2, 0, 0, 0, 0, 0, 0, 0, 0, 2, 0, 0, 0, 2, 0, 0, 0, 2, 2, 2, 2, 0, 1]), (1, 32, 0, 0, []), (1, 9, 0, 0, []), (1, 24, 0, 0, []), (1, 192, 0, 0, [])]) d_Mod_init_287 ff_Mod_19 rfl (by omega) rfl rfl rfl (VOk_arr _ _) ?_
  refine r_aload_n d_Mod_init_290 rfl ?_
  refine r_bipush (v := 96) d_Mod_init_291 (by decide) ?_
  refine n_newi (bc := 9) (bs := 18696) (a := 521) (N := 96) (U' := [(0, 12, 0, 0, [1036, 1038, 0, 1040, 0, 1042, 2, 2, 0, 0, 0, 2, 2, 0, 0, 0, 0, 0, 0, 0, 0, 2, 0, 0, 0, 2, 0, 0, 0, 2, 2, 2, 2, 0, 1]), (1, 32, 0, 0, []), (1, 9, 0, 0, []), (1, 24, 0, 0, []), (1, 192, 0, 0, []), (1, 96, 0, 0, [])]) d_Mod_init_293 (by decide) (by decide) (by decide) (by omega) (by omega) (by rw [List.length_append, hT]; rfl) (fun k => (rowN_o _ _ _ (by decide) _).trans ((rowN_o _ _ _ (by decide) _).trans (hM _ (by omega) _))) rfl ?_
  refine n_putF (j := 0) (e := 1044) (sl := [1036, 1038, 0, 1040, 0, 1042, 2, 2, 0, 0, 0, 2, 2, 0, 0, 0, 0, 0, 0, 0, 0, 2, 0, 0, 0, 2, 0, 0, 0, 2, 2, 2, 2, 0, 1]) (b := 521) (U' := [(0, 12, 0, 0, [1036, 1038, 0, 1040, 0, 1042, 1044, 2, 0, 0, 0, 2, 2, 0, 0, 0, 0, 0, 0, 0, 0, 2, 0, 0, 0, 2, 0, 0, 0, 2, 2, 2, 2, 0, 1]), (1, 32, 0, 0, []), (1, 9, 0, 0, []), (1, 24, 0, 0, []), (1, 192, 0, 0, []), (1, 96, 0, 0, [])]) d_Mod_init_295 ff_Mod_22 rfl (by omega) rfl rfl rfl (VOk_arr _ _) ?_
  refine r_aload_n d_Mod_init_298 rfl ?_
  refine r_bipush (v := 72) d_Mod_init_299 (by decide) ?_
  refine n_newi (bc := 8) (bs := 18624) (a := 522) (N := 72) (U' := [(0, 12, 0, 0, [1036, 1038, 0, 1040, 0, 1042, 1044, 2, 0, 0, 0, 2, 2, 0, 0, 0, 0, 0, 0, 0, 0, 2, 0, 0, 0, 2, 0, 0, 0, 2, 2, 2, 2, 0, 1]), (1, 32, 0, 0, []), (1, 9, 0, 0, []), (1, 24, 0, 0, []), (1, 192, 0, 0, []), (1, 96, 0, 0, []), (1, 72, 0, 0, [])]) d_Mod_init_301 (by decide) (by decide) (by decide) (by omega) (by omega) (by rw [List.length_append, hT]; rfl) (fun k => (rowN_o _ _ _ (by decide) _).trans ((rowN_o _ _ _ (by decide) _).trans (hM _ (by omega) _))) rfl ?_
  refine n_putF (j := 0) (e := 1046) (sl := [1036, 1038, 0, 1040, 0, 1042, 1044, 2, 0, 0, 0, 2, 2, 0, 0, 0, 0, 0, 0, 0, 0, 2, 0, 0, 0, 2, 0, 0, 0, 2, 2, 2, 2, 0, 1]) (b := 522) (U' := [(0, 12, 0, 0, [1036, 1038, 0, 1040, 0, 1042, 1044, 1046, 0, 0, 0, 2, 2, 0, 0, 0, 0, 0, 0, 0, 0, 2, 0, 0, 0, 2, 0, 0, 0, 2, 2, 2, 2, 0, 1]), (1, 32, 0, 0, []), (1, 9, 0, 0, []), (1, 24, 0, 0, []), (1, 192, 0, 0, []), (1, 96, 0, 0, []), (1, 72, 0, 0, [])]) d_Mod_init_303 ff_Mod_25 rfl (by omega) rfl rfl rfl (VOk_arr _ _) ?_
  refine r_aload_n d_Mod_init_306 rfl ?_
  refine r_sipush (v := 2000) d_Mod_init_307 (by decide) ?_
  refine x_putI d_Mod_init_310 fl_Mod_28 (fun r hr => by cases hr; rfl) (n_fI (j := 0) (by omega) rfl rfl) (VOk_int _) ?_
  refine r_aload_n d_Mod_init_313 rfl ?_
  refine r_bipush (v := 8) d_Mod_init_314 (by decide) ?_
  refine x_putI d_Mod_init_316 fl_Mod_32 (fun r hr => by cases hr; rfl) (n_fI (j := 0) (by omega) rfl rfl) (VOk_int _) ?_
  refine r_aload_n d_Mod_init_319 rfl ?_
  refine r_bipush (v := 8) d_Mod_init_320 (by decide) ?_
  refine x_putI d_Mod_init_322 fl_Mod_35 (fun r hr => by cases hr; rfl) (n_fI (j := 0) (by omega) rfl rfl) (VOk_int _) ?_
  refine r_aload_n d_Mod_init_325 rfl ?_
  refine r_sipush (v := 400) d_Mod_init_326 (by decide) ?_
  refine n_newi (bc := 7) (bs := 18224) (a := 523) (N := 400) (U' := [(0, 12, 0, 0, [1036, 1038, 0, 1040, 0, 1042, 1044, 1046, 0, 0, 0, 2, 2, 0, 0, 0, 0, 0, 0, 0, 0, 2, 0, 0, 0, 2, 0, 0, 0, 2, 2, 2, 2, 0, 1]), (1, 32, 0, 0, []), (1, 9, 0, 0, []), (1, 24, 0, 0, []), (1, 192, 0, 0, []), (1, 96, 0, 0, []), (1, 72, 0, 0, []), (1, 400, 0, 0, [])]) d_Mod_init_329 (by decide) (by decide) (by decide) (by omega) (by omega) (by rw [List.length_append, hT]; rfl) (fun k => (up_ne _ _ (by omega)).trans ((up_ne _ _ (by omega)).trans ((up_ne _ _ (by omega)).trans ((rowN_o _ _ _ (by decide) _).trans ((rowN_o _ _ _ (by decide) _).trans (hM _ (by omega) _)))))) rfl ?_
  refine n_putF (j := 0) (e := 1048) (sl := [1036, 1038, 0, 1040, 0, 1042, 1044, 1046, 0, 0, 0, 2, 2, 0, 0, 0, 0, 0, 0, 0, 0, 2, 0, 0, 0, 2, 0, 0, 0, 2, 2, 2, 2, 0, 1]) (b := 523) (U' := [(0, 12, 0, 0, [1036, 1038, 0, 1040, 0, 1042, 1044, 1046, 0, 0, 0, 1048, 2, 0, 0, 0, 0, 0, 0, 0, 0, 2, 0, 0, 0, 2, 0, 0, 0, 2, 2, 2, 2, 0, 1]), (1, 32, 0, 0, []), (1, 9, 0, 0, []), (1, 24, 0, 0, []), (1, 192, 0, 0, []), (1, 96, 0, 0, []), (1, 72, 0, 0, []), (1, 400, 0, 0, [])]) d_Mod_init_331 ff_Mod_38 rfl (by omega) rfl rfl rfl (VOk_arr _ _) ?_
  refine r_aload_n d_Mod_init_334 rfl ?_
  refine r_sipush (v := 400) d_Mod_init_335 (by decide) ?_
  refine n_newz (bc := 6) (bs := 17824) (a := 524) (N := 400) (U' := [(0, 12, 0, 0, [1036, 1038, 0, 1040, 0, 1042, 1044, 1046, 0, 0, 0, 1048, 2, 0, 0, 0, 0, 0, 0, 0, 0, 2, 0, 0, 0, 2, 0, 0, 0, 2, 2, 2, 2, 0, 1]), (1, 32, 0, 0, []), (1, 9, 0, 0, []), (1, 24, 0, 0, []), (1, 192, 0, 0, []), (1, 96, 0, 0, []), (1, 72, 0, 0, []), (1, 400, 0, 0, []), (2, 400, 0, 0, [])]) d_Mod_init_338 (by decide) (by decide) (by decide) (by omega) (by omega) (by rw [List.length_append, hT]; rfl) (fun k => (up_ne _ _ (by omega)).trans ((up_ne _ _ (by omega)).trans ((up_ne _ _ (by omega)).trans ((rowN_o _ _ _ (by decide) _).trans ((rowN_o _ _ _ (by decide) _).trans (hM _ (by omega) _)))))) rfl ?_
  refine n_putF (j := 0) (e := 1050) (sl := [1036, 1038, 0, 1040, 0, 1042, 1044, 1046, 0, 0, 0, 1048, 2, 0, 0, 0, 0, 0, 0, 0, 0, 2, 0, 0, 0, 2, 0, 0, 0, 2, 2, 2, 2, 0, 1]) (b := 524) (U' := [(0, 12, 0, 0, [1036, 1038, 0, 1040, 0, 1042, 1044, 1046, 0, 0, 0, 1048, 1050, 0, 0, 0, 0, 0, 0, 0, 0, 2, 0, 0, 0, 2, 0, 0, 0, 2, 2, 2, 2, 0, 1]), (1, 32, 0, 0, []), (1, 9, 0, 0, []), (1, 24, 0, 0, []), (1, 192, 0, 0, []), (1, 96, 0, 0, []), (1, 72, 0, 0, []), (1, 400, 0, 0, []), (2, 400, 0, 0, [])]) d_Mod_init_340 ff_Mod_41 rfl (by omega) rfl rfl rfl (VOk_arr _ _) ?_
  refine r_aload_n d_Mod_init_343 rfl ?_
  refine r_sipush (v := 200) d_Mod_init_344 (by decide) ?_
  refine n_newi (bc := 5) (bs := 17624) (a := 525) (N := 200) (U' := [(0, 12, 0, 0, [1036, 1038, 0, 1040, 0, 1042, 1044, 1046, 0, 0, 0, 1048, 1050, 0, 0, 0, 0, 0, 0, 0, 0, 2, 0, 0, 0, 2, 0, 0, 0, 2, 2, 2, 2, 0, 1]), (1, 32, 0, 0, []), (1, 9, 0, 0, []), (1, 24, 0, 0, []), (1, 192, 0, 0, []), (1, 96, 0, 0, []), (1, 72, 0, 0, []), (1, 400, 0, 0, []), (2, 400, 0, 0, []), (1, 200, 0, 0, [])]) d_Mod_init_347 (by decide) (by decide) (by decide) (by omega) (by omega) (by rw [List.length_append, hT]; rfl) (fun k => (up_ne _ _ (by omega)).trans ((up_ne _ _ (by omega)).trans ((up_ne _ _ (by omega)).trans ((rowN_o _ _ _ (by decide) _).trans ((rowN_o _ _ _ (by decide) _).trans (hM _ (by omega) _)))))) rfl ?_
  refine n_putF (j := 0) (e := 1052) (sl := [1036, 1038, 0, 1040, 0, 1042, 1044, 1046, 0, 0, 0, 1048, 1050, 0, 0, 0, 0, 0, 0, 0, 0, 2, 0, 0, 0, 2, 0, 0, 0, 2, 2, 2, 2, 0, 1]) (b := 525) (U' := [(0, 12, 0, 0, [1036, 1038, 0, 1040, 0, 1042, 1044, 1046, 0, 0, 0, 1048, 1050, 0, 0, 0, 0, 0, 0, 0, 0, 1052, 0, 0, 0, 2, 0, 0, 0, 2, 2, 2, 2, 0, 1]), (1, 32, 0, 0, []), (1, 9, 0, 0, []), (1, 24, 0, 0, []), (1, 192, 0, 0, []), (1, 96, 0, 0, []), (1, 72, 0, 0, []), (1, 400, 0, 0, []), (2, 400, 0, 0, []), (1, 200, 0, 0, [])]) d_Mod_init_349 ff_Mod_45 rfl (by omega) rfl rfl rfl (VOk_arr _ _) ?_
  refine r_aload_n d_Mod_init_352 rfl ?_
  refine r_bipush (v := 24) d_Mod_init_353 (by decide) ?_
  refine n_newi (bc := 4) (bs := 17600) (a := 526) (N := 24) (U' := [(0, 12, 0, 0, [1036, 1038, 0, 1040, 0, 1042, 1044, 1046, 0, 0, 0, 1048, 1050, 0, 0, 0, 0, 0, 0, 0, 0, 1052, 0, 0, 0, 2, 0, 0, 0, 2, 2, 2, 2, 0, 1]), (1, 32, 0, 0, []), (1, 9, 0, 0, []), (1, 24, 0, 0, []), (1, 192, 0, 0, []), (1, 96, 0, 0, []), (1, 72, 0, 0, []), (1, 400, 0, 0, []), (2, 400, 0, 0, []), (1, 200, 0, 0, []), (1, 24, 0, 0, [])]) d_Mod_init_355 (by decide) (by decide) (by decide) (by omega) (by omega) (by rw [List.length_append, hT]; rfl) (fun k => (up_ne _ _ (by omega)).trans ((up_ne _ _ (by omega)).trans ((up_ne _ _ (by omega)).trans ((rowN_o _ _ _ (by decide) _).trans ((rowN_o _ _ _ (by decide) _).trans (hM _ (by omega) _)))))) rfl ?_
  refine n_putF (j := 0) (e := 1054) (sl := [1036, 1038, 0, 1040, 0, 1042, 1044, 1046, 0, 0, 0, 1048, 1050, 0, 0, 0, 0, 0, 0, 0, 0, 1052, 0, 0, 0, 2, 0, 0, 0, 2, 2, 2, 2, 0, 1]) (b := 526) (U' := [(0, 12, 0, 0, [1036, 1038, 0, 1040, 0, 1042, 1044, 1046, 0, 0, 0, 1048, 1050, 0, 0, 0, 0, 0, 0, 0, 0, 1052, 0, 0, 0, 1054, 0, 0, 0, 2, 2, 2, 2, 0, 1]), (1, 32, 0, 0, []), (1, 9, 0, 0, []), (1, 24, 0, 0, []), (1, 192, 0, 0, []), (1, 96, 0, 0, []), (1, 72, 0, 0, []), (1, 400, 0, 0, []), (2, 400, 0, 0, []), (1, 200, 0, 0, []), (1, 24, 0, 0, [])]) d_Mod_init_357 ff_Mod_48 rfl (by omega) rfl rfl rfl (VOk_arr _ _) ?_
  refine r_aload_n d_Mod_init_360 rfl ?_
  refine r_sipush (v := 400) d_Mod_init_361 (by decide) ?_
  refine n_newz (bc := 3) (bs := 17200) (a := 527) (N := 400) (U' := [(0, 12, 0, 0, [1036, 1038, 0, 1040, 0, 1042, 1044, 1046, 0, 0, 0, 1048, 1050, 0, 0, 0, 0, 0, 0, 0, 0, 1052, 0, 0, 0, 1054, 0, 0, 0, 2, 2, 2, 2, 0, 1]), (1, 32, 0, 0, []), (1, 9, 0, 0, []), (1, 24, 0, 0, []), (1, 192, 0, 0, []), (1, 96, 0, 0, []), (1, 72, 0, 0, []), (1, 400, 0, 0, []), (2, 400, 0, 0, []), (1, 200, 0, 0, []), (1, 24, 0, 0, []), (2, 400, 0, 0, [])]) d_Mod_init_364 (by decide) (by decide) (by decide) (by omega) (by omega) (by rw [List.length_append, hT]; rfl) (fun k => (up_ne _ _ (by omega)).trans ((up_ne _ _ (by omega)).trans ((up_ne _ _ (by omega)).trans ((rowN_o _ _ _ (by decide) _).trans ((rowN_o _ _ _ (by decide) _).trans (hM _ (by omega) _)))))) rfl ?_
  refine n_putF (j := 0) (e := 1056) (sl := [1036, 1038, 0, 1040, 0, 1042, 1044, 1046, 0, 0, 0, 1048, 1050, 0, 0, 0, 0, 0, 0, 0, 0, 1052, 0, 0, 0, 1054, 0, 0, 0, 2, 2, 2, 2, 0, 1]) (b := 527) (U' := [(0, 12, 0, 0, [1036, 1038, 0, 1040, 0, 1042, 1044, 1046, 0, 0, 0, 1048, 1050, 0, 0, 0, 0, 0, 0, 0, 0, 1052, 0, 0, 0, 1054, 0, 0, 0, 1056, 2, 2, 2, 0, 1]), (1, 32, 0, 0, []), (1, 9, 0, 0, []), (1, 24, 0, 0, []), (1, 192, 0, 0, []), (1, 96, 0, 0, []), (1, 72, 0, 0, []), (1, 400, 0, 0, []), (2, 400, 0, 0, []), (1, 200, 0, 0, []), (1, 24, 0, 0, []), (2, 400, 0, 0, [])]) d_Mod_init_366 ff_Mod_51 rfl (by omega) rfl rfl rfl (VOk_arr _ _) ?_
  refine r_aload_n d_Mod_init_369 rfl ?_
  refine r_sipush (v := 400) d_Mod_init_370 (by decide) ?_
  refine n_newz (bc := 2) (bs := 16800) (a := 528) (N := 400) (U' := [(0, 12, 0, 0, [1036, 1038, 0, 1040, 0, 1042, 1044, 1046, 0, 0, 0, 1048, 1050, 0, 0, 0, 0, 0, 0, 0, 0, 1052, 0, 0, 0, 1054, 0, 0, 0, 1056, 2, 2, 2, 0, 1]), (1, 32, 0, 0, []), (1, 9, 0, 0, []), (1, 24, 0, 0, []), (1, 192, 0, 0, []), (1, 96, 0, 0, []), (1, 72, 0, 0, []), (1, 400, 0, 0, []), (2, 400, 0, 0, []), (1, 200, 0, 0, []), (1, 24, 0, 0, []), (2, 400, 0, 0, []), (2, 400, 0, 0, [])]) d_Mod_init_373 (by decide) (by decide) (by decide) (by omega) (by omega) (by rw [List.length_append, hT]; rfl) (fun k => (up_ne _ _ (by omega)).trans ((up_ne _ _ (by omega)).trans ((up_ne _ _ (by omega)).trans ((rowN_o _ _ _ (by decide) _).trans ((rowN_o _ _ _ (by decide) _).trans (hM _ (by omega) _)))))) rfl ?_
  refine n_putF (j := 0) (e := 1058) (sl := [1036, 1038, 0, 1040, 0, 1042, 1044, 1046, 0, 0, 0, 1048, 1050, 0, 0, 0, 0, 0, 0, 0, 0, 1052, 0, 0, 0, 1054, 0, 0, 0, 1056, 2, 2, 2, 0, 1]) (b := 528) (U' := [(0, 12, 0, 0, [1036, 1038, 0, 1040, 0, 1042, 1044, 1046, 0, 0, 0, 1048, 1050, 0, 0, 0, 0, 0, 0, 0, 0, 1052, 0, 0, 0, 1054, 0, 0, 0, 1056, 1058, 2, 2, 0, 1]), (1, 32, 0, 0, []), (1, 9, 0, 0, []), (1, 24, 0, 0, []), (1, 192, 0, 0, []), (1, 96, 0, 0, []), (1, 72, 0, 0, []), (1, 400, 0, 0, []), (2, 400, 0, 0, []), (1, 200, 0, 0, []), (1, 24, 0, 0, []), (2, 400, 0, 0, []), (2, 400, 0, 0, [])]) d_Mod_init_375 ff_Mod_54 rfl (by omega) rfl rfl rfl (VOk_arr _ _) ?_
  refine r_aload_n d_Mod_init_378 rfl ?_
  refine r_sipush (v := 16400) d_Mod_init_379 (by decide) ?_
  refine n_newz (bc := 1) (bs := 400) (a := 529) (N := 16400) (U' := [(0, 12, 0, 0, [1036, 1038, 0, 1040, 0, 1042, 1044, 1046, 0, 0, 0, 1048, 1050, 0, 0, 0, 0, 0, 0, 0, 0, 1052, 0, 0, 0, 1054, 0, 0, 0, 1056, 1058, 2, 2, 0, 1]), (1, 32, 0, 0, []), (1, 9, 0, 0, []), (1, 24, 0, 0, []), (1, 192, 0, 0, []), (1, 96, 0, 0, []), (1, 72, 0, 0, []), (1, 400, 0, 0, []), (2, 400, 0, 0, []), (1, 200, 0, 0, []), (1, 24, 0, 0, []), (2, 400, 0, 0, []), (2, 400, 0, 0, []), (2, 16400, 0, 0, [])]) d_Mod_init_382 (by decide) (by decide) (by decide) (by omega) (by omega) (by rw [List.length_append, hT]; rfl) (fun k => (up_ne _ _ (by omega)).trans ((up_ne _ _ (by omega)).trans ((up_ne _ _ (by omega)).trans ((rowN_o _ _ _ (by decide) _).trans ((rowN_o _ _ _ (by decide) _).trans (hM _ (by omega) _)))))) rfl ?_
  refine n_putF (j := 0) (e := 1060) (sl := [1036, 1038, 0, 1040, 0, 1042, 1044, 1046, 0, 0, 0, 1048, 1050, 0, 0, 0, 0, 0, 0, 0, 0, 1052, 0, 0, 0, 1054, 0, 0, 0, 1056, 1058, 2, 2, 0, 1]) (b := 529) (U' := [(0, 12, 0, 0, [1036, 1038, 0, 1040, 0, 1042, 1044, 1046, 0, 0, 0, 1048, 1050, 0, 0, 0, 0, 0, 0, 0, 0, 1052, 0, 0, 0, 1054, 0, 0, 0, 1056, 1058, 1060, 2, 0, 1]), (1, 32, 0, 0, []), (1, 9, 0, 0, []), (1, 24, 0, 0, []), (1, 192, 0, 0, []), (1, 96, 0, 0, []), (1, 72, 0, 0, []), (1, 400, 0, 0, []), (2, 400, 0, 0, []), (1, 200, 0, 0, []), (1, 24, 0, 0, []), (2, 400, 0, 0, []), (2, 400, 0, 0, []), (2, 16400, 0, 0, [])]) d_Mod_init_384 ff_Mod_57 rfl (by omega) rfl rfl rfl (VOk_arr _ _) ?_
  refine r_aload_n d_Mod_init_387 rfl ?_
  refine r_sipush (v := 400) d_Mod_init_388 (by decide) ?_
  refine n_newi (bc := 0) (bs := 0) (a := 530) (N := 400) (U' := [(0, 12, 0, 0, [1036, 1038, 0, 1040, 0, 1042, 1044, 1046, 0, 0, 0, 1048, 1050, 0, 0, 0, 0, 0, 0, 0, 0, 1052, 0, 0, 0, 1054, 0, 0, 0, 1056, 1058, 1060, 2, 0, 1]), (1, 32, 0, 0, []), (1, 9, 0, 0, []), (1, 24, 0, 0, []), (1, 192, 0, 0, []), (1, 96, 0, 0, []), (1, 72, 0, 0, []), (1, 400, 0, 0, []), (2, 400, 0, 0, []), (1, 200, 0, 0, []), (1, 24, 0, 0, []), (2, 400, 0, 0, []), (2, 400, 0, 0, []), (2, 16400, 0, 0, []), (1, 400, 0, 0, [])]) d_Mod_init_391 (by decide) (by decide) (by decide) (by omega) (by omega) (by rw [List.length_append, hT]; rfl) (fun k => (up_ne _ _ (by omega)).trans ((up_ne _ _ (by omega)).trans ((up_ne _ _ (by omega)).trans ((rowN_o _ _ _ (by decide) _).trans ((rowN_o _ _ _ (by decide) _).trans (hM _ (by omega) _)))))) rfl ?_
  refine n_putF (j := 0) (e := 1062) (sl := [1036, 1038, 0, 1040, 0, 1042, 1044, 1046, 0, 0, 0, 1048, 1050, 0, 0, 0, 0, 0, 0, 0, 0, 1052, 0, 0, 0, 1054, 0, 0, 0, 1056, 1058, 1060, 2, 0, 1]) (b := 530) (U' := [(0, 12, 0, 0, [1036, 1038, 0, 1040, 0, 1042, 1044, 1046, 0, 0, 0, 1048, 1050, 0, 0, 0, 0, 0, 0, 0, 0, 1052, 0, 0, 0, 1054, 0, 0, 0, 1056, 1058, 1060, 1062, 0, 1]), (1, 32, 0, 0, []), (1, 9, 0, 0, []), (1, 24, 0, 0, []), (1, 192, 0, 0, []), (1, 96, 0, 0, []), (1, 72, 0, 0, []), (1, 400, 0, 0, []), (2, 400, 0, 0, []), (1, 200, 0, 0, []), (1, 24, 0, 0, []), (2, 400, 0, 0, []), (2, 400, 0, 0, []), (2, 16400, 0, 0, []), (1, 400, 0, 0, [])]) d_Mod_init_393 ff_Mod_60 rfl (by omega) rfl rfl rfl (VOk_arr _ _) ?_
  rw [hS]
  refine r_aload_n d_Mod_init_396 rfl ?_
  refine n_callV (as := []) (st := []) (b := 516) (ci := 12) d_Mod_init_397 ml_Mod_63 mc_Mod_flood mv_Mod_flood ⟨by decide, by decide⟩ gO_516 ⟨_, rfl, rfl⟩ rfl (Nat.le_of_ble_eq_true rfl) (Nat.le_of_ble_eq_true rfl) (Q1 := fun r M' L1 => none = r ∧ 0 = L1 ∧ (∀ b k, b ≠ 523 → b ≠ 524 → ¬ (b = 516 ∧ 17 ≤ k ∧ k ≤ 19) → M' b k = MM M b k) ∧ (∀ k, k < 400 → M' 523 k = 50 ∧ M' 524 k = 0) ∧ M' 516 17 = 0 ∧ M' 516 18 = 0 ∧ M' 516 19 = 0) (m_flood (fun M' h1 h2 h3 h4 h5 => ⟨rfl, rfl, h1, h2, h3, h4, h5⟩)) ?_
  rintro _ M' _ ⟨rfl, rfl, hf⟩
  change RR xs md_Mod_init 400 [.ref 516] [] _ _ _ _
  exact r_vret ⟨d_Mod_init_400, rfl⟩ ⟨rfl, M', rfl, by rw [rowN_0]; exact hf⟩

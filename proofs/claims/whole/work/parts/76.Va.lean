/-! the constructors: rules of making cells -/
def FF (own : String) (idx ci k : Nat) : Prop := ∃ r : vw_C, clsL[ci]? = some r ∧ k < r.2.2 ∧ (r.2.1 k).1 = r.1 ∧ r.1 = own ∧ (r.2.1 k).2.2.2 = true ∧ Cond.fieldLink own idx r.1 (r.2.1 k).2.1 (r.2.1 k).2.2.1 ∈ wsG
theorem get_app {T U : List Shp} {j a : Nat} (h : T.length + j = a) : (T ++ U)[a]? = U[j]? := by
  subst h
  rw [List.getElem?_append_right (Nat.le_add_right _ _), Nat.add_sub_cancel_left]
theorem set_app {T U : List Shp} {j a : Nat} {s : Shp} (h : T.length + j = a) : (T ++ U).set a s = T ++ U.set j s := by
  subst h
  rw [List.set_append_right _ _ (Nat.le_add_right _ _), Nat.add_sub_cancel_left]
theorem mk_app (S : List Shp) (M : Mem) (L : Int64) (s : Shp) : mkH (S ++ [s]) M L = mkH S M L ++ [cellS M L S.length s] := by
  simp [mkH, List.zipIdx_append]
theorem mk_setS {S : List Shp} {M : Mem} {L : Int64} {a : Nat} {s s' : Shp} {c : Ce} (hs : S[a]? = some s) (hc : c = cellS M L a s') : (mkH S M L).set a c = mkH (S.set a s') M L := by
  apply List.ext_getElem?
  intro b
  rw [List.getElem?_set, mk_get, mk_get, mk_len, List.getElem?_set]
  by_cases hb : a = b
  · subst hb
    have hlt : a < S.length := (List.getElem?_eq_some_iff.mp hs).1
    rw [if_pos rfl, if_pos hlt, if_pos rfl, if_pos hlt, hc]; rfl
  · rw [if_neg hb, if_neg hb]
theorem up_id {M : Mem} {a k : Nat} {v : Int32} (h : M a k = v) : up M a k v = M := by
  funext b j
  by_cases q : b = a ∧ j = k
  · rw [q.1, q.2, up_same, h]
  · exact up_ne M v q
theorem slotsV_z {M : Mem} {a : Nat} {sl : List Nat} (hz : ∀ k, M a k = 0) (he : ∀ e ∈ sl, e ≤ 2) : slotsV M 0 a sl = slotsV (fun _ _ => 0) 0 0 sl := by
  apply List.ext_getElem?
  intro k
  rw [slotsV_get, slotsV_get]
  cases h : sl[k]? with
  | none => rfl
  | some e =>
    have h2 := he e (List.mem_of_getElem? h)
    simp only [Option.map_some, slotV, hz]
    by_cases h0 : e = 0
    · rw [if_pos h0, if_pos h0]
    · rw [if_neg h0, if_neg h0]
      by_cases h1 : e = 1
      · rw [if_pos h1, if_pos h1]
      · have h3 : e = 2 := by omega
        rw [if_neg h1, if_neg h1, if_pos h3, if_pos h3]
section BORN
variable {xs : List Int32} {m mj : Md} {pc pc' : Nat} {lv : List Value} {st as : List Value} {T U U' : List Shp} {M : Mem} {bc bs Bc Bs n idx a ci k j : Nat} {Q Q1 : Option Value → List Ce → Prop}
theorem r_bud {h : List Ce} (hc : bc ≤ Bc) (hs : bs ≤ Bs) (kk : RR xs m pc lv st h bc bs Q) : RR xs m pc lv st h Bc Bs Q := by
  intro l p e R s mi args below meth c Z z D ar ac H locs cells slots ls C E hW hF hB hl
  exact kk l p e R s mi args below meth c Z z D ar ac H locs cells slots ls C E hW hF ⟨by omega, by omega⟩ hl
theorem n_new {dsl : List Nat} (hd : dc3 (mB m) pc (.new idx) pc') (hL : ∃ r : vw_C, clsL[ci]? = some r ∧ r.2.2 = n ∧ Cond.classLink (mY m).cls idx r.1 ∈ wsG ∧ Cond.instantiable r.1 n ∈ wsG ∧ Cond.initialized r.1 ∈ wsG) (hc : bc + 1 ≤ Bc) (hs : bs + n ≤ Bs) (ha : (T ++ U).length = a) (hz : ∀ k, M a k = 0) (he : ∀ e ∈ dsl, e ≤ 2) (hv : dvs ci n = slotsV (fun _ _ => 0) 0 0 dsl) (kk : RR xs m pc' lv (.ref a :: st) (mkH ((T ++ U) ++ [(0, ci, 0, 0, dsl)]) M 0) bc bs Q) : RR xs m pc lv st (mkH (T ++ U) M 0) Bc Bs Q := by
  refine r_bud hc hs (r_new hd hL ?_)
  rw [mk_app, ha] at kk
  rw [mk_len, ha, hv, ← slotsV_z hz he]
  exact kk
theorem n_newi {v : Int32} {N : Nat} (hd : dc2 (mB m) pc (.newarray .int) pc') (hn : ¬ v < 0) (hN : v.toNatClampNeg = N) (hb : N ≤ 100000) (hc : bc + 1 ≤ Bc) (hs : bs + N ≤ Bs) (ha : (T ++ U).length = a) (hz : ∀ k, M a k = 0) (hU : U ++ [(1, N, 0, 0, [])] = U') (kk : RR xs m pc' lv (.ref a :: st) (mkH (T ++ U') M 0) bc bs Q) : RR xs m pc lv (.int v :: st) (mkH (T ++ U) M 0) Bc Bs Q := by
  refine r_bud hc hs (r_newi hd ar_i hn hN hb ?_)
  rw [← hU, ← List.append_assoc, mk_app, ha] at kk
  have e : (fun _ => 0 : Nat → Int32) = M a := by funext k; rw [hz]
  rw [mk_len, ha, e]
  exact kk
theorem n_newz {v : Int32} {N : Nat} (hd : dc2 (mB m) pc (.newarray .boolean) pc') (hn : ¬ v < 0) (hN : v.toNatClampNeg = N) (hb : N ≤ 100000) (hc : bc + 1 ≤ Bc) (hs : bs + N ≤ Bs) (ha : (T ++ U).length = a) (hz : ∀ k, M a k = 0) (hU : U ++ [(2, N, 0, 0, [])] = U') (kk : RR xs m pc' lv (.ref a :: st) (mkH (T ++ U') M 0) bc bs Q) : RR xs m pc lv (.int v :: st) (mkH (T ++ U) M 0) Bc Bs Q := by
  refine r_bud hc hs (r_newz hd ar_z hn hN hb ?_)
  rw [← hU, ← List.append_assoc, mk_app, ha] at kk
  have e : (fun _ => 0 : Nat → Int32) = M a := by funext k; rw [hz]
  rw [mk_len, ha, e]
  exact kk
theorem n_newq {v : Int32} {N b d : Nat} (hd : dc3 (mB m) pc (.anewarray idx) pc') (hL : ∃ r : vw_C, clsL[ci]? = some r ∧ r.1 ∈ aoL ∧ Cond.classLink (mY m).cls idx r.1 ∈ wsG) (hn : ¬ v < 0) (hN : v.toNatClampNeg = N) (hb : N ≤ 100000) (hc : bc + 1 ≤ Bc) (hs : bs + N ≤ Bs) (ha : (T ++ U).length = a) (hU : U ++ [(3, ci, N, b, [d, 0])] = U') (kk : RR xs m pc' lv (.ref a :: st) (mkH (T ++ U') M 0) bc bs Q) : RR xs m pc lv (.int v :: st) (mkH (T ++ U) M 0) Bc Bs Q := by
  refine r_bud hc hs (r_newq hd hL hn hN hb ?_)
  rw [← hU, ← List.append_assoc, mk_app, ha] at kk
  rw [mk_len, ha]
  exact kk
theorem slotsV_set {M : Mem} {a k e : Nat} {sl : List Nat} {v : Value} (he : slotV M 0 a k e = v) : (slotsV M 0 a sl).set k v = slotsV M 0 a (sl.set k e) := by
  apply List.ext_getElem?
  intro j
  rw [List.getElem?_set, slotsV_get, slotsV_get, List.getElem?_set]
  have hl : (slotsV M 0 a sl).length = sl.length := by simp [slotsV]
  rw [hl]
  by_cases h : k = j
  · subst h
    rw [if_pos rfl, if_pos rfl]
    by_cases h2 : k < sl.length
    · rw [if_pos h2, if_pos h2, Option.map_some, he]
    · rw [if_neg h2, if_neg h2]; rfl
  · rw [if_neg h, if_neg h]
theorem n_putF {e b : Nat} {sl : List Nat} (hd : dc3 (mB m) pc (.putfield idx) pc') (hL : FF (mY m).cls idx ci k) (hin : (mY m).name = "<init>") (ha : T.length + j = a) (hs : U[j]? = some (0, ci, 0, 0, sl)) (hU : U.set j (0, ci, 0, 0, sl.set k e) = U') (he : slotV M 0 a k e = .ref b) (hv : VOk (clT ci k) (.ref b)) (kk : RR xs m pc' lv st (mkH (T ++ U') M 0) bc bs Q) : RR xs m pc lv (.ref b :: .ref a :: st) (mkH (T ++ U) M 0) bc bs Q := by
  have h1 : (T ++ U)[a]? = some (0, ci, 0, 0, sl) := by rw [get_app ha]; exact hs
  refine r_putF (ci := ci) (k := k) (fs := slotsV M 0 a sl) hd hL hin (by rw [mk_get, h1]; rfl) hv ?_
  rw [mk_setS (s' := (0, ci, 0, 0, sl.set k e)) h1 (by rw [slotsV_set he]; rfl), set_app ha, hU]
  exact kk
theorem n_getR {e b : Nat} {sl : List Nat} (hd : dc3 (mB m) pc (.getfield idx) pc') (hL : FL (mY m).cls idx ci k) (ha : T.length + j = a) (hs : U[j]? = some (0, ci, 0, 0, sl)) (hk : sl[k]? = some e) (he : slotV M 0 a k e = .ref b) (kk : RR xs m pc' lv (.ref b :: st) (mkH (T ++ U) M 0) bc bs Q) : RR xs m pc lv (.ref a :: st) (mkH (T ++ U) M 0) bc bs Q := by
  have h1 : (T ++ U)[a]? = some (0, ci, 0, 0, sl) := by rw [get_app ha]; exact hs
  exact r_get hd hL (by rw [mk_get, h1]; rfl) (by rw [slotsV_get, hk, Option.map_some, he]) kk
theorem n_fI {sl : List Nat} (ha : T.length + j = a) (hs : U[j]? = some (0, ci, 0, 0, sl)) (hk : sl[k]? = some 0) : fI (T ++ U) a ci k := by
  unfold fI fIb
  rw [get_app ha, hs]
  simp [hk]
theorem n_aI {N : Nat} (ha : T.length + j = a) (hs : U[j]? = some (1, N, 0, 0, [])) : aI (T ++ U) a N := by
  unfold aI aIb
  rw [get_app ha, hs]
  simp
theorem n_isO {sl : List Nat} (ha : T.length + j = a) (hs : U[j]? = some (0, ci, 0, 0, sl)) : isO (T ++ U) a ci := by
  unfold isO
  rw [get_app ha, hs]
  simp
/-- a zero written where a zero stands -/
theorem n_putZ (hd : dc3 (mB m) pc (.putfield idx) pc') (hL : FL (mY m).cls idx ci k) (hnf : ∀ r : vw_C, clsL[ci]? = some r → (r.2.1 k).2.2.2 = false) (ha : fI (T ++ U) a ci k) (hv : VOk (clT ci k) (.int 0)) (hz : M a k = 0) (kk : RR xs m pc' lv st (mkH (T ++ U) M 0) bc bs Q) : RR xs m pc lv (.int 0 :: .ref a :: st) (mkH (T ++ U) M 0) bc bs Q := by
  refine x_putI hd hL hnf ha hv ?_
  rw [up_id hz]
  exact kk
/-- a reference written behind those that stand -/
theorem n_aast {N b d i : Nat} {v : Int32} {c : Nat} {fs : List Value} {S S' : List Shp} (hd : dc1 (mB m) pc .aastore pc') (hs : S[a]? = some (3, ci, N, b, [d, i])) (hin : vp_in v N) (hi : v.toNatClampNeg = i) (hc : b + d * i = c) (ho : (mkH S M 0)[c]? = some (.inr (.inr (ci, fs)))) (hS : S.set a (3, ci, N, b, [d, i + 1]) = S') (kk : RR xs m pc' lv st (mkH S' M 0) bc bs Q) : RR xs m pc lv (.ref c :: .int v :: .ref a :: st) (mkH S M 0) bc bs Q := by
  refine r_aast hd (by rw [mk_get, hs]; rfl) hin ho ?_
  rw [mk_setS (s' := (3, ci, N, b, [d, i + 1])) hs ?_, hS]
  · exact kk
  · show Sum.inr (Sum.inl (ci, N, _)) = Sum.inr (Sum.inl (ci, N, _))
    congr 4
    funext q
    show va_up _ _ _ q = if q < i + 1 then some (b + d * q) else none
    rw [hi, ← hc]
    by_cases e : q = i
    · subst e
      rw [if_pos (by omega)]
      simp [va_up]
    · show (if _ then _ else if q < i then _ else none) = _
      rw [if_neg e]
      by_cases e2 : q < i
      · rw [if_pos e2, if_pos (by omega)]; rfl
      · rw [if_neg e2, if_neg (by omega)]
end BORN
theorem ff_Peg_10 : FF "PegWatch" 10 11 0 := ⟨_, rfl, by decide, rfl, rfl, rfl, mem_t 1 133 (by decide +kernel) (by decide +kernel)⟩
theorem ff_Peg_19 : FF "PegWatch" 19 11 1 := ⟨_, rfl, by decide, rfl, rfl, rfl, mem_t 1 134 (by decide +kernel) (by decide +kernel)⟩
theorem ff_Peg_26 : FF "PegWatch" 26 11 2 := ⟨_, rfl, by decide, rfl, rfl, rfl, mem_t 1 135 (by decide +kernel) (by decide +kernel)⟩
theorem ff_Peg_33 : FF "PegWatch" 33 11 3 := ⟨_, rfl, by decide, rfl, rfl, rfl, mem_t 1 136 (by decide +kernel) (by decide +kernel)⟩
theorem ff_Peg_42 : FF "PegWatch" 42 11 4 := ⟨_, rfl, by decide, rfl, rfl, rfl, mem_t 1 137 (by decide +kernel) (by decide +kernel)⟩
theorem ff_Peg_51 : FF "PegWatch" 51 11 5 := ⟨_, rfl, by decide, rfl, rfl, rfl, mem_t 1 138 (by decide +kernel) (by decide +kernel)⟩
theorem ff_Words_11 : FF "PegWatch$Words" 11 10 0 := ⟨_, rfl, by decide, rfl, rfl, rfl, mem_t 0 32 (by decide +kernel) (by decide +kernel)⟩
theorem ff_Words_15 : FF "PegWatch$Words" 15 10 1 := ⟨_, rfl, by decide, rfl, rfl, rfl, mem_t 0 33 (by decide +kernel) (by decide +kernel)⟩
theorem ff_Board_11 : FF "PegWatch$Board" 11 0 0 := ⟨_, rfl, by decide, rfl, rfl, rfl, mem_t 0 92 (by decide +kernel) (by decide +kernel)⟩
theorem ff_Watch_11 : FF "PegWatch$Watch" 11 9 0 := ⟨_, rfl, by decide, rfl, rfl, rfl, mem_t 0 60 (by decide +kernel) (by decide +kernel)⟩
theorem ff_Watch_21 : FF "PegWatch$Watch" 21 9 1 := ⟨_, rfl, by decide, rfl, rfl, rfl, mem_t 0 61 (by decide +kernel) (by decide +kernel)⟩
theorem ff_Watch_24 : FF "PegWatch$Watch" 24 9 2 := ⟨_, rfl, by decide, rfl, rfl, rfl, mem_t 0 62 (by decide +kernel) (by decide +kernel)⟩
theorem ff_Watch_27 : FF "PegWatch$Watch" 27 9 3 := ⟨_, rfl, by decide, rfl, rfl, rfl, mem_t 0 63 (by decide +kernel) (by decide +kernel)⟩
theorem ff_Chart_11 : FF "PegWatch$Chart" 11 1 0 := ⟨_, rfl, by decide, rfl, rfl, rfl, mem_t 0 151 (by decide +kernel) (by decide +kernel)⟩
theorem ff_Chart_18 : FF "PegWatch$Chart" 18 1 1 := ⟨_, rfl, by decide, rfl, rfl, rfl, mem_t 0 152 (by decide +kernel) (by decide +kernel)⟩
theorem ff_Chart_22 : FF "PegWatch$Chart" 22 1 2 := ⟨_, rfl, by decide, rfl, rfl, rfl, mem_t 0 155 (by decide +kernel) (by decide +kernel)⟩
theorem ff_Chart_25 : FF "PegWatch$Chart" 25 1 3 := ⟨_, rfl, by decide, rfl, rfl, rfl, mem_t 0 158 (by decide +kernel) (by decide +kernel)⟩
theorem ff_Patch_9 : FF "PegWatch$Patch" 9 4 0 := ⟨_, rfl, by decide, rfl, rfl, rfl, mem_t 0 119 (by decide +kernel) (by decide +kernel)⟩
theorem ff_Log_13 : FF "PegWatch$Log" 13 3 0 := ⟨_, rfl, by decide, rfl, rfl, rfl, mem_t 1 39 (by decide +kernel) (by decide +kernel)⟩
theorem ff_Row_12 : FF "PegWatch$Row" 12 7 0 := ⟨_, rfl, by decide, rfl, rfl, rfl, mem_t 1 4 (by decide +kernel) (by decide +kernel)⟩
theorem ff_Row_18 : FF "PegWatch$Row" 18 7 1 := ⟨_, rfl, by decide, rfl, rfl, rfl, mem_t 1 6 (by decide +kernel) (by decide +kernel)⟩
theorem ff_Row_24 : FF "PegWatch$Row" 24 7 2 := ⟨_, rfl, by decide, rfl, rfl, rfl, mem_t 1 8 (by decide +kernel) (by decide +kernel)⟩
theorem ff_Reckoning_11 : FF "PegWatch$Reckoning" 11 6 0 := ⟨_, rfl, by decide, rfl, rfl, rfl, mem_t 1 71 (by decide +kernel) (by decide +kernel)⟩
theorem ff_Reckoning_17 : FF "PegWatch$Reckoning" 17 6 1 := ⟨_, rfl, by decide, rfl, rfl, rfl, mem_t 1 72 (by decide +kernel) (by decide +kernel)⟩
theorem ff_Reckoning_21 : FF "PegWatch$Reckoning" 21 6 2 := ⟨_, rfl, by decide, rfl, rfl, rfl, mem_t 1 73 (by decide +kernel) (by decide +kernel)⟩
theorem ff_Reckoning_27 : FF "PegWatch$Reckoning" 27 6 3 := ⟨_, rfl, by decide, rfl, rfl, rfl, mem_t 1 74 (by decide +kernel) (by decide +kernel)⟩
theorem ff_Reckoning_31 : FF "PegWatch$Reckoning" 31 6 4 := ⟨_, rfl, by decide, rfl, rfl, rfl, mem_t 1 76 (by decide +kernel) (by decide +kernel)⟩
theorem ff_Reckoning_35 : FF "PegWatch$Reckoning" 35 6 5 := ⟨_, rfl, by decide, rfl, rfl, rfl, mem_t 1 77 (by decide +kernel) (by decide +kernel)⟩
theorem ff_Reckoning_39 : FF "PegWatch$Reckoning" 39 6 6 := ⟨_, rfl, by decide, rfl, rfl, rfl, mem_t 1 78 (by decide +kernel) (by decide +kernel)⟩
theorem ff_Reckoning_42 : FF "PegWatch$Reckoning" 42 6 7 := ⟨_, rfl, by decide, rfl, rfl, rfl, mem_t 1 79 (by decide +kernel) (by decide +kernel)⟩
theorem ff_Reckoning_45 : FF "PegWatch$Reckoning" 45 6 8 := ⟨_, rfl, by decide, rfl, rfl, rfl, mem_t 1 80 (by decide +kernel) (by decide +kernel)⟩
theorem ff_Voyage_9 : FF "PegWatch$Voyage" 9 8 0 := ⟨_, rfl, by decide, rfl, rfl, rfl, mem_t 1 114 (by decide +kernel) (by decide +kernel)⟩
theorem ff_Voyage_18 : FF "PegWatch$Voyage" 18 8 1 := ⟨_, rfl, by decide, rfl, rfl, rfl, mem_t 1 115 (by decide +kernel) (by decide +kernel)⟩
theorem ff_Voyage_22 : FF "PegWatch$Voyage" 22 8 2 := ⟨_, rfl, by decide, rfl, rfl, rfl, mem_t 1 116 (by decide +kernel) (by decide +kernel)⟩
theorem ff_Voyage_28 : FF "PegWatch$Voyage" 28 8 3 := ⟨_, rfl, by decide, rfl, rfl, rfl, mem_t 1 117 (by decide +kernel) (by decide +kernel)⟩
theorem ff_Mod_7 : FF "PegWatchModel" 7 12 0 := ⟨_, rfl, by decide, rfl, rfl, rfl, mem_t 4 44 (by decide +kernel) (by decide +kernel)⟩
theorem ff_Mod_13 : FF "PegWatchModel" 13 12 1 := ⟨_, rfl, by decide, rfl, rfl, rfl, mem_t 4 45 (by decide +kernel) (by decide +kernel)⟩
theorem ff_Mod_16 : FF "PegWatchModel" 16 12 3 := ⟨_, rfl, by decide, rfl, rfl, rfl, mem_t 4 47 (by decide +kernel) (by decide +kernel)⟩
theorem ff_Mod_19 : FF "PegWatchModel" 19 12 5 := ⟨_, rfl, by decide, rfl, rfl, rfl, mem_t 4 49 (by decide +kernel) (by decide +kernel)⟩
theorem ff_Mod_22 : FF "PegWatchModel" 22 12 6 := ⟨_, rfl, by decide, rfl, rfl, rfl, mem_t 4 50 (by decide +kernel) (by decide +kernel)⟩
theorem ff_Mod_25 : FF "PegWatchModel" 25 12 7 := ⟨_, rfl, by decide, rfl, rfl, rfl, mem_t 4 51 (by decide +kernel) (by decide +kernel)⟩
theorem ff_Mod_38 : FF "PegWatchModel" 38 12 11 := ⟨_, rfl, by decide, rfl, rfl, rfl, mem_t 4 55 (by decide +kernel) (by decide +kernel)⟩
theorem ff_Mod_41 : FF "PegWatchModel" 41 12 12 := ⟨_, rfl, by decide, rfl, rfl, rfl, mem_t 4 56 (by decide +kernel) (by decide +kernel)⟩
theorem ff_Mod_45 : FF "PegWatchModel" 45 12 21 := ⟨_, rfl, by decide, rfl, rfl, rfl, mem_t 4 65 (by decide +kernel) (by decide +kernel)⟩
theorem ff_Mod_48 : FF "PegWatchModel" 48 12 25 := ⟨_, rfl, by decide, rfl, rfl, rfl, mem_t 4 69 (by decide +kernel) (by decide +kernel)⟩
theorem ff_Mod_51 : FF "PegWatchModel" 51 12 29 := ⟨_, rfl, by decide, rfl, rfl, rfl, mem_t 4 73 (by decide +kernel) (by decide +kernel)⟩
theorem ff_Mod_54 : FF "PegWatchModel" 54 12 30 := ⟨_, rfl, by decide, rfl, rfl, rfl, mem_t 4 74 (by decide +kernel) (by decide +kernel)⟩
theorem ff_Mod_57 : FF "PegWatchModel" 57 12 31 := ⟨_, rfl, by decide, rfl, rfl, rfl, mem_t 4 75 (by decide +kernel) (by decide +kernel)⟩
theorem ff_Mod_60 : FF "PegWatchModel" 60 12 32 := ⟨_, rfl, by decide, rfl, rfl, rfl, mem_t 4 76 (by decide +kernel) (by decide +kernel)⟩

/-! THE MEMORY behind the constructors: the shape of every cell is fixed; what changes is M a k, the int at place k of cell a, and one long -/
abbrev Mem : Type := Nat → Nat → Int32
abbrev Shp : Type := Nat × Nat × Nat × Nat × List Nat
/-- what a place of an object is: 0 an int, 1 the long, 2 null, 2 k + 2 the cell k, 2 k + 3 the cell k behind this one; an array of references (3, class, length, first cell, [step, how many stand]) -/
def shPatch : List Shp := [(0, 4, 0, 0, [5]), (1, 20, 0, 0, [])]
def shReach : Shp := (0, 5, 0, 0, [0, 0, 0, 0])
def shWatch : List Shp := [(0, 9, 0, 0, [5, 7, 9, 11, 0, 0, 0, 0, 0]), (1, 8, 0, 0, []), (1, 4, 0, 0, []), (1, 5, 0, 0, []), (1, 5, 0, 0, [])]
def shRow : List Shp := [(0, 7, 0, 0, [5, 7, 9, 0, 0, 0, 0, 0]), shReach, shReach] ++ shPatch
def shMod : List Shp := [(0, 12, 0, 0, [1036, 1038, 0, 1040, 0, 1042, 1044, 1046, 0, 0, 0, 1048, 1050, 0, 0, 0, 0, 0, 0, 0, 0, 1052, 0, 0, 0, 1054, 0, 0, 0, 1056, 1058, 1060, 1062, 0, 1]), (1, 32, 0, 0, []), (1, 9, 0, 0, []), (1, 24, 0, 0, []), (1, 192, 0, 0, []), (1, 96, 0, 0, []), (1, 72, 0, 0, []), (1, 400, 0, 0, []), (2, 400, 0, 0, []), (1, 200, 0, 0, []), (1, 24, 0, 0, []), (2, 400, 0, 0, []), (2, 400, 0, 0, []), (2, 16400, 0, 0, []), (1, 400, 0, 0, [])]
def shL : List Shp :=
  [(0, 11, 0, 0, [4, 10, 254, 270, 674, 1022, 0, 0, 0]), (0, 10, 0, 0, [6, 8, 0]), (1, 24, 0, 0, []), (1, 24, 0, 0, []), (0, 0, 0, 0, [12, 0, 0]), (3, 9, 24, 6, [5, 24])]
  ++ (List.replicate 24 shWatch).flatten
  ++ [(0, 1, 0, 0, [256, 258, 262, 266, 0, 0, 0, 0, 0, 0]), (1, 400, 0, 0, [])] ++ shPatch ++ shPatch ++ shPatch
  ++ [(0, 3, 0, 0, [272, 0, 0, 0, 0]), (3, 7, 40, 136, [5, 40])]
  ++ (List.replicate 40 shRow).flatten
  ++ [(0, 6, 0, 0, [254, 10, 270, 676, 678, 1008, 1012, 1016, 1020, 0]), (3, 4, 41, 339, [4, 41]), (3, 4, 41, 341, [4, 41])]
  ++ (List.replicate 41 (shPatch ++ shPatch)).flatten
  ++ shPatch ++ shPatch ++ shPatch ++ [(1, 780, 0, 0, [])]
  ++ [(0, 8, 0, 0, [254, 1024, 1028, 1032, 0, 0])] ++ shPatch ++ shPatch ++ [shReach]
  ++ shMod
theorem shL_len : shL.length = 531 := by decide +kernel
def slotV (M : Mem) (L : Int64) (a k e : Nat) : Value := if e = 0 then .int (M a k) else if e = 1 then .long L else if e = 2 then .null else if e % 2 = 0 then .ref ((e - 2) / 2) else .ref (a + (e - 3) / 2)
def slotsV (M : Mem) (L : Int64) (a : Nat) (sl : List Nat) : List Value := sl.zipIdx.map fun q => slotV M L a q.2 q.1
def cellS (M : Mem) (L : Int64) (a : Nat) (s : Shp) : Ce := match s with
  | (0, ci, _, _, sl) => .inr (.inr (ci, slotsV M L a sl))
  | (1, n, _, _, _) => .inl (0, n, M a)
  | (2, n, _, _, _) => .inl (1, n, M a)
  | (_, ci, n, b, sl) => .inr (.inl (ci, n, fun j => if j < sl.getD 1 0 then some (b + sl.getD 0 0 * j) else none))
def mkH (S : List Shp) (M : Mem) (L : Int64) : List Ce := S.zipIdx.map fun q => cellS M L q.2 q.1
theorem mk_get (S : List Shp) (M : Mem) (L : Int64) (a : Nat) : (mkH S M L)[a]? = (S[a]?).map (cellS M L a) := by
  simp [mkH, List.getElem?_map, List.getElem?_zipIdx, Option.map_map, Function.comp_def]
theorem mk_len (S : List Shp) (M : Mem) (L : Int64) : (mkH S M L).length = S.length := by simp [mkH]
def up (M : Mem) (a k : Nat) (v : Int32) : Mem := fun b j => if b = a ∧ j = k then v else M b j
theorem up_same (M : Mem) (a k : Nat) (v : Int32) : up M a k v a k = v := by simp [up]
theorem up_ne (M : Mem) {a k b j : Nat} (v : Int32) (h : ¬ (b = a ∧ j = k)) : up M a k v b j = M b j := if_neg h
theorem cellS_congr {M M' : Mem} {L : Int64} {a : Nat} (s : Shp) (h : ∀ k, M a k = M' a k) : cellS M L a s = cellS M' L a s := by
  have hf : M a = M' a := funext h
  unfold cellS
  split
  · simp only [slotsV, slotV, hf]
  · rw [hf]
  · rw [hf]
  · rfl
theorem slotsV_get (M : Mem) (L : Int64) (a : Nat) (sl : List Nat) (k : Nat) : (slotsV M L a sl)[k]? = (sl[k]?).map (slotV M L a k) := by
  simp [slotsV, List.getElem?_map, List.getElem?_zipIdx, Option.map_map, Function.comp_def]
/-- a cell's new picture is the memory's -/
theorem mk_set {S : List Shp} {M M' : Mem} {L L' : Int64} {a : Nat} {s : Shp} {c : Ce} (hs : S[a]? = some s) (hc : c = cellS M' L' a s) (ho : ∀ b, b ≠ a → ∀ t, S[b]? = some t → cellS M L b t = cellS M' L' b t) : (mkH S M L).set a c = mkH S M' L' := by
  apply List.ext_getElem?
  intro b
  rw [List.getElem?_set, mk_get, mk_get, mk_len]
  by_cases hb : a = b
  · subst hb
    have hlt : a < S.length := (List.getElem?_eq_some_iff.mp hs).1
    rw [if_pos rfl, if_pos hlt, hs, hc]; rfl
  · rw [if_neg hb]
    cases ht : S[b]? with
    | none => rfl
    | some t => simp only [Option.map_some]; rw [ho b (fun e => hb e.symm) t ht]
def fIb (S : List Shp) (a ci k : Nat) : Bool := match S[a]? with
  | some (0, c, _, _, sl) => c == ci && sl[k]? == some 0
  | _ => false
def fI (S : List Shp) (a ci k : Nat) : Prop := fIb S a ci k = true
def fRb (S : List Shp) (a ci k b : Nat) : Bool := match S[a]? with
  | some (0, c, _, _, sl) => c == ci && (match sl[k]? with
    | some e => decide (3 ≤ e) && (if e % 2 = 0 then (e - 2) / 2 == b else a + (e - 3) / 2 == b)
    | none => false)
  | _ => false
def fR (S : List Shp) (a ci k b : Nat) : Prop := fRb S a ci k b = true
def fLb (S : List Shp) (a ci k : Nat) : Bool := match S[a]? with
  | some (0, c, _, _, sl) => c == ci && sl[k]? == some 1
  | _ => false
def aIb (S : List Shp) (a n : Nat) : Bool := match S[a]? with
  | some (1, c, _, _, _) => c == n
  | _ => false
def aI (S : List Shp) (a n : Nat) : Prop := aIb S a n = true
def aZb (S : List Shp) (a n : Nat) : Bool := match S[a]? with
  | some (2, c, _, _, _) => c == n
  | _ => false
def aZ (S : List Shp) (a n : Nat) : Prop := aZb S a n = true
def aRb (S : List Shp) (a ci n b d : Nat) : Bool := match S[a]? with
  | some (3, c, n', b', sl) => c == ci && n' == n && b' == b && sl.getD 0 0 == d && sl.getD 1 0 == n
  | _ => false
def aR (S : List Shp) (a ci n b d : Nat) : Prop := aRb S a ci n b d = true
def isO (S : List Shp) (a ci : Nat) : Prop := (match S[a]? with
  | some (0, c, _, _, _) => c == ci
  | _ => false) = true
theorem fI_spec {S : List Shp} {a ci k : Nat} (h : fI S a ci k) : ∃ x y sl, S[a]? = some (0, ci, x, y, sl) ∧ sl[k]? = some 0 := by
  unfold fI fIb at h
  split at h
  · rename_i c x y sl hs
    simp only [Bool.and_eq_true, beq_iff_eq] at h
    obtain ⟨rfl, h2⟩ := h
    exact ⟨x, y, sl, hs, h2⟩
  · cases h
theorem fR_spec {S : List Shp} {a ci k b : Nat} (h : fR S a ci k b) : ∃ x y sl e, S[a]? = some (0, ci, x, y, sl) ∧ sl[k]? = some e ∧ ∀ M L, slotV M L a k e = .ref b := by
  unfold fR fRb at h
  split at h
  · rename_i c x y sl hs
    simp only [Bool.and_eq_true, beq_iff_eq] at h
    obtain ⟨rfl, h2⟩ := h
    split at h2
    · rename_i e he
      simp only [Bool.and_eq_true, decide_eq_true_eq] at h2
      obtain ⟨h3, h4⟩ := h2
      refine ⟨x, y, sl, e, hs, he, fun M L => ?_⟩
      unfold slotV
      rw [if_neg (by omega), if_neg (by omega), if_neg (by omega)]
      split
      · rename_i h5; rw [if_pos h5] at h4; rw [beq_iff_eq.mp h4]
      · rename_i h5; rw [if_neg h5] at h4; rw [beq_iff_eq.mp h4]
    · cases h2
  · cases h
theorem fL_spec {S : List Shp} {a ci k : Nat} (h : fLb S a ci k = true) : ∃ x y sl, S[a]? = some (0, ci, x, y, sl) ∧ sl[k]? = some 1 := by
  unfold fLb at h
  split at h
  · rename_i c x y sl hs
    simp only [Bool.and_eq_true, beq_iff_eq] at h
    obtain ⟨rfl, h2⟩ := h
    exact ⟨x, y, sl, hs, h2⟩
  · cases h
theorem aI_spec {S : List Shp} {a n : Nat} (h : aI S a n) : ∃ x y sl, S[a]? = some (1, n, x, y, sl) := by
  unfold aI aIb at h
  split at h
  · rename_i c x y sl hs
    rw [beq_iff_eq] at h
    subst h
    exact ⟨x, y, sl, hs⟩
  · cases h
theorem aZ_spec {S : List Shp} {a n : Nat} (h : aZ S a n) : ∃ x y sl, S[a]? = some (2, n, x, y, sl) := by
  unfold aZ aZb at h
  split at h
  · rename_i c x y sl hs
    rw [beq_iff_eq] at h
    subst h
    exact ⟨x, y, sl, hs⟩
  · cases h
theorem aR_spec {S : List Shp} {a ci n b d : Nat} (h : aR S a ci n b d) : ∃ sl, S[a]? = some (3, ci, n, b, sl) ∧ sl.getD 0 0 = d ∧ sl.getD 1 0 = n := by
  unfold aR aRb at h
  split at h
  · rename_i c n' b' sl hs
    simp only [Bool.and_eq_true, beq_iff_eq] at h
    obtain ⟨⟨⟨⟨rfl, rfl⟩, rfl⟩, h4⟩, h5⟩ := h
    exact ⟨sl, hs, h4, h5⟩
  · cases h
theorem isO_spec {S : List Shp} {a ci : Nat} (h : isO S a ci) : ∃ x y sl, S[a]? = some (0, ci, x, y, sl) := by
  unfold isO at h
  split at h
  · rename_i c x y sl hs
    rw [beq_iff_eq] at h
    subst h
    exact ⟨x, y, sl, hs⟩
  · cases h
section MEM
variable {xs : List Int32} {m mj : Md} {pc pc' : Nat} {lv : List Value} {st as : List Value} {S : List Shp} {M : Mem} {L : Int64} {bc bs n idx a ci k : Nat} {Q : Option Value → List Ce → Prop}
theorem x_getI (hd : dc3 (mB m) pc (.getfield idx) pc') (hL : FL (mY m).cls idx ci k) (ha : fI S a ci k) (kk : RR xs m pc' lv (.int (M a k) :: st) (mkH S M L) bc bs Q) : RR xs m pc lv (.ref a :: st) (mkH S M L) bc bs Q := by
  obtain ⟨x, y, sl, h1, h2⟩ := fI_spec ha
  exact r_get hd hL (by rw [mk_get, h1]; rfl) (by rw [slotsV_get, h2]; rfl) kk
theorem x_getR {b : Nat} (hd : dc3 (mB m) pc (.getfield idx) pc') (hL : FL (mY m).cls idx ci k) (ha : fR S a ci k b) (kk : RR xs m pc' lv (.ref b :: st) (mkH S M L) bc bs Q) : RR xs m pc lv (.ref a :: st) (mkH S M L) bc bs Q := by
  obtain ⟨x, y, sl, e, h1, h2, h3⟩ := fR_spec ha
  exact r_get hd hL (by rw [mk_get, h1]; rfl) (by rw [slotsV_get, h2, Option.map_some, h3]) kk
theorem x_getL (hd : dc3 (mB m) pc (.getfield idx) pc') (hL : FL (mY m).cls idx ci k) (ha : fLb S a ci k = true) (kk : RR xs m pc' lv (.long L :: st) (mkH S M L) bc bs Q) : RR xs m pc lv (.ref a :: st) (mkH S M L) bc bs Q := by
  obtain ⟨x, y, sl, h1, h2⟩ := fL_spec ha
  exact r_get hd hL (by rw [mk_get, h1]; rfl) (by rw [slotsV_get, h2]; rfl) kk
theorem up_other {S : List Shp} {M : Mem} {L : Int64} {a k : Nat} {v : Int32} : ∀ b, b ≠ a → ∀ t, S[b]? = some t → cellS M L b t = cellS (up M a k v) L b t :=
  fun b hb t _ => cellS_congr t fun j => (up_ne M v (fun e => hb e.1)).symm
theorem x_putI {v : Int32} (hd : dc3 (mB m) pc (.putfield idx) pc') (hL : FL (mY m).cls idx ci k) (hnf : ∀ r : vw_C, clsL[ci]? = some r → (r.2.1 k).2.2.2 = false) (ha : fI S a ci k) (hv : VOk (clT ci k) (.int v)) (kk : RR xs m pc' lv st (mkH S (up M a k v) L) bc bs Q) : RR xs m pc lv (.int v :: .ref a :: st) (mkH S M L) bc bs Q := by
  obtain ⟨x, y, sl, h1, h2⟩ := fI_spec ha
  refine r_put hd hL hnf (by rw [mk_get, h1]; rfl) hv ?_
  rw [mk_set (M' := up M a k v) (L' := L) h1 ?_ up_other]
  · exact kk
  · show Sum.inr (Sum.inr (ci, _)) = Sum.inr (Sum.inr (ci, _))
    congr 3
    apply List.ext_getElem?
    intro j
    rw [List.getElem?_set, slotsV_get, slotsV_get]
    by_cases hj : k = j
    · subst hj
      have hlt : k < (slotsV M L a sl).length := by
        have := (List.getElem?_eq_some_iff.mp h2).1
        simpa [slotsV] using this
      rw [if_pos rfl, if_pos hlt, h2]
      simp [slotV, up_same]
    · rw [if_neg hj]
      congr 1
      funext e
      simp only [slotV]
      rw [up_ne M v (fun q => hj q.2.symm)]
def oneL (S : List Shp) : Prop := ∀ (b : Nat) (x y z : Nat) (sl : List Nat), b ≠ 516 → S[b]? = some (0, x, y, z, sl) → ∀ e ∈ sl, e ≠ 1
theorem x_putL {v : Int64} (hd : dc3 (mB m) pc (.putfield idx) pc') (hL : FL (mY m).cls idx 12 34) (ha : S[516]? = shMod[0]?) (ho : oneL S) (kk : RR xs m pc' lv st (mkH S M v) bc bs Q) : RR xs m pc lv (.long v :: .ref 516 :: st) (mkH S M L) bc bs Q := by
  refine r_put (a := 516) (ci := 12) (k := 34) hd hL (fun r hr => by cases hr; rfl) (by rw [mk_get, ha]; rfl) (VOk_long v) ?_
  rw [mk_set (M' := M) (L' := v) (s := (shMod[0]?).getD (0, 0, 0, 0, [])) (by rw [ha]; rfl) ?_ ?_]
  · exact kk
  · rfl
  · intro b hb t ht
    unfold cellS
    split
    · rename_i c x y sl
      have h4 := ho b c x y sl hb ht
      have key : slotsV M L b sl = slotsV M v b sl := by
       apply List.ext_getElem?
       intro j
       rw [slotsV_get, slotsV_get]
       cases hj : sl[j]? with
       | none => rfl
       | some e =>
        have hne := h4 e (List.mem_of_getElem? hj)
        simp only [Option.map_some, slotV]
        rw [if_neg hne, if_neg hne]
      rw [key]
    · rfl
    · rfl
    · rfl
theorem x_iald {i : Int32} (hd : dc1 (mB m) pc .iaload pc') (ha : aI S a n) (hin : vp_in i n) (kk : RR xs m pc' lv (.int (M a i.toNatClampNeg) :: st) (mkH S M L) bc bs Q) : RR xs m pc lv (.int i :: .ref a :: st) (mkH S M L) bc bs Q := by
  obtain ⟨x, y, sl, h1⟩ := aI_spec ha
  exact r_iald hd (by rw [mk_get, h1]; rfl) hin kk
theorem x_zald {i : Int32} (hd : dc1 (mB m) pc .baload pc') (ha : aZ S a n) (hin : vp_in i n) (kk : RR xs m pc' lv (.int (M a i.toNatClampNeg) :: st) (mkH S M L) bc bs Q) : RR xs m pc lv (.int i :: .ref a :: st) (mkH S M L) bc bs Q := by
  obtain ⟨x, y, sl, h1⟩ := aZ_spec ha
  exact r_zald hd (by rw [mk_get, h1]; rfl) hin kk
theorem up_row (M : Mem) (a k : Nat) (v : Int32) : upd (M a) k v = up M a k v a := by
  funext j
  by_cases h : j = k
  · subst h; simp [upd, up]
  · simp [upd, up, h]
theorem x_iast {i v : Int32} (hd : dc1 (mB m) pc .iastore pc') (ha : aI S a n) (hin : vp_in i n) (kk : RR xs m pc' lv st (mkH S (up M a i.toNatClampNeg v) L) bc bs Q) : RR xs m pc lv (.int v :: .int i :: .ref a :: st) (mkH S M L) bc bs Q := by
  obtain ⟨x, y, sl, h1⟩ := aI_spec ha
  refine r_iast hd (by rw [mk_get, h1]; rfl) hin ?_
  rw [mk_set (M' := up M a i.toNatClampNeg v) (L' := L) h1 (by rw [up_row]; rfl) up_other]
  exact kk
theorem x_zast {i v : Int32} (hd : dc1 (mB m) pc .bastore pc') (ha : aZ S a n) (hin : vp_in i n) (kk : RR xs m pc' lv st (mkH S (up M a i.toNatClampNeg (v &&& 1)) L) bc bs Q) : RR xs m pc lv (.int v :: .int i :: .ref a :: st) (mkH S M L) bc bs Q := by
  obtain ⟨x, y, sl, h1⟩ := aZ_spec ha
  refine r_zast hd (by rw [mk_get, h1]; rfl) hin ?_
  rw [mk_set (M' := up M a i.toNatClampNeg (v &&& 1)) (L' := L) h1 (by rw [up_row]; rfl) up_other]
  exact kk
theorem x_alen (hd : dc1 (mB m) pc .arraylength pc') (ha : aI S a n) (kk : RR xs m pc' lv (.int (Int32.ofNat n) :: st) (mkH S M L) bc bs Q) : RR xs m pc lv (.ref a :: st) (mkH S M L) bc bs Q := by
  obtain ⟨x, y, sl, h1⟩ := aI_spec ha
  exact r_alen hd (by rw [mk_get, h1]; rfl) kk
theorem x_aald {i : Int32} {b d : Nat} (hd : dc1 (mB m) pc .aaload pc') (ha : aR S a ci n b d) (hin : vp_in i n) (kk : RR xs m pc' lv (.ref (b + d * i.toNatClampNeg) :: st) (mkH S M L) bc bs Q) : RR xs m pc lv (.int i :: .ref a :: st) (mkH S M L) bc bs Q := by
  obtain ⟨sl, h1, h2⟩ := aR_spec ha
  have hlt : i.toNatClampNeg < n := Nat.not_le.mp fun q => hin (Or.inr q)
  exact r_aald hd (by rw [mk_get, h1]; rfl) hin (by show (if _ then some _ else none) = _; rw [h2.2, if_pos hlt, h2.1]) kk
def cpR (M : Mem) (a a0 : Nat) (k : Nat) : Mem := fun b j => if b = a ∧ j < k then M a0 j else M b j
theorem x_copy {a0 n0 n1 : Nat} {cn : Int32} (hd : dc3 (mB m) pc (.invokestatic idx) pc') (hL : Cond.methodLink (mY m).cls idx arraycopyName ∈ wsG) (h0 : aI S a0 n0) (h1 : aI S a n1) (h3 : ¬ cn < 0) (h4 : cn.toNatClampNeg ≤ n0) (h5 : cn.toNatClampNeg ≤ n1) (hf : 1 ≤ mF m) (hs : (st.map fun v => v.category).sum + (nativeFrameWords "java/lang/System" "arraycopy" 5 + 11) ≤ mO m)
    (kk : RR xs m pc' lv st (mkH S (cpR M a a0 cn.toNatClampNeg) L) bc bs Q) : RR xs m pc lv (.int cn :: .int 0 :: .ref a :: .int 0 :: .ref a0 :: st) (mkH S M L) bc bs Q := by
  obtain ⟨x, y, sl, g1⟩ := aI_spec h0
  obtain ⟨x', y', sl', g2⟩ := aI_spec h1
  refine r_copy hd hL ac_w (by rw [mk_get, g1]; rfl) (by rw [mk_get, g2]; rfl) (by decide) (by decide) h3 (by rw [show (0 : Int32).toNatClampNeg = 0 from rfl, Nat.zero_add]; exact h4) (by rw [show (0 : Int32).toNatClampNeg = 0 from rfl, Nat.zero_add]; exact h5) hf hs ?_
  rw [mk_set (M' := cpR M a a0 cn.toNatClampNeg) (L' := L) g2 ?_ ?_]
  · exact kk
  · show Sum.inl (0, n1, _) = Sum.inl (0, n1, cpR M a a0 cn.toNatClampNeg a)
    congr 3
    funext j
    rw [show (0 : Int32).toNatClampNeg = 0 from rfl]
    by_cases hj : j < cn.toNatClampNeg
    · rw [pk_cpy_in (Nat.zero_le _) (by omega)]; simp [cpR, hj]
    · rw [pk_cpy_out (by omega)]; simp [cpR, hj]
  · intro b hb t _
    exact cellS_congr t fun j => by simp [cpR, hb]
/-- the judgement over the memory -/
abbrev RX (xs : List Int32) (S : List Shp) (m : Md) (pc : Nat) (lv st : List Value) (M : Mem) (L : Int64) (Q : Option Value → Mem → Int64 → Prop) : Prop :=
  RR xs m pc lv st (mkH S M L) 0 0 (fun r h' => ∃ M' L', h' = mkH S M' L' ∧ Q r M' L')
variable {QX Q1 : Option Value → Mem → Int64 → Prop}
theorem x_callS (hd : dc3 (mB m) pc (.invokestatic idx) pc') (hL : ML (mY m).cls idx (mY mj)) (hC : MC mj n) (hS : Cond.static (mY mj) ∈ wsG) (hR : RmOk m mj) (hn : as.length = n) (hs : (st.map fun v => v.category).sum ≤ 8) (hlen : (ent as).length ≤ mL mj)
    (k1 : RX xs S mj 0 (ent as) [] M L Q1) (kk : ∀ r M1 L1, Q1 r M1 L1 → RX xs S m pc' lv (r.toList ++ st) M1 L1 QX) : RX xs S m pc lv (as.reverse ++ st) M L QX :=
  r_callS (bc := 0) (bs := 0) (b1 := 0) (b2 := 0) hd hL hC hS hR hn hs hlen k1 (fun r h' ⟨M1, L1, e, q⟩ => by subst e; exact kk r M1 L1 q)
theorem x_callV {b : Nat} (hd : dc3 (mB m) pc (.invokevirtual idx) pc') (hL : Cond.methodLink (mY m).cls idx (mY mj) ∈ wsG) (hC : MC mj n) (hS : Cond.instanceMethod (mY mj) ∈ wsG ∧ Cond.selects (mY mj).cls (mY mj) (mY mj) ∈ wsG) (hR : RmOk m mj) (hb : isO S b ci) (hci : ∃ r : vw_C, clsL[ci]? = some r ∧ r.1 = (mY mj).cls) (hn : as.length = n) (hs : (st.map fun v => v.category).sum ≤ 8) (hlen : (ent (.ref b :: as)).length ≤ mL mj)
    (k1 : RX xs S mj 0 (ent (.ref b :: as)) [] M L Q1) (kk : ∀ r M1 L1, Q1 r M1 L1 → RX xs S m pc' lv (r.toList ++ st) M1 L1 QX) : RX xs S m pc lv (as.reverse ++ .ref b :: st) M L QX := by
  obtain ⟨x, y, sl, h1⟩ := isO_spec hb
  exact r_callV (bc := 0) (bs := 0) (b1 := 0) (b2 := 0) hd hL hC hS hR (by rw [mk_get, h1]; rfl) hci hn hs hlen k1 (fun r h' ⟨M1, L1, e, q⟩ => by subst e; exact kk r M1 L1 q)
theorem x_mono {Q' : Option Value → Mem → Int64 → Prop} (kk : RX xs S m pc lv st M L QX) (hq : ∀ r M' L', QX r M' L' → Q' r M' L') : RX xs S m pc lv st M L Q' :=
  r_mono (fun r h' ⟨M', L', e, q⟩ => ⟨M', L', e, hq r M' L' q⟩) kk
end MEM

/-! making cells; calls; a contract out of RR -/
section MAKE
variable {xs : List Int32} {m : Md} {pc pc' tgt : Nat} {lv : List Value} {st : List Value} {h : List Ce} {bc bs : Nat} {Q : Option Value → List Ce → Prop}
def acU (ac : Nat → ClassId) (k : Nat) (cA : ClassId) : Nat → ClassId := fun j => if j = k then cA else ac j
def dvs (ci : Nat) (n : Nat) : List Value := (List.range n).map fun k => defaultValue (clT ci k)
theorem tv_dv (z : Nat) (ar : Nat → Nat) (t : FieldType) : tv z ar (defaultValue t) = defaultValue t := by cases t <;> rfl
theorem r_new {idx ci n : Nat} (hd : dc3 (mB m) pc (.new idx) pc') (hL : ∃ r : vw_C, clsL[ci]? = some r ∧ r.2.2 = n ∧ Cond.classLink (mY m).cls idx r.1 ∈ wsG ∧ Cond.instantiable r.1 n ∈ wsG ∧ Cond.initialized r.1 ∈ wsG) (kk : RR xs m pc' lv (.ref h.length :: st) (h ++ [.inr (.inr (ci, dvs ci n))]) bc bs Q) : RR xs m pc lv st h (bc + 1) (bs + n) Q := by
  obtain ⟨hd, rfl⟩ := hd
  intro l p e R s mi args below meth c Z z D ar ac H locs cells slots ls C E hW hF hB hl
  obtain ⟨r, hr, rfl, hL1, hL2, hL3⟩ := hL
  have hKn := hW.2.2.1.1.1 ci _ hr
  have hok := cl_ok hr
  refine W.newcK C.1 C.2.1 C.2.2.2.2.1 (C.2.2.2.2.2.1 _ hL1) (C.2.2.2.2.2.1 _ hL2) (C.2.2.2.2.2.1 _ hL3) rfl hd (by omega) (by omega) hKn.2.1 hW.1 fun H1 kC hkC e1 z1 o1 => ?_
  refine kk l p e R s mi args below meth c Z z D ar ac H1 locs (cells + 1) (slots + r.2.2) ls C E (hW.push (by rw [z1, hW.1]) (fun q hq => o1 q (by rw [← hW.1]; exact hq)) (fun _ _ => rfl) ⟨r, hr, by simp [dvs], (u_born (clT ci) C.2.2.2.2.2.1 hok.1 hKn hkC e1 hok.2.1).to fun k hk => ?_⟩ trivial) ⟨fun q hq => (o1 q (by omega)).trans (hF.1 q hq), hF.2⟩ (by omega) hl
  simp [dvs, vp_V, hk, tv_dv]
theorem r_newi {n : Int32} {N : Nat} (hd : dc2 (mB m) pc (.newarray .int) pc') (hw : Cond.arrayClass .int ∈ wsG) (hn : ¬ n < 0) (hN : n.toNatClampNeg = N) (hb : N ≤ 100000) (kk : RR xs m pc' lv (.ref h.length :: st) (h ++ [.inl (0, N, fun _ => 0)]) bc bs Q) : RR xs m pc lv (.int n :: st) h (bc + 1) (bs + N) Q := by
  obtain ⟨hd, rfl⟩ := hd
  intro l p e R s mi args below meth c Z z D ar ac H locs cells slots ls C E hW hF hB hl
  refine va_newaK (atype := .int) C.1 C.2.1 (C.2.2.2.2.2.1 _ hw) rfl hd rfl hn hN (by show N * 4 ≤ _; omega) (by omega) (by omega) hW.1 fun H1 cA e1 z1 o1 hAr hNm => ?_
  refine kk l p e R s mi args below meth c Z z D ar (acU ac h.length cA) H1 locs (cells + 1) (slots + N) ls C E (hW.push (by rw [z1, hW.1]) (fun q hq => o1 q (by rw [← hW.1]; exact hq)) (fun a ha => by simp [acU, Nat.ne_of_lt ha]) ?_ ?_) ⟨fun q hq => (o1 q (by omega)).trans (hF.1 q hq), hF.2⟩ (by omega) hl
  · show H1[z + h.length]? = some (arrV (acU ac h.length cA h.length) N _)
    rw [show acU ac h.length cA h.length = cA from if_pos rfl, e1]; rfl
  · show ArrOfT s (acU ac h.length cA h.length) _
    rw [show acU ac h.length cA h.length = cA from if_pos rfl]; exact hAr
theorem r_newz {n : Int32} {N : Nat} (hd : dc2 (mB m) pc (.newarray .boolean) pc') (hw : Cond.arrayClass .boolean ∈ wsG) (hn : ¬ n < 0) (hN : n.toNatClampNeg = N) (hb : N ≤ 100000) (kk : RR xs m pc' lv (.ref h.length :: st) (h ++ [.inl (1, N, fun _ => 0)]) bc bs Q) : RR xs m pc lv (.int n :: st) h (bc + 1) (bs + N) Q := by
  obtain ⟨hd, rfl⟩ := hd
  intro l p e R s mi args below meth c Z z D ar ac H locs cells slots ls C E hW hF hB hl
  refine va_newaK (atype := .boolean) C.1 C.2.1 (C.2.2.2.2.2.1 _ hw) rfl hd rfl hn hN (by show N * 1 ≤ _; omega) (by omega) (by omega) hW.1 fun H1 cA e1 z1 o1 hAr hNm => ?_
  refine kk l p e R s mi args below meth c Z z D ar (acU ac h.length cA) H1 locs (cells + 1) (slots + N) ls C E (hW.push (by rw [z1, hW.1]) (fun q hq => o1 q (by rw [← hW.1]; exact hq)) (fun a ha => by simp [acU, Nat.ne_of_lt ha]) ?_ ?_) ⟨fun q hq => (o1 q (by omega)).trans (hF.1 q hq), hF.2⟩ (by omega) hl
  · show H1[z + h.length]? = some (arrV (acU ac h.length cA h.length) N _)
    rw [show acU ac h.length cA h.length = cA from if_pos rfl, e1]; rfl
  · show ArrOfT s (acU ac h.length cA h.length) _
    rw [show acU ac h.length cA h.length = cA from if_pos rfl]; exact hAr
theorem r_newq {idx ci : Nat} {n : Int32} {N : Nat} (hd : dc3 (mB m) pc (.anewarray idx) pc') (hL : ∃ r : vw_C, clsL[ci]? = some r ∧ r.1 ∈ aoL ∧ Cond.classLink (mY m).cls idx r.1 ∈ wsG) (hn : ¬ n < 0) (hN : n.toNatClampNeg = N) (hb : N ≤ 100000) (kk : RR xs m pc' lv (.ref h.length :: st) (h ++ [.inr (.inl (ci, N, fun _ => none))]) bc bs Q) : RR xs m pc lv (.int n :: st) h (bc + 1) (bs + N) Q := by
  obtain ⟨hd, rfl⟩ := hd
  intro l p e R s mi args below meth c Z z D ar ac H locs cells slots ls C E hW hF hB hl
  obtain ⟨r, hr, hL1, hL2⟩ := hL
  subst hN
  refine W.anew C.1 C.2.1 C.2.2.2.2.1 (C.2.2.2.2.2.1 _ hL2) (va_AO.use (hW.2.2.1.2.2 _ hL1)) rfl hd rfl hn (by omega) (by omega) (by omega) fun cA kA comp f1 f2 f3 f4 => ?_
  generalize hH1 : H.push ({ cls := cA, slots := Array.replicate n.toNatClampNeg .null, vm := .none } : Cell) = H1
  have z1 : H1.size = H.size + 1 := by rw [← hH1, Array.size_push]
  have e1 : H1[H.size]? = some (arrV cA n.toNatClampNeg (fun _ => .null)) := by rw [← hH1, Array.getElem?_push_size, ← arrV_new]
  have o1 : ∀ q : Nat, q < H.size → H1[q]? = H[q]? := fun q hq => by rw [← hH1, Array.getElem?_push, if_neg (Nat.ne_of_lt hq)]
  have hAr : ArrOfT s cA (.object r.1) := fun N z => ⟨(fun k h => by cases h), kA, f2, comp, f3⟩
  have hk := kk l p e R s mi args below meth c Z z D ar (acU ac h.length cA) H1 locs (cells + 1) (slots + n.toNatClampNeg) ls C E (hW.push z1 o1 (fun a ha => by simp [acU, Nat.ne_of_lt ha]) (by
    show H1[z + h.length]? = some (arrV (acU ac h.length cA h.length) n.toNatClampNeg _)
    rw [show acU ac h.length cA h.length = cA from if_pos rfl, ← hW.1, e1]; rfl) (by
    refine ⟨r, hr, ?_, ?_⟩
    · rw [show acU ac h.length cA h.length = cA from if_pos rfl]; exact hAr
    · rw [show acU ac h.length cA h.length = cA from if_pos rfl]; exact ⟨kA, comp, f2, f3, f4, f1⟩)) ⟨fun q hq => (o1 q (by have := hW.1; omega)).trans (hF.1 q hq), hF.2⟩ (by omega) hl
  rw [show H.size = z + h.length from hW.1]
  exact hk
end MAKE
/-- the locals at a method's entry: a long takes two places -/
def ent (vs : List Value) : List Value := vs.flatMap fun v => if v.category = 2 then [v, .null] else [v]
theorem ent_get (vs : List Value) (z : Nat) (ar : Nat → Nat) : ∀ (k i : Nat) (v : Value), (ent vs)[i]? = some v → v ≠ .null → (k + i, tv z ar v) ∈ lv_args k (vs.map (tv z ar)) := by
  induction vs with
  | nil => intro k i v h; simp [ent] at h
  | cons u us ih =>
    intro k i v h hn
    simp only [ent, List.flatMap_cons, List.map_cons, lv_args, tv_cat] at h ⊢
    by_cases hc : u.category = 2
    · rw [if_pos hc] at h ⊢
      match i, h with
      | 0, h => simp at h; subst h; exact List.mem_cons_self
      | 1, h => simp at h; exact absurd h.symm hn
      | i + 2, h =>
        have h' : (ent us)[i]? = some v := by simpa [ent] using h
        have := ih (k + 2) i v h' hn
        rw [show k + (i + 2) = k + 2 + i by omega]
        exact List.mem_cons_of_mem _ this
    · rw [if_neg hc] at h ⊢
      match i, h with
      | 0, h => simp at h; subst h; exact List.mem_cons_self
      | i + 1, h =>
        have h' : (ent us)[i]? = some v := by simpa [ent] using h
        have := ih (k + 1) i v h' hn
        rw [show k + (i + 1) = k + 1 + i by omega]
        exact List.mem_cons_of_mem _ this
theorem ent_len (vs : List Value) (z : Nat) (ar : Nat → Nat) : (lg_sl (vs.map (tv z ar))).length = (ent vs).length := by
  induction vs with
  | nil => rfl
  | cons u us ih =>
    simp only [lg_sl, ent, List.flatMap_cons, List.map_cons, List.length_append, tv_cat] at ih ⊢
    rw [ih]
    by_cases hc : u.category = 2
    · simp [hc]
    · simp [hc]
def PreC (xs : List Int32) (z : Nat) (D : va_G) (ar : Nat → Nat) (ac : Nat → ClassId) (h : List Ce) (as : List Value) : Array Value → State → Prop := fun v U => v = (as.map (tv z ar)).toArray ∧ Wd xs z D ar ac h U U.heap
def PostC (xs : List Int32) (z : Nat) (D : va_G) (ar : Nat → Nat) (Q : Option Value → List Ce → Prop) : Array Value → State → Outcome → State → Prop := fun _ st oc t =>
  ∃ (r : Option Value) (h' : List Ce) (ac' : Nat → ClassId), oc = .returned (r.map (tv z ar)) ∧ Q r h' ∧ Wd xs z D ar ac' h' t t.heap ∧ ∀ q : Nat, q < z → t.heap[q]? = st.heap[q]?
def rmC (m : Md) (bc bs : Nat) : Room := { frames := mF m, cells := bc, slots := bs, locals := mO m }
def wsC (m : Md) : List Cond := Cond.code (mY m) (mB m) (mL m) (mR m) :: wsG
theorem MetOf {xs : List Int32} {m : Md} {as : List Value} {h : List Ce} {bc bs : Nat} {Q : Option Value → List Ce → Prop} (hy : plainFor (mY m) = true) (hlen : (ent as).length ≤ mL m) (kk : RR xs m 0 (ent as) [] h bc bs Q) (l : Launch) (z : Nat) (D : va_G) (ar : Nat → Nat) (ac : Nat → ClassId) :
    Met l (mY m) (wsC m) (rmC m bc bs) (PreC xs z D ar ac h as) (PostC xs z D ar Q) bc bs (fun q => z ≤ q) := by
  refine va_MetF (cc := mB m) (maxL := mL m) (ret := mR m) hy rfl ?_
  intro p e s mi args below meth c s₁ B hml hv
  obtain ⟨rfl, hW⟩ := hv
  have hts := atoms_spec (ws := wsC m) B.pre
  rw [lg_entry_eq]
  have hl := lv_entry (as.map (tv z ar)) (n := mL m) (by rw [ent_len]; exact hlen)
  refine kk l p e _ s mi _ below meth c _ z D ar ac s.heap [] 0 0 _ ⟨B.exec, B.bytes, hml, B.returns, findClass_of_methodNamed B.named, fun w hw => hts w (List.mem_cons_of_mem _ hw), B.notSynchronized, fun hn => (name_of_methodNamed B.named B.method).1.trans hn, Nat.le_refl _, Nat.le_refl _⟩ ?_ hW ⟨fun _ _ => rfl, fun _ h => by cases h⟩ ⟨by show 0 + bc ≤ bc; omega, by show 0 + bs ≤ bs; omega⟩ ⟨hl.1, hl.2.1, fun i v hi hn => by have := hl.2.2 _ (ent_get as z ar 0 i v hi hn); simpa using this⟩
  intro r h' ac' H' locs' cells' slots' pc' ls' hq hW' hF' hc hs hd
  have hlocks := B.notSynchronized
  refine W.widen (k := bc) (n := bs) hc hs ?_
  have hpost : ∀ (r0 : Option Value), r0 = r.map (tv z ar) → ∀ t : State, t.heap = H' → s.WarmedH t.vm → PostC xs z D ar Q (as.map (tv z ar)).toArray s (.returned r0) t := by
    intro r0 hr0 t ht hWt
    exact ⟨r, h', ac', by rw [hr0], hq, by rw [ht]; exact hW'.moved hWt, fun q hqz => by rw [ht]; exact hF'.1 q hqz⟩
  match r, hd with
  | none, hd => exact W.vret B.exec B.bytes (B.returns.trans hd.2) (hpost _ rfl) hF'.2 hd.1
  | some (.int v), hd =>
    obtain ⟨hd1, ty, hty, hn⟩ := hd
    exact W.zret B.exec B.bytes (B.returns.trans hty) hn (hpost _ rfl) hF'.2 hd1
  | some (.long v), hd => exact W.lret B.exec B.bytes (B.returns.trans hd.2) (hpost _ rfl) hF'.2 hd.1
  | some (.ref v), hd =>
    obtain ⟨hd1, n, hn⟩ := hd
    exact W.aret B.exec B.bytes (B.returns.trans hn) (Or.inl ⟨n, rfl⟩) (Or.inr ⟨_, rfl⟩) (hpost _ rfl) hF'.2 hd1
theorem Wd.back {xs : List Int32} {z : Nat} {D : va_G} {ar : Nat → Nat} {ac : Nat → ClassId} {h : List Ce} {s t : State} {H : Heap} (hvm : t.vm.Alike s.vm) (hK : KS D s) (w : Wd xs z D ar ac h t H) : Wd xs z D ar ac h s H :=
  ⟨w.1, fun a c hc => ⟨(w.2.1 a c hc).1, (w.2.1 a c hc).2.moved hvm⟩, hK, w.2.2.2.moved hvm⟩
theorem PreC.blind {xs : List Int32} {z : Nat} {D : va_G} {ar : Nat → Nat} {ac : Nat → ClassId} {h : List Ce} {as : List Value} : FrameBlind (PreC xs z D ar ac h as) := by
  intro a U g mk q
  exact ⟨q.1, q.2.moved (U := U.calling g mk a) (State.WarmedH.refl U)⟩
def ML (own : String) (idx : Nat) (y : MethodName) : Prop := Cond.methodLink own idx y ∈ wsG ∨ ∃ host, Cond.methodLinkNest own idx y host ∈ nestW
def MC (mj : Md) (n : Nat) : Prop := Cond.code (mY mj) (mB mj) (mL mj) (mR mj) ∈ wsG ∧ Cond.initialized (mY mj).cls ∈ wsG ∧ plainFor (mY mj) = true ∧ (mY mj).cls ≠ "java/lang/invoke/MethodHandle" ∧ (mY mj).cls ≠ "java/lang/invoke/VarHandle" ∧ (parseMethodDescriptor (mY mj).desc).map (fun d => d.parameters.length) = some n
def RmOk (m mj : Md) : Prop := mF mj + 1 ≤ mF m ∧ 8 + (mL mj + 11) + mO mj ≤ mO m
theorem good_wsC {mj : Md} (h : Cond.code (mY mj) (mB mj) (mL mj) (mR mj) ∈ wsG) : GoodIn wsG (wsC mj) := by
  have hg : ∀ w ∈ wsG, w ∈ wsG ∧ ((w.onTables && w.keeps) = true ∨ ∃ ty, w = .arrayClass ty) := fun w hw => ⟨hw, good_of_word (List.mem_filter.mp hw).2⟩
  intro w hw
  rcases List.mem_cons.mp hw with rfl | hw
  · exact hg _ h
  · exact hg w hw
theorem tv_rest (z : Nat) (ar : Nat → Nat) (r : Option Value) (st : List Value) : (r.map (tv z ar)).toList ++ st.map (tv z ar) = (r.toList ++ st).map (tv z ar) := by cases r <;> simp
theorem tv_sum (z : Nat) (ar : Nat → Nat) (st : List Value) : ((st.map (tv z ar)).map fun v => v.category) = st.map fun v => v.category := by
  rw [List.map_map]
  exact List.map_congr_left fun v _ => tv_cat z ar v
section CALL
variable {xs : List Int32} {m mj : Md} {pc pc' : Nat} {lv : List Value} {st as : List Value} {h : List Ce} {bc bs b1 b2 n idx : Nat} {Q Q1 : Option Value → List Ce → Prop}
/-- behind a call -/
theorem r_back {l : Launch} {p : Program} {e : Env} {R : Room} {s : State} {mi : MethodId} {args : Array Value} {below : List Frame} {meth : Method} {c : Code} {Z : State → Prop} {z : Nat} {D : va_G} {ar : Nat → Nat} {ac : Nat → ClassId} {H : Heap} {locs : List Loc} {cells slots : Nat} {ls : Array Slot} {st0 : List Value} {a9 : Array Value}
    (C : Cx m p s mi args meth c R) (E : ExR xs m Q l p e R s mi args below meth c Z z D ar) (hW : Wd xs z D ar ac h s H) (hF : Fr z s H locs) (hB : cells + (bc + b1) ≤ R.cells ∧ slots + (bs + b2) ≤ R.slots) (hl : LH z ar ls (mL m) lv)
    (run : va_Run p l e R s mi args below meth c H locs cells slots b1 b2 (F0 mi pc ls st0) (st.map (tv z ar)) (PostC xs z D ar Q1 a9) (fun q => z ≤ q))
    (kk : ∀ r h', Q1 r h' → RR xs m (pc + 3) lv (r.toList ++ st) h' bc bs Q) : W p l e R s mi args below meth c H locs cells slots Z (F0 mi pc ls st0) := by
  intro T hT X
  obtain ⟨v, st₀, t, T', L, h0, X', hL, e1, e2, ⟨r, h', ac', hv, hq, hWd, hq2⟩, step⟩ := run T hT X
  have hv' : v = r.map (tv z ar) := by cases hv; rfl
  subst hv'
  have hal : s.vm.Alike t.vm := by rw [← e2]; exact X'.warmed.alike
  have hWs : Wd xs z D ar ac' h' s T'.heap := by rw [e1]; exact hWd.back hal.symm hW.2.2.1
  have hFs : Fr z s T'.heap (locs ++ L) := by
    refine ⟨fun q hqz => ?_, fun q hqm => ?_⟩
    · rw [e1, hq2 q hqz, h0]; exact hF.1 q hqz
    · rcases List.mem_append.mp hqm with g | g
      · exact hF.2 q g
      · exact hL q g
  obtain ⟨t2, a1, b1'⟩ := kk r h' hq l p e R s mi args below meth c Z z D ar ac' T'.heap (locs ++ L) (cells + b1) (slots + b2) ls C E hWs hFs (by omega) hl T' rfl X'
  rw [← tv_rest] at a1
  exact ⟨t2, step t2 a1, b1'⟩
theorem r_callS (hd : dc3 (mB m) pc (.invokestatic idx) pc') (hL : ML (mY m).cls idx (mY mj)) (hC : MC mj n) (hS : Cond.static (mY mj) ∈ wsG) (hR : RmOk m mj) (hn : as.length = n) (hs : (st.map fun v => v.category).sum ≤ 8) (hlen : (ent as).length ≤ mL mj)
    (k1 : RR xs mj 0 (ent as) [] h b1 b2 Q1) (kk : ∀ r h', Q1 r h' → RR xs m pc' lv (r.toList ++ st) h' bc bs Q) : RR xs m pc lv (as.reverse ++ st) h (bc + b1) (bs + b2) Q := by
  obtain ⟨hd, rfl⟩ := hd
  intro l p e R s mi args below meth c Z z D ar ac H locs cells slots ls C E hW hF hB hl
  have hM := MetOf hC.2.2.1 hlen k1 l z D ar ac
  have hRm : (rmC mj b1 b2).frames + 1 ≤ R.frames ∧ 8 + (mL mj + 11) + (rmC mj b1 b2).locals ≤ R.locals := ⟨Nat.le_trans hR.1 C.2.2.2.2.2.2.2.2.1, Nat.le_trans hR.2 C.2.2.2.2.2.2.2.2.2⟩
  have hfix : CallFix p mi c (mB m) (mL m) s args wsG (mY m).cls := ⟨C.1, C.2.1, C.2.2.1, C.2.2.2.2.1, C.2.2.2.2.2.1⟩
  have hpre : PreS s H (PreC xs z D ar ac h as) (as.map (tv z ar)) := ⟨PreC.blind, fun U hU hWU => ⟨rfl, by rw [hU]; exact hW.moved hWU⟩⟩
  have hst : (F0 mi pc ls ((as.reverse ++ st).map (tv z ar))).stack = (as.map (tv z ar)).reverse ++ st.map (tv z ar) := by simp
  have hsum : 2 * (F0 mi pc ls ((as.reverse ++ st).map (tv z ar))).monitorRoom + ((st.map (tv z ar)).map fun v => v.category).sum ≤ 8 := lv_room (by rw [tv_sum]; exact hs)
  refine r_back (a9 := (as.map (tv z ar)).toArray) C E hW hF hB hl ?_ kk
  rcases hL with hL | ⟨host, hL⟩
  · exact va_runS hfix hM ⟨callB_of n C.2.2.2.2.2.1 (good_wsC hC.1) rfl rfl rfl (C.2.2.2.2.2.1 _ hC.2.1) (C.2.2.2.2.2.1 _ hL) ⟨hC.2.2.2.1, hC.2.2.2.2.1, hC.2.2.2.2.2⟩ hRm, C.2.2.2.2.2.1 _ hS⟩ hpre rfl (by rw [List.length_map]; exact hn) hl.1 hst hsum hd ⟨by omega, by omega⟩
  · exact va_runSN hfix hM ⟨va_cnB n C.2.2.2.2.2.1 (good_wsC hC.1) rfl rfl rfl (hW.2.2.1.2.1 _ hL) (C.2.2.2.2.2.1 _ hC.2.1) ⟨hC.2.2.2.1, hC.2.2.2.2.1, hC.2.2.2.2.2⟩ hRm, C.2.2.2.2.2.1 _ hS, trivial⟩ hpre rfl (by rw [List.length_map]; exact hn) hl.1 hst hsum hd ⟨by omega, by omega⟩
theorem r_callV {b ci : Nat} {fs : List Value} (hd : dc3 (mB m) pc (.invokevirtual idx) pc') (hL : Cond.methodLink (mY m).cls idx (mY mj) ∈ wsG) (hC : MC mj n) (hS : Cond.instanceMethod (mY mj) ∈ wsG ∧ Cond.selects (mY mj).cls (mY mj) (mY mj) ∈ wsG) (hR : RmOk m mj) (hb : h[b]? = some (.inr (.inr (ci, fs)))) (hci : ∃ r : vw_C, clsL[ci]? = some r ∧ r.1 = (mY mj).cls) (hn : as.length = n) (hs : (st.map fun v => v.category).sum ≤ 8) (hlen : (ent (.ref b :: as)).length ≤ mL mj)
    (k1 : RR xs mj 0 (ent (.ref b :: as)) [] h b1 b2 Q1) (kk : ∀ r h', Q1 r h' → RR xs m pc' lv (r.toList ++ st) h' bc bs Q) : RR xs m pc lv (as.reverse ++ .ref b :: st) h (bc + b1) (bs + b2) Q := by
  obtain ⟨hd, rfl⟩ := hd
  intro l p e R s mi args below meth c Z z D ar ac H locs cells slots ls C E hW hF hB hl
  have hM := MetOf hC.2.2.1 hlen k1 l z D ar ac
  have hRm : (rmC mj b1 b2).frames + 1 ≤ R.frames ∧ 8 + (mL mj + 11) + (rmC mj b1 b2).locals ≤ R.locals := ⟨Nat.le_trans hR.1 C.2.2.2.2.2.2.2.2.1, Nat.le_trans hR.2 C.2.2.2.2.2.2.2.2.2⟩
  have hfix : CallFix p mi c (mB m) (mL m) s args wsG (mY m).cls := ⟨C.1, C.2.1, C.2.2.1, C.2.2.2.2.1, C.2.2.2.2.2.1⟩
  obtain ⟨r, hr, hrc⟩ := hci
  have hrecv : ∃ cellB : Cell, H[z + b]? = some cellB ∧ cellB.vm.isStatics = false ∧ s.vm.findClass (mY mj).cls = some cellB.cls := by
    obtain ⟨r', h1, -, cell, q1, q2, q3, -⟩ := (hW.2.1 b _ hb).1
    cases hr.symm.trans h1
    exact ⟨cell, q1, by rw [q3]; rfl, by rw [q2, ← hrc]; exact (hW.2.2.1.1.1 ci _ h1).2.1⟩
  have hpre : PreV s H (mY mj).cls (z + b) (PreC xs z D ar ac h (.ref b :: as)) (as.map (tv z ar)) := ⟨PreC.blind, hrecv, fun U hU hWU => ⟨rfl, by rw [hU]; exact hW.moved hWU⟩⟩
  refine r_back (a9 := (Value.ref (z + b) :: as.map (tv z ar)).toArray) C E hW hF hB hl ?_ kk
  exact va_runV hfix hM ⟨callB_of n C.2.2.2.2.2.1 (good_wsC hC.1) rfl rfl rfl (C.2.2.2.2.2.1 _ hC.2.1) (C.2.2.2.2.2.1 _ hL) ⟨hC.2.2.2.1, hC.2.2.2.2.1, hC.2.2.2.2.2⟩ hRm, C.2.2.2.2.2.1 _ hS.1, C.2.2.2.2.2.1 _ hS.2⟩ hpre rfl (by rw [List.length_map]; exact hn) hl.1 (by simp [tv]) (lv_room (by rw [tv_sum]; exact hs)) hd ⟨by omega, by omega⟩
theorem r_callI {b : Nat} (hd : dc3 (mB m) pc (.invokespecial idx) pc') (hL : Cond.methodLink (mY m).cls idx (mY mj) ∈ wsG) (hC : MC mj n) (hS : Cond.instanceMethod (mY mj) ∈ wsG) (hi : (mY mj).name = "<init>") (hv : mR mj = none) (hR : RmOk m mj) (hn : as.length = n) (hs : (st.map fun v => v.category).sum ≤ 8) (hlen : (ent (.ref b :: as)).length ≤ mL mj)
    (k1 : RR xs mj 0 (ent (.ref b :: as)) [] h b1 b2 Q1) (kk : ∀ r h', Q1 r h' → RR xs m pc' lv (r.toList ++ st) h' bc bs Q) : RR xs m pc lv (as.reverse ++ .ref b :: st) h (bc + b1) (bs + b2) Q := by
  obtain ⟨hd, rfl⟩ := hd
  intro l p e R s mi args below meth c Z z D ar ac H locs cells slots ls C E hW hF hB hl
  have hM := MetOf hC.2.2.1 hlen k1 l z D ar ac
  have hRm : (rmC mj b1 b2).frames + 1 ≤ R.frames ∧ 8 + (mL mj + 11) + (rmC mj b1 b2).locals ≤ R.locals := ⟨Nat.le_trans hR.1 C.2.2.2.2.2.2.2.2.1, Nat.le_trans hR.2 C.2.2.2.2.2.2.2.2.2⟩
  have hfix : CallFix p mi c (mB m) (mL m) s args wsG (mY m).cls := ⟨C.1, C.2.1, C.2.2.1, C.2.2.2.2.1, C.2.2.2.2.2.1⟩
  have hpre : PreS s H (PreC xs z D ar ac h (.ref b :: as)) (.ref (z + b) :: as.map (tv z ar)) := ⟨PreC.blind, fun U hU hWU => ⟨rfl, by rw [hU]; exact hW.moved hWU⟩⟩
  have hcb := callB_of (R := R) n C.2.2.2.2.2.1 (good_wsC hC.1) rfl rfl rfl (C.2.2.2.2.2.1 _ hC.2.1) (C.2.2.2.2.2.1 _ hL) ⟨hC.2.2.2.1, hC.2.2.2.2.1, hC.2.2.2.2.2⟩ hRm
  rw [hv] at hcb
  refine r_back (a9 := (Value.ref (z + b) :: as.map (tv z ar)).toArray) C E hW hF hB hl ?_ kk
  exact va_runI hfix hM ⟨hcb, hi, C.2.2.2.2.2.1 _ hS⟩ hpre rfl (by rw [List.length_map]; exact hn) hl.1 (by simp [tv]) (lv_room (by rw [tv_sum]; exact hs)) hd ⟨by omega, by omega⟩
theorem r_objInit {b : Nat} (hd : dc3 (mB m) pc (.invokespecial idx) pc') (hL : Cond.methodLink (mY m).cls idx Lib.objectInit ∈ wsG) (hi : Cond.instanceMethod Lib.objectInit ∈ wsG) (hc : Cond.code Lib.objectInit ⟨#[0xb1]⟩ 1 none ∈ wsG) (hf : 1 ≤ mF m) (hs : (st.map fun v => v.category).sum + 12 ≤ mO m) (kk : RR xs m pc' lv st h bc bs Q) : RR xs m pc lv (.ref b :: st) h bc bs Q := by
  obtain ⟨hd, rfl⟩ := hd
  intro l p e R s mi args below meth c Z z D ar ac H locs cells slots ls C E hW hF hB hl
  exact W.objInit C.1 C.2.1 C.2.2.2.2.1 (C.2.2.2.2.2.1 _ hL) (C.2.2.2.2.2.1 _ hi) (C.2.2.2.2.2.1 _ hc) rfl (hl.1.trans C.2.2.1.symm) rfl hd (Nat.le_trans hf C.2.2.2.2.2.2.2.2.1) (by show 2 * 0 + _ + 12 ≤ _; rw [tv_sum]; have := C.2.2.2.2.2.2.2.2.2; omega) (kk l p e R s mi args below meth c Z z D ar ac H locs cells slots ls C E hW hF hB hl)
/-- System.arraycopy between int arrays -/
theorem r_copy {a0 a n0 n1 : Nat} {f g : Nat → Int32} {sp dp cn : Int32} (hd : dc3 (mB m) pc (.invokestatic idx) pc') (hL : Cond.methodLink (mY m).cls idx arraycopyName ∈ wsG) (hw : Cond.native arraycopyName ∈ wsG ∧ Cond.static arraycopyName ∈ wsG ∧ Cond.initialized "java/lang/System" ∈ wsG) (hc0 : h[a0]? = some (.inl (0, n0, f))) (hc1 : h[a]? = some (.inl (0, n1, g)))
    (h1 : ¬ sp < 0) (h2 : ¬ dp < 0) (h3 : ¬ cn < 0) (h4 : sp.toNatClampNeg + cn.toNatClampNeg ≤ n0) (h5 : dp.toNatClampNeg + cn.toNatClampNeg ≤ n1) (hf : 1 ≤ mF m) (hs : (st.map fun v => v.category).sum + (nativeFrameWords "java/lang/System" "arraycopy" 5 + 11) ≤ mO m)
    (kk : RR xs m pc' lv st (h.set a (.inl (0, n1, va_cpy f g sp.toNatClampNeg dp.toNatClampNeg cn.toNatClampNeg))) bc bs Q) : RR xs m pc lv (.int cn :: .int dp :: .ref a :: .int sp :: .ref a0 :: st) h bc bs Q := by
  obtain ⟨hd, rfl⟩ := hd
  intro l p e R s mi args below meth c Z z D ar ac H locs cells slots ls C E hW hF hB hl
  have nn : ∀ z : Int32, ¬ z < 0 → z.toInt = (z.toNatClampNeg : Int) := by
    intro z hz
    have hz0 : (0 : Int) ≤ z.toInt := by
      have := Int32.not_lt.mp hz
      simpa using Int32.le_iff_toInt_le.mp this
    show z.toInt = ((z.toInt.toNat : Nat) : Int)
    omega
  intro T hT X
  have hk0 : H[z + a0]? = some (arrV (ac a0) n0 (fun j => .int (f j))) := (hW.2.1 a0 _ hc0).1
  have hk1 : H[z + a]? = some (arrV (ac a) n1 (fun j => .int (g j))) := (hW.2.1 a _ hc1).1
  obtain ⟨-, q0, hq0, cm0, hkk0⟩ := (hW.2.1 a0 _ hc0).2 n0 (fun j => .int (f j))
  obtain ⟨-, q1, hq1, cm1, hkk1⟩ := (hW.2.1 a _ hc1).2 n1 (fun j => .int (g j))
  obtain ⟨vm', X', step⟩ := X.arraycopy C.1 C.2.2.2.2.1 (C.2.2.2.2.2.1 _ hL) (C.2.2.2.2.2.1 _ hw.1) (C.2.2.2.2.2.1 _ hw.2.1) (C.2.2.2.2.2.1 _ hw.2.2) (src := z + a0) (dst := z + a) (cs := vp_cell (ac a0) (n0, .inl f)) (cd := vp_cell (ac a) (n1, .inl g)) (srcPos := sp) (destPos := dp) (n := cn) (by rw [hT]; exact hk0) (by rw [hT]; exact hk1)
    (fun _ h => by cases h) (fun _ h => by cases h) (fun h => by cases h) (fun h => by cases h) hq0 hq1 hkk0 hkk1 (by simp [tf, refKind]) h1 h2 h3
    (by rw [nn sp h1, nn cn h3]; show ¬ _ > ((arrV (ac a0) n0 (fun j => .int (f j))).slots.size : Int); rw [arrV_size]; omega)
    (by rw [nn dp h2, nn cn h3]; show ¬ _ > ((arrV (ac a) n1 (fun j => .int (g j))).slots.size : Int); rw [arrV_size]; omega)
    (fun vm₁ _ i hi => by
      have e : (vp_cell (ac a0) (n0, .inl f)).slots.getD (sp.toNatClampNeg + i) .null = .int (f (sp.toNatClampNeg + i)) := by
        show (arrV (ac a0) n0 (fun j => .int (f j))).slots.getD _ _ = _
        rw [Array.getD_eq_getD_getElem?, arrV_read _ _ (by omega)]
        rfl
      refine ⟨?_, ?_⟩
      · rw [e]; rfl
      · rw [e]
        exact trivial)
    (g := F0 mi pc ls (.int cn :: .int dp :: .ref (z + a) :: .int sp :: .ref (z + a0) :: st.map (tv z ar))) rfl (hl.1.trans C.2.2.1.symm) (rest := st.map (tv z ar)) rfl (by rw [C.2.1]; exact hd) (Nat.le_trans hf C.2.2.2.2.2.2.2.2.1) (by show 2 * 0 + _ + _ ≤ _; rw [tv_sum]; have := C.2.2.2.2.2.2.2.2.2; omega)
  have e1 : copied (vp_cell (ac a0) (n0, .inl f)) (vp_cell (ac a) (n1, .inl g)) sp dp cn = vp_cell (ac a) (n1, .inl (va_cpy f g sp.toNatClampNeg dp.toNatClampNeg cn.toNatClampNeg)) := va_copied (fun z => .int z) (ac a0) (ac a) f g h4
  rw [e1] at X' step
  have hlt : z + a < H.size := (Array.getElem?_eq_some_iff.mp hk1).1
  have hheap : ((T.setVm vm').setCell (z + a) (vp_cell (ac a) (n1, .inl (va_cpy f g sp.toNatClampNeg dp.toNatClampNeg cn.toNatClampNeg)))).heap = H.setIfInBounds (z + a) (vp_cell (ac a) (n1, .inl (va_cpy f g sp.toNatClampNeg dp.toNatClampNeg cn.toNatClampNeg))) := by rw [← hT]; rfl
  have oq : ∀ q : Nat, q ≠ z + a → (H.setIfInBounds (z + a) (vp_cell (ac a) (n1, .inl (va_cpy f g sp.toNatClampNeg dp.toNatClampNeg cn.toNatClampNeg))))[q]? = H[q]? := fun q hq => by simp [Array.getElem?_setIfInBounds, Ne.symm hq]
  obtain ⟨t, a1, b1⟩ := kk l p e R s mi args below meth c Z z D ar ac _ _ cells slots ls C E (hW.upd (a := a) (by simp) oq (show (H.setIfInBounds (z + a) _)[z + a]? = some _ by simp [Array.getElem?_setIfInBounds, hlt]; rfl) (hW.2.1 a _ hc1).2) ⟨fun q hq => (oq q (by omega)).trans (hF.1 q hq), fun q hq => by
      rcases List.mem_append.mp hq with h | h
      · exact hF.2 q h
      · obtain ⟨w, -, hz⟩ := List.mem_map.mp h
        rw [← hz]
        exact Nat.le_add_right _ _⟩ hB hl _ hheap X'
  exact ⟨t, step t a1, b1⟩
end CALL

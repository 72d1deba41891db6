/-! THE JUDGEMENT RR: from this place of the method m, with these locals, this stack and this heap, the method comes to its end, with an answer and a heap that Q holds of -/
def dc1 (b : ByteArray) (pc : Nat) (I : Instr) (pc' : Nat) : Prop := decode b pc = .ok (I, 1) ∧ pc' = pc + 1
def dc2 (b : ByteArray) (pc : Nat) (I : Instr) (pc' : Nat) : Prop := decode b pc = .ok (I, 2) ∧ pc' = pc + 2
def dc3 (b : ByteArray) (pc : Nat) (I : Instr) (pc' : Nat) : Prop := decode b pc = .ok (I, 3) ∧ pc' = pc + 3
def dcI (b : ByteArray) (pc : Nat) (c : Jvm.ClassFile.Cond) (tgt pc' : Nat) : Prop := ∃ off : Int, decode b pc = .ok (.if_icmp c off, 3) ∧ (pc : Int) + off = (tgt : Int) ∧ pc' = pc + 3
def dcZ (b : ByteArray) (pc : Nat) (c : Jvm.ClassFile.Cond) (tgt pc' : Nat) : Prop := ∃ off : Int, decode b pc = .ok (.ifCond c off, 3) ∧ (pc : Int) + off = (tgt : Int) ∧ pc' = pc + 3
def dcG (b : ByteArray) (pc tgt : Nat) : Prop := ∃ off : Int, decode b pc = .ok (.goto off, 3) ∧ (pc : Int) + off = (tgt : Int)
def RetOk (m : Md) (pc : Nat) (r : Option Value) : Prop := match r with
  | none => decode (mB m) pc = .ok (.return_, 1) ∧ mR m = none
  | some (.int v) => decode (mB m) pc = .ok (.ireturn, 1) ∧ ∃ ty, mR m = some ty ∧ narrow ty (.int v) = .int v
  | some (.long _) => decode (mB m) pc = .ok (.lreturn, 1) ∧ mR m = some .long
  | some (.ref _) => decode (mB m) pc = .ok (.areturn, 1) ∧ ∃ n, mR m = some (.object n)
  | _ => False
def Cx (m : Md) (p : Program) (s : State) (mi : MethodId) (args : Array Value) (meth : Method) (c : Code) (R : Room) : Prop :=
  p.tables.exec = Jvm.exec ∧ c.code = mB m ∧ c.maxLocals = mL m ∧ meth.sig.returnType = mR m ∧ s.vm.findClass (mY m).cls = some mi.cls ∧ (∀ w ∈ wsG, w.before args s = true) ∧ meth.locks = false ∧ ((mY m).name = "<init>" → meth.name = "<init>") ∧ mF m ≤ R.frames ∧ mO m ≤ R.locals
def ExR (xs : List Int32) (m : Md) (Q : Option Value → List Ce → Prop) (l : Launch) (p : Program) (e : Env) (R : Room) (s : State) (mi : MethodId) (args : Array Value) (below : List Frame) (meth : Method) (c : Code) (Z : State → Prop) (z : Nat) (D : va_G) (ar : Nat → Nat) : Prop :=
  ∀ (r : Option Value) (h' : List Ce) (ac' : Nat → ClassId) (H' : Heap) (locs' : List Loc) (cells' slots' pc' : Nat) (ls' : Array Slot), Q r h' → Wd xs z D ar ac' h' s H' → Fr z s H' locs' → cells' ≤ R.cells → slots' ≤ R.slots → RetOk m pc' r → W p l e R s mi args below meth c H' locs' cells' slots' Z (F0 mi pc' ls' (r.toList.map (tv z ar)))
def RR (xs : List Int32) (m : Md) (pc : Nat) (lv : List Value) (st : List Value) (h : List Ce) (bc bs : Nat) (Q : Option Value → List Ce → Prop) : Prop :=
  ∀ (l : Launch) (p : Program) (e : Env) (R : Room) (s : State) (mi : MethodId) (args : Array Value) (below : List Frame) (meth : Method) (c : Code) (Z : State → Prop) (z : Nat) (D : va_G) (ar : Nat → Nat) (ac : Nat → ClassId) (H : Heap) (locs : List Loc) (cells slots : Nat) (ls : Array Slot),
    Cx m p s mi args meth c R → ExR xs m Q l p e R s mi args below meth c Z z D ar → Wd xs z D ar ac h s H → Fr z s H locs → cells + bc ≤ R.cells ∧ slots + bs ≤ R.slots → LH z ar ls (mL m) lv →
    W p l e R s mi args below meth c H locs cells slots Z (F0 mi pc ls (st.map (tv z ar)))
theorem LH.of1 {z : Nat} {ar : Nat → Nat} {ls' : Array Slot} {n i : Nat} {lv : List Value} {v : Value} (g : lv_has ls' n ((i, tv z ar v) :: (lpr z ar lv).filter (fun q => !(q.1 == i) && !(q.1 + 1 == i && q.2.category == 2)))) : LH z ar ls' n (lset lv i v) := by
  refine ⟨g.1, g.2.1, fun j w hj hw => ?_⟩
  rcases lset_get hj hw with ⟨rfl, rfl⟩ | ⟨a1, a2, a3⟩
  · exact g.2.2 _ List.mem_cons_self
  · refine g.2.2 (j, tv z ar w) (List.mem_cons_of_mem _ (List.mem_filter.mpr ⟨lpr_mem a2 hw, ?_⟩))
    simp only [tv_cat, Bool.and_eq_true, Bool.not_eq_true', Bool.and_eq_false_iff, beq_eq_false_iff_ne, ne_eq]
    refine ⟨a1, ?_⟩
    by_cases e1 : j + 1 = i
    · exact Or.inr fun q => a3 ⟨e1, q⟩
    · exact Or.inl e1
theorem LH.of2 {z : Nat} {ar : Nat → Nat} {ls' : Array Slot} {n i : Nat} {lv : List Value} {v : Value} (g : lv_has ls' n ((i, tv z ar v) :: (lpr z ar lv).filter (fun q => !(q.1 == i) && (!(q.1 == i + 1) && !(q.1 + 1 == i && q.2.category == 2))))) : LH z ar ls' n (lset2 lv i v) := by
  refine ⟨g.1, g.2.1, fun j w hj hw => ?_⟩
  unfold lset2 at hj
  rw [List.getElem?_set] at hj
  by_cases e0 : i + 1 = j
  · rw [if_pos e0] at hj
    split at hj
    · cases hj; exact absurd rfl hw
    · cases hj
  rw [if_neg e0] at hj
  rcases lset_get hj hw with ⟨rfl, rfl⟩ | ⟨a1, a2, a3⟩
  · exact g.2.2 _ List.mem_cons_self
  · refine g.2.2 (j, tv z ar w) (List.mem_cons_of_mem _ (List.mem_filter.mpr ⟨lpr_mem a2 hw, ?_⟩))
    simp only [tv_cat, Bool.and_eq_true, Bool.not_eq_true', Bool.and_eq_false_iff, beq_eq_false_iff_ne, ne_eq]
    refine ⟨a1, fun q => e0 q.symm, ?_⟩
    by_cases e1 : j + 1 = i
    · exact Or.inr fun q => a3 ⟨e1, q⟩
    · exact Or.inl e1
section RULES
variable {xs : List Int32} {m : Md} {pc pc' tgt : Nat} {lv : List Value} {st : List Value} {h : List Ce} {bc bs : Nat} {Q : Option Value → List Ce → Prop}
theorem r_iconst {n : Int} {v : Int32} (hd : dc1 (mB m) pc (.iconst n) pc') (hv : Int32.ofInt n = v) (kk : RR xs m pc' lv (.int v :: st) h bc bs Q) : RR xs m pc lv (st) h bc bs Q := by
  obtain ⟨hd, rfl⟩ := hd
  intro l p e R s mi args below meth c Z z D ar ac H locs cells slots ls C E hW hF hB hl
  exact lv_iconst C.1 C.2.1 hd hv (kk l p e R s mi args below meth c Z z D ar ac H locs cells slots ls C E hW hF hB hl)
theorem r_bipush {n : Int} {v : Int32} (hd : dc2 (mB m) pc (.bipush n) pc') (hv : (Int8.ofInt n).toInt32 = v) (kk : RR xs m pc' lv (.int v :: st) h bc bs Q) : RR xs m pc lv (st) h bc bs Q := by
  obtain ⟨hd, rfl⟩ := hd
  intro l p e R s mi args below meth c Z z D ar ac H locs cells slots ls C E hW hF hB hl
  exact lv_bipush C.1 C.2.1 hd hv (kk l p e R s mi args below meth c Z z D ar ac H locs cells slots ls C E hW hF hB hl)
theorem r_sipush {n : Int} {v : Int32} (hd : dc3 (mB m) pc (.sipush n) pc') (hv : (Int16.ofInt n).toInt32 = v) (kk : RR xs m pc' lv (.int v :: st) h bc bs Q) : RR xs m pc lv (st) h bc bs Q := by
  obtain ⟨hd, rfl⟩ := hd
  intro l p e R s mi args below meth c Z z D ar ac H locs cells slots ls C E hW hF hB hl
  exact lv_sipush C.1 C.2.1 hd hv (kk l p e R s mi args below meth c Z z D ar ac H locs cells slots ls C E hW hF hB hl)
theorem r_lconst {n : Fin 2} {v : Int64} (hd : dc1 (mB m) pc (.lconst n) pc') (hv : Int64.ofNat (n : Nat) = v) (kk : RR xs m pc' lv (.long v :: st) h bc bs Q) : RR xs m pc lv (st) h bc bs Q := by
  obtain ⟨hd, rfl⟩ := hd
  intro l p e R s mi args below meth c Z z D ar ac H locs cells slots ls C E hW hF hB hl
  exact lv_lconst C.1 C.2.1 hd hv (kk l p e R s mi args below meth c Z z D ar ac H locs cells slots ls C E hW hF hB hl)
theorem r_iload_n {k : Fin 4} {x : Int32} (hd : dc1 (mB m) pc (.iload_n k) pc') (hx : lv[(k : Nat)]? = some (.int x)) (kk : RR xs m pc' lv (.int x :: st) h bc bs Q) : RR xs m pc lv st h bc bs Q := by
  obtain ⟨hd, rfl⟩ := hd
  intro l p e R s mi args below meth c Z z D ar ac H locs cells slots ls C E hW hF hB hl
  exact lv_iload_n C.1 C.2.1 hd rfl (hl.2.2 _ _ hx (fun q => by cases q)) (kk l p e R s mi args below meth c Z z D ar ac H locs cells slots ls C E hW hF hB hl)
theorem r_iload {k : Nat} {x : Int32} (hd : dc2 (mB m) pc (.iload k) pc') (hx : lv[k]? = some (.int x)) (kk : RR xs m pc' lv (.int x :: st) h bc bs Q) : RR xs m pc lv st h bc bs Q := by
  obtain ⟨hd, rfl⟩ := hd
  intro l p e R s mi args below meth c Z z D ar ac H locs cells slots ls C E hW hF hB hl
  exact lv_iload C.1 C.2.1 hd (hl.2.2 _ _ hx (fun q => by cases q)) (kk l p e R s mi args below meth c Z z D ar ac H locs cells slots ls C E hW hF hB hl)
theorem r_lload_n {k : Fin 4} {x : Int64} (hd : dc1 (mB m) pc (.lload_n k) pc') (hx : lv[(k : Nat)]? = some (.long x)) (kk : RR xs m pc' lv (.long x :: st) h bc bs Q) : RR xs m pc lv st h bc bs Q := by
  obtain ⟨hd, rfl⟩ := hd
  intro l p e R s mi args below meth c Z z D ar ac H locs cells slots ls C E hW hF hB hl
  exact lv_lload_n C.1 C.2.1 hd rfl (hl.2.2 _ _ hx (fun q => by cases q)) (kk l p e R s mi args below meth c Z z D ar ac H locs cells slots ls C E hW hF hB hl)
theorem r_lload {k : Nat} {x : Int64} (hd : dc2 (mB m) pc (.lload k) pc') (hx : lv[k]? = some (.long x)) (kk : RR xs m pc' lv (.long x :: st) h bc bs Q) : RR xs m pc lv st h bc bs Q := by
  obtain ⟨hd, rfl⟩ := hd
  intro l p e R s mi args below meth c Z z D ar ac H locs cells slots ls C E hW hF hB hl
  exact lv_lload C.1 C.2.1 hd (hl.2.2 _ _ hx (fun q => by cases q)) (kk l p e R s mi args below meth c Z z D ar ac H locs cells slots ls C E hW hF hB hl)
theorem r_aload_n {k : Fin 4} {x : Nat} (hd : dc1 (mB m) pc (.aload_n k) pc') (hx : lv[(k : Nat)]? = some (.ref x)) (kk : RR xs m pc' lv (.ref x :: st) h bc bs Q) : RR xs m pc lv st h bc bs Q := by
  obtain ⟨hd, rfl⟩ := hd
  intro l p e R s mi args below meth c Z z D ar ac H locs cells slots ls C E hW hF hB hl
  exact lv_aload_n C.1 C.2.1 hd rfl (hl.2.2 _ _ hx (fun q => by cases q)) (kk l p e R s mi args below meth c Z z D ar ac H locs cells slots ls C E hW hF hB hl)
theorem r_aload {k : Nat} {x : Nat} (hd : dc2 (mB m) pc (.aload k) pc') (hx : lv[k]? = some (.ref x)) (kk : RR xs m pc' lv (.ref x :: st) h bc bs Q) : RR xs m pc lv st h bc bs Q := by
  obtain ⟨hd, rfl⟩ := hd
  intro l p e R s mi args below meth c Z z D ar ac H locs cells slots ls C E hW hF hB hl
  exact lv_aload C.1 C.2.1 hd (hl.2.2 _ _ hx (fun q => by cases q)) (kk l p e R s mi args below meth c Z z D ar ac H locs cells slots ls C E hW hF hB hl)
theorem r_aload_nR {k : Fin 4} {x : Nat} (hd : dc1 (mB m) pc (.aload_n k) pc') (hx : lv[(k : Nat)]? = some (.retAddr x)) (kk : RR xs m pc' lv (.retAddr x :: st) h bc bs Q) : RR xs m pc lv st h bc bs Q := by
  obtain ⟨hd, rfl⟩ := hd
  intro l p e R s mi args below meth c Z z D ar ac H locs cells slots ls C E hW hF hB hl
  exact lv_aload_n C.1 C.2.1 hd rfl (hl.2.2 _ _ hx (fun q => by cases q)) (kk l p e R s mi args below meth c Z z D ar ac H locs cells slots ls C E hW hF hB hl)
theorem r_aloadR {k : Nat} {x : Nat} (hd : dc2 (mB m) pc (.aload k) pc') (hx : lv[k]? = some (.retAddr x)) (kk : RR xs m pc' lv (.retAddr x :: st) h bc bs Q) : RR xs m pc lv st h bc bs Q := by
  obtain ⟨hd, rfl⟩ := hd
  intro l p e R s mi args below meth c Z z D ar ac H locs cells slots ls C E hW hF hB hl
  exact lv_aload C.1 C.2.1 hd (hl.2.2 _ _ hx (fun q => by cases q)) (kk l p e R s mi args below meth c Z z D ar ac H locs cells slots ls C E hW hF hB hl)
theorem r_istore_n {k : Fin 4} {x : Int32} (hd : dc1 (mB m) pc (.istore_n k) pc') (hk : (k : Nat) < mL m) (kk : RR xs m pc' (lset lv (k : Nat) (.int x)) st h bc bs Q) : RR xs m pc lv (.int x :: st) h bc bs Q := by
  obtain ⟨hd, rfl⟩ := hd
  intro l p e R s mi args below meth c Z z D ar ac H locs cells slots ls C E hW hF hB hl
  exact lv_istore_n C.1 C.2.1 hd rfl hl.has hk rfl (fun ls' hl' => kk l p e R s mi args below meth c Z z D ar ac H locs cells slots ls' C E hW hF hB (LH.of1 (v := .int x) hl'))
theorem r_istore {k : Nat} {x : Int32} (hd : dc2 (mB m) pc (.istore k) pc') (hk : (k : Nat) < mL m) (kk : RR xs m pc' (lset lv k (.int x)) st h bc bs Q) : RR xs m pc lv (.int x :: st) h bc bs Q := by
  obtain ⟨hd, rfl⟩ := hd
  intro l p e R s mi args below meth c Z z D ar ac H locs cells slots ls C E hW hF hB hl
  exact lv_istore C.1 C.2.1 hd hl.has hk rfl (fun ls' hl' => kk l p e R s mi args below meth c Z z D ar ac H locs cells slots ls' C E hW hF hB (LH.of1 (v := .int x) hl'))
theorem r_astore_n {k : Fin 4} {x : Nat} (hd : dc1 (mB m) pc (.astore_n k) pc') (hk : (k : Nat) < mL m) (kk : RR xs m pc' (lset lv (k : Nat) (.ref x)) st h bc bs Q) : RR xs m pc lv (.ref x :: st) h bc bs Q := by
  obtain ⟨hd, rfl⟩ := hd
  intro l p e R s mi args below meth c Z z D ar ac H locs cells slots ls C E hW hF hB hl
  exact lv_astore_n C.1 C.2.1 hd rfl hl.has hk rfl (fun ls' hl' => kk l p e R s mi args below meth c Z z D ar ac H locs cells slots ls' C E hW hF hB (LH.of1 (v := .ref x) hl'))
theorem r_astore {k : Nat} {x : Nat} (hd : dc2 (mB m) pc (.astore k) pc') (hk : (k : Nat) < mL m) (kk : RR xs m pc' (lset lv k (.ref x)) st h bc bs Q) : RR xs m pc lv (.ref x :: st) h bc bs Q := by
  obtain ⟨hd, rfl⟩ := hd
  intro l p e R s mi args below meth c Z z D ar ac H locs cells slots ls C E hW hF hB hl
  exact lv_astore C.1 C.2.1 hd hl.has hk rfl (fun ls' hl' => kk l p e R s mi args below meth c Z z D ar ac H locs cells slots ls' C E hW hF hB (LH.of1 (v := .ref x) hl'))
theorem r_lstore_n {k : Fin 4} {x : Int64} (hd : dc1 (mB m) pc (.lstore_n k) pc') (hk : (k : Nat) + 1 < mL m) (kk : RR xs m pc' (lset2 lv (k : Nat) (.long x)) st h bc bs Q) : RR xs m pc lv (.long x :: st) h bc bs Q := by
  obtain ⟨hd, rfl⟩ := hd
  intro l p e R s mi args below meth c Z z D ar ac H locs cells slots ls C E hW hF hB hl
  exact lv_lstore_n C.1 C.2.1 hd rfl hl.has hk rfl (fun ls' hl' => kk l p e R s mi args below meth c Z z D ar ac H locs cells slots ls' C E hW hF hB (LH.of2 (v := .long x) hl'))
theorem r_lstore {k : Nat} {x : Int64} (hd : dc2 (mB m) pc (.lstore k) pc') (hk : (k : Nat) + 1 < mL m) (kk : RR xs m pc' (lset2 lv k (.long x)) st h bc bs Q) : RR xs m pc lv (.long x :: st) h bc bs Q := by
  obtain ⟨hd, rfl⟩ := hd
  intro l p e R s mi args below meth c Z z D ar ac H locs cells slots ls C E hW hF hB hl
  exact lv_lstore C.1 C.2.1 hd hl.has hk rfl (fun ls' hl' => kk l p e R s mi args below meth c Z z D ar ac H locs cells slots ls' C E hW hF hB (LH.of2 (v := .long x) hl'))
theorem r_iinc {k : Nat} {n : Int} {x v : Int32} (hd : dc3 (mB m) pc (.iinc k n) pc') (hx : lv[k]? = some (.int x)) (hv : x + Int32.ofInt n = v) (hk : k < mL m) (kk : RR xs m pc' (lset lv k (.int v)) st h bc bs Q) : RR xs m pc lv st h bc bs Q := by
  obtain ⟨hd, rfl⟩ := hd
  intro l p e R s mi args below meth c Z z D ar ac H locs cells slots ls C E hW hF hB hl
  obtain ⟨j, hj⟩ := List.getElem?_of_mem (lpr_mem (z := z) (ar := ar) hx (fun q => by cases q))
  exact lv_iinc C.1 C.2.1 hd hl.has hj hv hk rfl (fun ls' hl' => kk l p e R s mi args below meth c Z z D ar ac H locs cells slots ls' C E hW hF hB (LH.of1 (v := .int v) hl'))
theorem r_iadd {x y : Int32} (hd : dc1 (mB m) pc .iadd pc') (kk : RR xs m pc' lv (.int (x + y) :: st) h bc bs Q) : RR xs m pc lv (.int y :: .int x :: st) h bc bs Q := by
  obtain ⟨hd, rfl⟩ := hd
  intro l p e R s mi args below meth c Z z D ar ac H locs cells slots ls C E hW hF hB hl
  exact lv_iadd C.1 C.2.1 hd  (kk l p e R s mi args below meth c Z z D ar ac H locs cells slots ls C E hW hF hB hl)
theorem r_isub {x y : Int32} (hd : dc1 (mB m) pc .isub pc') (kk : RR xs m pc' lv (.int (x - y) :: st) h bc bs Q) : RR xs m pc lv (.int y :: .int x :: st) h bc bs Q := by
  obtain ⟨hd, rfl⟩ := hd
  intro l p e R s mi args below meth c Z z D ar ac H locs cells slots ls C E hW hF hB hl
  exact lv_isub C.1 C.2.1 hd  (kk l p e R s mi args below meth c Z z D ar ac H locs cells slots ls C E hW hF hB hl)
theorem r_imul {x y : Int32} (hd : dc1 (mB m) pc .imul pc') (kk : RR xs m pc' lv (.int (x * y) :: st) h bc bs Q) : RR xs m pc lv (.int y :: .int x :: st) h bc bs Q := by
  obtain ⟨hd, rfl⟩ := hd
  intro l p e R s mi args below meth c Z z D ar ac H locs cells slots ls C E hW hF hB hl
  exact lv_imul C.1 C.2.1 hd  (kk l p e R s mi args below meth c Z z D ar ac H locs cells slots ls C E hW hF hB hl)
theorem r_iand {x y : Int32} (hd : dc1 (mB m) pc .iand pc') (kk : RR xs m pc' lv (.int (x &&& y) :: st) h bc bs Q) : RR xs m pc lv (.int y :: .int x :: st) h bc bs Q := by
  obtain ⟨hd, rfl⟩ := hd
  intro l p e R s mi args below meth c Z z D ar ac H locs cells slots ls C E hW hF hB hl
  exact lv_iand C.1 C.2.1 hd  (kk l p e R s mi args below meth c Z z D ar ac H locs cells slots ls C E hW hF hB hl)
theorem r_ior {x y : Int32} (hd : dc1 (mB m) pc .ior pc') (kk : RR xs m pc' lv (.int (x ||| y) :: st) h bc bs Q) : RR xs m pc lv (.int y :: .int x :: st) h bc bs Q := by
  obtain ⟨hd, rfl⟩ := hd
  intro l p e R s mi args below meth c Z z D ar ac H locs cells slots ls C E hW hF hB hl
  exact lv_ior C.1 C.2.1 hd  (kk l p e R s mi args below meth c Z z D ar ac H locs cells slots ls C E hW hF hB hl)
theorem r_ixor {x y : Int32} (hd : dc1 (mB m) pc .ixor pc') (kk : RR xs m pc' lv (.int (x ^^^ y) :: st) h bc bs Q) : RR xs m pc lv (.int y :: .int x :: st) h bc bs Q := by
  obtain ⟨hd, rfl⟩ := hd
  intro l p e R s mi args below meth c Z z D ar ac H locs cells slots ls C E hW hF hB hl
  exact lv_ixor C.1 C.2.1 hd  (kk l p e R s mi args below meth c Z z D ar ac H locs cells slots ls C E hW hF hB hl)
theorem r_ishl {x y : Int32} (hd : dc1 (mB m) pc .ishl pc') (kk : RR xs m pc' lv (.int (x <<< (y &&& 31)) :: st) h bc bs Q) : RR xs m pc lv (.int y :: .int x :: st) h bc bs Q := by
  obtain ⟨hd, rfl⟩ := hd
  intro l p e R s mi args below meth c Z z D ar ac H locs cells slots ls C E hW hF hB hl
  exact lv_ishl C.1 C.2.1 hd  (kk l p e R s mi args below meth c Z z D ar ac H locs cells slots ls C E hW hF hB hl)
theorem r_ishr {x y : Int32} (hd : dc1 (mB m) pc .ishr pc') (kk : RR xs m pc' lv (.int (x >>> (y &&& 31)) :: st) h bc bs Q) : RR xs m pc lv (.int y :: .int x :: st) h bc bs Q := by
  obtain ⟨hd, rfl⟩ := hd
  intro l p e R s mi args below meth c Z z D ar ac H locs cells slots ls C E hW hF hB hl
  exact lv_ishr C.1 C.2.1 hd  (kk l p e R s mi args below meth c Z z D ar ac H locs cells slots ls C E hW hF hB hl)
theorem r_idiv {x y : Int32} (hd : dc1 (mB m) pc .idiv pc') (hn : ¬ y = 0) (kk : RR xs m pc' lv (.int (x / y) :: st) h bc bs Q) : RR xs m pc lv (.int y :: .int x :: st) h bc bs Q := by
  obtain ⟨hd, rfl⟩ := hd
  intro l p e R s mi args below meth c Z z D ar ac H locs cells slots ls C E hW hF hB hl
  exact lv_idiv C.1 C.2.1 hd hn (kk l p e R s mi args below meth c Z z D ar ac H locs cells slots ls C E hW hF hB hl)
theorem r_irem {x y : Int32} (hd : dc1 (mB m) pc .irem pc') (hn : ¬ y = 0) (kk : RR xs m pc' lv (.int (x - x / y * y) :: st) h bc bs Q) : RR xs m pc lv (.int y :: .int x :: st) h bc bs Q := by
  obtain ⟨hd, rfl⟩ := hd
  intro l p e R s mi args below meth c Z z D ar ac H locs cells slots ls C E hW hF hB hl
  exact lv_irem C.1 C.2.1 hd hn (kk l p e R s mi args below meth c Z z D ar ac H locs cells slots ls C E hW hF hB hl)
theorem r_ineg {x : Int32} (hd : dc1 (mB m) pc .ineg pc') (kk : RR xs m pc' lv (.int (-x) :: st) h bc bs Q) : RR xs m pc lv (.int x :: st) h bc bs Q := by
  obtain ⟨hd, rfl⟩ := hd
  intro l p e R s mi args below meth c Z z D ar ac H locs cells slots ls C E hW hF hB hl
  exact lv_ineg C.1 C.2.1 hd  (kk l p e R s mi args below meth c Z z D ar ac H locs cells slots ls C E hW hF hB hl)
theorem r_iushr {x y : Int32} (hd : dc1 (mB m) pc .iushr pc') (kk : RR xs m pc' lv (.int ((x.toUInt32 >>> (y.toUInt32 &&& Int32.toUInt32 31)).toInt32) :: st) h bc bs Q) : RR xs m pc lv (.int y :: .int x :: st) h bc bs Q := by
  obtain ⟨hd, rfl⟩ := hd
  intro l p e R s mi args below meth c Z z D ar ac H locs cells slots ls C E hW hF hB hl
  exact lv_iushr C.1 C.2.1 hd rfl (kk l p e R s mi args below meth c Z z D ar ac H locs cells slots ls C E hW hF hB hl)
theorem r_ladd {x y : Int64} (hd : dc1 (mB m) pc .ladd pc') (kk : RR xs m pc' lv (.long (x + y) :: st) h bc bs Q) : RR xs m pc lv (.long y :: .long x :: st) h bc bs Q := by
  obtain ⟨hd, rfl⟩ := hd
  intro l p e R s mi args below meth c Z z D ar ac H locs cells slots ls C E hW hF hB hl
  exact lv_ladd C.1 C.2.1 hd  (kk l p e R s mi args below meth c Z z D ar ac H locs cells slots ls C E hW hF hB hl)
theorem r_lmul {x y : Int64} (hd : dc1 (mB m) pc .lmul pc') (kk : RR xs m pc' lv (.long (x * y) :: st) h bc bs Q) : RR xs m pc lv (.long y :: .long x :: st) h bc bs Q := by
  obtain ⟨hd, rfl⟩ := hd
  intro l p e R s mi args below meth c Z z D ar ac H locs cells slots ls C E hW hF hB hl
  exact lv_lmul C.1 C.2.1 hd  (kk l p e R s mi args below meth c Z z D ar ac H locs cells slots ls C E hW hF hB hl)
theorem r_lor {x y : Int64} (hd : dc1 (mB m) pc .lor pc') (kk : RR xs m pc' lv (.long (x ||| y) :: st) h bc bs Q) : RR xs m pc lv (.long y :: .long x :: st) h bc bs Q := by
  obtain ⟨hd, rfl⟩ := hd
  intro l p e R s mi args below meth c Z z D ar ac H locs cells slots ls C E hW hF hB hl
  exact lv_lor C.1 C.2.1 hd  (kk l p e R s mi args below meth c Z z D ar ac H locs cells slots ls C E hW hF hB hl)
theorem r_lshl {x : Int64} {y : Int32} (hd : dc1 (mB m) pc .lshl pc') (kk : RR xs m pc' lv (.long (x <<< (y.toInt64 &&& 63)) :: st) h bc bs Q) : RR xs m pc lv (.int y :: .long x :: st) h bc bs Q := by
  obtain ⟨hd, rfl⟩ := hd
  intro l p e R s mi args below meth c Z z D ar ac H locs cells slots ls C E hW hF hB hl
  exact lv_lshl C.1 C.2.1 hd rfl (kk l p e R s mi args below meth c Z z D ar ac H locs cells slots ls C E hW hF hB hl)
theorem r_lshr {x : Int64} {y : Int32} (hd : dc1 (mB m) pc .lshr pc') (kk : RR xs m pc' lv (.long (x >>> (y.toInt64 &&& 63)) :: st) h bc bs Q) : RR xs m pc lv (.int y :: .long x :: st) h bc bs Q := by
  obtain ⟨hd, rfl⟩ := hd
  intro l p e R s mi args below meth c Z z D ar ac H locs cells slots ls C E hW hF hB hl
  exact lv_lshr C.1 C.2.1 hd rfl (kk l p e R s mi args below meth c Z z D ar ac H locs cells slots ls C E hW hF hB hl)
theorem r_lcmp {x y : Int64} (hd : dc1 (mB m) pc .lcmp pc') (kk : RR xs m pc' lv (.int (lg_cmp x y) :: st) h bc bs Q) : RR xs m pc lv (.long y :: .long x :: st) h bc bs Q := by
  obtain ⟨hd, rfl⟩ := hd
  intro l p e R s mi args below meth c Z z D ar ac H locs cells slots ls C E hW hF hB hl
  exact W.lcmp C.1 C.2.1 hd  (kk l p e R s mi args below meth c Z z D ar ac H locs cells slots ls C E hW hF hB hl)
theorem r_i2l {x : Int32} (hd : dc1 (mB m) pc .i2l pc') (kk : RR xs m pc' lv (.long x.toInt64 :: st) h bc bs Q) : RR xs m pc lv (.int x :: st) h bc bs Q := by
  obtain ⟨hd, rfl⟩ := hd
  intro l p e R s mi args below meth c Z z D ar ac H locs cells slots ls C E hW hF hB hl
  exact lv_i2l C.1 C.2.1 hd rfl (kk l p e R s mi args below meth c Z z D ar ac H locs cells slots ls C E hW hF hB hl)
theorem r_l2i {x : Int64} (hd : dc1 (mB m) pc .l2i pc') (kk : RR xs m pc' lv (.int x.toInt32 :: st) h bc bs Q) : RR xs m pc lv (.long x :: st) h bc bs Q := by
  obtain ⟨hd, rfl⟩ := hd
  intro l p e R s mi args below meth c Z z D ar ac H locs cells slots ls C E hW hF hB hl
  exact lv_l2i C.1 C.2.1 hd rfl (kk l p e R s mi args below meth c Z z D ar ac H locs cells slots ls C E hW hF hB hl)
theorem r_dup {v : Value} (hd : dc1 (mB m) pc .dup pc') (hc : v.category = 1) (kk : RR xs m pc' lv (v :: v :: st) h bc bs Q) : RR xs m pc lv (v :: st) h bc bs Q := by
  obtain ⟨hd, rfl⟩ := hd
  intro l p e R s mi args below meth c Z z D ar ac H locs cells slots ls C E hW hF hB hl
  exact lv_dup C.1 C.2.1 hd (by rw [tv_cat]; exact hc) (kk l p e R s mi args below meth c Z z D ar ac H locs cells slots ls C E hW hF hB hl)
theorem r_pop {v : Value} (hd : dc1 (mB m) pc .pop pc') (hc : v.category = 1) (kk : RR xs m pc' lv (st) h bc bs Q) : RR xs m pc lv (v :: st) h bc bs Q := by
  obtain ⟨hd, rfl⟩ := hd
  intro l p e R s mi args below meth c Z z D ar ac H locs cells slots ls C E hW hF hB hl
  exact lv_pop C.1 C.2.1 hd (by rw [tv_cat]; exact hc) (kk l p e R s mi args below meth c Z z D ar ac H locs cells slots ls C E hW hF hB hl)
theorem r_dup2 {v w : Value} (hd : dc1 (mB m) pc .dup2 pc') (hc : v.category = 1) (hc2 : w.category = 1) (kk : RR xs m pc' lv (v :: w :: v :: w :: st) h bc bs Q) : RR xs m pc lv (v :: w :: st) h bc bs Q := by
  obtain ⟨hd, rfl⟩ := hd
  intro l p e R s mi args below meth c Z z D ar ac H locs cells slots ls C E hW hF hB hl
  exact lv_dup2_11 C.1 C.2.1 hd (by rw [tv_cat]; exact hc) (by rw [tv_cat]; exact hc2) (kk l p e R s mi args below meth c Z z D ar ac H locs cells slots ls C E hW hF hB hl)
theorem r_goto (hd : dcG (mB m) pc tgt) (kk : RR xs m tgt lv st h bc bs Q) : RR xs m pc lv st h bc bs Q := by
  obtain ⟨off, hd, ht⟩ := hd
  intro l p e R s mi args below meth c Z z D ar ac H locs cells slots ls C E hW hF hB hl
  exact lv_goto C.1 C.2.1 hd ht (kk l p e R s mi args below meth c Z z D ar ac H locs cells slots ls C E hW hF hB hl)
theorem r_ic_eq {x y : Int32} (hd : dcI (mB m) pc .eq tgt pc') (kt : x = y → RR xs m tgt lv st h bc bs Q) (kf : ¬ x = y → RR xs m pc' lv st h bc bs Q) : RR xs m pc lv (.int y :: .int x :: st) h bc bs Q := by
  obtain ⟨off, hd, ht, rfl⟩ := hd
  intro l p e R s mi args below meth c Z z D ar ac H locs cells slots ls C E hW hF hB hl
  exact lv_icmp_eq C.1 C.2.1 hd ht (fun q => kt q l p e R s mi args below meth c Z z D ar ac H locs cells slots ls C E hW hF hB hl) (fun q => kf q l p e R s mi args below meth c Z z D ar ac H locs cells slots ls C E hW hF hB hl)
theorem r_if_eq {x : Int32} (hd : dcZ (mB m) pc .eq tgt pc') (kt : x = 0 → RR xs m tgt lv st h bc bs Q) (kf : ¬ x = 0 → RR xs m pc' lv st h bc bs Q) : RR xs m pc lv (.int x :: st) h bc bs Q := by
  obtain ⟨off, hd, ht, rfl⟩ := hd
  intro l p e R s mi args below meth c Z z D ar ac H locs cells slots ls C E hW hF hB hl
  exact lv_if_eq C.1 C.2.1 hd ht (fun q => kt q l p e R s mi args below meth c Z z D ar ac H locs cells slots ls C E hW hF hB hl) (fun q => kf q l p e R s mi args below meth c Z z D ar ac H locs cells slots ls C E hW hF hB hl)
theorem r_ic_ne {x y : Int32} (hd : dcI (mB m) pc .ne tgt pc') (kt : ¬ x = y → RR xs m tgt lv st h bc bs Q) (kf : x = y → RR xs m pc' lv st h bc bs Q) : RR xs m pc lv (.int y :: .int x :: st) h bc bs Q := by
  obtain ⟨off, hd, ht, rfl⟩ := hd
  intro l p e R s mi args below meth c Z z D ar ac H locs cells slots ls C E hW hF hB hl
  exact lv_icmp_ne C.1 C.2.1 hd ht (fun q => kt q l p e R s mi args below meth c Z z D ar ac H locs cells slots ls C E hW hF hB hl) (fun q => kf q l p e R s mi args below meth c Z z D ar ac H locs cells slots ls C E hW hF hB hl)
theorem r_if_ne {x : Int32} (hd : dcZ (mB m) pc .ne tgt pc') (kt : ¬ x = 0 → RR xs m tgt lv st h bc bs Q) (kf : x = 0 → RR xs m pc' lv st h bc bs Q) : RR xs m pc lv (.int x :: st) h bc bs Q := by
  obtain ⟨off, hd, ht, rfl⟩ := hd
  intro l p e R s mi args below meth c Z z D ar ac H locs cells slots ls C E hW hF hB hl
  exact lv_if_ne C.1 C.2.1 hd ht (fun q => kt q l p e R s mi args below meth c Z z D ar ac H locs cells slots ls C E hW hF hB hl) (fun q => kf q l p e R s mi args below meth c Z z D ar ac H locs cells slots ls C E hW hF hB hl)
theorem r_ic_lt {x y : Int32} (hd : dcI (mB m) pc .lt tgt pc') (kt : x < y → RR xs m tgt lv st h bc bs Q) (kf : ¬ x < y → RR xs m pc' lv st h bc bs Q) : RR xs m pc lv (.int y :: .int x :: st) h bc bs Q := by
  obtain ⟨off, hd, ht, rfl⟩ := hd
  intro l p e R s mi args below meth c Z z D ar ac H locs cells slots ls C E hW hF hB hl
  exact lv_icmp_lt C.1 C.2.1 hd ht (fun q => kt q l p e R s mi args below meth c Z z D ar ac H locs cells slots ls C E hW hF hB hl) (fun q => kf q l p e R s mi args below meth c Z z D ar ac H locs cells slots ls C E hW hF hB hl)
theorem r_if_lt {x : Int32} (hd : dcZ (mB m) pc .lt tgt pc') (kt : x < 0 → RR xs m tgt lv st h bc bs Q) (kf : ¬ x < 0 → RR xs m pc' lv st h bc bs Q) : RR xs m pc lv (.int x :: st) h bc bs Q := by
  obtain ⟨off, hd, ht, rfl⟩ := hd
  intro l p e R s mi args below meth c Z z D ar ac H locs cells slots ls C E hW hF hB hl
  exact lv_if_lt C.1 C.2.1 hd ht (fun q => kt q l p e R s mi args below meth c Z z D ar ac H locs cells slots ls C E hW hF hB hl) (fun q => kf q l p e R s mi args below meth c Z z D ar ac H locs cells slots ls C E hW hF hB hl)
theorem r_ic_ge {x y : Int32} (hd : dcI (mB m) pc .ge tgt pc') (kt : y ≤ x → RR xs m tgt lv st h bc bs Q) (kf : ¬ y ≤ x → RR xs m pc' lv st h bc bs Q) : RR xs m pc lv (.int y :: .int x :: st) h bc bs Q := by
  obtain ⟨off, hd, ht, rfl⟩ := hd
  intro l p e R s mi args below meth c Z z D ar ac H locs cells slots ls C E hW hF hB hl
  exact lv_icmp_ge C.1 C.2.1 hd ht (fun q => kt q l p e R s mi args below meth c Z z D ar ac H locs cells slots ls C E hW hF hB hl) (fun q => kf q l p e R s mi args below meth c Z z D ar ac H locs cells slots ls C E hW hF hB hl)
theorem r_if_ge {x : Int32} (hd : dcZ (mB m) pc .ge tgt pc') (kt : 0 ≤ x → RR xs m tgt lv st h bc bs Q) (kf : ¬ 0 ≤ x → RR xs m pc' lv st h bc bs Q) : RR xs m pc lv (.int x :: st) h bc bs Q := by
  obtain ⟨off, hd, ht, rfl⟩ := hd
  intro l p e R s mi args below meth c Z z D ar ac H locs cells slots ls C E hW hF hB hl
  exact lv_if_ge C.1 C.2.1 hd ht (fun q => kt q l p e R s mi args below meth c Z z D ar ac H locs cells slots ls C E hW hF hB hl) (fun q => kf q l p e R s mi args below meth c Z z D ar ac H locs cells slots ls C E hW hF hB hl)
theorem r_ic_gt {x y : Int32} (hd : dcI (mB m) pc .gt tgt pc') (kt : y < x → RR xs m tgt lv st h bc bs Q) (kf : ¬ y < x → RR xs m pc' lv st h bc bs Q) : RR xs m pc lv (.int y :: .int x :: st) h bc bs Q := by
  obtain ⟨off, hd, ht, rfl⟩ := hd
  intro l p e R s mi args below meth c Z z D ar ac H locs cells slots ls C E hW hF hB hl
  exact lv_icmp_gt C.1 C.2.1 hd ht (fun q => kt q l p e R s mi args below meth c Z z D ar ac H locs cells slots ls C E hW hF hB hl) (fun q => kf q l p e R s mi args below meth c Z z D ar ac H locs cells slots ls C E hW hF hB hl)
theorem r_if_gt {x : Int32} (hd : dcZ (mB m) pc .gt tgt pc') (kt : 0 < x → RR xs m tgt lv st h bc bs Q) (kf : ¬ 0 < x → RR xs m pc' lv st h bc bs Q) : RR xs m pc lv (.int x :: st) h bc bs Q := by
  obtain ⟨off, hd, ht, rfl⟩ := hd
  intro l p e R s mi args below meth c Z z D ar ac H locs cells slots ls C E hW hF hB hl
  exact lv_if_gt C.1 C.2.1 hd ht (fun q => kt q l p e R s mi args below meth c Z z D ar ac H locs cells slots ls C E hW hF hB hl) (fun q => kf q l p e R s mi args below meth c Z z D ar ac H locs cells slots ls C E hW hF hB hl)
theorem r_ic_le {x y : Int32} (hd : dcI (mB m) pc .le tgt pc') (kt : x ≤ y → RR xs m tgt lv st h bc bs Q) (kf : ¬ x ≤ y → RR xs m pc' lv st h bc bs Q) : RR xs m pc lv (.int y :: .int x :: st) h bc bs Q := by
  obtain ⟨off, hd, ht, rfl⟩ := hd
  intro l p e R s mi args below meth c Z z D ar ac H locs cells slots ls C E hW hF hB hl
  exact lv_icmp_le C.1 C.2.1 hd ht (fun q => kt q l p e R s mi args below meth c Z z D ar ac H locs cells slots ls C E hW hF hB hl) (fun q => kf q l p e R s mi args below meth c Z z D ar ac H locs cells slots ls C E hW hF hB hl)
theorem r_if_le {x : Int32} (hd : dcZ (mB m) pc .le tgt pc') (kt : x ≤ 0 → RR xs m tgt lv st h bc bs Q) (kf : ¬ x ≤ 0 → RR xs m pc' lv st h bc bs Q) : RR xs m pc lv (.int x :: st) h bc bs Q := by
  obtain ⟨off, hd, ht, rfl⟩ := hd
  intro l p e R s mi args below meth c Z z D ar ac H locs cells slots ls C E hW hF hB hl
  exact lv_if_le C.1 C.2.1 hd ht (fun q => kt q l p e R s mi args below meth c Z z D ar ac H locs cells slots ls C E hW hF hB hl) (fun q => kf q l p e R s mi args below meth c Z z D ar ac H locs cells slots ls C E hW hF hB hl)
theorem r_ldc {idx : Nat} {v : Int32} (hd : dc2 (mB m) pc (.ldc idx) pc') (hw : Cond.constant (mY m).cls idx v ∈ wsG) (kk : RR xs m pc' lv (.int v :: st) h bc bs Q) : RR xs m pc lv st h bc bs Q := by
  obtain ⟨hd, rfl⟩ := hd
  intro l p e R s mi args below meth c Z z D ar ac H locs cells slots ls C E hW hF hB hl
  exact lv_ldc C.1 C.2.1 C.2.2.2.2.1 (C.2.2.2.2.2.1 _ hw) hd (kk l p e R s mi args below meth c Z z D ar ac H locs cells slots ls C E hW hF hB hl)
theorem r_ldcw {idx : Nat} {v : Int32} (hd : dc3 (mB m) pc (.ldc_w idx) pc') (hw : Cond.constant (mY m).cls idx v ∈ wsG) (kk : RR xs m pc' lv (.int v :: st) h bc bs Q) : RR xs m pc lv st h bc bs Q := by
  obtain ⟨hd, rfl⟩ := hd
  intro l p e R s mi args below meth c Z z D ar ac H locs cells slots ls C E hW hF hB hl
  exact lv_ldcw C.1 C.2.1 C.2.2.2.2.1 (C.2.2.2.2.2.1 _ hw) hd (kk l p e R s mi args below meth c Z z D ar ac H locs cells slots ls C E hW hF hB hl)
theorem r_ldc2 {idx : Nat} {v : Int64} (hd : dc3 (mB m) pc (.ldc2_w idx) pc') (hw : Cond.constantLong (mY m).cls idx v ∈ wsG) (kk : RR xs m pc' lv (.long v :: st) h bc bs Q) : RR xs m pc lv st h bc bs Q := by
  obtain ⟨hd, rfl⟩ := hd
  intro l p e R s mi args below meth c Z z D ar ac H locs cells slots ls C E hW hF hB hl
  exact lv_ldc2 C.1 C.2.1 C.2.2.2.2.1 (C.2.2.2.2.2.1 _ hw) hd (kk l p e R s mi args below meth c Z z D ar ac H locs cells slots ls C E hW hF hB hl)
theorem r_ret {r : Option Value} (hd : RetOk m pc r) (hq : Q r h) : RR xs m pc lv r.toList h bc bs Q := by
  intro l p e R s mi args below meth c Z z D ar ac H locs cells slots ls C E hW hF hB hl
  exact E r h ac H locs cells slots pc ls hq hW hF (by omega) (by omega) hd
theorem r_iret {v : Int32} (hd : RetOk m pc (some (.int v))) (hq : Q (some (.int v)) h) : RR xs m pc lv [.int v] h bc bs Q := r_ret hd hq
theorem r_lret {v : Int64} (hd : RetOk m pc (some (.long v))) (hq : Q (some (.long v)) h) : RR xs m pc lv [.long v] h bc bs Q := r_ret hd hq
theorem r_aret {v : Nat} (hd : RetOk m pc (some (.ref v))) (hq : Q (some (.ref v)) h) : RR xs m pc lv [.ref v] h bc bs Q := r_ret hd hq
theorem r_vret (hd : RetOk m pc none) (hq : Q none h) : RR xs m pc lv [] h bc bs Q := r_ret hd hq
/-- the switch: inside the table, and beside it -/
def dcT (b : ByteArray) (pc : Nat) (x : Int32) (tgt : Nat) : Prop := ∃ (dflt lo hi : Int) (offs : Array Int) (len : Nat), decode b pc = .ok (.tableswitch dflt lo hi offs, len) ∧ (((x.toInt < lo ∨ hi < x.toInt) ∧ (pc : Int) + dflt = (tgt : Int)) ∨ (¬ x.toInt < lo ∧ ¬ hi < x.toInt ∧ ∃ off, offs[(x.toInt - lo).toNat]? = some off ∧ (pc : Int) + off = (tgt : Int)))
theorem r_switch {x : Int32} (hd : dcT (mB m) pc x tgt) (kk : RR xs m tgt lv st h bc bs Q) : RR xs m pc lv (.int x :: st) h bc bs Q := by
  obtain ⟨dflt, lo, hi, offs, len, hd, ⟨h1, ht⟩ | ⟨h1, h2, off, ho, ht⟩⟩ := hd
  · intro l p e R s mi args below meth c Z z D ar ac H locs cells slots ls C E hW hF hB hl
    exact lv_tableOut C.1 C.2.1 hd h1 ht (kk l p e R s mi args below meth c Z z D ar ac H locs cells slots ls C E hW hF hB hl)
  · intro l p e R s mi args below meth c Z z D ar ac H locs cells slots ls C E hW hF hB hl
    exact lv_tableIn C.1 C.2.1 hd h1 h2 ho ht (kk l p e R s mi args below meth c Z z D ar ac H locs cells slots ls C E hW hF hB hl)
theorem r_mono {Q' : Option Value → List Ce → Prop} (hq : ∀ r h', Q r h' → Q' r h') (kk : RR xs m pc lv st h bc bs Q) : RR xs m pc lv st h bc bs Q' := by
  intro l p e R s mi args below meth c Z z D ar ac H locs cells slots ls C E hW hF hB hl
  exact kk l p e R s mi args below meth c Z z D ar ac H locs cells slots ls C (fun r h' ac' H' locs' cells' slots' pc' ls' q => E r h' ac' H' locs' cells' slots' pc' ls' (hq r h' q)) hW hF hB hl
end RULES

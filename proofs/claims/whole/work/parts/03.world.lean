/-! THE ABSTRACT HEAP: a list of cells; an address is a place in the list (the machine's is z more); statics' arrays and the script, which nobody writes, are references of another kind (retAddr k) -/
abbrev Ce : Type := (Nat × Nat × (Nat → Int32)) ⊕ ((Nat × Nat × (Nat → Option Nat)) ⊕ (Nat × List Value))
def tv (z : Nat) (ar : Nat → Nat) (v : Value) : Value := match v with
  | .ref a => .ref (z + a)
  | .retAddr k => .ref (ar k)
  | w => w
theorem tv_cat (z : Nat) (ar : Nat → Nat) (v : Value) : (tv z ar v).category = v.category := by cases v <;> rfl
def tf (n : Nat) : FieldType := match n with
  | 0 => .int
  | _ => .boolean
def atC (D : va_G) (z : Nat) (ar : Nat → Nat) (ac : Nat → ClassId) (a : Nat) (c : Ce) (H : Heap) : Prop := match c with
  | .inl (_, n, f) => H[z + a]? = some (arrV (ac a) n (fun j => .int (f j)))
  | .inr (.inl (_, n, f)) => H[z + a]? = some (arrV (ac a) n (fun j => va_rf ((f j).map (fun x => z + x))))
  | .inr (.inr (ci, fs)) => ∃ r : vw_C, clsL[ci]? = some r ∧ fs.length = r.2.2 ∧ t_OB (z + a) (D.1 ci) r.2.2 (D.2 ci) H (fun k => tv z ar (vp_V fs k))
def tyC (U : State) (ac : Nat → ClassId) (a : Nat) (c : Ce) : Prop := match c with
  | .inl (t, _, _) => ArrOfT U (ac a) (tf t)
  | .inr (.inl (ci, _, _)) => ∃ r : vw_C, clsL[ci]? = some r ∧ ArrOfT U (ac a) (.object r.1) ∧ va_RA U (ac a) (.object r.1)
  | .inr (.inr _) => True
def aoL : List String := ["PegWatch$Watch", "PegWatch$Row", "PegWatch$Patch"]
def KS (D : va_G) (U : State) : Prop := va_K D clsL [] U ∧ (∀ w ∈ nestW, va_Nw w U) ∧ ∀ C ∈ aoL, va_AO C U
def namesT : List Int32 := [1, 68, 44, 319, 8, 320, 80, 103, 2, 105, 92, 752, 20, 753, 128, 140, 3, 142, 130, 825, 22, 826, 166, 177, 4, 175, 154, 394, 10, 391, 46, 70]
def lengthsT : List Int32 := [1000, 981, 924, 831, 707, 556, 383, 195, 0]
def roT (xs : List Int32) (k : Nat) : List Int32 := match k with
  | 0 => xs
  | 1 => namesT
  | _ => lengthsT
def RO (xs : List Int32) (z : Nat) (ar : Nat → Nat) (U : State) (H : Heap) : Prop :=
  (∀ k, k < 3 → va_T .int (ar k) (roT xs k).length (fun j => .int ((roT xs k).getD j 0)) (fun q => z ≤ q) U H) ∧ va_Z "PegWatch$Compass" "NAMES" "[I" (.ref (ar 1)) (fun q => z ≤ q) U H ∧ va_Z "PegWatch$Compass" "LENGTHS" "[I" (.ref (ar 2)) (fun q => z ≤ q) U H
def Wd (xs : List Int32) (z : Nat) (D : va_G) (ar : Nat → Nat) (ac : Nat → ClassId) (h : List Ce) (U : State) (H : Heap) : Prop :=
  H.size = z + h.length ∧ (∀ (a : Nat) (c : Ce), h[a]? = some c → atC D z ar ac a c H ∧ tyC U ac a c) ∧ KS D U ∧ RO xs z ar U H
def Fr (z : Nat) (s : State) (H : Heap) (locs : List Loc) : Prop := (∀ q : Nat, q < z → H[q]? = s.heap[q]?) ∧ ∀ q ∈ locs, z ≤ q.base
theorem KS.moved {D : va_G} {s U : State} (hW : s.WarmedH U.vm) (h : KS D s) : KS D U := by
  refine ⟨va_K.moved hW.alike h.1, fun w hw => ?_, fun C hC => va_AO.moved hW.alike (h.2.2 C hC)⟩
  have h1 := h.2.1 w hw
  have h2 : isNest w = true := (List.mem_filter.mp hw).2
  unfold isNest at h2
  split at h2
  · exact va_Nw.warmF hW h1
  · exact va_Nw.warmM hW h1
  · cases h2
theorem RO.moved {xs : List Int32} {z : Nat} {ar : Nat → Nat} {s U : State} {H : Heap} (hvm : s.vm.Alike U.vm) (h : RO xs z ar s H) : RO xs z ar U H :=
  ⟨fun k hk => va_T.moved hvm (h.1 k hk), va_Z.moved hvm h.2.1, va_Z.moved hvm h.2.2⟩
theorem RO.kept {xs : List Int32} {z : Nat} {ar : Nat → Nat} {s : State} {H H1 : Heap} (h : RO xs z ar s H) (hq : ∀ q : Nat, q < z → H1[q]? = H[q]?) : RO xs z ar s H1 := by
  have hq' : ∀ a : Nat, a < H.size → ¬ z ≤ a → H1[a]? = H[a]? := fun a _ hn => hq a (Nat.not_le.mp hn)
  exact ⟨fun k hk => (h.1 k hk).kept hq', h.2.1.kept hq', h.2.2.kept hq'⟩
theorem tyC.moved {s U : State} {ac : Nat → ClassId} {a : Nat} {c : Ce} (hvm : s.vm.Alike U.vm) (h : tyC s ac a c) : tyC U ac a c := by
  match c, h with
  | .inl (t, n, f), h => exact arrOfT_moved hvm h
  | .inr (.inl (ci, n, f)), h =>
    obtain ⟨r, h1, h2, h3⟩ := h
    exact ⟨r, h1, arrOfT_moved hvm h2, va_RA.moved hvm h3⟩
  | .inr (.inr q), h => exact trivial
theorem atC.kept {D : va_G} {z : Nat} {ar : Nat → Nat} {ac ac' : Nat → ClassId} {a : Nat} {c : Ce} {H H1 : Heap} (h : atC D z ar ac a c H) (ha : ac' a = ac a) (hq : H1[z + a]? = H[z + a]?) : atC D z ar ac' a c H1 := by
  match c, h with
  | .inl (t, n, f), h =>
    show H1[z + a]? = _
    rw [hq, ha]; exact h
  | .inr (.inl (ci, n, f)), h =>
    show H1[z + a]? = _
    rw [hq, ha]; exact h
  | .inr (.inr (ci, fs)), h =>
    obtain ⟨r, h1, h2, h3⟩ := h
    exact ⟨r, h1, h2, h3.kept hq⟩
theorem tyC.same {U : State} {ac ac' : Nat → ClassId} {a : Nat} {c : Ce} (h : tyC U ac a c) (ha : ac' a = ac a) : tyC U ac' a c := by
  match c, h with
  | .inl (t, n, f), h =>
    show ArrOfT U (ac' a) _
    rw [ha]; exact h
  | .inr (.inl (ci, n, f)), h =>
    obtain ⟨r, h1, h2, h3⟩ := h
    refine ⟨r, h1, ?_, ?_⟩
    · rw [ha]; exact h2
    · rw [ha]; exact h3
  | .inr (.inr q), h => exact trivial
theorem Wd.moved {xs : List Int32} {z : Nat} {D : va_G} {ar : Nat → Nat} {ac : Nat → ClassId} {h : List Ce} {s U : State} {H : Heap} (hW : s.WarmedH U.vm) (w : Wd xs z D ar ac h s H) : Wd xs z D ar ac h U H :=
  ⟨w.1, fun a c hc => ⟨(w.2.1 a c hc).1, (w.2.1 a c hc).2.moved hW.alike⟩, w.2.2.1.moved hW, w.2.2.2.moved hW.alike⟩
/-- one cell is written -/
theorem Wd.upd {xs : List Int32} {z : Nat} {D : va_G} {ar : Nat → Nat} {ac : Nat → ClassId} {h : List Ce} {s : State} {H H1 : Heap} (w : Wd xs z D ar ac h s H) {a : Nat} {c' : Ce} (hz : H1.size = H.size) (oq : ∀ q : Nat, q ≠ z + a → H1[q]? = H[q]?) (h1 : atC D z ar ac a c' H1) (h2 : tyC s ac a c') : Wd xs z D ar ac (h.set a c') s H1 := by
  refine ⟨by rw [hz, List.length_set]; exact w.1, fun b c hc => ?_, w.2.2.1, w.2.2.2.kept fun q hq => oq q (by omega)⟩
  rw [List.getElem?_set] at hc
  by_cases hb : a = b
  · subst hb
    rw [if_pos rfl] at hc
    split at hc
    · cases hc; exact ⟨h1, h2⟩
    · cases hc
  · rw [if_neg hb] at hc
    exact ⟨(w.2.1 b c hc).1.kept rfl (oq _ (by omega)), (w.2.1 b c hc).2⟩
/-- a cell is made -/
theorem Wd.push {xs : List Int32} {z : Nat} {D : va_G} {ar : Nat → Nat} {ac ac' : Nat → ClassId} {h : List Ce} {s : State} {H H1 : Heap} (w : Wd xs z D ar ac h s H) {c' : Ce} (hz : H1.size = H.size + 1) (oq : ∀ q : Nat, q < H.size → H1[q]? = H[q]?) (ha : ∀ a, a < h.length → ac' a = ac a) (h1 : atC D z ar ac' h.length c' H1) (h2 : tyC s ac' h.length c') : Wd xs z D ar ac' (h ++ [c']) s H1 := by
  refine ⟨by rw [hz, w.1, List.length_append]; simp; omega, fun b c hc => ?_, w.2.2.1, w.2.2.2.kept fun q hq => oq q (by have := w.1; omega)⟩
  by_cases hb : b < h.length
  · rw [List.getElem?_append_left hb] at hc
    exact ⟨(w.2.1 b c hc).1.kept (ha b hb) (oq _ (by have := w.1; omega)), (w.2.1 b c hc).2.same (ha b hb)⟩
  · rw [List.getElem?_append_right (by omega)] at hc
    have hz : b - h.length < 1 := (List.getElem?_eq_some_iff.mp hc).1
    have hb' : b = h.length := by omega
    subst hb'
    rw [Nat.sub_self] at hc
    cases hc
    exact ⟨h1, h2⟩
theorem Fr.put {z : Nat} {s : State} {H H1 : Heap} {locs : List Loc} (f : Fr z s H locs) {a k : Nat} (oq : ∀ q : Nat, q ≠ z + a → H1[q]? = H[q]?) : Fr z s H1 (locs ++ [⟨z + a, k⟩]) := by
  refine ⟨fun q hq => (oq q (by omega)).trans (f.1 q hq), fun q hq => ?_⟩
  rcases List.mem_append.mp hq with h | h
  · exact f.2 q h
  · rw [List.mem_singleton.mp h]; exact Nat.le_add_right _ _
/-- the locals: by their places; null stands for what isn't known -/
def LH (z : Nat) (ar : Nat → Nat) (ls : Array Slot) (n : Nat) (lv : List Value) : Prop := ls.size = n ∧ lv_wf ls ∧ ∀ (i : Nat) (v : Value), lv[i]? = some v → v ≠ Value.null → ls[i]? = some (Slot.val (tv z ar v))
def lpr (z : Nat) (ar : Nat → Nat) (lv : List Value) : List (Nat × Value) := (List.range lv.length).filterMap fun (i : Nat) => match (lv[i]? : Option Value) with
  | some Value.null => none
  | some v => some (i, tv z ar v)
  | none => none
theorem lpr_mem {z : Nat} {ar : Nat → Nat} {lv : List Value} {i : Nat} {v : Value} (h : lv[i]? = some v) (hn : v ≠ .null) : (i, tv z ar v) ∈ lpr z ar lv := by
  refine List.mem_filterMap.mpr ⟨i, List.mem_range.mpr (List.getElem?_eq_some_iff.mp h).1, ?_⟩
  rw [h]
  cases v <;> first | rfl | exact absurd rfl hn
theorem lpr_of {z : Nat} {ar : Nat → Nat} {lv : List Value} {q : Nat × Value} (h : q ∈ lpr z ar lv) : ∃ v, lv[q.1]? = some v ∧ v ≠ .null ∧ q.2 = tv z ar v := by
  obtain ⟨i, -, hi⟩ := List.mem_filterMap.mp h
  split at hi
  · cases hi
  · rename_i v hne hv
    cases hi
    exact ⟨v, hv, fun e => hne e, rfl⟩
  · cases hi
theorem LH.has {z : Nat} {ar : Nat → Nat} {ls : Array Slot} {n : Nat} {lv : List Value} (h : LH z ar ls n lv) : lv_has ls n (lpr z ar lv) := by
  refine ⟨h.1, h.2.1, fun q hq => ?_⟩
  obtain ⟨v, h1, h2, h3⟩ := lpr_of hq
  rw [h3]; exact h.2.2 _ v h1 h2
/-- the place ahead of i is forgotten, if a long lies there; i becomes v -/
def lset (lv : List Value) (i : Nat) (v : Value) : List Value := match i with
  | 0 => lv.set 0 v
  | j + 1 => match lv[j]? with
    | some (.long _) => (lv.set j .null).set (j + 1) v
    | some (.double _) => (lv.set j .null).set (j + 1) v
    | _ => lv.set (j + 1) v
def lset2 (lv : List Value) (i : Nat) (v : Value) : List Value := (lset lv i v).set (i + 1) .null
theorem lset_get {lv : List Value} {i : Nat} {v w : Value} {j : Nat} (h : (lset lv i v)[j]? = some w) (hw : w ≠ .null) : (j = i ∧ w = v) ∨ (j ≠ i ∧ lv[j]? = some w ∧ ¬ (j + 1 = i ∧ w.category = 2)) := by
  unfold lset at h
  split at h
  · rw [List.getElem?_set] at h
    by_cases e : 0 = j
    · subst e
      rw [if_pos rfl] at h
      split at h
      · cases h; exact Or.inl ⟨rfl, rfl⟩
      · cases h
    · rw [if_neg e] at h
      exact Or.inr ⟨fun q => e q.symm, h, fun q => by omega⟩
  · rename_i k
    have two : (lv.set k Value.null).set (k + 1) v = (lv.set k Value.null).set (k + 1) v := rfl
    have key : ∀ l : List Value, ((l.set (k + 1) v)[j]? = some w → (j = k + 1 ∧ w = v) ∨ (j ≠ k + 1 ∧ l[j]? = some w)) := by
      intro l hl
      rw [List.getElem?_set] at hl
      by_cases e : k + 1 = j
      · subst e
        rw [if_pos rfl] at hl
        split at hl
        · cases hl; exact Or.inl ⟨rfl, rfl⟩
        · cases hl
      · rw [if_neg e] at hl
        exact Or.inr ⟨fun q => e q.symm, hl⟩
    have key2 : ((lv.set k Value.null)[j]? = some w → lv[j]? = some w ∧ j ≠ k) := by
      intro hl
      rw [List.getElem?_set] at hl
      by_cases e : k = j
      · subst e
        rw [if_pos rfl] at hl
        split at hl
        · cases hl; exact absurd rfl hw
        · cases hl
      · rw [if_neg e] at hl
        exact ⟨hl, fun q => e q.symm⟩
    split at h
    · rcases key _ h with q | ⟨q1, q2⟩
      · exact Or.inl q
      · exact Or.inr ⟨q1, (key2 q2).1, fun q => (key2 q2).2 (by omega)⟩
    · rcases key _ h with q | ⟨q1, q2⟩
      · exact Or.inl q
      · exact Or.inr ⟨q1, (key2 q2).1, fun q => (key2 q2).2 (by omega)⟩
    · rename_i h1 h2
      rcases key _ h with q | ⟨q1, q2⟩
      · exact Or.inl q
      · refine Or.inr ⟨q1, q2, fun q => ?_⟩
        have ej : j = k := by omega
        subst ej
        cases w <;> first | exact h1 _ q2 | exact h2 _ q2 | (exact absurd q.2 (by simp [Value.category]))
theorem LH.store1 {z : Nat} {ar : Nat → Nat} {ls : Array Slot} {n i : Nat} {lv : List Value} {v : Value} (h : LH z ar ls n lv) (hi : i < n) (hc : v.category = 1) : ∃ ls', storeLocals ls i (tv z ar v) = some ls' ∧ LH z ar ls' n (lset lv i v) := by
  obtain ⟨ls', e, g1, g2, g3⟩ := lv_store1 (v := tv z ar v) h.has hi (by rw [tv_cat]; exact hc)
  refine ⟨ls', e, g1, g2, fun j w hj hw => ?_⟩
  rcases lset_get hj hw with ⟨rfl, rfl⟩ | ⟨a1, a2, a3⟩
  · exact g3 _ List.mem_cons_self
  · refine g3 (j, tv z ar w) (List.mem_cons_of_mem _ (List.mem_filter.mpr ⟨lpr_mem a2 hw, ?_⟩))
    simp only [tv_cat, Bool.and_eq_true, Bool.not_eq_true', Bool.and_eq_false_iff, beq_eq_false_iff_ne, ne_eq]
    refine ⟨a1, ?_⟩
    by_cases e1 : j + 1 = i
    · exact Or.inr fun q => a3 ⟨e1, q⟩
    · exact Or.inl e1
theorem LH.store2 {z : Nat} {ar : Nat → Nat} {ls : Array Slot} {n i : Nat} {lv : List Value} {v : Value} (h : LH z ar ls n lv) (hi : i + 1 < n) (hc : v.category = 2) : ∃ ls', storeLocals ls i (tv z ar v) = some ls' ∧ LH z ar ls' n (lset2 lv i v) := by
  obtain ⟨ls', e, g1, g2, g3⟩ := lv_store2 (v := tv z ar v) h.has hi (by rw [tv_cat]; exact hc)
  refine ⟨ls', e, g1, g2, fun j w hj hw => ?_⟩
  unfold lset2 at hj
  rw [List.getElem?_set] at hj
  by_cases e0 : i + 1 = j
  · rw [if_pos e0] at hj
    split at hj
    · cases hj; exact absurd rfl hw
    · cases hj
  rw [if_neg e0] at hj
  rcases lset_get hj hw with ⟨rfl, rfl⟩ | ⟨a1, a2, a3⟩
  · exact g3 _ List.mem_cons_self
  · refine g3 (j, tv z ar w) (List.mem_cons_of_mem _ (List.mem_filter.mpr ⟨lpr_mem a2 hw, ?_⟩))
    simp only [tv_cat, Bool.and_eq_true, Bool.not_eq_true', Bool.and_eq_false_iff, beq_eq_false_iff_ne, ne_eq]
    refine ⟨a1, fun q => e0 q.symm, ?_⟩
    by_cases e1 : j + 1 = i
    · exact Or.inr fun q => a3 ⟨e1, q⟩
    · exact Or.inl e1

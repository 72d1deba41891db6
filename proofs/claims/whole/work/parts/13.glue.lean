/-! from RR of the law to the walk that the skeleton wants -/
def R_law : String := "PegWatchLaw"
def lw_P (b : Addr) (xs : List Int32) (args : Array Value) (s : State) : Prop := args = #[.ref b] ∧ s.IntsAt b xs ∧ xs.length ≤ 4096 ∧ (Jvm.Cond.and given_1 narrow_1).before args s = true
def lw_Q (_ : Array Value) (s : State) (o : Outcome) (t : State) : Prop := o = .returned (some (.int 1)) ∧ Framed s o t [] 600000 7302250
def lw_Z (below : List Frame) (a : Array Value) (s : State) : State → Prop := fun t => ∃ o, t.status = .running ∧ Ended t below o ∧ lw_Q a s o t
/-- the law's own end, with 1 on the stack, nothing written that was there before, its room as the claim has it -/
theorem lw_ret {p : Program} {l : Launch} {e : Env} {s : State} {m : MethodId} {below : List Frame} {meth : Method} {c : Code} {b : Nat} (hx : p.tables.exec = Jvm.exec) (hb : c.code = code) (hr : meth.sig.returnType = ret) (hlocks : meth.locks = false) {pc : Nat} {H : Heap} {ls : Array Slot} (hdg : decode code pc = .ok (.ireturn, 1)) : W p l e room_1 s m #[Value.ref b] below meth c H [] 600000 7302250 (lw_Z below #[Value.ref b] s) (F0 m pc ls [.int 1]) := by
  intro T hT X
  obtain ⟨fs, hret, hrun, hended, hW, hframe⟩ := X.leave (v := some (.int 1)) (hlocks := hlocks) (fun h => by rw [hr] at h; cases h)
  have hmeth' : T.vm.method? m = some meth := X.method'
  refine ⟨T.setFrames fs, ?_, .returned (some (.int 1)), hrun, hended, rfl, ⟨_, rfl⟩, hW, hframe⟩
  jvm_step X.here [X.here.top, hx, hb, hdg, hmeth', hr, ret, narrow_b1]
  (try refine ⟨rfl, ?_⟩); (try refine ⟨rfl, ?_⟩)
  first | (intro acts; rw [hret _ acts rfl rfl rfl]) | rw [hret _ _ rfl rfl rfl]
  exact Steps.refl _
/-- what holds at the law's entry: the machine, the code, the tables' words (any of lw_tbl by 'hts w (by decide +kernel)'), the script of L ints xs at the cell b, what the Statement gives of the start (any of its parts by flat_of_before) -/
def lw_At (p : Program) (s : State) (m : MethodId) (meth : Method) (c : Code) (b L : Nat) (xs : Nat → Int32) : Prop :=
  p.tables.exec = Jvm.exec ∧ c.code = code ∧ meth.sig.returnType = ret ∧ c.maxLocals = 4 ∧ s.vm.findClass R_law = some m.cls ∧ (∀ w ∈ lw_tbl, w.before #[Value.ref b] s = true) ∧ va_X b L xs s s.heap ∧ b < s.heap.size ∧ meth.locks = false ∧ (Jvm.Cond.and given_1 narrow_1).before #[Value.ref b] s = true
theorem inst_ok {ci : Nat} {r : vw_C} (h : clsL[ci]? = some r) : Cond.instantiable r.1 r.2.2 ∈ wsG := by
  match ci, h with
  | 0, h => cases h; exact mem_t 0 45 (by decide +kernel) (by decide +kernel)
  | 1, h => cases h; exact mem_t 0 108 (by decide +kernel) (by decide +kernel)
  | 2, h => cases h; exact mem_t 0 45 (by decide +kernel) (by decide +kernel)
  | 3, h => cases h; exact mem_t 0 199 (by decide +kernel) (by decide +kernel)
  | 4, h => cases h; exact mem_t 0 114 (by decide +kernel) (by decide +kernel)
  | 5, h => cases h; exact mem_t 0 212 (by decide +kernel) (by decide +kernel)
  | 6, h => cases h; exact mem_t 1 63 (by decide +kernel) (by decide +kernel)
  | 7, h => cases h; exact mem_t 0 206 (by decide +kernel) (by decide +kernel)
  | 8, h => cases h; exact mem_t 1 105 (by decide +kernel) (by decide +kernel)
  | 9, h => cases h; exact mem_t 0 52 (by decide +kernel) (by decide +kernel)
  | 10, h => cases h; exact mem_t 0 27 (by decide +kernel) (by decide +kernel)
  | 11, h => cases h; exact mem_t 0 19 (by decide +kernel) (by decide +kernel)
  | 12, h => cases h; exact mem_t 4 35 (by decide +kernel) (by decide +kernel)
  | n + 13, h => simp [clsL] at h
theorem kn_of {args : Array Value} {s : State} (hts : ∀ w ∈ wsG, w.before args s = true) : ∃ D : va_G, va_K D clsL [] s := by
  have h : ∀ k : Nat, ∃ q : ClassId × (Nat → Nat), ∀ r : vw_C, clsL[k]? = some r → u_Kn s r.1 r.2.1 r.2.2 q.1 q.2 := by
    intro k
    cases hk : clsL[k]? with
    | none => exact ⟨(0, fun _ => 0), fun r hr => by cases hr⟩
    | some r =>
      obtain ⟨cC, iS, hq⟩ := u_known hts (cl_ok hk).1 (hts _ (inst_ok hk))
      exact ⟨(cC, iS), fun r' hr => by cases hr; exact hq⟩
  exact ⟨(fun k => (Classical.choose (h k)).1, fun k => (Classical.choose (h k)).2), fun k r hr => Classical.choose_spec (h k) r hr, fun k q hq => by simp at hq⟩
theorem ao_of {args : Array Value} {s : State} (hts : ∀ w ∈ lw_tbl, w.before args s = true) : ∀ C ∈ aoL, va_AO C s := by
  intro C hC
  simp only [aoL, List.mem_cons, List.not_mem_nil, or_false] at hC
  rcases hC with rfl | rfl | rfl
  · exact va_AO.of (hts _ (tch_in 0 (List.mem_of_getElem? (i := 51) (by decide +kernel))))
  · exact va_AO.of (hts _ (tch_in 0 (List.mem_of_getElem? (i := 205) (by decide +kernel))))
  · exact va_AO.of (hts _ (tch_in 1 (List.mem_of_getElem? (i := 69) (by decide +kernel))))
def nmC (j : Nat) : Cond := Cond.eq (Term.elem (Term.static "PegWatch$Compass" "NAMES" "[I") (Term.int (Int32.ofNat j))) (Term.int (namesT.getD j 0))
def lnC (j : Nat) : Cond := Cond.eq (Term.elem (Term.static "PegWatch$Compass" "LENGTHS" "[I") (Term.int (Int32.ofNat j))) (Term.int (lengthsT.getD j 0))
theorem nm_in : ∀ j, j < 32 → nmC j ∈ flatC (Jvm.Cond.and given_1 narrow_1) := by
  have h : (List.range 32).all (fun j => decide (nmC j ∈ flatC (Jvm.Cond.and given_1 narrow_1))) = true := by decide +kernel
  intro j hj
  simpa using List.all_eq_true.mp h j (List.mem_range.mpr hj)
theorem ln_in : ∀ j, j < 9 → lnC j ∈ flatC (Jvm.Cond.and given_1 narrow_1) := by
  have h : (List.range 9).all (fun j => decide (lnC j ∈ flatC (Jvm.Cond.and given_1 narrow_1))) = true := by decide +kernel
  intro j hj
  simpa using List.all_eq_true.mp h j (List.mem_range.mpr hj)
set_option maxRecDepth 100000 in
set_option maxHeartbeats 4000000 in
theorem whole_of (hlaw : ∀ xs : List Int32, xs.length ≤ 4096 → RR xs md_Law_law 0 [.retAddr 0, .null, .null, .null] [] [] 600000 7302250 (fun r _ => r = some (.int 1))) {p : Program} {e : Env} {s : State} {m : MethodId} {below : List Frame} {meth : Method} {c : Code} (l : Launch) {b L : Nat} {xs : Nat → Int32} (hL : L ≤ 4096) (C0 : lw_At p s m meth c b L xs) : W p l e room_1 s m #[Value.ref b] below meth c s.heap [] 0 0 (lw_Z below #[Value.ref b] s) (entryFrame m ([Value.ref b] : List Value).toArray 4) := by
  obtain ⟨hx, hb, hr, hml, hown, hts, hX, hbl, hlocks, hgv⟩ := C0
  have htsG : ∀ w ∈ wsG, w.before #[Value.ref b] s = true := fun w hw => hts w (List.mem_filter.mp hw).1
  have hflat := flat_of_before _ hgv
  obtain ⟨D, hK⟩ := kn_of htsG
  obtain ⟨t1, ht1, hT1⟩ := va_Tof (tm := .static "PegWatch$Compass" "NAMES" "[I") (ty := .int) (N := 32) (f := fun j => .int (namesT.getD j 0)) (A := fun q => s.heap.size ≤ q) (by decide) (hflat _ (by decide +kernel)) (va_eqt (z := 32) (hflat _ (by decide +kernel))) (fun j hj => va_eqt (hflat _ (nm_in j hj))) (fun a ha => Nat.not_le.mpr ha)
  obtain ⟨t2, ht2, hT2⟩ := va_Tof (tm := .static "PegWatch$Compass" "LENGTHS" "[I") (ty := .int) (N := 9) (f := fun j => .int (lengthsT.getD j 0)) (A := fun q => s.heap.size ≤ q) (by decide) (hflat _ (by decide +kernel)) (va_eqt (z := 9) (hflat _ (by decide +kernel))) (fun j hj => va_eqt (hflat _ (ln_in j hj))) (fun a ha => Nat.not_le.mpr ha)
  have hini := htsG (.initialized "PegWatch$Compass") (mem_t 0 15 (by decide +kernel) (by decide +kernel))
  have hZ1 := va_Zof (A := fun q => s.heap.size ≤ q) (hts _ (tch_in 1 (List.mem_of_getElem? (i := 169) (by decide +kernel)))) hini ht1 (fun a ha => Nat.not_le.mpr ha)
  have hZ2 := va_Zof (A := fun q => s.heap.size ≤ q) (hts _ (tch_in 1 (List.mem_of_getElem? (i := 218) (by decide +kernel)))) hini ht2 (fun a ha => Nat.not_le.mpr ha)
  have hlen : ((List.range L).map xs).length = L := by simp
  have hX0 : va_T .int b L (fun j => .int (((List.range L).map xs).getD j 0)) (fun q => s.heap.size ≤ q) s s.heap := by
    obtain ⟨scr, h1, h2, h3, h4, h5⟩ := hX
    refine ⟨scr, h1, h2, h3, by omega, by rw [h4], fun j hj => ?_, Nat.not_le.mpr hbl⟩
    rw [h5 j hj]
    simp [List.getD_eq_getElem?_getD, hj]
  rw [lg_entry_eq]
  have hl := lv_entry ([Value.ref b] : List Value) (n := 4) (Nat.le_of_ble_eq_true rfl)
  refine hlaw ((List.range L).map xs) (by rw [hlen]; exact hL) l p e room_1 s m #[Value.ref b] below meth c (lw_Z below #[Value.ref b] s) s.heap.size D (fun k => if k = 0 then b else if k = 1 then t1 else t2) (fun _ => 0) s.heap [] 0 0 _ ⟨hx, hb, hml, hr, hown, htsG, hlocks, fun h => absurd h (by decide), by decide, by decide⟩ ?_ ⟨by simp, fun a c h => by simp at h, ⟨hK, fun w hw => va_Nw.of ?_ (hts w (List.mem_filter.mp hw).1), ao_of hts⟩, ?_, hZ1, hZ2⟩ ⟨fun _ _ => rfl, fun _ h => by cases h⟩ ⟨by decide, by decide⟩ ⟨hl.1, hl.2.1, fun i v hi hn => ?_⟩
  · intro r h' ac' H' locs' cells' slots' pc' ls' hq hW hF hc hs hd
    subst hq
    refine va_forget (fun q hq => hF.2 q hq) ?_
    refine W.widen (k := 600000) (n := 7302250) hc hs ?_
    exact lw_ret hx hb hr hlocks hd.1
  · have h2 : isNest w = true := (List.mem_filter.mp hw).2
    unfold isNest at h2
    split at h2
    · rfl
    · rfl
    · cases h2
  · intro k hk
    match k, hk with
    | 0, _ => have := hX0; rw [← hlen] at this; simpa [roT] using hX0
    | 1, _ => exact hT1
    | 2, _ => exact hT2
  · match i, hi with
    | 0, hi => cases hi; exact hl.2.2 (0, .ref b) (by simp [lv_args])
    | 1, hi => cases hi; exact absurd rfl hn
    | 2, hi => cases hi; exact absurd rfl hn
    | 3, hi => cases hi; exact absurd rfl hn
    | i + 4, hi => simp at hi

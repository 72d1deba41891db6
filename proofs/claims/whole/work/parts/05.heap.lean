/-! rules that read and write cells -/
def VOk (ty : FieldType) (v : Value) : Prop := ∀ (z : Nat) (ar : Nat → Nat), narrow ty (tv z ar v) = tv z ar v ∧ fits ty (tv z ar v) = true
theorem VOk_int (x : Int32) : VOk .int (.int x) := fun _ _ => ⟨rfl, rfl⟩
theorem VOk_long (x : Int64) : VOk .long (.long x) := fun _ _ => ⟨rfl, rfl⟩
theorem VOk_bool {x : Int32} (h : x = 0 ∨ x = 1) : VOk .boolean (.int x) := fun _ _ => by rcases h with rfl | rfl <;> exact ⟨rfl, rfl⟩
theorem VOk_obj (n : String) (a : Nat) : VOk (.object n) (.ref a) := fun _ _ => ⟨rfl, rfl⟩
theorem VOk_arr (t : FieldType) (a : Nat) : VOk (.array t) (.ref a) := fun _ _ => ⟨rfl, rfl⟩
def FL (own : String) (idx ci k : Nat) : Prop := ∃ r : vw_C, clsL[ci]? = some r ∧ k < r.2.2 ∧ (r.2.1 k).1 = r.1 ∧ (Cond.fieldLink own idx r.1 (r.2.1 k).2.1 (r.2.1 k).2.2.1 ∈ wsG ∨ ∃ host, Cond.fieldLinkNest own idx r.1 (r.2.1 k).2.1 (r.2.1 k).2.2.1 host ∈ nestW)
section HEAP
variable {xs : List Int32} {m : Md} {pc pc' tgt : Nat} {lv : List Value} {st : List Value} {h : List Ce} {bc bs : Nat} {Q : Option Value → List Ce → Prop}
theorem r_get {idx ci k a : Nat} {fs : List Value} {v : Value} (hd : dc3 (mB m) pc (.getfield idx) pc') (hL : FL (mY m).cls idx ci k) (hc : h[a]? = some (.inr (.inr (ci, fs)))) (hv : fs[k]? = some v) (kk : RR xs m pc' lv (v :: st) h bc bs Q) : RR xs m pc lv (.ref a :: st) h bc bs Q := by
  obtain ⟨hd, rfl⟩ := hd
  intro l p e R s mi args below meth c Z z D ar ac H locs cells slots ls C E hW hF hB hl
  obtain ⟨r, hr, hk, he, hL⟩ := hL
  obtain ⟨r', h1, hlen, cell, q1, q2, q3, q4⟩ := (hW.2.1 a _ hc).1
  cases hr.symm.trans h1
  obtain ⟨hS, hfc, kC, hkC, hkind⟩ := hW.2.2.1.1.1 ci _ h1
  obtain ⟨cf, kf, fi, f, hi, hsl⟩ := hS k hk
  have hst := (u_facts hfc hkC (u_lays C.2.2.2.2.2.1 (cl_ok h1).1 hk) hi).1
  rw [he] at hi
  have hslot : cell.slots[f.slot]? = some (tv z ar v) := by
    rw [hsl, q4 k hk]
    simp [vp_V, hv]
  rcases hL with hL | ⟨host, hL⟩
  · exact W.getf C.1 C.2.1 C.2.2.2.2.1 (C.2.2.2.2.2.1 _ hL) hi hst q1 (by rw [q3]; exact fun h => by cases h) hslot rfl rfl hd (kk l p e R s mi args below meth c Z z D ar ac H locs cells slots ls C E hW hF hB hl)
  · exact va_Wgetf C.1 C.2.1 C.2.2.2.2.1 (va_Nw.use rfl (hW.2.2.1.2.1 _ hL)) hi hst q1 (by rw [q3]; exact fun h => by cases h) hslot rfl rfl hd (kk l p e R s mi args below meth c Z z D ar ac H locs cells slots ls C E hW hF hB hl)
theorem atC_put {D : va_G} {z : Nat} {ar : Nat → Nat} {ac : Nat → ClassId} {a ci k : Nat} {fs : List Value} {v : Value} {r : vw_C} {H1 : Heap} {cell : Cell} (h1 : clsL[ci]? = some r) (hlen : fs.length = r.2.2) (hk : k < r.2.2) (q2 : cell.cls = D.1 ci) (q3 : cell.vm = .none) (q4 : ∀ k, k < r.2.2 → cell.slots[(D.2 ci) k]? = some (tv z ar (vp_V fs k))) (hap : ∀ x y, x < r.2.2 → y < r.2.2 → x ≠ y → (D.2 ci) x ≠ (D.2 ci) y) (e1 : H1[z + a]? = some (cell.setSlot (D.2 ci k) (tv z ar v))) : atC D z ar ac a (.inr (.inr (ci, fs.set k v))) H1 := by
  refine ⟨r, h1, by rw [List.length_set]; exact hlen, _, e1, q2, q3, fun j hj => ?_⟩
  rw [t_set (V := fun k => tv z ar (vp_V fs k)) q4 hap hk _ j hj]
  by_cases e : j = k
  · subst e
    simp [updV, vp_V, hlen, hk]
  · simp [updV, vp_V, e, List.getElem?_set, Ne.symm e]
theorem r_put {idx ci k a : Nat} {fs : List Value} {v : Value} (hd : dc3 (mB m) pc (.putfield idx) pc') (hL : FL (mY m).cls idx ci k) (hnf : ∀ r : vw_C, clsL[ci]? = some r → (r.2.1 k).2.2.2 = false) (hc : h[a]? = some (.inr (.inr (ci, fs)))) (hv : VOk (clT ci k) v) (kk : RR xs m pc' lv st (h.set a (.inr (.inr (ci, fs.set k v)))) bc bs Q) : RR xs m pc lv (v :: .ref a :: st) h bc bs Q := by
  obtain ⟨hd, rfl⟩ := hd
  intro l p e R s mi args below meth c Z z D ar ac H locs cells slots ls C E hW hF hB hl
  obtain ⟨r, hr, hk, he, hL⟩ := hL
  obtain ⟨r', h1, hlen, cell, q1, q2, q3, q4⟩ := (hW.2.1 a _ hc).1
  cases hr.symm.trans h1
  have hok := cl_ok h1
  have hap := va_apart (own := (mY m).cls) C.2.2.2.2.2.1 hok.1 (clT ci) hok.2.1 hok.2.2 hW.2.2.1.1 h1
  obtain ⟨hS, hfc, kC, hkC, hkind⟩ := hW.2.2.1.1.1 ci _ h1
  obtain ⟨cf, kf, fi, f, hi, hsl⟩ := hS k hk
  have hlay := C.2.2.2.2.2.1 _ (hok.1 _ (u_in_lay hk))
  unfold u_lay at hlay
  rw [if_neg (by rw [hnf r hr]; decide)] at hlay
  have hst := (u_facts hfc hkC (u_lays C.2.2.2.2.2.1 hok.1 hk) hi).1
  have h6 := u_store hfc hkC hkind hlay hi (hok.2.1 k hk) (hv z ar).1 (hv z ar).2
  rw [he] at hi
  have hlt : f.slot < cell.slots.size := by rw [hsl]; exact k2_hasslot (q4 k hk)
  rcases hL with hL | ⟨host, hL⟩
  · refine W.putK C.1 C.2.1 (f := f) ⟨C.2.2.2.2.1, C.2.2.2.2.2.1 _ hL, ⟨_, _, _, hi⟩, hst⟩ (by rw [q2]; exact h6) q1 q3 hlt rfl rfl hd fun H' e1 e2 e3 => ?_
    rw [hsl] at e1 ⊢
    exact kk l p e R s mi args below meth c Z z D ar ac H' _ cells slots ls C E (hW.upd e2 e3 (atC_put h1 hlen hk q2 q3 q4 hap e1) trivial) (hF.put e3) hB hl
  · refine va_WputK C.1 C.2.1 (f := f) C.2.2.2.2.1 (va_Nw.use rfl (hW.2.2.1.2.1 _ hL)) hi hst (by rw [q2]; exact h6) q1 q3 hlt rfl rfl hd fun H' e1 e2 e3 => ?_
    rw [hsl] at e1 ⊢
    exact kk l p e R s mi args below meth c Z z D ar ac H' _ cells slots ls C E (hW.upd e2 e3 (atC_put h1 hlen hk q2 q3 q4 hap e1) trivial) (hF.put e3) hB hl
/-- a final field, in a constructor of its class -/
theorem r_putF {idx ci k a : Nat} {fs : List Value} {v : Value} (hd : dc3 (mB m) pc (.putfield idx) pc') (hL : ∃ r : vw_C, clsL[ci]? = some r ∧ k < r.2.2 ∧ (r.2.1 k).1 = r.1 ∧ r.1 = (mY m).cls ∧ (r.2.1 k).2.2.2 = true ∧ Cond.fieldLink (mY m).cls idx r.1 (r.2.1 k).2.1 (r.2.1 k).2.2.1 ∈ wsG) (hin : (mY m).name = "<init>") (hc : h[a]? = some (.inr (.inr (ci, fs)))) (hv : VOk (clT ci k) v) (kk : RR xs m pc' lv st (h.set a (.inr (.inr (ci, fs.set k v)))) bc bs Q) : RR xs m pc lv (v :: .ref a :: st) h bc bs Q := by
  obtain ⟨hd, rfl⟩ := hd
  intro l p e R s mi args below meth c Z z D ar ac H locs cells slots ls C E hW hF hB hl
  obtain ⟨r, hr, hk, he, hown, hfin, hL⟩ := hL
  obtain ⟨r', h1, hlen, cell, q1, q2, q3, q4⟩ := (hW.2.1 a _ hc).1
  cases hr.symm.trans h1
  have hok := cl_ok h1
  have hap := va_apart (own := (mY m).cls) C.2.2.2.2.2.1 hok.1 (clT ci) hok.2.1 hok.2.2 hW.2.2.1.1 h1
  obtain ⟨hS, hfc, kC, hkC, hkind⟩ := hW.2.2.1.1.1 ci _ h1
  obtain ⟨cf, kf, fi, f, hi, hsl⟩ := hS k hk
  have hlay := C.2.2.2.2.2.1 _ (hok.1 _ (u_in_lay hk))
  unfold u_lay at hlay
  rw [if_pos hfin] at hlay
  have hst := (u_facts hfc hkC (u_lays C.2.2.2.2.2.1 hok.1 hk) hi).1
  have hcf : mi.cls = cf := by
    obtain ⟨_, _, c', _, _, _, -, -, hf', -, -, -, hown2, -⟩ := Cond.laysFinal_spec hlay
    have e1 : c' = cf := by have := hi.symm.trans hf'; simp at this; exact this.1.symm
    rw [he, hown] at hown2
    rw [← e1]; exact Option.some.inj (C.2.2.2.2.1.symm.trans hown2)
  have h6 := u_fits hfc hkC hkind (Or.inr hlay) hi (hok.2.1 k hk) (hv z ar).1 (hv z ar).2
  rw [he] at hi
  have hlt : f.slot < cell.slots.size := by rw [hsl]; exact k2_hasslot (q4 k hk)
  refine W.putFinK C.1 C.2.1 C.2.2.2.2.1 (C.2.2.2.2.2.1 _ hL) hi hst hcf (C.2.2.2.2.2.2.2.1 hin) (by rw [q2]; exact h6) q1 q3 hlt rfl rfl hd fun H' e1 e2 e3 => ?_
  rw [hsl] at e1 ⊢
  exact kk l p e R s mi args below meth c Z z D ar ac H' _ cells slots ls C E (hW.upd e2 e3 (atC_put h1 hlen hk q2 q3 q4 hap e1) trivial) (hF.put e3) hB hl
theorem arrNo {cA : ClassId} {n : Nat} {f : Nat → Value} : (arrV cA n f).vm ≠ .unknown := fun q => by cases q
theorem r_iald {a n : Nat} {f : Nat → Int32} {i : Int32} (hd : dc1 (mB m) pc .iaload pc') (hc : h[a]? = some (.inl (0, n, f))) (hin : vp_in i n) (kk : RR xs m pc' lv (.int (f i.toNatClampNeg) :: st) h bc bs Q) : RR xs m pc lv (.int i :: .ref a :: st) h bc bs Q := by
  obtain ⟨hd, rfl⟩ := hd
  intro l p e R s mi args below meth c Z z D ar ac H locs cells slots ls C E hW hF hB hl
  have hlt : i.toNatClampNeg < n := Nat.not_le.mp fun q => hin (Or.inr q)
  exact W.iald (v := .int (f i.toNatClampNeg)) C.1 C.2.1 (hW.2.1 a _ hc).1 ((hW.2.1 a _ hc).2 n (fun j => .int (f j))) arrNo (by rw [arrV_size]; exact hin) (arrV_read _ _ hlt) rfl rfl hd (kk l p e R s mi args below meth c Z z D ar ac H locs cells slots ls C E hW hF hB hl)
theorem r_zald {a n : Nat} {f : Nat → Int32} {i : Int32} (hd : dc1 (mB m) pc .baload pc') (hc : h[a]? = some (.inl (1, n, f))) (hin : vp_in i n) (kk : RR xs m pc' lv (.int (f i.toNatClampNeg) :: st) h bc bs Q) : RR xs m pc lv (.int i :: .ref a :: st) h bc bs Q := by
  obtain ⟨hd, rfl⟩ := hd
  intro l p e R s mi args below meth c Z z D ar ac H locs cells slots ls C E hW hF hB hl
  have hlt : i.toNatClampNeg < n := Nat.not_le.mp fun q => hin (Or.inr q)
  exact W.zald (v := .int (f i.toNatClampNeg)) C.1 C.2.1 (hW.2.1 a _ hc).1 ((hW.2.1 a _ hc).2 n (fun j => .int (f j))) arrNo (by rw [arrV_size]; exact hin) (arrV_read _ _ hlt) rfl rfl hd (kk l p e R s mi args below meth c Z z D ar ac H locs cells slots ls C E hW hF hB hl)
theorem updV_int (f : Nat → Int32) (k : Nat) (x : Int32) : updV (fun j => Value.int (f j)) k (.int x) = fun j => Value.int (upd f k x j) := by
  funext q
  by_cases hq : q = k
  · subst hq; simp [updV, upd]
  · simp [updV, upd, hq]
theorem r_iast {a n : Nat} {f : Nat → Int32} {i x : Int32} (hd : dc1 (mB m) pc .iastore pc') (hc : h[a]? = some (.inl (0, n, f))) (hin : vp_in i n) (kk : RR xs m pc' lv st (h.set a (.inl (0, n, upd f i.toNatClampNeg x))) bc bs Q) : RR xs m pc lv (.int x :: .int i :: .ref a :: st) h bc bs Q := by
  obtain ⟨hd, rfl⟩ := hd
  intro l p e R s mi args below meth c Z z D ar ac H locs cells slots ls C E hW hF hB hl
  refine W.iast C.1 C.2.1 (hW.2.1 a _ hc).1 ((hW.2.1 a _ hc).2 n (fun j => .int (f j))) arrNo (by rw [arrV_size]; exact hin) rfl rfl hd fun H' e1 e2 e3 => ?_
  rw [arrV_store, updV_int] at e1
  exact kk l p e R s mi args below meth c Z z D ar ac H' _ cells slots ls C E (hW.upd e2 e3 e1 (hW.2.1 a _ hc).2) (hF.put e3) hB hl
theorem r_zast {a n : Nat} {f : Nat → Int32} {i x : Int32} (hd : dc1 (mB m) pc .bastore pc') (hc : h[a]? = some (.inl (1, n, f))) (hin : vp_in i n) (kk : RR xs m pc' lv st (h.set a (.inl (1, n, upd f i.toNatClampNeg (x &&& 1)))) bc bs Q) : RR xs m pc lv (.int x :: .int i :: .ref a :: st) h bc bs Q := by
  obtain ⟨hd, rfl⟩ := hd
  intro l p e R s mi args below meth c Z z D ar ac H locs cells slots ls C E hW hF hB hl
  refine W.zast C.1 C.2.1 (hW.2.1 a _ hc).1 ((hW.2.1 a _ hc).2 n (fun j => .int (f j))) arrNo (by rw [arrV_size]; exact hin) rfl rfl hd fun H' e1 e2 e3 => ?_
  rw [show narrow FieldType.boolean (Value.int x) = Value.int (x &&& 1) from rfl, arrV_store, updV_int] at e1
  exact kk l p e R s mi args below meth c Z z D ar ac H' _ cells slots ls C E (hW.upd e2 e3 e1 (hW.2.1 a _ hc).2) (hF.put e3) hB hl
theorem r_alen {a t n : Nat} {f : Nat → Int32} (hd : dc1 (mB m) pc .arraylength pc') (hc : h[a]? = some (.inl (t, n, f))) (kk : RR xs m pc' lv (.int (Int32.ofNat n) :: st) h bc bs Q) : RR xs m pc lv (.ref a :: st) h bc bs Q := by
  obtain ⟨hd, rfl⟩ := hd
  intro l p e R s mi args below meth c Z z D ar ac H locs cells slots ls C E hW hF hB hl
  exact W.alen (n := Int32.ofNat n) C.1 C.2.1 (hW.2.1 a _ hc).1 ((hW.2.1 a _ hc).2 n (fun j => .int (f j))) (by rw [arrV_size]) rfl rfl hd (kk l p e R s mi args below meth c Z z D ar ac H locs cells slots ls C E hW hF hB hl)
/-- the arrays that nobody writes -/
theorem r_rald {k : Nat} {i : Int32} (hd : dc1 (mB m) pc .iaload pc') (hk : k < 3) (hin : vp_in i (roT xs k).length) (kk : RR xs m pc' lv (.int ((roT xs k).getD i.toNatClampNeg 0) :: st) h bc bs Q) : RR xs m pc lv (.int i :: .retAddr k :: st) h bc bs Q := by
  obtain ⟨hd, rfl⟩ := hd
  intro l p e R s mi args below meth c Z z D ar ac H locs cells slots ls C E hW hF hB hl
  obtain ⟨cell, t1, t2, t3, t4, t5, t6, t7⟩ := hW.2.2.2.1 k hk
  have hlt : i.toNatClampNeg < (roT xs k).length := Nat.not_le.mp fun q => hin (Or.inr q)
  exact W.iald (v := .int ((roT xs k).getD i.toNatClampNeg 0)) C.1 C.2.1 t1 t2 t3 (fun q => hin (q.imp_right fun q => by omega)) (t6 _ hlt) rfl rfl hd (kk l p e R s mi args below meth c Z z D ar ac H locs cells slots ls C E hW hF hB hl)
theorem r_rlen {k : Nat} (hd : dc1 (mB m) pc .arraylength pc') (hk : k < 3) (kk : RR xs m pc' lv (.int (Int32.ofNat (roT xs k).length) :: st) h bc bs Q) : RR xs m pc lv (.retAddr k :: st) h bc bs Q := by
  obtain ⟨hd, rfl⟩ := hd
  intro l p e R s mi args below meth c Z z D ar ac H locs cells slots ls C E hW hF hB hl
  obtain ⟨cell, t1, t2, t3, t4, t5, t6, t7⟩ := hW.2.2.2.1 k hk
  exact W.alen (n := Int32.ofNat (roT xs k).length) C.1 C.2.1 t1 t2 t5 rfl rfl hd (kk l p e R s mi args below meth c Z z D ar ac H locs cells slots ls C E hW hF hB hl)
def SL (own : String) (idx : Nat) (n : String) : Prop := Cond.fieldLink own idx "PegWatch$Compass" n "[I" ∈ wsG ∨ ∃ host, Cond.fieldLinkNest own idx "PegWatch$Compass" n "[I" host ∈ nestW
theorem r_gets {idx k : Nat} {n : String} (hd : dc3 (mB m) pc (.getstatic idx) pc') (hL : SL (mY m).cls idx n) (hk : (k = 1 ∧ n = "NAMES") ∨ (k = 2 ∧ n = "LENGTHS")) (kk : RR xs m pc' lv (.retAddr k :: st) h bc bs Q) : RR xs m pc lv st h bc bs Q := by
  obtain ⟨hd, rfl⟩ := hd
  intro l p e R s mi args below meth c Z z D ar ac H locs cells slots ls C E hW hF hB hl
  have hZ : va_Z "PegWatch$Compass" n "[I" (.ref (ar k)) (fun q => z ≤ q) s H := by
    rcases hk with ⟨rfl, rfl⟩ | ⟨rfl, rfl⟩
    · exact hW.2.2.2.2.1
    · exact hW.2.2.2.2.2
  obtain ⟨cf, kf, fi, f, a, cell, h1, h2, h3, h4, h5, h6, h7, h8⟩ := hZ
  rcases hL with hL | ⟨host, hL⟩
  · exact W.gets C.1 C.2.1 C.2.2.2.2.1 (C.2.2.2.2.2.1 _ hL) h1 h2 h3 h4 h5 (fun e => by rw [e] at h6; cases h6) h7 rfl hd (kk l p e R s mi args below meth c Z z D ar ac H locs cells slots ls C E hW hF hB hl)
  · exact va_WgetsN C.1 C.2.1 C.2.2.2.2.1 (va_Nw.use rfl (hW.2.2.1.2.1 _ hL)) h1 h2 h3 h4 h5 (fun e => by rw [e] at h6; cases h6) h7 rfl hd (kk l p e R s mi args below meth c Z z D ar ac H locs cells slots ls C E hW hF hB hl)
/-- an array of references -/
theorem r_aald {a ci n b : Nat} {f : Nat → Option Nat} {i : Int32} (hd : dc1 (mB m) pc .aaload pc') (hc : h[a]? = some (.inr (.inl (ci, n, f)))) (hin : vp_in i n) (hb : f i.toNatClampNeg = some b) (kk : RR xs m pc' lv (.ref b :: st) h bc bs Q) : RR xs m pc lv (.int i :: .ref a :: st) h bc bs Q := by
  obtain ⟨hd, rfl⟩ := hd
  intro l p e R s mi args below meth c Z z D ar ac H locs cells slots ls C E hW hF hB hl
  have hlt : i.toNatClampNeg < n := Nat.not_le.mp fun q => hin (Or.inr q)
  obtain ⟨r, hr, g1, g2⟩ := (hW.2.1 a _ hc).2
  exact W.aald (v := .ref (z + b)) (ty := .object r.1) C.1 C.2.1 (hW.2.1 a _ hc).1 (g1 n (fun j => va_rf ((f j).map (fun x => z + x)))) rfl arrNo (by rw [arrV_size]; exact hin) (by rw [arrV_read _ _ hlt, hb]; rfl) rfl rfl hd (kk l p e R s mi args below meth c Z z D ar ac H locs cells slots ls C E hW hF hB hl)
theorem r_aast {a ci n b : Nat} {f : Nat → Option Nat} {fs : List Value} {i : Int32} (hd : dc1 (mB m) pc .aastore pc') (hc : h[a]? = some (.inr (.inl (ci, n, f)))) (hin : vp_in i n) (hb : h[b]? = some (.inr (.inr (ci, fs)))) (kk : RR xs m pc' lv st (h.set a (.inr (.inl (ci, n, va_up f i.toNatClampNeg (some b))))) bc bs Q) : RR xs m pc lv (.ref b :: .int i :: .ref a :: st) h bc bs Q := by
  obtain ⟨hd, rfl⟩ := hd
  intro l p e R s mi args below meth c Z z D ar ac H locs cells slots ls C E hW hF hB hl
  have hlt : i.toNatClampNeg < n := Nat.not_le.mp fun q => hin (Or.inr q)
  have h0 : ¬ i < 0 := fun q => hin (Or.inl q)
  obtain ⟨r', hr', -, cellV, g1, g2, g3, -⟩ := (hW.2.1 b _ hb).1
  obtain ⟨r, hr, t1, t2⟩ := (hW.2.1 a _ hc).2
  cases hr.symm.trans hr'
  have hcls := (hW.2.2.1.1.1 ci _ hr).2
  obtain ⟨kA, comp, k1, k2, k3, k4⟩ := t2
  have hcomp : comp = D.1 ci := Option.some.inj (k3.symm.trans hcls.1)
  subst hcomp
  obtain ⟨kC, hkC, -⟩ := hcls.2
  refine W.aast C.1 C.2.1 (hW.2.1 a _ hc).1 (fun q h => by cases h) (fun h => by cases h) k1 k2 rfl hkC ⟨h0, by rw [arrV_size]; exact hlt⟩ g1 (fun q h => by rw [g3] at h; cases h) (by rw [g2]; exact hkC) (by rw [g2]; exact va_assign hcls) rfl rfl hd fun H' e1 e2 e3 => ?_
  have e1' : H'[z + a]? = some (arrV (ac a) n (fun j => va_rf ((va_up f i.toNatClampNeg (some b) j).map (fun x => z + x)))) := by
    rw [e1, arrV_store]
    congr 2
    funext q
    by_cases hq : q = i.toNatClampNeg
    · subst hq
      simp [updV, va_up, va_rf]
    · simp [updV, va_up, hq]
  exact kk l p e R s mi args below meth c Z z D ar ac H' _ cells slots ls C E (hW.upd e2 e3 e1' ⟨_, hr, t1, kA, D.1 ci, k1, k2, k3, k4⟩) (hF.put e3) hB hl
end HEAP

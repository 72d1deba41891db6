/-! patches as sets of cells -/
def gp (M : Mem) (p x y : Nat) : Bool := bt (M (p + 1) y) x
noncomputable def bB (P : Prop) : Bool := @decide P (Classical.propDecidable P)
theorem bB_iff {P : Prop} : bB P = true ↔ P := by
  unfold bB
  exact @decide_eq_true_iff P (Classical.propDecidable P)
theorem bB_t {P : Prop} (h : P) : bB P = true := bB_iff.mpr h
theorem bB_f {P : Prop} (h : ¬ P) : bB P = false := by
  cases e : bB P with
  | false => rfl
  | true => exact absurd (bB_iff.mp e) h
theorem bB_congr {P R : Prop} (h : P ↔ R) : bB P = bB R := by rw [propext h]
theorem bB_b (b : Bool) : bB (b = true) = b := by
  cases b with
  | true => exact bB_t rfl
  | false => exact bB_f (by decide)
def ofB (f : Nat → Bool) : Int32 := Int32.ofBitVec (BitVec.iunfoldr (w := 32) (fun i (_ : Unit) => ((), f i.val)) ()).2
theorem bt_ofB (f : Nat → Bool) {i : Nat} (h : i < 32) : bt (ofB f) i = f i := by
  unfold bt ofB
  exact BitVec.iunfoldr_getLsbD (w := 32) (f := fun i (_ : Unit) => ((), f i.val)) (fun _ => ()) ⟨i, h⟩ (fun _ => rfl)
def setP (M : Mem) (p : Nat) (f : Nat → Nat → Bool) : Mem := fun b j => if b = p + 1 ∧ j < 20 then ofB (fun x => f x j) else M b j
theorem setP_eq {M M' : Mem} {p : Nat} {f : Nat → Nat → Bool} (ho : ∀ b j, ¬ (b = p + 1 ∧ j < 20) → M' b j = M b j) (hb : ∀ y, y < 20 → ∀ x, x < 32 → bt (M' (p + 1) y) x = f x y) : M' = setP M p f := by
  funext b j
  unfold setP
  split
  · rename_i h
    obtain ⟨rfl, hj⟩ := h
    exact b_ext fun i hi => by rw [hb j hj i hi, bt_ofB _ hi]
  · rename_i h
    exact ho b j h
theorem setP_o (M : Mem) {p b : Nat} (f : Nat → Nat → Bool) (h : b ≠ p + 1) (j : Nat) : setP M p f b j = M b j := if_neg fun q => h q.1
theorem gp_set (M : Mem) (p : Nat) (f : Nat → Nat → Bool) {x y : Nat} (hx : x < 32) (hy : y < 20) : gp (setP M p f) p x y = f x y := by
  unfold gp setP
  rw [if_pos ⟨rfl, hy⟩, bt_ofB _ hx]
theorem gp_setO (M : Mem) {p q : Nat} (f : Nat → Nat → Bool) (h : q ≠ p) (x y : Nat) : gp (setP M p f) q x y = gp M q x y := by
  unfold gp
  rw [setP_o M f (by omega)]
theorem gp_big (M : Mem) (p : Nat) {x : Nat} (y : Nat) (h : 32 ≤ x) : gp M p x y = false := b_big h
theorem setP_set (M : Mem) (p : Nat) (f g : Nat → Nat → Bool) : setP (setP M p f) p g = setP M p g := by
  funext b j
  unfold setP
  split
  · rfl
  · rfl
theorem setP_congr (M : Mem) (p : Nat) {f g : Nat → Nat → Bool} (h : ∀ y, y < 20 → ∀ x, x < 32 → f x y = g x y) : setP M p f = setP M p g := by
  refine setP_eq (fun b j hb => if_neg hb) (fun y hy x hx => ?_)
  unfold setP
  rw [if_pos ⟨rfl, hy⟩, bt_ofB _ hx]
  exact h y hy x hx
theorem setP_self (M : Mem) (p : Nat) : setP M p (gp M p) = M := (setP_eq (fun _ _ _ => rfl) (fun _ _ _ _ => rfl)).symm
theorem rowN_setP (M : Mem) (p : Nat) (f : Nat → Int32) : rowN M (p + 1) 20 f = setP M p (fun x y => bt (f y) x) := by
  refine setP_eq (fun b j hb => if_neg hb) (fun y hy x hx => ?_)
  rw [rowN_lt _ _ _ hy]
theorem cpR_setP (M : Mem) (p q : Nat) : cpR M (p + 1) (q + 1) 20 = setP M p (gp M q) := by
  refine setP_eq (fun b j hb => if_neg hb) (fun y hy x hx => ?_)
  unfold cpR gp
  rw [if_pos ⟨rfl, hy⟩]
theorem bt_not (v : Int32) {x : Nat} (h : x < 32) : bt (v ^^^ (-1)) x = !bt v x := by
  rw [b_xor, b_m1 x h]
  cases bt v x <;> rfl
/-- the first n bits -/
theorem fbits_n : ∀ n, n < 32 → ∀ i, i < 32 → bt (fbits (nI n)) i = decide (i < n) := by decide +kernel
section SB
variable {xs : List Int32} {S : List Shp} {M : Mem} {L : Int64} {Q : Option Value → Mem → Int64 → Prop}
theorem t_clear {p : Nat} (hp : isP S p) (h : Q none (setP M p (fun _ _ => false)) L) : RX xs S md_Patch_clear 0 [.ref p] [] M L Q := by
  refine L_Patch_clear_0 hp ?_
  rw [rowN_setP, setP_congr M p (g := fun _ _ => false) (fun y _ x _ => b_0 x)]
  exact h
theorem t_copy {p q : Nat} (hp : isP S p) (hq : isP S q) (h : Q none (setP M p (gp M q)) L) : RX xs S md_Patch_copy 0 [.ref p, .ref q] [] M L Q := by
  refine s_Patch_copy hp hq ?_
  rw [cpR_setP]; exact h
theorem t_cutTo {p q : Nat} (hp : isP S p) (hq : isP S q) (h : Q none (setP M p (fun x y => gp M p x y && gp M q x y)) L) : RX xs S md_Patch_cutTo 0 [.ref p, .ref q] [] M L Q := by
  refine s_Patch_cutTo hp hq ?_
  rw [rowN_setP, setP_congr M p (g := fun x y => gp M p x y && gp M q x y) (fun y _ x _ => b_and _ _ x)]
  exact h
theorem t_turnOver {p q : Nat} (hp : isP S p) (hq : isP S q) (h : Q none (setP M p (fun x y => gp M q x y && !gp M p x y)) L) : RX xs S md_Patch_turnOver 0 [.ref p, .ref q] [] M L Q := by
  refine s_Patch_turnOver hp hq ?_
  rw [rowN_setP, setP_congr M p (g := fun x y => gp M q x y && !gp M p x y) (fun y _ x hx => by rw [b_and, bt_not _ hx]; rfl)]
  exact h
theorem empty_iff {p : Nat} : (∀ y, y < 20 → M (p + 1) y = 0) ↔ ∀ y, y < 20 → ∀ x, x < 32 → gp M p x y = false := by
  constructor
  · intro h y hy x _
    unfold gp
    rw [h y hy]; exact b_0 x
  · intro h y hy
    exact b_ext fun i hi => by rw [b_0]; exact h y hy i hi
theorem t_isEmpty {p : Nat} (hp : isP S p) (h : Q (some (.int (bI (∀ y, y < 20 → ∀ x, x < 32 → gp M p x y = false)))) M L) : RX xs S md_Patch_isEmpty 0 [.ref p] [] M L Q := by
  refine s_Patch_isEmpty hp ?_
  rw [bI_congr empty_iff]; exact h
theorem t_meets {p q : Nat} (hp : isP S p) (hq : isP S q) (h : Q (some (.int (bI (∃ x y, y < 20 ∧ x < 32 ∧ gp M p x y = true ∧ gp M q x y = true)))) M L) : RX xs S md_Patch_meets 0 [.ref p, .ref q] [] M L Q := by
  refine s_Patch_meets hp hq ?_
  rw [bI_congr (q := ∃ x y, y < 20 ∧ x < 32 ∧ gp M p x y = true ∧ gp M q x y = true) ?_]
  · exact h
  constructor
  · intro hn
    refine Classical.byContradiction fun hc => hn fun y hy => b_ext fun i hi => ?_
    rw [b_0, b_and]
    cases e1 : bt (M (p + 1) y) i with
    | false => rfl
    | true =>
      cases e2 : bt (M (q + 1) y) i with
      | false => rfl
      | true => exact absurd ⟨i, y, hy, hi, e1, e2⟩ hc
  · intro ⟨x, y, hy, hx, h1, h2⟩ hz
    have := congrArg (fun v => bt v x) (hz y hy)
    simp only [b_and, b_0] at this
    unfold gp at h1 h2
    rw [h1, h2] at this
    cases this
theorem bit_one (v : Int32) {n : Nat} (hn : n < 32) : ((v >>> (nI n &&& 31)) &&& 1) = 1 ↔ bt v n = true := by
  have h1 : ∀ i, i < 32 → bt ((v >>> (nI n &&& 31)) &&& 1) i = (decide (i = 0) && bt v n) := by
    intro i hi
    rw [b_and, b_sshr n hn v hi]
    have b1 : ∀ i, i < 32 → bt 1 i = decide (i = 0) := by decide +kernel
    rw [b1 i hi]
    by_cases h0 : i = 0
    · subst h0; simp [hn]
    · simp [h0]
  constructor
  · intro h
    have := h1 0 (by decide)
    rw [h] at this
    have b10 : bt 1 0 = true := by decide +kernel
    rw [b10] at this
    simpa using this.symm
  · intro h
    refine b_ext fun i hi => ?_
    rw [h1 i hi, h]
    have b1 : ∀ i, i < 32 → bt 1 i = decide (i = 0) := by decide +kernel
    rw [b1 i hi]; simp
theorem t_holds {p : Nat} (hp : isP S p) {a b : Int32} (h : Q (some (.int (bI ((0 ≤ a ∧ a ≤ 19) ∧ (0 ≤ b ∧ b ≤ 19) ∧ gp M p a.toNatClampNeg b.toNatClampNeg = true)))) M L) : RX xs S md_Patch_holds 0 [.ref p, .int a, .int b] [] M L Q := by
  refine L_Patch_holds_0 hp ⟨fun c => ⟨fun c2 => ?_, fun c2 => ?_⟩, fun c => ?_⟩
  · have hb := c
    rw [i_le, i_le] at hb
    have ha := c2
    rw [i_le, i_le] at ha
    have hb : (0 : Int) ≤ b.toInt ∧ b.toInt ≤ 19 := hb
    have ha : (0 : Int) ≤ a.toInt ∧ a.toInt ≤ 19 := ha
    refine ⟨vp_inI hb.1 (by omega), ?_⟩
    have e : a = nI a.toNatClampNeg := nI_of_toInt (clampI ha.1).symm
    have hlt : a.toNatClampNeg < 32 := by have := clampI ha.1; omega
    have hbit := bit_one (M (p + 1) b.toNatClampNeg) hlt
    rw [← e] at hbit
    refine ⟨fun c3 => ?_, fun c3 => ?_⟩
    · rw [bI_t ⟨c2, c, hbit.mp c3⟩] at h; exact h
    · rw [bI_f (fun q => c3 (hbit.mpr q.2.2))] at h; exact h
  · rw [bI_f (fun q => c2 q.1)] at h; exact h
  · rw [bI_f (fun q => c q.2.1)] at h; exact h
end SB

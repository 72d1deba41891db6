/-! loops over the chart's cells, and cells of the reference's arrays as sets -/
theorem grid {σ : Type} {w h : Nat} (RXo : Nat → σ → Prop) (RXi : Nat → Nat → σ → Prop) (inv : Nat → Nat → σ → Prop)
    (hend : ∀ s, inv 0 h s → RXo h s) (hout : ∀ y s, y < h → inv 0 y s → RXi 0 y s → RXo y s) (hrow : ∀ y s, y < h → inv w y s → RXo (y + 1) s → RXi w y s)
    (hin : ∀ x y s, x < w → y < h → inv x y s → (∀ s', inv (x + 1) y s' → RXi (x + 1) y s') → RXi x y s)
    (hnext : ∀ y s, y < h → inv w y s → inv 0 (y + 1) s) : ∀ s, inv 0 0 s → RXo 0 s := by
  have key : ∀ r y, y + r = h → ∀ s, inv 0 y s → RXo y s := by
    intro r
    induction r with
    | zero => intro y hy s hs; have : y = h := by omega
              subst this; exact hend s hs
    | succ r ih =>
      intro y hy s hs
      have row : ∀ q x, x + q = w → ∀ s, inv x y s → RXi x y s := by
        intro q
        induction q with
        | zero =>
          intro x hx s hs
          have : x = w := by omega
          subst this
          exact hrow y s (by omega) hs (ih (y + 1) (by omega) s (hnext y s (by omega) hs))
        | succ q ih2 =>
          intro x hx s hs
          exact hin x y s (by omega) (by omega) hs (fun s' h' => ih2 (x + 1) (by omega) s' h')
      exact hout y s (by omega) hs (row w 0 (by omega) s hs)
  intro s hs
  exact key h 0 (by omega) s hs
def b01 (b : Bool) : Int32 := if b then 1 else 0
theorem b01_and (b : Bool) : b01 b &&& 1 = b01 b := by cases b <;> rfl
theorem b01_0 {b : Bool} : b01 b = 0 ↔ b = false := by cases b <;> decide
noncomputable def setR (M : Mem) (a : Nat) (P : Nat → Nat → Prop) (f : Nat → Nat → Int32) : Mem := fun b k => @ite _ (b = a ∧ P (k % 20) (k / 20)) (Classical.propDecidable _) (f (k % 20) (k / 20)) (M b k)
theorem setR_o (M : Mem) {a b : Nat} (P : Nat → Nat → Prop) (f : Nat → Nat → Int32) (h : b ≠ a) (k : Nat) : setR M a P f b k = M b k := if_neg fun q => h q.1
theorem setR_t (M : Mem) (a : Nat) {P : Nat → Nat → Prop} (f : Nat → Nat → Int32) {x y : Nat} (hx : x < 20) (h : P x y) : setR M a P f a (20 * y + x) = f x y := by
  have e1 : (20 * y + x) % 20 = x := by omega
  have e2 : (20 * y + x) / 20 = y := by omega
  unfold setR
  rw [e1, e2]
  exact if_pos ⟨rfl, h⟩
theorem setR_f (M : Mem) (a : Nat) {P : Nat → Nat → Prop} (f : Nat → Nat → Int32) {x y : Nat} (hx : x < 20) (h : ¬ P x y) : setR M a P f a (20 * y + x) = M a (20 * y + x) := by
  have e1 : (20 * y + x) % 20 = x := by omega
  have e2 : (20 * y + x) / 20 = y := by omega
  unfold setR
  rw [e1, e2]
  exact if_neg (fun q => h q.2)
theorem setR_0 (M : Mem) (a : Nat) {P : Nat → Nat → Prop} (f : Nat → Nat → Int32) (h : ∀ x y, x < 20 → ¬ P x y) : setR M a P f = M := by
  funext b k
  unfold setR
  exact if_neg (fun q => h _ _ (Nat.mod_lt _ (by decide)) q.2)
theorem setR_congr (M : Mem) (a : Nat) {P R : Nat → Nat → Prop} {f g : Nat → Nat → Int32} (h : ∀ x y, x < 20 → (P x y ↔ R x y)) (hf : ∀ x y, x < 20 → P x y → f x y = g x y) : setR M a P f = setR M a R g := by
  funext b k
  have hm : k % 20 < 20 := Nat.mod_lt _ (by decide)
  unfold setR
  by_cases c : b = a ∧ P (k % 20) (k / 20)
  · rw [if_pos c, if_pos ⟨c.1, (h _ _ hm).mp c.2⟩]
    exact hf _ _ hm c.2
  · rw [if_neg c, if_neg (fun q => c ⟨q.1, (h _ _ hm).mpr q.2⟩)]
theorem setR_up (M : Mem) (a : Nat) {P R : Nat → Nat → Prop} (f : Nat → Nat → Int32) {i j : Nat} {v : Int32} (hi : i < 20) (hv : v = f i j) (h : ∀ x y, x < 20 → (R x y ↔ P x y ∨ (x = i ∧ y = j))) : up (setR M a P f) a (20 * j + i) v = setR M a R f := by
  funext b k
  have hm : k % 20 < 20 := Nat.mod_lt _ (by decide)
  have hk := Nat.div_add_mod k 20
  by_cases c : b = a ∧ k = 20 * j + i
  · obtain ⟨rfl, rfl⟩ := c
    rw [up_same, hv, setR_t M _ f hi ((h i j hi).mpr (Or.inr ⟨rfl, rfl⟩))]
  · rw [up_ne _ _ c]
    unfold setR
    by_cases c2 : b = a ∧ P (k % 20) (k / 20)
    · rw [if_pos c2, if_pos ⟨c2.1, (h _ _ hm).mpr (Or.inl c2.2)⟩]
    · rw [if_neg c2, if_neg]
      rintro ⟨q1, q2⟩
      rcases (h _ _ hm).mp q2 with q | ⟨q3, q4⟩
      · exact c2 ⟨q1, q⟩
      · exact c ⟨q1, by omega⟩
theorem nI_at (x y : Nat) : 20 * nI y + nI x = nI (20 * y + x) := nI_lin 20 y x
/-- an array of booleans shows a set on the chart -/
def shA (M : Mem) (a w h : Nat) (A : Nat → Nat → Bool) : Prop := ∀ x y, x < w → y < h → M a (20 * y + x) = b01 (A x y)
theorem inC_of {w h : Nat} {A : Nat → Nat → Bool} (h1 : ∀ x y, A x y = true → x < w ∧ y < h) : inC w h A := fun x y _ q => h1 x y q
section SP
variable {xs : List Int32} {M : Mem} {L : Int64} {Q : Option Value → Mem → Int64 → Prop}
/-- a scan along a row of held -/
theorem scanE {w h x y : Nat} {A : Nat → Nat → Bool} (hA : shA M 527 w h A) (w20 : w ≤ 20) (h20 : h ≤ 20) (hx : x < w) (hy : y < h) {i1 i2 i3 i4 to : Int32} (hto : to.toInt ≤ (w : Int) - 1) :
    ∀ n a, w ≤ a + n → a < 2000000 → ∀ r : Bool, (∀ v : Bool, (v = true ↔ r = true ∨ ∃ a', a ≤ a' ∧ (a' : Int) ≤ to.toInt ∧ A a' y = true) → RX xs shL md_Mod_dilate 15 [.ref 516, .int i1, .int i2, .int i3, .int i4, .int (nI y), .int (nI x + 1), .null, .null, .null, .null] [] (up M 528 (20 * y + x) (b01 v)) L Q) →
      RX xs shL md_Mod_dilate 76 [.ref 516, .int i1, .int i2, .int i3, .int i4, .int (nI y), .int (nI x), .int (b01 r), .null, .int to, .int (nI a)] [] M L Q := by
  intro n
  induction n with
  | zero =>
    intro a ha hb r hq
    refine L_Mod_dilate_76 ?_
    rw [nI_at, nI_at, nI_cl (n := 20 * y + x) (by omega), nI_cl (n := 20 * y + a) (by omega), b01_and]
    have hlt : to < nI a := by rw [i_lt, i_nI (by omega)]; omega
    refine ⟨fun _ => ⟨vp_nI (by omega) (by omega), hq r ⟨fun q => Or.inl q, fun q => ?_⟩⟩, fun c => absurd hlt c⟩
    rcases q with q | ⟨a', q1, q2, _⟩
    · exact q
    · omega
  | succ n ih =>
    intro a ha hb r hq
    refine L_Mod_dilate_76 ?_
    rw [nI_at, nI_at, nI_cl (n := 20 * y + x) (by omega), nI_cl (n := 20 * y + a) (by omega), b01_and]
    refine ⟨fun c => ⟨vp_nI (by omega) (by omega), hq r ⟨fun q => Or.inl q, fun q => ?_⟩⟩, fun c => ⟨fun c2 => ?_, fun c2 => ⟨vp_nI (by omega) (by omega), hq r ⟨fun q => Or.inl q, fun _ => ?_⟩⟩⟩⟩
    · rw [i_lt, i_nI (by omega)] at c
      rcases q with q | ⟨a', q1, q2, _⟩
      · exact q
      · omega
    · rw [i_lt, i_nI (by omega)] at c
      refine ⟨vp_nI (by omega) (by omega), ?_⟩
      rw [hA a y (by omega) hy, nI_1]
      have hr := b01_0.mp c2
      subst hr
      refine ih (a + 1) (by omega) (by omega) (A a y) (fun v hv => hq v ⟨fun q => ?_, fun q => hv.mpr ?_⟩)
      · rcases hv.mp q with q | ⟨a', q1, q2, q3⟩
        · exact Or.inr ⟨a, by omega, by omega, q⟩
        · exact Or.inr ⟨a', by omega, q2, q3⟩
      · rcases q with q | ⟨a', q1, q2, q3⟩
        · cases q
        · by_cases e : a' = a
          · subst e; exact Or.inl q3
          · exact Or.inr ⟨a', by omega, q2, q3⟩
    · cases r with
      | true => rfl
      | false => exact absurd rfl c2
/-- a scan along a column of between -/
theorem scanN {w h x y : Nat} {B : Nat → Nat → Bool} (hB : shA M 528 w h B) (w20 : w ≤ 20) (h20 : h ≤ 20) (hx : x < w) (hy : y < h) {i3 i4 to : Int32} (hto : to.toInt ≤ (h : Int) - 1) :
    ∀ n a, h ≤ a + n → a < 2000000 → ∀ r : Bool, (∀ v : Bool, (v = true ↔ r = true ∨ (¬ M 523 (20 * y + x) = 0 ∧ ∃ a', a ≤ a' ∧ (a' : Int) ≤ to.toInt ∧ B x a' = true)) → RX xs shL md_Mod_dilate 149 [.ref 516, .null, .null, .int i3, .int i4, .int (nI y), .int (nI x + 1), .null, .null, .null, .null] [] (up M 527 (20 * y + x) (b01 v)) L Q) →
      RX xs shL md_Mod_dilate 212 [.ref 516, .null, .null, .int i3, .int i4, .int (nI y), .int (nI x), .int (b01 r), .null, .int to, .int (nI a)] [] M L Q := by
  intro n
  induction n with
  | zero =>
    intro a ha hb r hq
    refine L_Mod_dilate_212 ?_
    rw [nI_at, nI_at, nI_cl (n := 20 * y + x) (by omega), nI_cl (n := 20 * a + x) (by omega), b01_and]
    have hlt : to < nI a := by rw [i_lt, i_nI (by omega)]; omega
    refine ⟨fun _ => ⟨vp_nI (by omega) (by omega), hq r ⟨fun q => Or.inl q, fun q => ?_⟩⟩, fun c => absurd hlt c⟩
    rcases q with q | ⟨_, a', q1, q2, _⟩
    · exact q
    · omega
  | succ n ih =>
    intro a ha hb r hq
    refine L_Mod_dilate_212 ?_
    rw [nI_at, nI_at, nI_cl (n := 20 * y + x) (by omega), nI_cl (n := 20 * a + x) (by omega), b01_and]
    refine ⟨fun c => ⟨vp_nI (by omega) (by omega), hq r ⟨fun q => Or.inl q, fun q => ?_⟩⟩, fun c => ⟨fun c2 => ⟨vp_nI (by omega) (by omega), fun c3 => ?_, fun c3 => ?_⟩, fun c2 => ⟨vp_nI (by omega) (by omega), hq r ⟨fun q => Or.inl q, fun _ => ?_⟩⟩⟩⟩
    · rw [i_lt, i_nI (by omega)] at c
      rcases q with q | ⟨_, a', q1, q2, _⟩
      · exact q
      · omega
    · refine hq r ⟨fun q => Or.inl q, fun q => ?_⟩
      rcases q with q | ⟨q, _⟩
      · exact q
      · exact absurd c3 q
    · rw [i_lt, i_nI (by omega)] at c
      refine ⟨vp_nI (by omega) (by omega), ?_⟩
      rw [hB x a hx (by omega), nI_1]
      have hr := b01_0.mp c2
      subst hr
      refine ih (a + 1) (by omega) (by omega) (B x a) (fun v hv => hq v ⟨fun q => ?_, fun q => hv.mpr ?_⟩)
      · rcases hv.mp q with q | ⟨_, a', q1, q2, q3⟩
        · exact Or.inr ⟨c3, a, by omega, by omega, q⟩
        · exact Or.inr ⟨c3, a', by omega, q2, q3⟩
      · rcases q with q | ⟨_, a', q1, q2, q3⟩
        · cases q
        · by_cases e : a' = a
          · subst e; exact Or.inl q3
          · exact Or.inr ⟨c3, a', by omega, q2, q3⟩
    · cases r with
      | true => rfl
      | false => exact absurd rfl c2
end SP

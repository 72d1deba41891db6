/-! the reference takes a set on -/
def MCH (M : Mem) (w h : Nat) : Prop := M 516 9 = nI w ∧ M 516 10 = nI h ∧ 4 ≤ w ∧ w ≤ 20 ∧ 4 ≤ h ∧ h ≤ 20
noncomputable def eB (w : Nat) (A : Nat → Nat → Bool) (W E : Int) (x y : Nat) : Bool := bB (∃ a, a < w ∧ W ≤ (x : Int) - a ∧ (x : Int) - a ≤ E ∧ A a y = true)
noncomputable def nB (h : Nat) (B : Nat → Nat → Bool) (So No : Int) (x y : Nat) : Bool := bB (∃ a, a < h ∧ So ≤ (y : Int) - a ∧ (y : Int) - a ≤ No ∧ B x a = true)
def reg (w x y x' y' : Nat) : Prop := x' < w ∧ (y' < y ∨ (y' = y ∧ x' < x))
def regC (w h x' y' : Nat) : Prop := x' < w ∧ y' < h
theorem reg_up {w x y : Nat} (hx : x < w) (x' y' : Nat) : reg w (x + 1) y x' y' ↔ reg w x y x' y' ∨ (x' = x ∧ y' = y) := by unfold reg; omega
theorem reg_row {w y : Nat} (x' y' : Nat) : reg w w y x' y' ↔ reg w 0 (y + 1) x' y' := by unfold reg; omega
theorem reg_end {w h : Nat} (x' y' : Nat) : reg w 0 h x' y' ↔ regC w h x' y' := by unfold reg regC; omega
theorem reg_00 {w : Nat} (x' y' : Nat) : ¬ reg w 0 0 x' y' := by unfold reg; omega
/-- where a span of cells begins and ends -/
theorem span {x w : Nat} (hx : x < w) (hw : w ≤ 20) {i1 i2 : Int32} (b1 : -1000000 ≤ i1.toInt) (b2 : i1.toInt ≤ 1000000) (b3 : -1000000 ≤ i2.toInt) (b4 : i2.toInt ≤ 1000000) :
    ∃ a to, a < 2000000 ∧ (∀ c : 0 ≤ nI x - i2, nI x - i2 = nI a) ∧ (∀ c : ¬ 0 ≤ nI x - i2, (0 : Int32) = nI a) ∧ (∀ c : nI x - i1 ≤ nI w - 1, nI x - i1 = to) ∧ (∀ c : ¬ nI x - i1 ≤ nI w - 1, nI w - 1 = to) ∧ to.toInt ≤ (w : Int) - 1 ∧ ∀ a', a' < w → ((a ≤ a' ∧ (a' : Int) ≤ to.toInt) ↔ (i1.toInt ≤ (x : Int) - a' ∧ (x : Int) - a' ≤ i2.toInt)) := by
  have e0 : (0 : Int32).toInt = 0 := rfl
  have e1 : (1 : Int32).toInt = 1 := rfl
  have hxI : (nI x).toInt = x := i_nI (by omega)
  have hwI : (nI w).toInt = w := i_nI (by omega)
  have h1 : (nI x - i1).toInt = x - i1.toInt := by rw [i_sub (by omega) (by omega), hxI]
  have h2 : (nI x - i2).toInt = x - i2.toInt := by rw [i_sub (by omega) (by omega), hxI]
  have h3 : (nI w - 1).toInt = w - 1 := by rw [i_sub (by omega) (by omega), hwI, e1]
  refine ⟨((x : Int) - i2.toInt).toNat, if nI x - i1 ≤ nI w - 1 then nI x - i1 else nI w - 1, by omega, fun c => ?_, fun c => ?_, fun c => (if_pos c).symm, fun c => (if_neg c).symm, ?_, ?_⟩
  · rw [i_le, h2, e0] at c
    exact nI_of_toInt (by rw [h2]; omega)
  · rw [i_le, h2, e0] at c
    exact nI_of_toInt (by rw [e0]; omega)
  · split
    · rename_i c; rw [i_le, h1, h3] at c; rw [h1]; exact c
    · rw [h3]; omega
  · intro a' ha'
    split
    · rename_i c; rw [i_le, h1, h3] at c; rw [h1]; omega
    · rename_i c; rw [i_le, h1, h3] at c; rw [h3]; omega
section SQ
variable {xs : List Int32} {M : Mem} {L : Int64} {Q : Option Value → Mem → Int64 → Prop}
theorem m_dilate {w h : Nat} (hC : MCH M w h) {A : Nat → Nat → Bool} (hA : shA M 527 w h A) {i1 i2 i3 i4 : Int32} (b1 : -1000000 ≤ i1.toInt) (b2 : i1.toInt ≤ 1000000) (b3 : -1000000 ≤ i2.toInt) (b4 : i2.toInt ≤ 1000000) (b5 : -1000000 ≤ i3.toInt) (b6 : i3.toInt ≤ 1000000) (b7 : -1000000 ≤ i4.toInt) (b8 : i4.toInt ≤ 1000000)
    (hQ : Q none (setR (setR M 528 (regC w h) (fun x y => b01 (eB w A i1.toInt i2.toInt x y))) 527 (regC w h) (fun x y => b01 (nB h (eB w A i1.toInt i2.toInt) i3.toInt i4.toInt x y && bB (¬ M 523 (20 * y + x) = 0)))) L) : RX xs shL md_Mod_dilate 0 [.ref 516, .int i1, .int i2, .int i3, .int i4] [] M L Q := by
  obtain ⟨c1, c2, w4, w20, h4, h20⟩ := hC
  refine L_Mod_dilate_0 ?_
  refine grid (σ := Mem) (w := w) (h := h)
    (fun y s => RX xs shL md_Mod_dilate 3 [.ref 516, .int i1, .int i2, .int i3, .int i4, .int (nI y), .null, .null, .null, .null, .null] [] s L Q)
    (fun x y s => RX xs shL md_Mod_dilate 15 [.ref 516, .int i1, .int i2, .int i3, .int i4, .int (nI y), .int (nI x), .null, .null, .null, .null] [] s L Q)
    (fun x y s => s = setR M 528 (reg w x y) (fun x y => b01 (eB w A i1.toInt i2.toInt x y))) ?_ ?_ ?_ ?_ ?_ M ?_
  · intro s hs
    refine L_Mod_dilate_3 ⟨fun _ => ?_, fun c => absurd ?_ c⟩
    · have hs' : s = setR M 528 (regC w h) (fun x y => b01 (eB w A i1.toInt i2.toInt x y)) := hs.trans (setR_congr M 528 (fun x y _ => reg_end x y) (fun _ _ _ _ => rfl))
      have s9 : s 516 9 = nI w := by rw [hs', setR_o _ _ _ (by decide)]; exact c1
      have s10 : s 516 10 = nI h := by rw [hs', setR_o _ _ _ (by decide)]; exact c2
      have hB : shA s 528 w h (eB w A i1.toInt i2.toInt) := fun x y hx hy => by rw [hs', setR_t M 528 _ (by omega) ⟨hx, hy⟩]
      have hD : ∀ k, s 523 k = M 523 k := fun k => by rw [hs', setR_o _ _ _ (by decide)]
      refine grid (σ := Mem) (w := w) (h := h)
        (fun y s' => RX xs shL md_Mod_dilate 137 [.ref 516, .null, .null, .int i3, .int i4, .int (nI y), .null, .null, .null, .null, .null] [] s' L Q)
        (fun x y s' => RX xs shL md_Mod_dilate 149 [.ref 516, .null, .null, .int i3, .int i4, .int (nI y), .int (nI x), .null, .null, .null, .null] [] s' L Q)
        (fun x y s' => s' = setR s 527 (reg w x y) (fun x y => b01 (nB h (eB w A i1.toInt i2.toInt) i3.toInt i4.toInt x y && bB (¬ M 523 (20 * y + x) = 0)))) ?_ ?_ ?_ ?_ ?_ s ?_
      · intro s2 hs2
        refine L_Mod_dilate_137 ⟨fun _ => ?_, fun c => absurd ?_ c⟩
        · rw [hs2, setR_congr s 527 (fun x y _ => reg_end x y) (fun _ _ _ _ => rfl), hs']
          exact hQ
        · rw [hs2, setR_o _ _ _ (by decide), s10]; exact Int32.le_refl _
      · intro y s2 hy hs2 hi
        refine L_Mod_dilate_137 ⟨fun c => ?_, fun _ => hi⟩
        rw [hs2, setR_o _ _ _ (by decide), s10, nI_leI (by omega) (by omega)] at c; omega
      · intro y s2 hy hs2 ho
        refine L_Mod_dilate_149 ⟨fun _ => by rw [nI_1]; exact ho, fun c => absurd ?_ c⟩
        rw [hs2, setR_o _ _ _ (by decide), s9]; exact Int32.le_refl _
      · intro x y s2 hx hy hs2 hn
        have q9 : s2 516 9 = nI w := by rw [hs2, setR_o _ _ _ (by decide)]; exact s9
        have q10 : s2 516 10 = nI h := by rw [hs2, setR_o _ _ _ (by decide)]; exact s10
        have qB : shA s2 528 w h (eB w A i1.toInt i2.toInt) := fun x y hx hy => by rw [hs2, setR_o _ _ _ (by decide)]; exact hB x y hx hy
        obtain ⟨a, to, sa, sf1, sf2, st1, st2, sto, sp⟩ := span (x := y) (w := h) hy h20 b5 b6 b7 b8
        have go : RX xs shL md_Mod_dilate 212 [.ref 516, .null, .null, .int i3, .int i4, .int (nI y), .int (nI x), .int 0, .null, .int to, .int (nI a)] [] s2 L Q := by
          refine scanN qB w20 h20 hx hy sto h a (by omega) sa false (fun v hv => ?_)
          rw [nI_1]
          refine hn _ ?_
          rw [hs2]
          refine setR_up s 527 _ (by omega) (congrArg b01 (Bool.eq_iff_iff.mpr ?_)) (fun x' y' _ => reg_up hx x' y')
          rw [hv, Bool.and_eq_true_iff, bB_iff]
          unfold nB
          rw [bB_iff, hs2, setR_o _ _ _ (by decide), hD]
          constructor
          · rintro (q | ⟨q1, a', q2, q3, q4⟩)
            · cases q
            · have := (sp a' (by omega)).mp ⟨q2, q3⟩
              exact ⟨⟨a', by omega, this.1, this.2, q4⟩, q1⟩
          · rintro ⟨⟨a', q1, q2, q3, q4⟩, q5⟩
            have := (sp a' q1).mpr ⟨q2, q3⟩
            exact Or.inr ⟨q5, a', this.1, this.2, q4⟩
        refine L_Mod_dilate_149 ?_
        rw [q9, q10]
        refine ⟨fun c => absurd ((nI_leI (a := w) (b := x) (by omega) (by omega)).mp c) (by omega), fun _ => ⟨fun d1 => ⟨fun d2 => ?_, fun d2 => ?_⟩, fun d1 => ⟨fun d2 => ?_, fun d2 => ?_⟩⟩⟩
        · rw [sf1 d1, st1 d2]; exact go
        · rw [sf1 d1, st2 d2]; exact go
        · rw [st1 d2]; rw [← sf2 d1] at go; exact go
        · rw [st2 d2]; rw [← sf2 d1] at go; exact go
      · intro y s2 hy hs2
        exact hs2.trans (setR_congr s 527 (fun x y _ => reg_row x y) (fun _ _ _ _ => rfl))
      · exact (setR_0 s 527 _ (fun x y _ => reg_00 x y)).symm
    · rw [hs, setR_o _ _ _ (by decide), c2]; exact Int32.le_refl _
  · intro y s hy hs hi
    refine L_Mod_dilate_3 ⟨fun c => ?_, fun _ => hi⟩
    rw [hs, setR_o _ _ _ (by decide), c2, nI_leI (by omega) (by omega)] at c; omega
  · intro y s hy hs ho
    refine L_Mod_dilate_15 ⟨fun _ => by rw [nI_1]; exact ho, fun c => absurd ?_ c⟩
    rw [hs, setR_o _ _ _ (by decide), c1]; exact Int32.le_refl _
  · intro x y s hx hy hs hn
    have q9 : s 516 9 = nI w := by rw [hs, setR_o _ _ _ (by decide)]; exact c1
    have qA : shA s 527 w h A := fun x y hx hy => by rw [hs, setR_o _ _ _ (by decide)]; exact hA x y hx hy
    obtain ⟨a, to, sa, sf1, sf2, st1, st2, sto, sp⟩ := span (x := x) (w := w) hx w20 b1 b2 b3 b4
    have go : RX xs shL md_Mod_dilate 76 [.ref 516, .int i1, .int i2, .int i3, .int i4, .int (nI y), .int (nI x), .int 0, .null, .int to, .int (nI a)] [] s L Q := by
      refine scanE qA w20 h20 hx hy sto w a (by omega) sa false (fun v hv => ?_)
      rw [nI_1]
      refine hn _ ?_
      rw [hs]
      refine setR_up M 528 _ (by omega) (congrArg b01 (Bool.eq_iff_iff.mpr ?_)) (fun x' y' _ => reg_up hx x' y')
      unfold eB
      rw [hv, bB_iff]
      constructor
      · rintro (q | ⟨a', q2, q3, q4⟩)
        · cases q
        · have := (sp a' (by omega)).mp ⟨q2, q3⟩
          exact ⟨a', by omega, this.1, this.2, q4⟩
      · rintro ⟨a', q1, q2, q3, q4⟩
        have := (sp a' q1).mpr ⟨q2, q3⟩
        exact Or.inr ⟨a', this.1, this.2, q4⟩
    refine L_Mod_dilate_15 ?_
    rw [q9]
    refine ⟨fun c => absurd ((nI_leI (a := w) (b := x) (by omega) (by omega)).mp c) (by omega), fun _ => ⟨fun d1 => ⟨fun d2 => ?_, fun d2 => ?_⟩, fun d1 => ⟨fun d2 => ?_, fun d2 => ?_⟩⟩⟩
    · rw [sf1 d1, st1 d2]; exact go
    · rw [sf1 d1, st2 d2]; exact go
    · rw [st1 d2]; rw [← sf2 d1] at go; exact go
    · rw [st2 d2]; rw [← sf2 d1] at go; exact go
  · intro y s hy hs
    exact hs.trans (setR_congr M 528 (fun x y _ => reg_row x y) (fun _ _ _ _ => rfl))
  · exact (setR_0 M 528 _ (fun x y _ => reg_00 x y)).symm
end SQ

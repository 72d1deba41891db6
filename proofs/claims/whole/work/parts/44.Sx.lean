/-! the reference goes back: what is held is cut by a kept patch -/
def ctH (M : Mem) (t k : Nat) : Int32 := if M 527 k = 0 then 0 else if M 529 (400 * t + k) = 0 then 0 else 1
section SX
variable {xs : List Int32} {M : Mem} {L : Int64} {Q : Option Value → Mem → Int64 → Prop}
theorem m_goBackCut {t : Nat} (ht : t < 40) {i1 : Int32} (hQ : RX xs shL md_Mod_goBack 11 [.ref 516, .int i1, .int (nI t + (-1)), .null] [] (rowN M 527 400 (ctH M t)) L Q) : RX xs shL md_Mod_goBack 62 [.ref 516, .int i1, .int (nI t), .int 0] [] M L Q := by
  have key : ∀ r j, j + r = 400 → RX xs shL md_Mod_goBack 62 [.ref 516, .int i1, .int (nI t), .int (nI j)] [] (rowN M 527 j (ctH M t)) L Q := by
    intro r
    induction r with
    | zero =>
      intro j hj
      have : j = 400 := by omega
      subst this
      exact L_Mod_goBack_62 ⟨fun _ => hQ, fun c => absurd (by decide) c⟩
    | succ r ih =>
      intro j hj
      have e : 400 * nI t + nI j = nI (400 * t + j) := nI_lin 400 t j
      refine L_Mod_goBack_62 ⟨fun c => absurd ((nI_leI (a := 400) (b := j) (by omega) (by omega)).mp c) (by omega), fun _ => ?_⟩
      rw [e, nI_cl (by omega), nI_cl (by omega), nI_1, rowN_ge _ _ _ (Nat.le_refl _), rowN_o _ _ _ (by decide)]
      have put : ∀ v : Int32, v = ctH M t j → RX xs shL md_Mod_goBack 62 [.ref 516, .int i1, .int (nI t), .int (nI (j + 1))] [] (up (rowN M 527 j (ctH M t)) 527 j v) L Q := fun v hv => by
        rw [rowN_up _ _ _ _ hv]; exact ih (j + 1) (by omega)
      refine ⟨vp_nI (by omega) (by omega), fun c => put 0 ?_, fun c => ⟨vp_nI (by omega) (by omega), fun c2 => put 0 ?_, fun c2 => put 1 ?_⟩⟩
      · unfold ctH; rw [if_pos c]
      · unfold ctH; rw [if_neg c, if_pos c2]
      · unfold ctH; rw [if_neg c, if_neg c2]
  have := key 400 0 (by omega)
  rw [rowN_0] at this
  exact this
end SX

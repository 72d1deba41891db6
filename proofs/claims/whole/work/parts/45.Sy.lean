/-! what is found: rows without which she is somewhere -/
section SY
variable {xs : List Int32} {M : Mem} {L : Int64} {Q : Option Value → Mem → Int64 → Prop}
theorem meets_gp {M : Mem} {p q w h : Nat} {A B : Nat → Nat → Bool} (hp : shw M p A) (hq : shw M q B) (w20 : w ≤ 20) (hA : inC w h A) : (∃ x y, y < 20 ∧ x < 32 ∧ gp M p x y = true ∧ gp M q x y = true) ↔ meets A B := by
  constructor
  · rintro ⟨x, y, q1, q2, q3, q4⟩
    exact ⟨x, y, q1, by rw [← hp y q1 x]; exact q3, by rw [← hq y q1 x]; exact q4⟩
  · rintro ⟨x, y, q1, q2, q3⟩
    have := hA x y q1 q2
    exact ⟨x, y, q1, by omega, by rw [hp y q1 x]; exact q2, by rw [hq y q1 x]; exact q3⟩
theorem v_leadsOn {V : Vw} (hV : okV V) (hS : Sh M V) {t : Nat} (ht : t < V.n) (hR : Rd M V t) {p q : Nat} (hp : isP shL p) (hq : isP shL q) (npq : p ≠ q) (n128 : 128 ≠ q) (nst : 136 + 5 * t + 3 ≠ q) (nbk : 341 + 4 * (t + 1) ≠ q) {A : Nat → Nat → Bool} (hA : shw M p A) (hin : inC V.w V.h A) (hB : shw M (341 + 4 * (t + 1)) (BK V (t + 1)))
    (hQ : Q (some (.int (bI (meets (stV V t false A) (BK V (t + 1)))))) (setP M q (stV V t false A)) L) : RX xs shL md_Reckoning_leadsOnWithout 0 [.ref 336, .int (nI t), .ref p, .ref q] [] M L Q := by
  have hV' := hV
  obtain ⟨v1, v2, v3, v4, v5, v6, v7, v8⟩ := hV
  refine L_Reckoning_leadsOnWithout_0 hp hq ?_
  rw [nI_1, nI_cl (by omega), nI_cl (by omega)]
  refine ⟨vp_nI (by omega) (by omega), v_takeOn hV' hS ht hR hp hq npq n128 nst hA hin ⟨rfl, vp_nI (by omega) (by omega), ?_⟩⟩
  rw [show bB (¬ (0 : Int32) = 0) = false from bB_f (fun q => q rfl)]
  have hB2 : shw (setP M q (stV V t false A)) (341 + 4 * (t + 1)) (BK V (t + 1)) := fun y hy x => by rw [gp_setO _ _ nbk]; exact hB y hy x
  rw [bI_congr (meets_gp (shw_set v2 (stV_in hin)) hB2 v2 (stV_in hin))]
  exact hQ
end SY

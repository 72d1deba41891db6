/-! rows made ready, and the look ahead -/
def rchv (M : Mem) (e n l : Int32) (k : Nat) : Int32 := if k = 0 then fdv ((e + M 126 6) - (l + M 4 2)) 8000 else if k = 1 then -(fdv (-((e + M 126 7) + (l + M 4 2))) 8000) else if k = 2 then fdv ((n + M 126 8) - (l + M 4 2)) 8000 else -(fdv (-((n + M 126 9) + (l + M 4 2))) 8000)
def cRv (M : Mem) (w : Nat) (g : Int32) (j : Nat) : Nat → Int32 := rchv M (fdv (M (6 + 5 * w + 3) j * (100 + g)) 100) (fdv (M (6 + 5 * w + 4) j * (100 + g)) 100) (M (6 + 5 * w) 4)
def uRv (M : Mem) (w : Nat) : Nat → Int32 := rchv M 0 0 (M (6 + 5 * w) 5)
def rs (b : Nat) : Prop := 136 ≤ b ∧ b < 336 ∧ ¬ (b - 136) % 5 = 0
section SN
variable {xs : List Int32} {M : Mem} {L : Int64} {Q : Option Value → Mem → Int64 → Prop}
theorem t_stretch {p : Nat} (hp : isRe shL p) {e n l : Int32} (h : Q (some (.int (bI (¬ ∀ k, k < 4 → M p k = rchv M e n l k)))) (rowN M p 4 (rchv M e n l)) L) : RX xs shL md_Reckoning_stretch 0 [.ref 336, .ref p, .int e, .int n, .int l] [] M L Q := by
  refine L_Reckoning_stretch_0 hp (s_Reach_become hp ⟨_, rfl, bI_01, ?_⟩)
  have e4 : up (up (up (up M p 0 (rchv M e n l 0)) p 1 (rchv M e n l 1)) p 2 (rchv M e n l 2)) p 3 (rchv M e n l 3) = rowN M p 4 (rchv M e n l) := by
    have h0 := rowN_up M p 0 (rchv M e n l) rfl
    rw [rowN_0] at h0
    rw [h0, rowN_up M p 1 _ rfl, rowN_up M p 2 _ rfl, rowN_up M p 3 _ rfl]
  have ec : (M p 0 = rchv M e n l 0 ∧ M p 1 = rchv M e n l 1 ∧ M p 2 = rchv M e n l 2 ∧ M p 3 = rchv M e n l 3) ↔ ∀ k, k < 4 → M p k = rchv M e n l k := by
    constructor
    · rintro ⟨a0, a1, a2, a3⟩ k hk
      match k, hk with
      | 0, _ => exact a0
      | 1, _ => exact a1
      | 2, _ => exact a2
      | 3, _ => exact a3
    · intro a
      exact ⟨a 0 (by omega), a 1 (by omega), a 2 (by omega), a 3 (by omega)⟩
  have h' : Q (some (.int (bI (¬ (M p 0 = rchv M e n l 0 ∧ M p 1 = rchv M e n l 1 ∧ M p 2 = rchv M e n l 2 ∧ M p 3 = rchv M e n l 3))))) (up (up (up (up M p 0 (rchv M e n l 0)) p 1 (rchv M e n l 1)) p 2 (rchv M e n l 2)) p 3 (rchv M e n l 3)) L := by
    rw [e4, bI_congr (not_congr ec)]; exact h
  exact h'
theorem t_stretchCounted {t w j : Nat} (ht : t < 40) (hw : w < 24) (hj : j < 5) (hr : M (136 + 5 * t) 3 = nI w) {g : Int32} (h : Q (some (.int (bI (¬ ∀ k, k < 4 → M (136 + 5 * t + 1) k = cRv M w g j k)))) (rowN M (136 + 5 * t + 1) 4 (cRv M w g j)) L) : RX xs shL md_Reckoning_stretchCounted 0 [.ref 336, .ref (136 + 5 * t), .int g, .int (nI j - 2)] [] M L Q := by
  have e2 : nI j - 2 + 2 = nI j := Int32.sub_add_cancel _ _
  refine L_Reckoning_stretchCounted_0 ht ?_
  rw [hr, nI_cl (by omega)]
  refine ⟨vp_nI hw (by omega), L_Watch_wayEast_0 hw ?_⟩
  rw [e2, nI_cl (by omega)]
  refine ⟨vp_nI hj (by omega), _, rfl, L_Watch_wayNorth_0 hw ?_⟩
  rw [e2, nI_cl (by omega)]
  exact ⟨vp_nI hj (by omega), _, rfl, t_stretch (rw_re1 ht) ⟨_, rfl, bI_01, h⟩⟩
theorem t_makeReadyW {t w : Nat} (ht : t < 40) (hw : w < 24) (hr : M (136 + 5 * t) 3 = nI w) (h : Q none (rowN (rowN M (136 + 5 * t + 1) 4 (cRv M w 0 2)) (136 + 5 * t + 2) 4 (uRv M w)) L) : RX xs shL md_Reckoning_makeReady 0 [.ref 336, .ref (136 + 5 * t)] [] M L Q := by
  refine L_Reckoning_makeReady_0 ht ⟨fun _ => ?_, fun c => absurd (by rw [hr]; intro q; have := congrArg Int32.toInt q; rw [i_nI (by omega)] at this; exact absurd this (by show ¬ (w : Int) = -1; omega)) c⟩
  refine t_stretchCounted (j := 2) ht hw (by omega) hr ⟨_, rfl, ?_⟩
  rw [rowN_o _ _ _ (by omega), hr, nI_cl (by omega), rowN_o _ _ _ (by omega)]
  refine ⟨vp_nI hw (by omega), t_stretch (rw_re2 ht) ⟨_, rfl, ?_⟩⟩
  have eu : rchv (rowN M (136 + 5 * t + 1) 4 (cRv M w 0 2)) 0 0 (M (6 + 5 * w) 5) = uRv M w := by
    funext k
    unfold uRv rchv
    rw [rowN_o _ _ _ (by omega), rowN_o _ _ _ (by omega), rowN_o _ _ _ (by omega), rowN_o _ _ _ (by omega), rowN_o _ _ _ (by omega)]
  rw [eu]
  exact h
theorem t_makeReadyS {t w h : Nat} (ht : t < 40) (hr : M (136 + 5 * t) 3 = -1) (hch : CH M w h) (hin : inC w h (gp M 130)) (a0 : 0 ≤ (M (136 + 5 * t) 5).toInt) (a1 : (M (136 + 5 * t) 5).toInt ≤ 1000)
    (hQ : Q none (setP M (136 + 5 * t + 3) (sgM M w h (M (136 + 5 * t) 4) (M (136 + 5 * t) 5) (M (136 + 5 * t) 6))) L) : RX xs shL md_Reckoning_makeReady 0 [.ref 336, .ref (136 + 5 * t)] [] M L Q :=
  L_Reckoning_makeReady_0 ht ⟨fun c => absurd hr c, fun _ => t_findStaying ht hch hin a0 a1 ⟨rfl, hQ⟩⟩
/-- the start -/
theorem t_findStart {w h sx sy sr : Nat} (hx : M 134 2 = nI sx) (hy : M 134 3 = nI sy) (hr : M 134 4 = nI sr) (bx : sx < 1000) (by' : sy < 1000) (br : sr < 1000) (w20 : w ≤ 20) {O : Nat → Nat → Bool} (hO : shw M 128 O) (hin : inC w h O)
    (hQ : Q none (setP M 339 (fun x y => O x y && bB ((sx : Int) - sr ≤ x ∧ (x : Int) ≤ sx + sr ∧ (sy : Int) - sr ≤ y ∧ (y : Int) ≤ sy + sr))) L) : RX xs shL md_Reckoning_findStart 0 [.ref 336] [] M L Q := by
  refine L_Reckoning_findStart_0 ?_
  rw [setP_set, setP_set, setP_o M _ (by omega), setP_o M _ (by omega), setP_o M _ (by omega), hx, hy, hr]
  have d1 : (nI sx - nI sr).toInt = (sx : Int) - sr := by rw [i_sub (by rw [i_nI (by omega), i_nI (by omega)]; omega) (by rw [i_nI (by omega), i_nI (by omega)]; omega), i_nI (by omega), i_nI (by omega)]
  have d2 : (nI sy - nI sr).toInt = (sy : Int) - sr := by rw [i_sub (by rw [i_nI (by omega), i_nI (by omega)]; omega) (by rw [i_nI (by omega), i_nI (by omega)]; omega), i_nI (by omega), i_nI (by omega)]
  have d3 : (nI sx + nI sr).toInt = (sx : Int) + sr := by rw [i_add (by rw [i_nI (by omega), i_nI (by omega)]; omega) (by rw [i_nI (by omega), i_nI (by omega)]; omega), i_nI (by omega), i_nI (by omega)]
  have d4 : (nI sy + nI sr).toInt = (sy : Int) + sr := by rw [i_add (by rw [i_nI (by omega), i_nI (by omega)]; omega) (by rw [i_nI (by omega), i_nI (by omega)]; omega), i_nI (by omega), i_nI (by omega)]
  rw [d1, d2, d3, d4]
  rw [setP_congr M (339 + 4 * 0) (g := fun x y => O x y && bB ((sx : Int) - sr ≤ x ∧ (x : Int) ≤ sx + sr ∧ (sy : Int) - sr ≤ y ∧ (y : Int) ≤ sy + sr))]
  · exact hQ
  intro y hy' x hx'
  rw [gp_set _ _ _ hx' hy', gp_setO _ _ (by omega), gp_setO _ _ (by omega), hO y hy' x]
  unfold rcF
  cases e : O x y with
  | false => simp
  | true =>
    have := hin x y hy' e
    rw [Bool.and_true, Bool.true_and, gp_set _ _ _ hx' hy']
    by_cases hc : (sx : Int) - sr ≤ x ∧ (x : Int) ≤ sx + sr ∧ (sy : Int) - sr ≤ y ∧ (y : Int) ≤ sy + sr
    · rw [bB_t hc, if_pos (bB_t ⟨hc.1, hc.2.1, by omega, hc.2.2⟩), bB_t (by decide)]
    · rw [bB_f hc, if_neg (fun q => by have q := bB_iff.mp q; exact hc ⟨q.1, q.2.1, q.2.2.2⟩)]
end SN

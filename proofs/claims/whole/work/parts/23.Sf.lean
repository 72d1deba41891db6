/-! more leaves -/
def isVo (v t d r : Int32) : Prop := (1 ≤ v ∧ v ≤ 12) ∧ (1 ≤ t ∧ t ≤ 96) ∧ (0 ≤ d ∧ d ≤ 47) ∧ (0 ≤ r ∧ r ≤ 8)
def trn (v : Int32) : Int32 := if 101 ≤ v ∧ v ≤ 116 then v - 100 else if 201 ≤ v ∧ v ≤ 216 then 200 - v else if v = 300 then 16 else 0
def angM (p w : Int32) : Int32 := if ((p - w) + 32) - ((p - w) + 32) / 32 * 32 ≤ 16 then ((p - w) + 32) - ((p - w) + 32) / 32 * 32 else 32 - (((p - w) + 32) - ((p - w) + 32) / 32 * 32)
def lwA (a s : Int32) : Int32 := if s = 0 then 0 else if 6 ≤ a then (if 8 ≤ a then (if 12 ≤ a then 0 else 2 - s) else 3 - s) else -1
def angC (p w : Int32) : Int32 := imin ((w - p) &&& 31) (32 - ((w - p) &&& 31))
theorem ang_eq : ∀ p, p < 32 → ∀ w, w < 32 → angM (nI p) (nI w) = angC (nI p) (nI w) := by decide +kernel
section SF
variable {xs : List Int32} {S : List Shp} {M : Mem} {L : Int64} {Q : Option Value → Mem → Int64 → Prop}
theorem s_Mod_isCell {x y : Int32} (h : Q (some (.int (bI ((0 ≤ x ∧ x ≤ M 516 9 - 1) ∧ 0 ≤ y ∧ y ≤ M 516 10 - 1)))) M L) : RX xs shL md_Mod_isCell 0 [.ref 516, .int x, .int y] [] M L Q := by
  refine L_Mod_isCell_0 ⟨fun c => ⟨fun c2 => ?_, fun c2 => ?_⟩, fun c => ?_⟩
  · rw [bI_t ⟨c, c2⟩] at h; exact h
  · rw [bI_f (fun q => c2 q.2)] at h; exact h
  · rw [bI_f (fun q => c q.1)] at h; exact h
theorem s_Mod_isCourse {a b c d : Int32} (h : Q (some (.int (bI (isVo a b c d)))) M L) : RX xs S md_Mod_isCourse 0 [.int a, .int b, .int c, .int d] [] M L Q := by
  refine L_Mod_isCourse_0 ⟨fun c1 => ⟨fun c2 => ⟨fun c3 => ⟨fun c4 => ?_, fun c4 => ?_⟩, fun c3 => ?_⟩, fun c2 => ?_⟩, fun c1 => ?_⟩
  · rw [bI_t ⟨c1, c2, c3, c4⟩] at h; exact h
  · rw [bI_f (fun q => c4 q.2.2.2)] at h; exact h
  · rw [bI_f (fun q => c3 q.2.2.1)] at h; exact h
  · rw [bI_f (fun q => c2 q.2.1)] at h; exact h
  · rw [bI_f (fun q => c1 q.1)] at h; exact h
theorem s_Voyage_isVoyage {a b c d : Int32} (h : Q (some (.int (bI (isVo a b c d)))) M L) : RX xs S md_Voyage_isVoyage 0 [.int a, .int b, .int c, .int d] [] M L Q := by
  refine L_Voyage_isVoyage_0 ⟨fun c1 => ⟨fun c2 => ⟨fun c3 => ⟨fun c4 => ?_, fun c4 => ?_⟩, fun c3 => ?_⟩, fun c2 => ?_⟩, fun c1 => ?_⟩
  · rw [bI_t ⟨c1, c2, c3, c4⟩] at h; exact h
  · rw [bI_f (fun q => c4 q.2.2.2)] at h; exact h
  · rw [bI_f (fun q => c3 q.2.2.1)] at h; exact h
  · rw [bI_f (fun q => c2 q.2.1)] at h; exact h
  · rw [bI_f (fun q => c1 q.1)] at h; exact h
theorem s_Words_turnOf {v : Int32} (h : Q (some (.int (trn v))) M L) : RX xs S md_Words_turnOf 0 [.int v] [] M L Q := by
  unfold trn at h
  refine L_Words_turnOf_0 ⟨fun c1 => ?_, fun c1 => ⟨fun c2 => ?_, fun c2 => ⟨fun c3 => ?_, fun c3 => ?_⟩⟩⟩
  · rw [if_pos c1] at h; exact h
  · rw [if_neg c1, if_pos c2] at h; exact h
  · rw [if_neg c1, if_neg c2, if_pos c3] at h; exact h
  · rw [if_neg c1, if_neg c2, if_neg c3] at h; exact h
theorem s_Mod_leewayOf {p w s : Int32} (h : Q (some (.int (lwA (angM p w) s))) M L) : RX xs S md_Mod_leewayOf 0 [.int p, .int w, .int s] [] M L Q := by
  have key : ∀ a, angM p w = a → ((s = 0 → Q (some (.int 0)) M L) ∧ (¬ s = 0 → ((6 ≤ a → ((8 ≤ a → ((12 ≤ a → Q (some (.int 0)) M L) ∧ (¬ 12 ≤ a → Q (some (.int (2 - s))) M L))) ∧ (¬ 8 ≤ a → Q (some (.int (3 - s))) M L))) ∧ (¬ 6 ≤ a → Q (some (.int (-1))) M L)))) := by
    rintro a rfl
    unfold lwA at h
    refine ⟨fun c1 => ?_, fun c1 => ⟨fun c2 => ⟨fun c3 => ⟨fun c4 => ?_, fun c4 => ?_⟩, fun c3 => ?_⟩, fun c2 => ?_⟩⟩
    · rw [if_pos c1] at h; exact h
    · rw [if_neg c1, if_pos c2, if_pos c3, if_pos c4] at h; exact h
    · rw [if_neg c1, if_pos c2, if_pos c3, if_neg c4] at h; exact h
    · rw [if_neg c1, if_pos c2, if_neg c3] at h; exact h
    · rw [if_neg c1, if_neg c2] at h; exact h
  exact L_Mod_leewayOf_0 ⟨fun c => key _ (if_pos c), fun c => key _ (if_neg c)⟩
end SF

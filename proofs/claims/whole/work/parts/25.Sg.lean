/-! the compass, and what a row does to a set -/
def nTb : List Int32 := [1000, 981, 924, 831, 707, 556, 383, 195, 0, -195, -383, -556, -707, -831, -924, -981, -1000, -981, -924, -831, -707, -556, -383, -195, 0, 195, 383, 556, 707, 831, 924, 981]
def nrt (p : Int32) : Int32 := nTb.getD p.toNatClampNeg 0
def tTb : List Int32 := [1000, 981, 924, 831, 707, 556, 383, 195, 0]
theorem roT2 (xs : List Int32) : roT xs 2 = tTb := rfl
theorem nrtC : ∀ p, p < 32 → ∀ a, a = imin (((0 : Int32) - nI p) &&& 31) (32 - (((0 : Int32) - nI p) &&& 31)) → vp_in (imin a (16 - a)) 9 ∧ (a ≤ 8 → tTb.getD (imin a (16 - a)).toNatClampNeg 0 = nrt (nI p)) ∧ (¬ a ≤ 8 → -(tTb.getD (imin a (16 - a)).toNatClampNeg 0) = nrt (nI p)) := by
  have h : ∀ p, p < 32 → (0 ≤ (imin (imin (((0 : Int32) - nI p) &&& 31) (32 - (((0 : Int32) - nI p) &&& 31))) (16 - (imin (((0 : Int32) - nI p) &&& 31) (32 - (((0 : Int32) - nI p) &&& 31))))).toInt ∧ (imin (imin (((0 : Int32) - nI p) &&& 31) (32 - (((0 : Int32) - nI p) &&& 31))) (16 - (imin (((0 : Int32) - nI p) &&& 31) (32 - (((0 : Int32) - nI p) &&& 31))))).toInt < 9) ∧ ((imin (((0 : Int32) - nI p) &&& 31) (32 - (((0 : Int32) - nI p) &&& 31))) ≤ 8 → tTb.getD (imin (imin (((0 : Int32) - nI p) &&& 31) (32 - (((0 : Int32) - nI p) &&& 31))) (16 - (imin (((0 : Int32) - nI p) &&& 31) (32 - (((0 : Int32) - nI p) &&& 31))))).toNatClampNeg 0 = nrt (nI p)) ∧ (¬ (imin (((0 : Int32) - nI p) &&& 31) (32 - (((0 : Int32) - nI p) &&& 31))) ≤ 8 → -(tTb.getD (imin (imin (((0 : Int32) - nI p) &&& 31) (32 - (((0 : Int32) - nI p) &&& 31))) (16 - (imin (((0 : Int32) - nI p) &&& 31) (32 - (((0 : Int32) - nI p) &&& 31))))).toNatClampNeg 0) = nrt (nI p)) := by decide +kernel
  intro p hp a ha
  subst ha
  obtain ⟨⟨h1, h2⟩, h3⟩ := h p hp
  exact ⟨vp_inI h1 h2, h3⟩
theorem pt_nI {p : Int32} (h : 0 ≤ p ∧ p ≤ 31) : ∃ k, k < 32 ∧ p = nI k := by
  rw [i_le, i_le] at h
  have h : (0 : Int) ≤ p.toInt ∧ p.toInt ≤ 31 := h
  exact ⟨p.toNatClampNeg, by have := clampI h.1; omega, nI_of_toInt (clampI h.1).symm⟩
section SG
variable {xs : List Int32} {S : List Shp} {M : Mem} {L : Int64} {Q : Option Value → Mem → Int64 → Prop}
theorem s_Compass_northOf {p : Int32} (hp : 0 ≤ p ∧ p ≤ 31) (h : Q (some (.int (nrt p))) M L) : RX xs S md_Compass_northOf 0 [.int p] [] M L Q := by
  obtain ⟨k, hk, rfl⟩ := pt_nI hp
  obtain ⟨h1, h2, h3⟩ := nrtC k hk _ rfl
  refine L_Compass_northOf_0 ⟨fun c => ⟨h1, ?_⟩, fun c => ⟨h1, ?_⟩⟩
  · rw [roT2, h2 c]; exact h
  · rw [roT2, h3 c]; exact h
def tabT (M : Mem) : Prop := ∀ k, k < 9 → M 518 k = tTb.getD k 0
theorem s_Mod_northOf {p : Int32} (hp : 0 ≤ p ∧ p ≤ 31) (hM : tabT M) (h : Q (some (.int (nrt p))) M L) : RX xs shL md_Mod_northOf 0 [.ref 516, .int p] [] M L Q := by
  obtain ⟨k, hk, rfl⟩ := pt_nI hp
  have h1a : ∀ k, k < 32 → nI k ≤ 16 → 8 < nI k → (0 ≤ (16 - nI k).toInt ∧ (16 - nI k).toInt < 9) ∧ -(tTb.getD (16 - nI k).toNatClampNeg 0) = nrt (nI k) := by decide +kernel
  have h1b : ∀ k, k < 32 → nI k ≤ 16 → ¬ 8 < nI k → (0 ≤ (nI k).toInt ∧ (nI k).toInt < 9) ∧ tTb.getD (nI k).toNatClampNeg 0 = nrt (nI k) := by decide +kernel
  have h1c : ∀ k, k < 32 → ¬ nI k ≤ 16 → 8 < 32 - nI k → (0 ≤ (16 - (32 - nI k)).toInt ∧ (16 - (32 - nI k)).toInt < 9) ∧ -(tTb.getD (16 - (32 - nI k)).toNatClampNeg 0) = nrt (nI k) := by decide +kernel
  have h1d : ∀ k, k < 32 → ¬ nI k ≤ 16 → ¬ 8 < 32 - nI k → (0 ≤ (32 - nI k).toInt ∧ (32 - nI k).toInt < 9) ∧ tTb.getD (32 - nI k).toNatClampNeg 0 = nrt (nI k) := by decide +kernel
  have rd : ∀ a : Int32, 0 ≤ a.toInt ∧ a.toInt < 9 → M 518 a.toNatClampNeg = tTb.getD a.toNatClampNeg 0 := fun a ha => hM _ (by have := clampI ha.1; omega)
  refine L_Mod_northOf_0 ⟨fun c => ⟨fun c2 => ?_, fun c2 => ?_⟩, fun c => ⟨fun c2 => ?_, fun c2 => ?_⟩⟩
  · obtain ⟨a, b⟩ := h1a k hk c c2
    refine ⟨vp_inI a.1 a.2, ?_⟩
    rw [rd _ a, b]; exact h
  · obtain ⟨a, b⟩ := h1b k hk c c2
    refine ⟨vp_inI a.1 a.2, ?_⟩
    rw [rd _ a, b]; exact h
  · obtain ⟨a, b⟩ := h1c k hk c c2
    refine ⟨vp_inI a.1 a.2, ?_⟩
    rw [rd _ a, b]; exact h
  · obtain ⟨a, b⟩ := h1d k hk c c2
    refine ⟨vp_inI a.1 a.2, ?_⟩
    rw [rd _ a, b]; exact h
theorem s_Mod_eastOf {p : Int32} (hp : 0 ≤ p ∧ p ≤ 31) (hM : tabT M) (h : Q (some (.int (nrt ((p + 24) &&& 31)))) M L) : RX xs shL md_Mod_eastOf 0 [.ref 516, .int p] [] M L Q := by
  obtain ⟨k, hk, rfl⟩ := pt_nI hp
  have h1 : ∀ k, k < 32 → (nI k + 24) - (nI k + 24) / 32 * 32 = (nI k + 24) &&& 31 ∧ 0 ≤ ((nI k + 24) &&& 31) ∧ ((nI k + 24) &&& 31) ≤ 31 := by decide +kernel
  obtain ⟨e1, e2⟩ := h1 k hk
  refine L_Mod_eastOf_0 ?_
  rw [e1]
  exact s_Mod_northOf e2 hM ⟨_, rfl, h⟩
theorem s_Compass_pointsFarther {p w s : Int32} (h : Q (some (.int (lwA (angC p w) s))) M L) : RX xs S md_Compass_pointsFarther 0 [.int p, .int w, .int s] [] M L Q := by
  unfold lwA at h
  refine L_Compass_pointsFarther_0 ⟨fun c1 => ?_, fun c1 => ⟨fun c2 => ⟨fun c3 => ⟨fun c4 => ?_, fun c4 => ?_⟩, fun c3 => ?_⟩, fun c2 => ?_⟩⟩
  · rw [if_pos c1] at h; exact h
  · rw [if_neg c1, if_pos (show 6 ≤ angC p w from c2), if_pos (show 8 ≤ angC p w from c3), if_pos (show 12 ≤ angC p w from c4)] at h; exact h
  · rw [if_neg c1, if_pos (show 6 ≤ angC p w from c2), if_pos (show 8 ≤ angC p w from c3), if_neg (show ¬ 12 ≤ angC p w from c4)] at h; exact h
  · rw [if_neg c1, if_pos (show 6 ≤ angC p w from c2), if_neg (show ¬ 8 ≤ angC p w from c3)] at h; exact h
  · rw [if_neg c1, if_neg (show ¬ 6 ≤ angC p w from c2)] at h; exact h
/-- the chart's sides -/
def CH (M : Mem) (w h : Nat) : Prop := M 126 4 = nI w ∧ M 126 5 = nI h ∧ 4 ≤ w ∧ w ≤ 20 ∧ 4 ≤ h ∧ h ≤ 20
def inC (w h : Nat) (A : Nat → Nat → Bool) : Prop := ∀ x y, y < 20 → A x y = true → x < w ∧ y < h
noncomputable def rchA (w h : Nat) (A : Nat → Nat → Bool) (W E So No : Int) (x y : Nat) : Bool := bB (rchP w h A W E So No h x y)
theorem rchA_in {w h : Nat} {A : Nat → Nat → Bool} {W E So No : Int} {x y : Nat} (q : rchA w h A W E So No x y = true) : x < w ∧ y < h := by
  have := bB_iff.mp q
  exact ⟨this.1, this.2.1⟩
theorem t_cut {t p q : Nat} (ht : t < 40) (hp : isP shL p) (hq : isP shL q) (n1 : 136 + 5 * t + 3 ≠ q) {c : Int32} (h : Q none (setP M q (fun x y => gp M p x y && (bB (c = 0) || gp M (136 + 5 * t + 3) x y))) L) : RX xs shL md_Row_cut 0 [.ref (136 + 5 * t), .int c, .ref p, .ref q] [] M L Q := by
  refine L_Row_cut_0 ht hp hq ⟨fun c1 => ?_, fun c1 => ?_⟩
  · rw [cpR_setP, setP_congr M q (g := fun x y => gp M p x y && (bB (c = 0) || gp M (136 + 5 * t + 3) x y)) (fun y _ x _ => by rw [bB_t c1]; simp)]
    exact h
  · have e : rowN (cpR M (q + 1) (p + 1) 20) (q + 1) 20 (fun y => (cpR M (q + 1) (p + 1) 20) (q + 1) y &&& (cpR M (q + 1) (p + 1) 20) ((136 + 5 * t + 3) + 1) y) = setP M q (fun x y => gp M p x y && (bB (c = 0) || gp M (136 + 5 * t + 3) x y)) := by
      rw [rowN_setP, cpR_setP, setP_set]
      refine setP_congr M q fun y hy x hx => ?_
      rw [b_and]
      have e1 : bt (setP M q (gp M p) (q + 1) y) x = gp M p x y := gp_set M q _ hx hy
      have e2 : bt (setP M q (gp M p) (136 + 5 * t + 3 + 1) y) x = gp M (136 + 5 * t + 3) x y := gp_setO M _ n1 x y
      rw [e1, e2, bB_f c1]; rfl
    rw [e]; exact h
/-- a row of a watch takes a set on -/
theorem t_takeOnW {t p q w h : Nat} (ht : t < 40) (hp : isP shL p) (hq : isP shL q) (npq : p ≠ q) (n128 : 128 ≠ q) {c : Int32} (hch : CH M w h) (hin : inC w h (gp M p)) (hw : ¬ M (136 + 5 * t) 3 = -1) {W E So No : Int}
    (h0 : (M (136 + 5 * t + if c = 0 then 2 else 1) 0).toInt = W) (h1 : (M (136 + 5 * t + if c = 0 then 2 else 1) 1).toInt = E) (h2 : (M (136 + 5 * t + if c = 0 then 2 else 1) 2).toInt = So) (h3 : (M (136 + 5 * t + if c = 0 then 2 else 1) 3).toInt = No)
    (b1 : -1000000 ≤ So) (b2 : So ≤ 1000000) (b3 : -1000000 ≤ No) (b4 : No ≤ 1000000)
    (hQ : Q none (setP M q (fun x y => rchA w h (gp M p) W E So No x y && gp M 128 x y)) L) : RX xs shL md_Row_takeOn 0 [.ref (136 + 5 * t), .int c, .ref p, .ref q, .ref 126] [] M L Q := by
  obtain ⟨c1, c2, c3, c4, c5, c6⟩ := hch
  have fin : Q none (setP (setP M q (fun x y => bB (rchP w h (gp M p) W E So No h x y))) q (fun x y => gp (setP M q (fun x y => bB (rchP w h (gp M p) W E So No h x y))) q x y && gp (setP M q (fun x y => bB (rchP w h (gp M p) W E So No h x y))) 128 x y)) L := by
    rw [setP_set, setP_congr M q (g := fun x y => rchA w h (gp M p) W E So No x y && gp M 128 x y) (fun y hy x hx => by rw [gp_set M q _ hx hy, gp_setO M _ n128]; rfl)]
    exact hQ
  refine L_Row_takeOn_0 ht hp hq ⟨fun _ => ⟨fun e => ?_, fun e => ?_⟩, fun q => absurd hw q⟩
  · rw [if_pos e] at h0 h1 h2 h3
    refine t_reach hq hp npq c1 c2 (by omega) c4 c6 (by omega) (by omega) (by omega) (by omega) hin ⟨rfl, ?_⟩
    rw [h0, h1, h2, h3]; exact fin
  · rw [if_neg e] at h0 h1 h2 h3
    refine t_reach hq hp npq c1 c2 (by omega) c4 c6 (by omega) (by omega) (by omega) (by omega) hin ⟨rfl, ?_⟩
    rw [h0, h1, h2, h3]; exact fin
theorem t_takeOnS {t p q : Nat} (ht : t < 40) (hp : isP shL p) (hq : isP shL q) (n1 : 136 + 5 * t + 3 ≠ q) {c : Int32} (hw : M (136 + 5 * t) 3 = -1) (h : Q none (setP M q (fun x y => gp M p x y && (bB (c = 0) || gp M (136 + 5 * t + 3) x y))) L) : RX xs shL md_Row_takeOn 0 [.ref (136 + 5 * t), .int c, .ref p, .ref q, .ref 126] [] M L Q :=
  L_Row_takeOn_0 ht hp hq ⟨fun q => absurd hw q, fun _ => t_cut ht hp hq n1 ⟨rfl, h⟩⟩
theorem t_takeBackS {t p q : Nat} (ht : t < 40) (hp : isP shL p) (hq : isP shL q) (n1 : 136 + 5 * t + 3 ≠ q) (hw : M (136 + 5 * t) 3 = -1) (h : Q none (setP M q (fun x y => gp M p x y && (bB (M (136 + 5 * t) 7 = 0) || gp M (136 + 5 * t + 3) x y))) L) : RX xs shL md_Row_takeBack 0 [.ref (136 + 5 * t), .ref p, .ref q, .ref 126] [] M L Q :=
  L_Row_takeBack_0 ht hp hq ⟨fun q => absurd hw q, fun _ => t_cut ht hp hq n1 ⟨rfl, h⟩⟩
theorem t_takeBackW {t p q w h : Nat} (ht : t < 40) (hp : isP shL p) (hq : isP shL q) (npq : p ≠ q) (n128 : 128 ≠ q) (hch : CH M w h) (hin : inC w h (gp M p)) (hw : ¬ M (136 + 5 * t) 3 = -1) {W E So No : Int}
    (h0 : (M (136 + 5 * t + if M (136 + 5 * t) 7 = 0 then 2 else 1) 0).toInt = W) (h1 : (M (136 + 5 * t + if M (136 + 5 * t) 7 = 0 then 2 else 1) 1).toInt = E) (h2 : (M (136 + 5 * t + if M (136 + 5 * t) 7 = 0 then 2 else 1) 2).toInt = So) (h3 : (M (136 + 5 * t + if M (136 + 5 * t) 7 = 0 then 2 else 1) 3).toInt = No)
    (b1 : -1000000 ≤ So) (b2 : So ≤ 1000000) (b3 : -1000000 ≤ No) (b4 : No ≤ 1000000) (b5 : -1000000 ≤ W) (b6 : W ≤ 1000000) (b7 : -1000000 ≤ E) (b8 : E ≤ 1000000)
    (hQ : Q none (setP M q (fun x y => rchA w h (gp M p) (-E) (-W) (-No) (-So) x y && gp M 128 x y)) L) : RX xs shL md_Row_takeBack 0 [.ref (136 + 5 * t), .ref p, .ref q, .ref 126] [] M L Q := by
  obtain ⟨c1, c2, c3, c4, c5, c6⟩ := hch
  have fin : Q none (setP (setP M q (fun x y => bB (rchP w h (gp M p) (-E) (-W) (-No) (-So) h x y))) q (fun x y => gp (setP M q (fun x y => bB (rchP w h (gp M p) (-E) (-W) (-No) (-So) h x y))) q x y && gp (setP M q (fun x y => bB (rchP w h (gp M p) (-E) (-W) (-No) (-So) h x y))) 128 x y)) L := by
    rw [setP_set, setP_congr M q (g := fun x y => rchA w h (gp M p) (-E) (-W) (-No) (-So) x y && gp M 128 x y) (fun y hy x hx => by rw [gp_set M q _ hx hy, gp_setO M _ n128]; rfl)]
    exact hQ
  have ng : ∀ a : Int32, -1000000 ≤ a.toInt → (-a).toInt = -a.toInt := fun a ha => i_neg (by omega)
  refine L_Row_takeBack_0 ht hp hq ⟨fun _ => ⟨fun e => ?_, fun e => ?_⟩, fun q => absurd hw q⟩
  · rw [if_pos e] at h0 h1 h2 h3
    have n0 := ng _ (by rw [h0]; exact b5)
    have n1 := ng _ (by rw [h1]; exact b7)
    have n2 := ng _ (by rw [h2]; exact b1)
    have n3 := ng _ (by rw [h3]; exact b3)
    refine t_reach hq hp npq c1 c2 (by omega) c4 c6 (by omega) (by omega) (by omega) (by omega) hin ⟨rfl, ?_⟩
    rw [n0, n1, n2, n3, h0, h1, h2, h3]; exact fin
  · rw [if_neg e] at h0 h1 h2 h3
    have n0 := ng _ (by rw [h0]; exact b5)
    have n1 := ng _ (by rw [h1]; exact b7)
    have n2 := ng _ (by rw [h2]; exact b1)
    have n3 := ng _ (by rw [h3]; exact b3)
    refine t_reach hq hp npq c1 c2 (by omega) c4 c6 (by omega) (by omega) (by omega) (by omega) hin ⟨rfl, ?_⟩
    rw [n0, n1, n2, n3, h0, h1, h2, h3]; exact fin
end SG
theorem s_Compass_eastOf {xs : List Int32} {S : List Shp} {M : Mem} {L : Int64} {Q : Option Value → Mem → Int64 → Prop} {p : Int32} (hp : 0 ≤ p ∧ p ≤ 31) (h : Q (some (.int (nrt ((p + 24) &&& 31)))) M L) : RX xs S md_Compass_eastOf 0 [.int p] [] M L Q := by
  obtain ⟨k, hk, rfl⟩ := pt_nI hp
  have h1 : ∀ k, k < 32 → (nI k + (-8)) &&& 31 = (nI k + 24) &&& 31 ∧ 0 ≤ ((nI k + 24) &&& 31) ∧ ((nI k + 24) &&& 31) ≤ 31 := by decide +kernel
  obtain ⟨e1, e2⟩ := h1 k hk
  refine L_Compass_eastOf_0 ?_
  rw [e1]
  exact s_Compass_northOf e2 ⟨_, rfl, h⟩
def fld (a : Int64) (b : Int32) : Int64 := 31 * a + b.toInt64
theorem s_Peg_fld {xs : List Int32} {S : List Shp} {M : Mem} {L : Int64} {Q : Option Value → Mem → Int64 → Prop} {a : Int64} {b : Int32} (h : Q (some (.long (fld a b))) M L) : RX xs S md_Peg_fold 0 [.long a, .null, .int b] [] M L Q := s_Peg_fold h

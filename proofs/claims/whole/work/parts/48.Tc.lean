/-! how many bits -/
def bs (f : Nat → Bool) : Nat → Nat
  | 0 => 0
  | n + 1 => bs f n + (if f n then 1 else 0)
theorem bs_congr {f g : Nat → Bool} {n : Nat} (h : ∀ i, i < n → f i = g i) : bs f n = bs g n := by
  induction n with
  | zero => rfl
  | succ n ih => simp only [bs]; rw [ih (fun i hi => h i (by omega)), h n (by omega)]
theorem bs_add (f : Nat → Bool) (m n : Nat) : bs f (m + n) = bs f m + bs (fun i => f (m + i)) n := by
  induction n with
  | zero => rfl
  | succ n ih => rw [← Nat.add_assoc]; simp only [bs]; rw [ih]; omega
theorem bs_0 {f : Nat → Bool} {n : Nat} (h : ∀ i, i < n → f i = false) : bs f n = 0 := by
  induction n with
  | zero => rfl
  | succ n ih => simp only [bs]; rw [ih (fun i hi => h i (by omega)), h n (by omega)]; rfl
def cat3 (a b c : Nat) : Nat := a + 256 * (b + 256 * c)
theorem and256 {a m B N : Nat} (ha : a < 256) (hm : m < 256) : (a + 256 * B) &&& (m + 256 * N) = (a &&& m) + 256 * (B &&& N) := by
  apply Nat.eq_of_testBit_eq
  intro i
  have hx : a &&& m < 2 ^ 8 := Nat.and_lt_two_pow _ (by omega)
  have e1 : a + 256 * B = 2 ^ 8 * B + a := by omega
  have e2 : m + 256 * N = 2 ^ 8 * N + m := by omega
  have e3 : (a &&& m) + 256 * (B &&& N) = 2 ^ 8 * (B &&& N) + (a &&& m) := by omega
  rw [e1, e2, e3, Nat.testBit_and, Nat.testBit_two_pow_mul_add _ (by omega), Nat.testBit_two_pow_mul_add _ (by omega), Nat.testBit_two_pow_mul_add _ hx]
  split
  · rw [Nat.testBit_and]
  · rw [Nat.testBit_and]
theorem and3 {a b c m n o : Nat} (ha : a < 256) (hb : b < 256) (hm : m < 256) (hn : n < 256) : cat3 a b c &&& cat3 m n o = cat3 (a &&& m) (b &&& n) (c &&& o) := by
  unfold cat3
  rw [and256 ha hm, and256 hb hn]
def g1 (a : Nat) : Nat := a - ((a / 2) &&& 85)
def g2 (a : Nat) : Nat := (g1 a &&& 51) + ((g1 a / 4) &&& 51)
def g3 (a : Nat) : Nat := (g2 a + g2 a / 16) % 16
theorem g_1 : ∀ a, a < 256 → ∀ e, e < 2 → (a / 2 + 128 * e) &&& 85 = (a / 2) &&& 85 := by
  have h : (List.range 256).all (fun a => (List.range 2).all fun e => (a / 2 + 128 * e) &&& 85 == (a / 2) &&& 85) = true := by decide +kernel
  intro a ha e he
  simpa using List.all_eq_true.mp (List.all_eq_true.mp h a (List.mem_range.mpr ha)) e (List.mem_range.mpr he)
theorem g_2 : ∀ a, a < 256 → ∀ e, e < 4 → (a / 4 + 64 * e) &&& 51 = (a / 4) &&& 51 := by
  have h : (List.range 256).all (fun a => (List.range 4).all fun e => (a / 4 + 64 * e) &&& 51 == (a / 4) &&& 51) = true := by decide +kernel
  intro a ha e he
  simpa using List.all_eq_true.mp (List.all_eq_true.mp h a (List.mem_range.mpr ha)) e (List.mem_range.mpr he)
theorem g_f : ∀ a, a < 256 → ((a / 2) &&& 85) ≤ a ∧ g1 a < 256 ∧ g2 a ≤ 68 ∧ g2 a % 16 ≤ 4 ∧ g3 a = bs a.testBit 8 ∧ g3 a ≤ 8 := by
  have h : (List.range 256).all (fun a => decide (((a / 2) &&& 85) ≤ a ∧ g1 a < 256 ∧ g2 a ≤ 68 ∧ g2 a % 16 ≤ 4 ∧ g3 a = bs a.testBit 8 ∧ g3 a ≤ 8)) = true := by decide +kernel
  intro a ha
  simpa using List.all_eq_true.mp h a (List.mem_range.mpr ha)
theorem ush_nI {k j : Nat} (hk : k < 4294967296) (hj : j < 32) : ((nI k).toUInt32 >>> ((nI j).toUInt32 &&& Int32.toUInt32 31)).toInt32 = nI (k / 2 ^ j) := by
  have hs : k / 2 ^ j ≤ k := Nat.div_le_self _ _
  have e2 : UInt32.ofNat k >>> (UInt32.ofNat j &&& Int32.toUInt32 31) = UInt32.ofNat (k / 2 ^ j) := by
    apply UInt32.toNat_inj.1
    have h1 : (UInt32.ofNat k).toNat = k := Nat.mod_eq_of_lt (by omega)
    have h2 : (UInt32.ofNat (k / 2 ^ j)).toNat = k / 2 ^ j := Nat.mod_eq_of_lt (by omega)
    rw [UInt32.toNat_shiftRight, nx_cnt ⟨j, hj⟩, h1, h2, Nat.shiftRight_eq_div_pow]
  show (UInt32.ofNat k >>> (UInt32.ofNat j &&& Int32.toUInt32 31)).toInt32 = _
  rw [e2]
  rfl
theorem nI_subN {a b : Nat} (h : b ≤ a) : nI a - nI b = nI (a - b) := by
  have : nI (a - b) + nI b = nI a := by rw [nI_add]; congr 1; omega
  rw [← this, Int32.add_sub_cancel]
def q1 (x : Int32) : Int32 := x - ((x.toUInt32 >>> ((1 : Int32).toUInt32 &&& Int32.toUInt32 31)).toInt32 &&& 1431655765)
def q2 (x : Int32) : Int32 := (x &&& 858993459) + ((x.toUInt32 >>> ((2 : Int32).toUInt32 &&& Int32.toUInt32 31)).toInt32 &&& 858993459)
def q3 (x : Int32) : Int32 := (x + (x.toUInt32 >>> ((4 : Int32).toUInt32 &&& Int32.toUInt32 31)).toInt32) &&& 252645135
def q4 (x : Int32) : Int32 := x + (x.toUInt32 >>> ((8 : Int32).toUInt32 &&& Int32.toUInt32 31)).toInt32
def q5 (x : Int32) : Int32 := (x + (x.toUInt32 >>> ((16 : Int32).toUInt32 &&& Int32.toUInt32 31)).toInt32) &&& 63
theorem cat3_lt {a b c : Nat} (ha : a < 256) (hb : b < 256) (hc : c < 256) : cat3 a b c < 16777216 := by unfold cat3; omega
theorem q1_c {a b c : Nat} (ha : a < 256) (hb : b < 256) (hc : c < 256) : q1 (nI (cat3 a b c)) = nI (cat3 (g1 a) (g1 b) (g1 c)) := by
  have hl := cat3_lt ha hb hc
  unfold q1
  rw [show (1 : Int32) = nI 1 from rfl, ush_nI (by omega) (by decide), show (1431655765 : Int32) = nI (cat3 85 85 (85 + 256 * 85)) from rfl, nx_and]
  have e : cat3 a b c / 2 ^ 1 = cat3 (a / 2 + 128 * (b % 2)) (b / 2 + 128 * (c % 2)) (c / 2) := by unfold cat3; omega
  rw [e, and3 (by omega) (by omega) (by decide) (by decide), g_1 a ha _ (by omega), g_1 b hb _ (by omega)]
  have e3 : (c / 2) &&& (85 + 256 * 85) = (c / 2) &&& 85 := by
    have := and256 (a := c / 2) (m := 85) (B := 0) (N := 85) (by omega) (by decide)
    rw [show c / 2 + 256 * 0 = c / 2 from rfl, Nat.zero_and] at this
    exact this
  have h1 := (g_f a ha).1
  have h2 := (g_f b hb).1
  have h3 := (g_f c hc).1
  rw [e3, nI_subN (by unfold cat3; omega)]
  congr 1
  unfold cat3 g1
  omega
theorem q2_c {a b c : Nat} (ha : a < 256) (hb : b < 256) (hc : c < 256) : q2 (nI (cat3 (g1 a) (g1 b) (g1 c))) = nI (cat3 (g2 a) (g2 b) (g2 c)) := by
  have h1 := (g_f a ha).2.1
  have h2 := (g_f b hb).2.1
  have h3 := (g_f c hc).2.1
  have hl := cat3_lt h1 h2 h3
  unfold q2
  rw [show (2 : Int32) = nI 2 from rfl, ush_nI (by omega) (by decide), show (858993459 : Int32) = nI (cat3 51 51 (51 + 256 * 51)) from rfl, nx_and, nx_and]
  have e : cat3 (g1 a) (g1 b) (g1 c) / 2 ^ 2 = cat3 (g1 a / 4 + 64 * (g1 b % 4)) (g1 b / 4 + 64 * (g1 c % 4)) (g1 c / 4) := by unfold cat3; omega
  have e3 : ∀ z, z < 256 → z &&& (51 + 256 * 51) = z &&& 51 := fun z hz => by
    have := and256 (a := z) (m := 51) (B := 0) (N := 51) hz (by decide)
    rw [show z + 256 * 0 = z from rfl, Nat.zero_and] at this
    exact this
  rw [e, and3 (by omega) (by omega) (by decide) (by decide), and3 (by omega) (by omega) (by decide) (by decide), g_2 _ h1 _ (by omega), g_2 _ h2 _ (by omega), e3 _ h3, e3 _ (by omega), nI_add]
  congr 1
  unfold cat3 g2
  omega
theorem and15 (x : Nat) : x &&& 15 = x % 16 := Nat.and_two_pow_sub_one_eq_mod x 4
theorem q3_c {a b c : Nat} (ha : a < 256) (hb : b < 256) (hc : c < 256) : q3 (nI (cat3 (g2 a) (g2 b) (g2 c))) = nI (cat3 (g3 a) (g3 b) (g3 c)) := by
  obtain ⟨-, -, a1, a2, -⟩ := g_f a ha
  obtain ⟨-, -, b1, b2, -⟩ := g_f b hb
  obtain ⟨-, -, c1, c2, -⟩ := g_f c hc
  have hl := cat3_lt (a := g2 a) (b := g2 b) (c := g2 c) (by omega) (by omega) (by omega)
  unfold q3
  rw [show (4 : Int32) = nI 4 from rfl, ush_nI (by omega) (by decide), show (252645135 : Int32) = nI (cat3 15 15 (15 + 256 * 15)) from rfl, nI_add, nx_and]
  have e : cat3 (g2 a) (g2 b) (g2 c) + cat3 (g2 a) (g2 b) (g2 c) / 2 ^ 4 = cat3 (g2 a + (g2 a / 16 + 16 * (g2 b % 16))) (g2 b + (g2 b / 16 + 16 * (g2 c % 16))) (g2 c + g2 c / 16) := by unfold cat3; omega
  have e3 : ∀ z, z < 256 → z &&& (15 + 256 * 15) = z &&& 15 := fun z hz => by
    have := and256 (a := z) (m := 15) (B := 0) (N := 15) hz (by decide)
    rw [show z + 256 * 0 = z from rfl, Nat.zero_and] at this
    exact this
  rw [e, and3 (by omega) (by omega) (by decide) (by decide), e3 _ (by omega), and15, and15, and15]
  congr 1
  unfold cat3 g3
  omega
theorem q45_c {a b c : Nat} (ha : a ≤ 8) (hb : b ≤ 8) (hc : c ≤ 8) : q5 (q4 (nI (cat3 a b c))) = nI (a + b + c) := by
  have hl := cat3_lt (a := a) (b := b) (c := c) (by omega) (by omega) (by omega)
  unfold q4 q5
  rw [show (8 : Int32) = nI 8 from rfl, ush_nI (by omega) (by decide), nI_add]
  have e : cat3 a b c + cat3 a b c / 2 ^ 8 = cat3 (a + b) (b + c) c := by unfold cat3; omega
  have hl2 := cat3_lt (a := a + b) (b := b + c) (c := c) (by omega) (by omega) (by omega)
  rw [e, show (16 : Int32) = nI 16 from rfl, ush_nI (by omega) (by decide), nI_add, show (63 : Int32) = nI 63 from rfl, nx_and]
  have e2 : cat3 (a + b) (b + c) c + cat3 (a + b) (b + c) c / 2 ^ 16 = cat3 (a + b + c) (b + c) c := by unfold cat3; omega
  rw [e2, show (63 : Nat) = 2 ^ 6 - 1 from rfl, Nat.and_two_pow_sub_one_eq_mod]
  congr 1
  unfold cat3
  omega
theorem pop20 {r : Nat} (h : r < 1048576) : q5 (q4 (q3 (q2 (q1 (nI r))))) = nI (bs r.testBit 20) := by
  have e : r = cat3 (r % 256) (r / 256 % 256) (r / 65536) := by unfold cat3; omega
  have ha : r % 256 < 256 := by omega
  have hb : r / 256 % 256 < 256 := by omega
  have hc : r / 65536 < 256 := by omega
  obtain ⟨-, -, -, -, a1, a2⟩ := g_f _ ha
  obtain ⟨-, -, -, -, b1, b2⟩ := g_f _ hb
  obtain ⟨-, -, -, -, c1, c2⟩ := g_f _ hc
  have e2 : q5 (q4 (q3 (q2 (q1 (nI r))))) = nI (g3 (r % 256) + g3 (r / 256 % 256) + g3 (r / 65536)) := by
    conv => lhs; rw [e]
    rw [q1_c ha hb hc, q2_c ha hb hc, q3_c ha hb hc, q45_c a2 b2 c2]
  rw [e2, a1, b1, c1]
  congr 1
  rw [show (20 : Nat) = 8 + (8 + 4) from rfl, bs_add, bs_add]
  have p1 : bs (r % 256).testBit 8 = bs r.testBit 8 := bs_congr fun i hi => by
    rw [show (256 : Nat) = 2 ^ 8 from rfl, Nat.testBit_mod_two_pow]; simp [hi]
  have p2 : bs (r / 256 % 256).testBit 8 = bs (fun i => r.testBit (8 + i)) 8 := bs_congr fun i hi => by
    rw [show (256 : Nat) = 2 ^ 8 from rfl, Nat.testBit_mod_two_pow, Nat.testBit_div_two_pow]; simp [hi, Nat.add_comm]
  have p3 : bs (r / 65536).testBit 8 = bs (fun i => r.testBit (8 + (8 + i))) 4 := by
    rw [show (8 : Nat) = 4 + 4 from rfl, bs_add, bs_0 (n := 4) (f := fun i => (r / 65536).testBit (4 + i)) (fun i hi => ?_), Nat.add_zero]
    · exact bs_congr fun i hi => by
        rw [show (65536 : Nat) = 2 ^ 16 from rfl, Nat.testBit_div_two_pow]; congr 1; omega
    · apply Nat.testBit_lt_two_pow
      have : 2 ^ 4 ≤ 2 ^ (4 + i) := Nat.pow_le_pow_right (by decide) (by omega)
      omega
  rw [p1, p2, p3]
  omega

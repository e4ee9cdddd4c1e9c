/-! NUMBERS: ints of the machine that are small naturals; comparisons of eighths. Nothing here speaks of the class. -/
theorem i_of {n : Nat} (h : n < 2147483648) : (Int32.ofNat n).toNatClampNeg = n := Int32.toNatClampNeg_ofNat_of_lt h
theorem i_int {n : Nat} (h : n < 2147483648) : (Int32.ofNat n).toInt = n := Int32.toInt_ofNat_of_lt h
theorem i_nn {n : Nat} (h : n < 2147483648) : ¬ Int32.ofNat n < 0 := by
  rw [Int32.lt_iff_toInt_lt, i_int h]
  simp
theorem i_in {n N : Nat} (h : n < N) (hN : N < 2147483648) : vp_in (Int32.ofNat n) N := by
  unfold vp_in
  rw [i_of (Nat.lt_trans h hN)]
  rintro (h1 | h1)
  · exact i_nn (Nat.lt_trans h hN) h1
  · omega
theorem i_le {a b : Nat} (ha : a < 2147483648) (hb : b < 2147483648) : Int32.ofNat a ≤ Int32.ofNat b ↔ a ≤ b := by
  rw [Int32.le_iff_toInt_le, i_int ha, i_int hb]; omega
theorem i_lt {a b : Nat} (ha : a < 2147483648) (hb : b < 2147483648) : Int32.ofNat a < Int32.ofNat b ↔ a < b := by
  rw [Int32.lt_iff_toInt_lt, i_int ha, i_int hb]; omega
theorem i_eq {a b : Nat} (ha : a < 2147483648) (hb : b < 2147483648) : Int32.ofNat a = Int32.ofNat b ↔ a = b := by
  rw [← Int32.toInt_inj, i_int ha, i_int hb]; omega
theorem i_add (a b : Nat) : Int32.ofNat a + Int32.ofNat b = Int32.ofNat (a + b) := (Int32.ofNat_add a b).symm
theorem i_succ (a : Nat) : Int32.ofNat a + 1 = Int32.ofNat (a + 1) := (Int32.ofNat_add a 1).symm
theorem i_six (a : Nat) : 6 * Int32.ofNat a = Int32.ofNat (6 * a) := (Int32.ofNat_mul 6 a).symm
theorem i_xvi (a : Nat) : 16 * Int32.ofNat a = Int32.ofNat (16 * a) := (Int32.ofNat_mul 16 a).symm
theorem i_pred {a : Nat} (h : 0 < a) : Int32.ofNat a - 1 = Int32.ofNat (a - 1) := (Int32.ofNat_sub a 1 h).symm
theorem i_down {a : Nat} (h : 0 < a) : Int32.ofNat a + (-1) = Int32.ofNat (a - 1) := by
  rw [← i_pred h, Int32.sub_eq_add_neg]
theorem i_sub {a b : Nat} (h : b ≤ a) : Int32.ofNat a - Int32.ofNat b = Int32.ofNat (a - b) := (Int32.ofNat_sub a b h).symm
/-- every int that isn't negative is a natural number -/
theorem i_nat {x : Int32} (h : ¬ x < 0) : ∃ n : Nat, n < 2147483648 ∧ x = Int32.ofNat n := by
  refine ⟨x.toInt.toNat, ?_, ?_⟩
  · have := Int32.toInt_lt x
    omega
  · rw [Int32.lt_iff_toInt_lt, Int32.toInt_zero] at h
    rw [← Int32.toInt_inj, i_int (by have := Int32.toInt_lt x; omega)]
    omega
/-- an int between 0 and n -/
theorem i_rng {x : Int32} {n : Nat} (hn : n < 2147483648) (h0 : ¬ x < 0) (h1 : x < Int32.ofNat n) : ∃ k : Nat, k < n ∧ x = Int32.ofNat k := by
  obtain ⟨k, hk, rfl⟩ := i_nat h0
  exact ⟨k, (i_lt hk hn).mp h1, rfl⟩
/-- no thread, no channel: -1 -/
def oi (r : Option Nat) : Int32 := match r with
  | none => -1
  | some t => Int32.ofNat t
/-- blocked or not -/
def ob (r : Option Nat) : Int32 := match r with
  | none => 0
  | some _ => 1
theorem oi_n : oi none = -1 := rfl
theorem oi_s (t : Nat) : oi (some t) = Int32.ofNat t := rfl
theorem ob_n : ob none = 0 := rfl
theorem ob_s (t : Nat) : ob (some t) = 1 := rfl
/-! comparisons of doubles that are whole eighths -/
theorem cv_lt {a b : Int} {o : CmpOp} : Op.cmpValue (some (compare a b)) o < 0 ↔ a < b := by
  rcases Int.lt_trichotomy a b with h | h | h
  · rw [show compare a b = .lt from Int.compare_eq_lt.mpr h]; simp [Op.cmpValue, h]
  · subst h; rw [show compare a a = .eq from Int.compare_eq_eq.mpr rfl]; simp [Op.cmpValue]
  · rw [show compare a b = .gt from Int.compare_eq_gt.mpr h]
    have : ¬ a < b := by omega
    simp only [this, iff_false]; cases o <;> decide
theorem cv_gt {a b : Int} {o : CmpOp} : 0 < Op.cmpValue (some (compare a b)) o ↔ b < a := by
  rcases Int.lt_trichotomy a b with h | h | h
  · rw [show compare a b = .lt from Int.compare_eq_lt.mpr h]
    have : ¬ b < a := by omega
    simp only [this, iff_false]; cases o <;> decide
  · subst h; rw [show compare a a = .eq from Int.compare_eq_eq.mpr rfl]; simp [Op.cmpValue]
  · rw [show compare a b = .gt from Int.compare_eq_gt.mpr h]; simp only [h, iff_true]; cases o <;> decide
theorem cv_eq {a b : Int} {o : CmpOp} : Op.cmpValue (some (compare a b)) o = 0 ↔ a = b := by
  rcases Int.lt_trichotomy a b with h | h | h
  · rw [show compare a b = .lt from Int.compare_eq_lt.mpr h]
    have : ¬ a = b := by omega
    simp only [this, iff_false]; cases o <;> decide
  · subst h; rw [show compare a a = .eq from Int.compare_eq_eq.mpr rfl]; simp [Op.cmpValue]
  · rw [show compare a b = .gt from Int.compare_eq_gt.mpr h]
    have : ¬ a = b := by omega
    simp only [this, iff_false]; cases o <;> decide
theorem cv_le {a b : Int} {o : CmpOp} : Op.cmpValue (some (compare a b)) o ≤ 0 ↔ a ≤ b := by
  have h := cv_gt (a := a) (b := b) (o := o)
  rw [← Int32.not_lt, h]; omega
theorem cv_ge {a b : Int} {o : CmpOp} : 0 ≤ Op.cmpValue (some (compare a b)) o ↔ b ≤ a := by
  have h := cv_lt (a := a) (b := b) (o := o)
  rw [← Int32.not_lt, h]; omega
theorem e_lt {x y : UInt64} {a b : Int} {o : CmpOp} (hx : e8 x a) (hy : e8 y b) : Op.cmpValue (FP.dcmp x y) o < 0 ↔ a < b := by rw [e8_cmp hx hy]; exact cv_lt
theorem e_gt {x y : UInt64} {a b : Int} {o : CmpOp} (hx : e8 x a) (hy : e8 y b) : 0 < Op.cmpValue (FP.dcmp x y) o ↔ b < a := by rw [e8_cmp hx hy]; exact cv_gt
theorem e_eq {x y : UInt64} {a b : Int} {o : CmpOp} (hx : e8 x a) (hy : e8 y b) : Op.cmpValue (FP.dcmp x y) o = 0 ↔ a = b := by rw [e8_cmp hx hy]; exact cv_eq
theorem e_le {x y : UInt64} {a b : Int} {o : CmpOp} (hx : e8 x a) (hy : e8 y b) : Op.cmpValue (FP.dcmp x y) o ≤ 0 ↔ a ≤ b := by rw [e8_cmp hx hy]; exact cv_le
theorem e_ge {x y : UInt64} {a b : Int} {o : CmpOp} (hx : e8 x a) (hy : e8 y b) : 0 ≤ Op.cmpValue (FP.dcmp x y) o ↔ b ≤ a := by rw [e8_cmp hx hy]; exact cv_ge
/-- the double x is k eighths; where k isn't below 0, its sign bit is clear -/
def q8 (x : UInt64) (k : Int) : Prop := e8 x k ∧ (0 ≤ k → x.toNat < 2 ^ 63)
theorem q8_p {x : UInt64} {k : Int} (h : q8 x k) (h0 : 0 ≤ k) : p8 x k.toNat := ⟨by rw [Int.toNat_of_nonneg h0]; exact h.1, h.2 h0⟩
theorem q8_of {x : UInt64} {k : Nat} (h : p8 x k) : q8 x k := ⟨h.1, fun _ => h.2⟩
theorem q8_inj {x y : UInt64} {k : Int} (hx : q8 x k) (hy : q8 y k) (h : 0 ≤ k) : x = y := p8_inj (q8_p hx h) (q8_p hy h)
theorem q8_add {x y : UInt64} {a b : Int} (hx : q8 x a) (hy : q8 y b) (ha : 0 ≤ a) (hb : 0 ≤ b) (h : a + b < 2 ^ 53) : q8 (FP.dadd x y) (a + b) := by
  have g := q8_of (p8_add (q8_p hx ha) (q8_p hy hb) (by omega))
  rw [show ((a.toNat + b.toNat : Nat) : Int) = a + b by omega] at g
  exact g
theorem q8_sub {x y : UInt64} {a b : Int} (hx : q8 x a) (hy : q8 y b) (hb : 0 ≤ b) (h : b ≤ a) (ha : a < 2 ^ 53) : q8 (FP.dsub x y) (a - b) := by
  have g := q8_of (p8_sub (q8_p hx (by omega)) (q8_p hy hb) (by omega) (by omega))
  rw [show ((a.toNat - b.toNat : Nat) : Int) = a - b by omega] at g
  exact g
theorem q8_0 : q8 FP.dconst0 0 := q8_of (k := 0) p8_0
theorem q8_m1 : q8 0xBFF0000000000000 (-8) := ⟨e8_m1, fun h => absurd h (by decide)⟩
theorem q8_mul (v : Int32) : q8 (FP.dmul (FP.i2d v) 0x3FC0000000000000) v.toInt := by
  refine ⟨e8_mul v, fun h => ?_⟩
  by_cases h0 : v.toInt = 0
  · have : v = 0 := by rw [← Int32.toInt_inj, h0]; rfl
    subst this
    decide +kernel
  · have h1 := e8_mul v
    rw [← Int.toNat_of_nonneg h] at h1
    exact (e8_pos h1 (by omega)).2
/-- the double of k eighths -/
def bt (k : Int) : UInt64 := FP.dmul (FP.i2d (Int32.ofInt k)) 0x3FC0000000000000
theorem bt_q {k : Int} (h0 : 0 ≤ k) (h1 : k < 2147483648) : q8 (bt k) k := by
  have h := q8_mul (Int32.ofInt k)
  rw [Int32.toInt_ofInt_of_le (by omega) (by omega)] at h
  exact h
theorem bt_0 : bt 0 = FP.dconst0 := q8_inj (bt_q (by decide) (by decide)) q8_0 (by decide)
theorem nan_n {x : UInt64} (h : FP.Core.dIsNaN x = false) : vf_n64 x := by
  have h3 := (FP.Core.ne_nan _).mp ((FP.Core.notNaN_iff _).mp h)
  unfold vf_n64
  rw [UInt64.le_iff_toNat_le, FP.Core.mask_toNat]
  exact h3
/-- a sum of stays is a number, and stays one -/
theorem nan_add {x y : UInt64} {k : Int} (h : FP.Core.dIsNaN x = false) (hy : e8 y k) : FP.Core.dIsNaN (FP.dadd x y) = false := FP.Core.dadd_out h hy.1
theorem nan_div {x : UInt64} {n : Int32} (hx : FP.Core.dIsNaN x = false) (hn : n ≠ 0) : vf_n64 (FP.ddiv x (FP.i2d n)) := by
  have hz : ¬ FP.Core.DZero (FP.i2d n) := fun h => FP.Core.i2d_ne_zero hn ((FP.Core.zero_bits2 _).mp h)
  exact nan_n (FP.Core.ddiv_out (a := x) (b := FP.i2d n) hx (FP.Core.i2d_fin n) hz)
/-! a table of rows: row k, place i -/
def u2 {α : Type} (f : Nat → Nat → α) (k i : Nat) (v : α) : Nat → Nat → α := fun k' => if k' = k then (fun i' => if i' = i then v else f k i') else f k'
theorem u2_k {α : Type} (f : Nat → Nat → α) (k i : Nat) (v : α) : u2 f k i v k = fun i' => if i' = i then v else f k i' := by simp [u2]
theorem u2_s {α : Type} (f : Nat → Nat → α) (k i : Nat) (v : α) : u2 f k i v k i = v := by simp [u2]
theorem u2_i {α : Type} (f : Nat → Nat → α) (k : Nat) {i j : Nat} (v : α) (h : j ≠ i) : u2 f k i v k j = f k j := by simp [u2, h]
theorem u2_n {α : Type} (f : Nat → Nat → α) {k k' : Nat} (i : Nat) (v : α) (h : k' ≠ k) : u2 f k i v k' = f k' := by simp [u2, h]

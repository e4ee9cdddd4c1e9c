/-! EIGHTHS: doubles that are whole numbers of eighths; nothing here speaks of the class. -/
/-- an eighth, in units of the least double -/
def u8 : Nat := 2 ^ 1071
theorem u8_pos : 0 < u8 := Nat.two_pow_pos _
/-- the double x is the number k/8 -/
def e8 (x : UInt64) (k : Int) : Prop := FP.Core.DFin x ∧ FP.Core.zval FP.Core.b64 (FP.Core.val64 x) = k * (u8 : Int)
/-- the same, k not below 0, and its sign bit is clear -/
def p8 (x : UInt64) (k : Nat) : Prop := e8 x (k : Int) ∧ x.toNat < 2 ^ 63
theorem e8_qm : FP.Core.b64.qmin = -1074 := by decide +kernel
theorem e8_roundM {sg : Bool} {n m : Nat} {e : Int} (h : n * 2 ^ (e - -3).toNat = m * 2 ^ (-3 - e).toNat) (hm : m < 2 ^ 53) :
    ∃ c q, FP.Core.round FP.Core.b64 (.fin sg n e) = .fin sg c q ∧ FP.Core.inUnits c q FP.Core.b64.qmin = m * u8 := by
  have hu : (2 : Nat) ^ (-3 - FP.Core.b64.qmin).toNat = u8 := congrArg (2 ^ ·) (show (-3 - FP.Core.b64.qmin).toNat = 1071 by decide +kernel)
  obtain ⟨c, q, h1, h2⟩ := FP.Core.round_exact FP.Core.good_b64 sg (c := m) (q := -3) hm (by decide +kernel) (by decide +kernel)
  refine ⟨c, q, ?_, ?_⟩
  · rw [← h1]
    exact FP.Core.roundRatio_congr (by decide) (by decide) (by rw [Nat.mul_one, Nat.mul_one]; exact h)
  · rw [h2]
    show m * 2 ^ (-3 - FP.Core.b64.qmin).toNat = m * u8
    rw [hu]
theorem e8_round {sg : Bool} {n : Nat} {e k : Int} (he : FP.Core.b64.qmin ≤ e) (h : FP.Core.signed sg (FP.Core.inUnits n e FP.Core.b64.qmin) = k * (u8 : Int)) (hk : k.natAbs < 2 ^ 53) :
    ∃ c q, FP.Core.round FP.Core.b64 (.fin sg n e) = .fin sg c q ∧ FP.Core.zval FP.Core.b64 (.fin sg c q) = k * (u8 : Int) := by
  have hu : (2 : Nat) ^ (-3 - FP.Core.b64.qmin).toNat = u8 := congrArg (2 ^ ·) (show (-3 - FP.Core.b64.qmin).toNat = 1071 by decide +kernel)
  have hn : FP.Core.inUnits n e FP.Core.b64.qmin = k.natAbs * u8 := by
    have h1 := congrArg Int.natAbs h
    rw [Int.natAbs_mul] at h1
    have h2 : (FP.Core.signed sg (FP.Core.inUnits n e FP.Core.b64.qmin)).natAbs = FP.Core.inUnits n e FP.Core.b64.qmin := by cases sg <;> simp [FP.Core.signed]
    rw [h2] at h1
    exact h1
  have hq : n * 2 ^ (e - FP.Core.b64.qmin).toNat = k.natAbs * 2 ^ (-3 - FP.Core.b64.qmin).toNat := by rw [hu]; exact hn
  have hQ : FP.Core.b64.qmin ≤ -3 := by decide +kernel
  obtain ⟨c, q, h1, h2⟩ := e8_roundM (sg := sg) (n := n) (m := k.natAbs) (e := e) (by
    generalize FP.Core.b64.qmin = Q at hq he hQ
    rcases Int.le_total (-3) e with h3 | h3
    · have a1 : (e - Q).toNat = (e - -3).toNat + (-3 - Q).toNat := by omega
      have a2 : (-3 - e).toNat = 0 := by omega
      rw [a1, Nat.pow_add, ← Nat.mul_assoc] at hq
      rw [a2, Nat.pow_zero, Nat.mul_one]
      exact Nat.eq_of_mul_eq_mul_right (Nat.two_pow_pos _) hq
    · have a1 : (-3 - Q).toNat = (-3 - e).toNat + (e - Q).toNat := by omega
      have a2 : (e - -3).toNat = 0 := by omega
      rw [a1, Nat.pow_add, ← Nat.mul_assoc] at hq
      rw [a2, Nat.pow_zero, Nat.mul_one]
      exact Nat.eq_of_mul_eq_mul_right (Nat.two_pow_pos _) hq) hk
  refine ⟨c, q, h1, ?_⟩
  show FP.Core.signed sg (FP.Core.inUnits c q FP.Core.b64.qmin) = _
  rw [h2, ← hn]
  exact h
theorem e8_add {x y : UInt64} {a b : Int} (hx : e8 x a) (hy : e8 y b) (h : (a + b).natAbs < 2 ^ 53) : e8 (FP.dadd x y) (a + b) := by
  obtain ⟨⟨s, c, q, vx⟩, zx⟩ := hx
  obtain ⟨⟨t, d, r, vy⟩, zy⟩ := hy
  have fx := FP.Core.val64_fits x
  have fy := FP.Core.val64_fits y
  rw [vx] at fx zx
  rw [vy] at fy zy
  obtain ⟨sg, n, e, h1, h2, h3⟩ := FP.Core.sum_units fx fy
  obtain ⟨c', q', h4, h5⟩ := e8_round h2 (by rw [h3, zx, zy, Int.add_mul]) h
  have hv : FP.Core.val64 (FP.dadd x y) = .fin sg c' q' := by
    rw [show FP.dadd x y = FP.Core.dadd x y from rfl, FP.Core.val64_dadd, vx, vy, h1, h4]
  exact ⟨⟨_, _, _, hv⟩, by rw [hv]; exact h5⟩
theorem e8_sub {x y : UInt64} {a b : Int} (hx : e8 x a) (hy : e8 y b) (h : (a - b).natAbs < 2 ^ 53) : e8 (FP.dsub x y) (a - b) := by
  obtain ⟨⟨s, c, q, vx⟩, zx⟩ := hx
  obtain ⟨⟨t, d, r, vy⟩, zy⟩ := hy
  have fx := FP.Core.val64_fits x
  have fy := FP.Core.negate_fits (FP.Core.val64_fits y)
  have zn := FP.Core.zval_negate FP.Core.b64 (FP.Core.val64 y)
  rw [zy, vy] at zn
  rw [vx] at fx zx
  rw [vy] at fy
  obtain ⟨sg, n, e, h1, h2, h3⟩ := FP.Core.sum_units (t := !t) fx fy
  obtain ⟨c', q', h4, h5⟩ := e8_round h2 (by rw [h3, zx]; exact (congrArg _ zn).trans (by rw [Int.sub_mul]; rfl)) h
  have hv : FP.Core.val64 (FP.dsub x y) = .fin sg c' q' := by
    rw [show FP.dsub x y = FP.Core.dsub x y from rfl, FP.Core.val64_dsub, vx, vy]
    exact (congrArg _ h1).trans h4
  exact ⟨⟨_, _, _, hv⟩, by rw [hv]; exact h5⟩
theorem e8_neg {x : UInt64} {a : Int} (hx : e8 x a) : e8 (FP.dneg x) (-a) := by
  obtain ⟨⟨s, c, q, vx⟩, zx⟩ := hx
  have hv : FP.Core.val64 (FP.dneg x) = FP.Core.negate (FP.Core.val64 x) := FP.val64_dneg x
  exact ⟨⟨!s, c, q, by rw [hv, vx]; rfl⟩, by rw [hv, FP.Core.zval_negate, zx, Int.neg_mul]⟩
theorem e8_cmp {x y : UInt64} {a b : Int} (hx : e8 x a) (hy : e8 y b) : FP.dcmp x y = some (compare a b) := by
  have h := FP.Core.dcmp_zval hx.1.ne_nan hy.1.ne_nan
  rw [hx.2, hy.2] at h
  have u : 0 < (u8 : Int) := Int.ofNat_lt.mpr u8_pos
  refine (show FP.dcmp x y = FP.Core.dcmp x y from rfl).trans (h.trans (congrArg some (FP.Core.compare_congr ?_ ?_)))
  · generalize (u8 : Int) = z at u
    constructor
    · intro q; exact Int.lt_of_mul_lt_mul_right q (Int.le_of_lt u)
    · intro q; exact Int.mul_lt_mul_of_pos_right q u
  · generalize (u8 : Int) = z at u
    constructor
    · intro q; exact Int.eq_of_mul_eq_mul_right (by omega) q
    · intro q; rw [q]
theorem e8_nn {x : UInt64} {a : Int} (hx : e8 x a) : vf_n64 x := by
  have h := (FP.Core.fin_bits x).mp hx.1
  unfold vf_n64
  rw [UInt64.le_iff_toNat_le, FP.Core.mask_toNat]
  have e : (0x7ff0000000000000 : UInt64).toNat = 9218868437227405312 := rfl
  rw [e]
  exact Nat.le_of_lt h
theorem e8_0 : e8 0 0 := ⟨⟨false, 0, FP.Core.b64.qmin, by decide +kernel⟩, by rw [FP.Core.zval64_zero]; simp⟩
/-- an int times an eighth -/
theorem e8_mul (v : Int32) : e8 (FP.dmul (FP.i2d v) 0x3FC0000000000000) v.toInt := by
  have hb : v.toInt.natAbs < 2 ^ 53 := by have := v.toInt_lt; have := v.le_toInt; omega
  obtain ⟨c, q, h1, h2⟩ := FP.Core.round_exact FP.Core.good_b64 (decide (v.toInt < 0)) (c := v.toInt.natAbs) (q := 0) hb (by decide +kernel) (by decide +kernel)
  have hv : FP.Core.val64 (FP.i2d v) = .fin (decide (v.toInt < 0)) c q := by
    rw [show FP.i2d v = FP.Core.i2d v from rfl, FP.Core.val64_i2d]; exact h1
  have hc : FP.Core.val64 0x3FC0000000000000 = .fin false (2 ^ 52) (-55) := by decide +kernel
  have fx := FP.Core.val64_fits (FP.i2d v)
  rw [hv] at fx
  have hq1 : FP.Core.b64.qmin ≤ q := fx.2.1
  have hU : c * 2 ^ (q - FP.Core.b64.qmin).toNat = v.toInt.natAbs * 2 ^ (0 - FP.Core.b64.qmin).toNat := h2
  rw [e8_qm] at hU hq1
  obtain ⟨c', q', h3, h4⟩ := e8_roundM (sg := (decide (v.toInt < 0) != false)) (n := c * 2 ^ 52) (m := v.toInt.natAbs) (e := q + -55) (by
    rcases Int.le_total 52 q with g | g
    · have a1 : (q - -1074).toNat = (q + -55 - -3).toNat + 52 + 1074 := by omega
      have a2 : (-3 - (q + -55)).toNat = 0 := by omega
      have a3 : (0 - (-1074 : Int)).toNat = 1074 := by decide
      rw [a1, a3, Nat.pow_add, ← Nat.mul_assoc] at hU
      have hU := Nat.eq_of_mul_eq_mul_right (Nat.two_pow_pos _) hU
      rw [a2, Nat.pow_zero, Nat.mul_one, ← hU, Nat.pow_add]
      rw [Nat.mul_assoc, Nat.mul_comm (2 ^ 52)]
    · obtain ⟨w, hw⟩ : ∃ w : Nat, (w : Int) = 52 - q := ⟨(52 - q).toNat, by omega⟩
      have a1 : (q - -1074).toNat + w = 52 + 1074 := by omega
      have a2 : (-3 - (q + -55)).toNat = w := by omega
      have a3 : (0 - (-1074 : Int)).toNat = 1074 := by decide
      have a4 : (q + -55 - -3).toNat = 0 := by omega
      rw [a3] at hU
      rw [a2, a4, Nat.pow_zero, Nat.mul_one]
      have hV : c * 2 ^ (q - -1074).toNat * 2 ^ w = v.toInt.natAbs * 2 ^ 1074 * 2 ^ w := by rw [hU]
      rw [Nat.mul_assoc, ← Nat.pow_add, a1, Nat.pow_add, ← Nat.mul_assoc, Nat.mul_assoc (v.toInt.natAbs), Nat.mul_comm (2 ^ 1074) (2 ^ w), ← Nat.mul_assoc] at hV
      exact Nat.eq_of_mul_eq_mul_right (Nat.two_pow_pos _) hV) hb
  have hm : FP.Core.val64 (FP.dmul (FP.i2d v) 0x3FC0000000000000) = .fin (decide (v.toInt < 0) != false) c' q' := by
    rw [show FP.dmul (FP.i2d v) 0x3FC0000000000000 = FP.Core.dmul (FP.i2d v) 0x3FC0000000000000 from rfl, FP.Core.val64_dmul, hv, hc]
    exact h3
  refine ⟨⟨_, _, _, hm⟩, ?_⟩
  rw [hm]
  show FP.Core.signed (decide (v.toInt < 0) != false) (FP.Core.inUnits c' q' FP.Core.b64.qmin) = _
  rw [h4, FP.Core.signed_mul]
  congr 1
  by_cases g : v.toInt < 0
  · rw [decide_eq_true g]
    show -((v.toInt.natAbs : Nat) : Int) = v.toInt
    omega
  · rw [decide_eq_false g]
    show ((v.toInt.natAbs : Nat) : Int) = v.toInt
    omega
theorem e8_pos {x : UInt64} {k : Nat} (hx : e8 x (k : Int)) (h : 0 < k) : p8 x k := by
  refine ⟨hx, Nat.lt_of_not_le fun hle => ?_⟩
  have h1 := FP.Core.zval_nonpos hx.1.ne_nan hle
  rw [hx.2] at h1
  have u : 0 < (u8 : Int) := Int.ofNat_lt.mpr u8_pos
  have h2 : 0 < (k : Int) * (u8 : Int) := Int.mul_pos (by omega) u
  omega
theorem p8_0 : p8 0 0 := ⟨e8_0, by decide⟩
theorem p8_inj {x y : UInt64} {k : Nat} (hx : p8 x k) (hy : p8 y k) : x = y := by
  have h := e8_cmp hx.1 hy.1
  rw [(FP.Core.compare_eq_iff (k : Int) k).mpr rfl] at h
  have h2 := (FP.Core.dcmp_key hx.1.1.ne_nan hy.1.1.ne_nan).symm.trans h
  rw [Option.some.injEq, FP.Core.compare_eq_iff] at h2
  have a := hx.2
  have b := hy.2
  unfold FP.Core.dkey at h2
  rw [if_neg (by omega), if_neg (by omega)] at h2
  exact UInt64.toNat.inj (by omega)
theorem p8_add {x y : UInt64} {a b : Nat} (hx : p8 x a) (hy : p8 y b) (h : a + b < 2 ^ 53) : p8 (FP.dadd x y) (a + b) := by
  have h1 : e8 (FP.dadd x y) ((a + b : Nat) : Int) := by
    have := e8_add hx.1 hy.1 (by omega)
    rwa [← Int.natCast_add] at this
  rcases Nat.eq_zero_or_pos (a + b) with g | g
  · have ha : a = 0 := by omega
    have hb : b = 0 := by omega
    subst ha; subst hb
    rw [p8_inj hx p8_0, p8_inj hy p8_0]
    exact ⟨by rw [show FP.dadd 0 0 = 0 by decide +kernel]; exact e8_0, by decide +kernel⟩
  · exact e8_pos h1 g
theorem p8_sub {x y : UInt64} {a b : Nat} (hx : p8 x a) (hy : p8 y b) (h : b ≤ a) (ha : a < 2 ^ 53) : p8 (FP.dsub x y) (a - b) := by
  have h1 : e8 (FP.dsub x y) ((a - b : Nat) : Int) := by
    have := e8_sub hx.1 hy.1 (by omega)
    rwa [← Int.ofNat_sub h] at this
  rcases Nat.eq_zero_or_pos (a - b) with g | g
  · have hb : a = b := by omega
    subst hb
    have e := p8_inj hx hy
    subst e
    refine ⟨h1, ?_⟩
    have e1 := h1.2
    rw [Nat.sub_self] at e1
    obtain ⟨⟨s, c, q, vx⟩, -⟩ := hx.1
    have hv : FP.Core.val64 (FP.dsub x x) = FP.Core.val64 0 := by
      rw [show FP.dsub x x = FP.Core.dsub x x from rfl, FP.Core.val64_dsub, vx, FP.Core.val64_zero]
      have hz : FP.Core.sumUnits s c q (!s) c q (min q q) = 0 := by
        unfold FP.Core.sumUnits; cases s <;> simp [FP.Core.signed] <;> omega
      show FP.Core.round FP.Core.b64 (.fin (FP.Core.sumSign s (!s) (FP.Core.sumUnits s c q (!s) c q (min q q))) (FP.Core.sumUnits s c q (!s) c q (min q q)).natAbs (min q q)) = _
      rw [hz]
      cases s <;> rfl
    have := FP.Core.val64_inj (by rw [hv, FP.Core.val64_zero]; exact FP.Core.Datum.noConfusion) hv
    rw [this]
    decide
  · exact e8_pos h1 g
/-- a sum of eighths divided by a count -/
theorem e8_div {x : UInt64} {a : Int} {n : Int32} (hx : e8 x a) (hn : n ≠ 0) : vf_n64 (FP.ddiv x (FP.i2d n)) := by
  have hz : ¬ FP.Core.DZero (FP.i2d n) := fun h => FP.Core.i2d_ne_zero hn ((FP.Core.zero_bits2 _).mp h)
  have h := FP.Core.ddiv_out (a := x) (b := FP.i2d n) hx.1.notNaN (FP.Core.i2d_fin n) hz
  have h2 : FP.Core.val64 (FP.ddiv x (FP.i2d n)) ≠ .nan := (FP.Core.notNaN_iff _).mp h
  have h3 := (FP.Core.ne_nan _).mp h2
  unfold vf_n64
  rw [UInt64.le_iff_toNat_le, FP.Core.mask_toNat]
  exact h3
/-- bits of no NaN are equal to themselves -/
theorem nn_self {x : UInt64} (h : vf_n64 x) : FP.dcmp x x = some .eq := by
  unfold vf_n64 at h
  rw [UInt64.le_iff_toNat_le, FP.Core.mask_toNat] at h
  have h2 : FP.Core.val64 x ≠ .nan := (FP.Core.ne_nan _).mpr h
  exact FP.Core.dcmp_eq.mpr ⟨h2, h2, rfl⟩
theorem e8_m1 : e8 0xBFF0000000000000 (-8) := ⟨⟨true, 2 ^ 52, -52, by decide +kernel⟩, by decide +kernel⟩
theorem e8_1 : e8 FP.dconst1 8 := ⟨⟨false, 2 ^ 52, -52, by decide +kernel⟩, by decide +kernel⟩
theorem e8_1000 : e8 0x408F400000000000 8000 := ⟨⟨false, 0x1F400000000000, -43, by decide +kernel⟩, by decide +kernel⟩
theorem e8_m1000 : e8 0xC08F400000000000 (-8000) := ⟨⟨true, 0x1F400000000000, -43, by decide +kernel⟩, by decide +kernel⟩

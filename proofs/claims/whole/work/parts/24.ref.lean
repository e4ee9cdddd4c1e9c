/-! THE REFERENCE'S CELLS: its object and its arrays, row by row. -/
def mD (k : Nat) : Bool := k == 9 || k == 10 || k == 11 || k == 20 || k == 21 || k == 22 || k == 24
def mB (k : Nat) : Bool := k == 1 || k == 2 || k == 4 || k == 15
def mN (k : Nat) : Nat := if k ≤ 11 then 6 else if k = 17 then 48 else if 19 ≤ k ∧ k ≤ 22 then 128 else 8
def mA (k : Nat) : Bool := decide (1 ≤ k) && decide (k < 26) && !(k == 12)
def mC (ca : Nat → Nat) (fI : Nat → Nat → Int32) (fD : Nat → Nat → UInt64) (k : Nat) : va_E :=
  if mD k = true then .inl (ca 4, mN k, .inr (.inr (.inr (.inl (fD k))))) else .inl (if mB k = true then ca 6 else ca 5, mN k, .inl (fI k))
def mL (ma : Nat → Nat) (fl : Int32) (tx : UInt64) : List Value :=
  [.int fl, .ref (ma 1), .ref (ma 2), .ref (ma 3), .ref (ma 4), .ref (ma 5), .ref (ma 6), .ref (ma 7), .ref (ma 8), .ref (ma 9), .ref (ma 10), .ref (ma 11), .double tx,
   .ref (ma 13), .ref (ma 14), .ref (ma 15), .ref (ma 16), .ref (ma 17), .ref (ma 18), .ref (ma 19), .ref (ma 20), .ref (ma 21), .ref (ma 22), .ref (ma 23), .ref (ma 24), .ref (ma 25)]
def RM (ca ma : Nat → Nat) (mo : Nat) (M : hM) (fI : Nat → Nat → Int32) (fD : Nat → Nat → UInt64) (fl : Int32) (tx : UInt64) : Prop :=
  M mo = some (.inr (5, mL ma fl tx)) ∧ (∀ k, mA k = true → M (ma k) = some (mC ca fI fD k)) ∧ (∀ k j, mA k = true → mA j = true → ma k = ma j → k = j)
theorem mL_at (ma : Nat → Nat) (fl : Int32) (tx : UInt64) {k : Nat} (hk : mA k = true) : (mL ma fl tx)[k]? = some (va_rf (some (ma k))) := by
  have h : k < 26 := by unfold mA at hk; simp at hk; omega
  rcases k with _|_|_|_|_|_|_|_|_|_|_|_|_|_|_|_|_|_|_|_|_|_|_|_|_|_|k <;> first | rfl | (exfalso; revert hk; decide) | omega
section
variable {ca ma : Nat → Nat} {mo : Nat} {M : hM} {fI : Nat → Nat → Int32} {fD : Nat → Nat → UInt64} {fl : Int32} {tx : UInt64}
theorem nn_s {a : Nat} {K : Nat → Prop} (h : K a) : nN (some a) K := ⟨a, rfl, h⟩
theorem gr_m {k : Nat} {K : Option Nat → Prop} (h : RM ca ma mo M fI fD fl tx) (hk : mA k = true) (hK : K (some (ma k))) : gR M mo 5 k K :=
  ⟨_, some (ma k), h.1, mL_at ma fl tx hk, hK⟩
theorem gi_m {K : Int32 → Prop} (h : RM ca ma mo M fI fD fl tx) (hK : K fl) : gI M mo 5 0 K := ⟨_, fl, h.1, rfl, hK⟩
theorem gd_m {K : UInt64 → Prop} (h : RM ca ma mo M fI fD fl tx) (hK : K tx) : gD M mo 5 12 K := ⟨_, tx, h.1, rfl, hK⟩
theorem rc_m {K : Prop} (h : RM ca ma mo M fI fD fl tx) (hK : K) : rC M mo 5 K := ⟨⟨_, h.1⟩, hK⟩
theorem mN_lt (k : Nat) : mN k < 2147483648 := by unfold mN; split <;> (try split) <;> (try split) <;> decide
/-- an int is read -/
theorem ai_m {k j n : Nat} {K : Int32 → Prop} {cA : Nat} (h : RM ca ma mo M fI fD fl tx) (hk : mA k = true) (hd : mD k = false) (hb : (if mB k = true then ca 6 else ca 5) = cA) (hn : mN k = n) (hj : j < n) (hK : K (fI k j)) :
    aI M (ma k) cA (Int32.ofNat j) K := by
  refine ⟨mN k, fI k, ?_, i_in (by omega) (mN_lt k), ?_⟩
  · rw [h.2.1 k hk]; unfold mC; rw [hd, hb]; rfl
  · rw [i_of (by have := mN_lt k; omega)]; exact hK
theorem ad_m {k j n : Nat} {K : UInt64 → Prop} (h : RM ca ma mo M fI fD fl tx) (hk : mA k = true) (hd : mD k = true) (hn : mN k = n) (hj : j < n) (hK : K (fD k j)) :
    aD M (ma k) (ca 4) (Int32.ofNat j) K := by
  refine ⟨mN k, fD k, ?_, i_in (by omega) (mN_lt k), ?_⟩
  · rw [h.2.1 k hk]; unfold mC; rw [hd]; rfl
  · rw [i_of (by have := mN_lt k; omega)]; exact hK
theorem upd_u2 (f : Nat → Nat → Int32) (k j : Nat) (x : Int32) : upd (f k) j x = u2 f k j x k := by rw [u2_k]; rfl
theorem vfu_u2 (f : Nat → Nat → UInt64) (k j : Nat) (x : UInt64) : vf_upd (f k) j x = u2 f k j x k := by rw [u2_k]; rfl
theorem mo_ne {k : Nat} (h : RM ca ma mo M fI fD fl tx) (hk : mA k = true) : mo ≠ ma k := by
  intro e
  have h1 := h.1
  rw [e, h.2.1 k hk] at h1
  unfold mC at h1
  split at h1 <;> cases h1
/-- an int is laid -/
theorem si_m {k j n : Nat} {x : Int32} {K : hM → Prop} {cA : Nat} (h : RM ca ma mo M fI fD fl tx) (hk : mA k = true) (hd : mD k = false) (hb : (if mB k = true then ca 6 else ca 5) = cA) (hn : mN k = n) (hj : j < n)
    (hK : ∀ M', RM ca ma mo M' (u2 fI k j x) fD fl tx → K M') : sI M (ma k) cA (Int32.ofNat j) x K := by
  refine ⟨mN k, fI k, ?_, i_in (by omega) (mN_lt k), hK _ ⟨?_, fun i hi => ?_, h.2.2⟩⟩
  · rw [h.2.1 k hk]; unfold mC; rw [hd, hb]; rfl
  · rw [va_up_at, if_neg (mo_ne h hk)]; exact h.1
  · rw [va_up_at]
    split
    · rename_i e
      have e := h.2.2 i k hi hk e
      subst e
      rw [i_of (by have := mN_lt i; omega), upd_u2]; unfold mC; rw [hd, hb]; rfl
    · rename_i e
      have e : i ≠ k := fun g => e (by rw [g])
      rw [h.2.1 i hi]; unfold mC; rw [u2_n _ _ _ e]
theorem sd_m {k j n : Nat} {x : UInt64} {K : hM → Prop} (h : RM ca ma mo M fI fD fl tx) (hk : mA k = true) (hd : mD k = true) (hn : mN k = n) (hj : j < n)
    (hK : ∀ M', RM ca ma mo M' fI (u2 fD k j x) fl tx → K M') : sD M (ma k) (ca 4) (Int32.ofNat j) x K := by
  refine ⟨mN k, fD k, ?_, i_in (by omega) (mN_lt k), hK _ ⟨?_, fun i hi => ?_, h.2.2⟩⟩
  · rw [h.2.1 k hk]; unfold mC; rw [hd]; rfl
  · rw [va_up_at, if_neg (mo_ne h hk)]; exact h.1
  · rw [va_up_at]
    split
    · rename_i e
      have e := h.2.2 i k hi hk e
      subst e
      rw [i_of (by have := mN_lt i; omega), vfu_u2]; unfold mC; rw [hd]; rfl
    · rename_i e
      have e : i ≠ k := fun g => e (by rw [g])
      rw [h.2.1 i hi]; unfold mC; rw [u2_n _ _ _ e]
theorem pf_m {K : hM → Prop} {x : Int32} (h : RM ca ma mo M fI fD fl tx) (hK : ∀ M', RM ca ma mo M' fI fD x tx → K M') : pF M mo 5 0 (.int x) K := by
  refine ⟨_, h.1, by simp [mL], hK _ ⟨by rw [va_up_self]; rfl, fun k hk => ?_, h.2.2⟩⟩
  rw [va_up_at, if_neg (fun e => mo_ne h hk e.symm)]; exact h.2.1 k hk
theorem pt_m {K : hM → Prop} {x : UInt64} (h : RM ca ma mo M fI fD fl tx) (hK : ∀ M', RM ca ma mo M' fI fD fl x → K M') : pF M mo 5 12 (.double x) K := by
  refine ⟨_, h.1, by simp [mL], hK _ ⟨by rw [va_up_self]; rfl, fun k hk => ?_, h.2.2⟩⟩
  rw [va_up_at, if_neg (fun e => mo_ne h hk e.symm)]; exact h.2.1 k hk
end
/-! the reference's rows and the state -/
def RSv (fI : Nat → Nat → Int32) (σ : St) : Prop := ∀ k, k ∈ [2, 3, 4, 5, 7, 8, 13, 14, 15, 16, 25] → fI k = x_v σ k
def RSe (fD : Nat → Nat → UInt64) (σ : St) : Prop := ∀ k, k ∈ [9, 10, 11] → ∀ t, t < 6 → q8 (fD k t) (x_e σ k t)
def RSp (fI : Nat → Nat → Int32) (σ : St) : Prop := ∀ t, t < 6 → fI 6 t = oi (x_p σ t) ∧ fI 1 t = ob (x_p σ t)
def RSw (fI : Nat → Nat → Int32) (σ : St) : Prop := ∀ c, c < 8 → fI 18 c = Int32.ofNat (x_w σ c).length ∧ ∀ i t, (x_w σ c)[i]? = some t → fI 17 (6 * c + i) = Int32.ofNat t
def RSi (fI : Nat → Nat → Int32) (fD : Nat → Nat → UInt64) (σ : St) : Prop := ∀ c, c < 8 → fI 23 c = Int32.ofNat (x_i σ c).length ∧
  ∀ i e, (x_i σ c)[i]? = some e → fI 19 (16 * c + i) = e.1 ∧ q8 (fD 20 (16 * c + i)) e.2.1 ∧ q8 (fD 21 (16 * c + i)) e.2.2.1 ∧ q8 (fD 22 (16 * c + i)) e.2.2.2
def RS (fI : Nat → Nat → Int32) (fD : Nat → Nat → UInt64) (tx : UInt64) (σ : St) : Prop :=
  RSv fI σ ∧ RSe fD σ ∧ RSp fI σ ∧ RSw fI σ ∧ RSi fI fD σ ∧ fD 24 = x_s σ ∧ q8 tx (x_n σ)
/-- the reference, at rest, in the state σ; fl: what it says was thrown -/
def RR (ca ma : Nat → Nat) (mo : Nat) (M : hM) (σ : St) (fl : Int32) : Prop := ∃ fI fD tx, RM ca ma mo M fI fD fl tx ∧ RS fI fD tx σ

/-! THE HALL'S make AND ITS BEGINNING. -/
theorem i_sb {A : Int32} (b : Nat) (hb : b = 1 ∨ b = 2) : (A - Int32.ofNat b < 0 ∨ ¬ A - Int32.ofNat b < 4) ↔ (A < Int32.ofNat b ∨ Int32.ofNat (b + 3) < A) := by
  have h1 := A.toInt_lt
  have h2 := A.le_toInt
  simp only [Int32.lt_iff_toInt_lt, Int32.toInt_sub]
  rw [i_int (by omega), i_int (by omega), show (0 : Int32).toInt = 0 from rfl, show (4 : Int32).toInt = 4 from rfl]
  simp only [Int.bmod]
  split <;> omega
theorem cn_up {f : Nat → Int32} {c : Nat} (hc : f c < 0) {K : Int32} (hK : ¬ K < 0) : ∀ n, cn (fun i => if i = c then K else f i) n = cn f n + (if c < n then 1 else 0)
  | 0 => by
    show (0 : Int32) = 0 + (if c < 0 then 1 else 0)
    rw [if_neg (by omega)]; rfl
  | n + 1 => by
    show cn (fun i => if i = c then K else f i) n + (if (if n = c then K else f n) < 0 then 0 else 1) = cn f n + (if f n < 0 then 0 else 1) + (if c < n + 1 then 1 else 0)
    rw [cn_up hc hK n]
    by_cases h : n = c
    · subst h
      rw [if_pos rfl, if_neg hK, if_pos hc, if_neg (by omega), if_pos (by omega)]
    · rw [if_neg h]
      by_cases h2 : c < n
      · have h3 : c < n + 1 := by omega
        rw [if_pos h2, if_pos h3]
        rw [Int32.add_assoc, Int32.add_assoc, Int32.add_comm 1]
      · have h3 : ¬ c < n + 1 := by omega
        rw [if_neg h2, if_neg h3]
        rw [Int32.add_assoc, Int32.add_assoc, Int32.add_comm 0]
section
variable {G ca : Nat → Nat} {h wa ka : Nat} {wk ch li : Nat → Nat} {kf : Nat → UInt64} {M : hM} {σ : St} {N : Int}
theorem is_sz {K A : Int32} {post : Int32 → hM → Prop} (h0 : bM K A → post 0 M) (h1 : ¬ bM K A → post 1 M) : wp_Ha_isSize G ca post M K A := by
  have e1 : (A - 1 < 0 ∨ ¬ A - 1 < 4) ↔ (A < 1 ∨ 4 < A) := i_sb 1 (Or.inl rfl)
  have e2 : (A - 2 < 0 ∨ ¬ A - 2 < 4) ↔ (A < 2 ∨ 5 < A) := i_sb 2 (Or.inr rfl)
  have e7 : ∀ k : Int32, k ≠ 6 → (6 ≤ k ↔ ¬ k < 7) := fun k hk => by
    have hk : k.toInt ≠ 6 := fun e => hk (Int32.toInt_inj.mp e)
    rw [Int32.le_iff_toInt_le, Int32.lt_iff_toInt_lt, show (6 : Int32).toInt = 6 from rfl, show (7 : Int32).toInt = 7 from rfl]
    omega
  have e0 : ∀ k : Int32, k ≠ 0 → (k ≤ 0 ↔ k < 0) := fun k hk => by
    have hk : k.toInt ≠ 0 := fun e => hk (Int32.toInt_inj.mp e)
    rw [Int32.le_iff_toInt_le, Int32.lt_iff_toInt_lt, show (0 : Int32).toInt = 0 from rfl]
    omega
  refine ⟨fun k0 => ?_, fun k0 => ⟨fun k6 => ?_, fun k6 => ?_⟩⟩
  · have hb : bM K A ↔ (A < 1 ∨ 4 < A) := by
      rw [← e1]; unfold bM
      rw [if_pos k0, k0]
      exact ⟨fun e => e.elim (fun e => absurd e (by decide)) (fun e => e.elim (fun e => absurd (by decide) e) id), fun e => Or.inr (Or.inr e)⟩
    exact ⟨fun e => ⟨Or.inl rfl, h0 (hb.mpr (Or.inl e))⟩, fun e => ⟨fun f => ⟨Or.inl rfl, h0 (hb.mpr (Or.inr f))⟩, fun f => ⟨Or.inr rfl, h1 (fun k => (hb.mp k).elim e f)⟩⟩⟩
  · have hb : bM K A ↔ (A < 2 ∨ 5 < A) := by
      rw [← e2]; unfold bM
      rw [if_neg k0, if_pos k6, k6]
      exact ⟨fun e => e.elim (fun e => absurd e (by decide)) (fun e => e.elim (fun e => absurd (by decide) e) id), fun e => Or.inr (Or.inr e)⟩
    exact ⟨fun e => ⟨Or.inl rfl, h0 (hb.mpr (Or.inl e))⟩, fun e => ⟨fun f => ⟨Or.inl rfl, h0 (hb.mpr (Or.inr f))⟩, fun f => ⟨Or.inr rfl, h1 (fun k => (hb.mp k).elim e f)⟩⟩⟩
  · have hb : bM K A ↔ (K ≤ 0 ∨ 6 ≤ K ∨ A ≠ 0) := by
      rw [e0 K k0, e7 K k6]; unfold bM
      rw [if_neg k0, if_neg k6]
    exact ⟨fun e => ⟨Or.inl rfl, h0 (hb.mpr (Or.inl e))⟩, fun e => ⟨fun f => ⟨Or.inl rfl, h0 (hb.mpr (Or.inr (Or.inl f)))⟩, fun f => ⟨fun a => ⟨Or.inl rfl, h0 (hb.mpr (Or.inr (Or.inr a)))⟩, fun a => ⟨Or.inr rfl, h1 (fun k => (hb.mp k).elim e (fun k => k.elim f (fun k => k a)))⟩⟩⟩⟩
/-- a new list -/
theorem al_new {q : Nat} {md : Int32} {v0 : Value} (hq : M q = some (.inr (4, [v0, .int 0, .int md]))) {post : hM → Prop} (hp : post (va_up M q (some (.inr (4, [.ref (G 3), .int 0, .int 0])))) ) : wp_Al_init G ca post M q := by
  refine ⟨_, hq, by simp, _, va_up_self _ _ _, by simp, ?_⟩
  have eu : ∀ e1 e2 : va_E, va_up (va_up M q (some e1)) q (some e2) = va_up M q (some e2) := fun e1 e2 => by
    funext j
    by_cases hj : j = q
    · rw [hj, va_up_self, va_up_self]
    · rw [va_up_ne _ _ hj, va_up_ne _ _ hj, va_up_ne _ _ hj]
  rw [eu]; exact hp
theorem up_up (M : hM) (q : Nat) (e1 e2 : va_E) : va_up (va_up M q (some e1)) q (some e2) = va_up M q (some e2) := by
  funext j
  by_cases hj : j = q
  · rw [hj, va_up_self, va_up_self]
  · rw [va_up_ne _ _ hj, va_up_ne _ _ hj, va_up_ne _ _ hj]
theorem up_cm {M : hM} {p q : Nat} (hpq : p ≠ q) (e1 e2 : Option va_E) : va_up (va_up M p e1) q e2 = va_up (va_up M q e2) p e1 := by
  funext j
  by_cases hj : j = q
  · subst hj
    rw [va_up_self, va_up_ne _ _ (fun e => hpq e.symm), va_up_self]
  · rw [va_up_ne _ _ hj]
    by_cases hp : j = p
    · subst hp; rw [va_up_self, va_up_self]
    · rw [va_up_ne _ _ hp, va_up_ne _ _ hp, va_up_ne _ _ hj]
theorem rm_cl {K A : Int32} : (if K = 6 then 0 else o_rm K A) = (if K = 0 then A else if K = 1 then 16 else if K = 3 ∨ K = 4 then 6 else 0) := by
  unfold o_rm
  by_cases h6 : K = 6
  · subst h6
    rw [if_pos rfl, if_neg (by decide : ¬ (6 : Int32) = 0), if_neg (by decide : ¬ (6 : Int32) = 1), if_neg (by decide : ¬ ((6 : Int32) = 3 ∨ (6 : Int32) = 4))]
  · rw [if_neg h6]
    by_cases h0 : K = 0
    · rw [if_pos (Or.inl h0), if_pos h0]
    · rw [if_neg (fun e => e.elim h0 h6), if_neg h0]
theorem is_rm {K A : Int32} {post : Int32 → hM → Prop} (hp : post (if K = 6 then 0 else o_rm K A) M) : wp_Ch_roomOf G ca post M K A := by
  rw [rm_cl] at hp
  refine ⟨fun h0 => ?_, fun h0 => ⟨fun h1 => ?_, fun h1 => ⟨fun h2 => ?_, fun h2 => ⟨fun h3 => ?_, fun h3 => ⟨fun h4 => ?_, fun h4 => ?_⟩⟩⟩⟩⟩
  · rw [if_pos h0] at hp; exact hp
  · rw [if_neg h0, if_pos h1] at hp; exact hp
  · rw [if_neg h0, if_neg h1, if_neg (fun e => by rw [h2] at e; exact e.elim (fun k => absurd k (by decide)) (fun k => absurd k (by decide)))] at hp; exact hp
  · rw [if_neg h0, if_neg h1, if_pos (Or.inl h3)] at hp; exact hp
  · rw [if_neg h0, if_neg h1, if_pos (Or.inr h4)] at hp; exact hp
  · rw [if_neg h0, if_neg h1, if_neg (fun e => e.elim h3 h4)] at hp; exact hp
/-- a channel is built -/
theorem ch_new {q c : Nat} {K A : Int32} {v0 v1 v2 v3 v4 v5 v6 v7 v8 v9 : Value} (hq : M q = some (.inr (0, [v0, v1, v2, v3, v4, v5, v6, v7, v8, v9]))) {post : hM → Prop}
    (hp : ∀ q1 q2, M q1 = none → M q2 = none → q1 ≠ q2 → post (va_up (va_up (va_up M q1 (some (.inr (4, [.ref (G 3), .int 0, .int 0])))) q2 (some (.inr (4, [.ref (G 3), .int 0, .int 0])))) q (some (.inr (0, [.int (Int32.ofNat c), .int K, .int (if K = 6 then 0 else o_rm K A), .int (if K = 6 then A else 0), .ref q1, .ref q2, .int 0, .int 0, .double FP.dconst0, .int 0]))))) : wp_Ch_init G ca post M q (Int32.ofNat c) K A := by
  intro q1 hq1
  have n1 : q ≠ q1 := fun e => by rw [e, hq1] at hq; cases hq
  refine al_new (va_up_self _ _ _) ?_
  rw [up_up]
  refine ⟨_, (va_up_ne _ _ n1).trans hq, by simp, fun q2 hq2 => al_new (va_up_self _ _ _) ?_⟩
  rw [up_up]
  have n2 : q2 ≠ q := fun e => by rw [e, va_up_self] at hq2; cases hq2
  have n3 : q2 ≠ q1 := fun e => by rw [e, va_up_ne _ _ (fun e => n1 e.symm), va_up_self] at hq2; cases hq2
  have hq2' : M q2 = none := by rw [va_up_ne _ _ n2, va_up_ne _ _ n3] at hq2; exact hq2
  refine ⟨_, (va_up_ne _ _ (fun e => n2 e.symm)).trans (va_up_self _ _ _), by simp, _, va_up_self _ _ _, by simp, _, va_up_self _ _ _, by simp, _, va_up_self _ _ _, by simp, _, va_up_self _ _ _, by simp, _, va_up_self _ _ _, by simp, _, va_up_self _ _ _, by simp, ?_⟩
  have fin : ∀ X Y : Value, post (va_up (va_up (va_up (va_up M q1 (some (.inr (4, [.ref (G 3), .int 0, .int 0])))) q2 (some (.inr (4, [.ref (G 3), .int 0, .int 0])))) q (some (.inr (0, [.int (Int32.ofNat c), .int K, X, Y, .ref q1, .ref q2, .int 0, .int 0, .double FP.dconst0, .int 0])))) q (some (.inr (0, [.int (Int32.ofNat c), .int K, .int (if K = 6 then 0 else o_rm K A), .int (if K = 6 then A else 0), .ref q1, .ref q2, .int 0, .int 0, .double FP.dconst0, .int 0])))) := fun X Y => by
    rw [up_up]; exact hp q1 q2 hq1 hq2' (fun e => n3 e.symm)
  simp only [up_up, up_cm (M := va_up M q1 (some (.inr (4, [.ref (G 3), .int 0, .int 0])))) (fun e => n2 e.symm)]
  refine is_rm ⟨_, va_up_self _ _ _, by simp, fun h6 => ⟨_, va_up_self _ _ _, by simp, ?_⟩, fun h6 => ⟨_, va_up_self _ _ _, by simp, ?_⟩⟩
  · simp only [up_up]
    have := fin (.int 0) (.int 0)
    simp only [up_up, if_neg h6] at this
    simp only [if_neg h6]
    exact this
  · simp only [up_up]
    have := fin (.int 0) (.int 0)
    simp only [up_up, if_pos h6] at this
    simp only [if_pos h6]
    exact this
end

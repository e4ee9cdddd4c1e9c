/-! WHAT ALWAYS HOLDS, kept by every call; the hall's beginning. -/
section
variable {σ : St} {N : Int}
theorem IV_wt (hi : IV σ N) {t c : Nat} (ht : t < 6) (hc : c < 8) (hp : x_p σ t = none) (hk : x_v σ 13 c ≠ -1) {r : Int32} (hr : ((x_v σ 13 c = 5 ∨ x_v σ 13 c = 6) → r = 2) ∧ (¬ (x_v σ 13 c = 5 ∨ x_v σ 13 c = 6) → r = 0 ∨ r = 1)) (lim : Int) : IV (o_wait σ t c r lim).2 N := by
  unfold o_wait
  split
  · exact IV_v hi (by decide) _ _
  · exact IV_in hi ht hc hp hk hr lim
theorem IV_fl (hi : IV σ N) (t : Nat) : IV (o_fl σ t) N := IV_v (IV_flag hi t (Or.inl rfl)) (by decide) _ _
theorem k_m1 {c : Nat} (h0 : ¬ x_v σ 13 c < 0) : x_v σ 13 c ≠ -1 := fun e => h0 (by rw [e]; decide)
theorem IV_gt (hi : IV σ N) {t c : Nat} (ht : t < 6) (hc : c < 8) (l : Int) : IV (g_take σ t c l).2.2 N := by
  unfold g_take
  by_cases hk : o_ck σ t c 0 4 = 0
  · rw [if_neg (fun e => e hk)]
    obtain ⟨k0, k1, k2, k3⟩ := ck_0 hk
    by_cases hf : x_v σ 2 t = 0
    · rw [if_neg (fun e => e hf)]
      by_cases hw : (fw σ c 1).isSome = true ∨ (if x_v σ 13 c = 2 then (fw σ c 0).isSome else rdy σ c) = false
      · rw [if_pos hw]
        exact IV_wt hi ht hc k1 (k_m1 k0) ⟨fun e => absurd e (ck_56 k3), fun _ => Or.inr rfl⟩ l
      · rw [if_neg hw]
        by_cases h2 : x_v σ 13 c = 2
        · rw [if_pos h2]
          cases hg : fw σ c 0 with
          | none => exact hi
          | some g =>
            have hi1 := IV_free (IV_obt hi t hc (x_v σ 8 g) (d := 0) (by decide) (by decide)) hc (fw_some hg).1 1
            exact IV_v (IV_sv hi1 hc) (by decide) _ _
        · rw [if_neg h2]
          have hi1 := IV_tf hi t hc
          exact IV_v (IV_sv hi1 hc) (by decide) _ _
    · rw [if_pos hf]; exact IV_fl hi t
  · rw [if_pos hk]; exact hi
theorem IV_gg (hi : IV σ N) {t c : Nat} (ht : t < 6) (hc : c < 8) (v : Int32) (x l : Int) : IV (g_give σ t c v x l).2.2 N := by
  unfold g_give
  generalize (x_n σ + if x < 0 then 0 else x) = d
  by_cases hk : o_ck σ t c 0 4 = 0
  · rw [if_neg (fun e => e hk)]
    obtain ⟨k0, k1, k2, k3⟩ := ck_0 hk
    by_cases hf : x_v σ 2 t = 0
    · rw [if_neg (fun e => e hf)]
      by_cases hw : (fw σ c 0).isSome = true ∨ (if x_v σ 13 c = 2 then (fw σ c 1).isSome else o_fits σ c) = false
      · rw [if_pos hw]
        have hi1 : IV (s_v σ 8 t v) N := IV_v hi (by decide) _ _
        have hi2 : IV (s_e (s_v σ 8 t v) 9 t x) N := IV_e hi1 9 t x
        have hi3 : IV (s_e (s_e (s_v σ 8 t v) 9 t x) 10 t d) N := IV_e hi2 10 t d
        exact IV_wt (σ := s_e (s_e (s_v σ 8 t v) 9 t x) 10 t d) hi3 ht hc k1 (k_m1 k0) ⟨fun e => absurd e (ck_56 k3), fun _ => Or.inl rfl⟩ l
      · rw [if_neg hw]
        by_cases h2 : x_v σ 13 c = 2
        · rw [if_pos h2]
          cases hg : fw σ c 1 with
          | none => exact hi
          | some g =>
            have hi1 := IV_free (IV_obt hi g hc v (d := 0) (by decide) (by decide)) hc (fw_some hg).1 1
            exact IV_v (IV_sv hi1 hc) (by decide) _ _
        · rw [if_neg h2] at hw
          rw [if_neg h2]
          have hfit : o_fits σ c = true := by
            cases hq : o_fits σ c with
            | true => rfl
            | false => exact absurd (Or.inr hq) hw
          have hi1 := IV_lay hi hc (fun e => ck_56 k3 (Or.inr e)) (k_m1 k0) hfit v x d
          exact IV_v (IV_sv hi1 hc) (by decide) _ _
    · rw [if_pos hf]; exact IV_fl hi t
  · rw [if_pos hk]; exact hi
theorem IV_gs (hi : IV σ N) {t c : Nat} (ht : t < 6) (hc : c < 8) (v : Int32) (l : Int) : IV (g_swap σ t c v l).2.2 N := by
  unfold g_swap
  by_cases hk : o_ck σ t c 5 5 = 0
  · rw [if_neg (fun e => e hk)]
    obtain ⟨k0, k1, k2, k3⟩ := ck_0 hk
    have h5 := i_anti k2 k3
    by_cases hf : x_v σ 2 t = 0
    · rw [if_neg (fun e => e hf)]
      cases hw : x_w σ c with
      | nil =>
        have hi1 : IV (s_v σ 8 t v) N := IV_v hi (by decide) _ _
        exact IV_wt (σ := s_v σ 8 t v) hi1 ht hc k1 (k_m1 k0) ⟨fun _ => rfl, fun e => absurd (Or.inl h5) e⟩ l
      | cons o w =>
        have hi1 : IV (s_v σ 4 t 1) N := IV_v hi (by decide) _ _
        have hi2 : IV (s_v (s_v σ 4 t 1) 5 t (x_v σ 8 o)) N := IV_v hi1 (by decide) _ _
        have hi3 : IV (s_v (s_v (s_v σ 4 t 1) 5 t (x_v σ 8 o)) 4 o 1) N := IV_v hi2 (by decide) _ _
        have hi4 : IV (s_v (s_v (s_v (s_v σ 4 t 1) 5 t (x_v σ 8 o)) 4 o 1) 5 o v) N := IV_v hi3 (by decide) _ _
        have hi5 := IV_free hi4 hc (show o ∈ x_w σ c by rw [hw]; simp) 1
        exact IV_v hi5 (by decide) _ _
    · rw [if_pos hf]; exact IV_fl hi t
  · rw [if_pos hk]; exact hi
theorem IV_ga (hi : IV σ N) {t c : Nat} (ht : t < 6) (hc : c < 8) (l : Int) : IV (g_arrive σ t c l).2.2 N := by
  unfold g_arrive
  by_cases hk : o_ck σ t c 6 6 = 0
  · rw [if_neg (fun e => e hk)]
    obtain ⟨k0, k1, k2, k3⟩ := ck_0 hk
    have h6 := i_anti k2 k3
    by_cases hb : x_v σ 15 c = 0
    · rw [if_neg (fun e => e hb)]
      by_cases hf : x_v σ 2 t = 0
      · rw [if_neg (fun e => e hf)]
        by_cases hn : Int32.ofNat (x_w σ c).length = x_v σ 14 c - 1
        · rw [if_pos hn]
          have hi1 := IV_all hi hc 1
          have hi2 : IV (s_v (o_all σ c 1) 16 c (x_v σ 16 c + 1)) N := IV_v hi1 (by decide) _ _
          exact IV_v hi2 (by decide) _ _
        · rw [if_neg hn]
          have hi1 : IV (s_v σ 4 t 1) N := IV_v hi (by decide) _ _
          have hi2 : IV (s_v (s_v σ 4 t 1) 5 t (Int32.ofNat (x_w σ c).length)) N := IV_v hi1 (by decide) _ _
          by_cases hl : l = 0
          · rw [if_pos hl]
            have hi3 : IV (s_v (s_v (s_v σ 4 t 1) 5 t (Int32.ofNat (x_w σ c).length)) 3 t 2) N := IV_v hi2 (by decide) _ _
            exact IV_brk hi3 hc
          · rw [if_neg hl]
            exact IV_in (σ := s_v (s_v σ 4 t 1) 5 t (Int32.ofNat (x_w σ c).length)) hi2 ht hc k1 (k_m1 k0) ⟨fun _ => rfl, fun e => absurd (Or.inr h6) e⟩ l
      · rw [if_pos hf]
        have hi1 := IV_fl hi t
        exact IV_brk hi1 hc
    · rw [if_pos hb]; exact hi
  · rw [if_pos hk]; exact hi
theorem IV_take (hi : IV σ N) (T C L : Int32) : IV (o_take σ T C L).2.2 N := by
  unfold o_take
  split
  · exact hi
  · rename_i hn
    obtain ⟨t, ht, rfl, et⟩ := i_T (fun e => hn (Or.inl e))
    obtain ⟨c, hc, rfl, ec⟩ := i_C (fun e => hn (Or.inr (Or.inl e)))
    rw [et, ec]; exact IV_gt hi ht hc _
theorem IV_give (hi : IV σ N) (T C V X L : Int32) : IV (o_give σ T C V X L).2.2 N := by
  unfold o_give
  split
  · exact hi
  · rename_i hn
    obtain ⟨t, ht, rfl, et⟩ := i_T (fun e => hn (Or.inl e))
    obtain ⟨c, hc, rfl, ec⟩ := i_C (fun e => hn (Or.inr (Or.inl e)))
    rw [et, ec]; exact IV_gg hi ht hc _ _ _
theorem IV_swap (hi : IV σ N) (T C V L : Int32) : IV (o_swap σ T C V L).2.2 N := by
  unfold o_swap
  split
  · exact hi
  · rename_i hn
    obtain ⟨t, ht, rfl, et⟩ := i_T (fun e => hn (Or.inl e))
    obtain ⟨c, hc, rfl, ec⟩ := i_C (fun e => hn (Or.inr (Or.inl e)))
    rw [et, ec]; exact IV_gs hi ht hc _ _
theorem IV_arrive (hi : IV σ N) (T C L : Int32) : IV (o_arrive σ T C L).2.2 N := by
  unfold o_arrive
  split
  · exact hi
  · rename_i hn
    obtain ⟨t, ht, rfl, et⟩ := i_T (fun e => hn (Or.inl e))
    obtain ⟨c, hc, rfl, ec⟩ := i_C (fun e => hn (Or.inr (Or.inl e)))
    rw [et, ec]; exact IV_ga hi ht hc _
theorem IV_reset (hi : IV σ N) (C : Int32) : IV (o_reset σ C).2.2 N := by
  unfold o_reset
  split
  · exact hi
  · rename_i hn
    obtain ⟨c, hc, rfl, ec⟩ := i_C hn
    rw [ec]
    split
    · exact hi
    · split
      · exact hi
      · exact IV_v (IV_all hi hc 4) (by decide) _ _
theorem IV_intr (hi : IV σ N) (T : Int32) : IV (o_intr σ T).2.2 N := by
  unfold o_intr
  split
  · exact hi
  · rename_i hn
    obtain ⟨t, ht, rfl, et⟩ := i_T hn
    rw [et]
    show IV (o_ist σ t) N
    unfold o_ist
    split
    · exact IV_flag hi t (Or.inr rfl)
    · exact IV_leave hi ht 3
theorem IV_make (hi : IV σ N) (C K A : Int32) : IV (o_make σ C K A).2.2 N := by
  unfold o_make
  split
  · exact hi
  · rename_i hn
    obtain ⟨c, hc, rfl, ec⟩ := i_C (fun e => hn (Or.inl e))
    rw [ec]
    split
    · exact hi
    · rename_i hm
      exact IV_new hi hc (Classical.byContradiction hm) (fun e => hn (Or.inr e))
theorem o_q1 (T : Int32) : (o_got σ T).2.2 = σ := by unfold o_got; split <;> (try split) <;> rfl
theorem o_q2 (T W : Int32) : (o_thread σ T W).2.2 = σ := by unfold o_thread; split <;> rfl
theorem o_q3 (C W : Int32) : (o_channel σ C W).2.2 = σ := by unfold o_channel; split <;> (try split) <;> rfl
theorem o_q4 (C I : Int32) : (o_item σ C I).2.2 = σ := by
  unfold o_item
  split
  · rfl
  · split
    · rfl
    · split <;> rfl
end
section
variable {G ca : Nat → Nat} {h wa ka : Nat}
def HB (G ca : Nat → Nat) (h wa ka : Nat) (wk : Nat → Nat) (M : hM) (O : Nat → Nat) (i : Nat) : Prop :=
  O h = 1 ∧ O wa = 2 ∧ O ka = 3 ∧ M h = some (.inr (3, [.ref wa, .ref ka, .int 0, .double FP.dconst0])) ∧ (∃ f, M wa = some (aE (ca 0) 6 f) ∧ ∀ t, t < i → f t = some (wk t)) ∧ M ka = some (aE (ca 1) 8 fun _ => none) ∧
    ∀ t, t < i → O (wk t) = 10 + t ∧ M (wk t) = some (.inr (2, wL t 0 (-1) 0 0 none (some (G 2)) 0 FP.dconst0 0 FP.dconst0))
theorem hb_34 {post : hM → Prop} (hp : ∀ wk O M', HB G ca h wa ka wk M' O 6 → post M') : ∀ (d i : Nat) (wk : Nat → Nat) (O : Nat → Nat) (M : hM), i + d = 6 → HB G ca h wa ka wk M O i → wp_Ha_init_34 G ca post (d + 1) M h (Int32.ofNat i) := by
  intro d
  induction d with
  | zero =>
    intro i wk O M e g
    have : i = 6 := by omega
    subst this
    exact ⟨fun _ => hp wk O M g, fun k => absurd (show (6 : Int32) ≤ Int32.ofNat 6 by decide) k⟩
  | succ d ih =>
    intro i wk O M e g
    obtain ⟨h1, h2, h3, h4, ⟨f, h5, h6⟩, h7, h8⟩ := g
    refine ⟨fun k => absurd ((i_le (a := 6) (b := i) (by decide) (by omega)).mp k) (by omega), fun _ => ⟨by omega, _, some wa, h4, rfl, fun q hq => ?_⟩⟩
    refine ⟨_, va_up_self _ _ _, by simp, _, va_up_self _ _ _, by simp, _, va_up_self _ _ _, by simp, _, va_up_self _ _ _, by simp, _, va_up_self _ _ _, by simp, _, va_up_self _ _ _, by simp, _, va_up_self _ _ _, by simp, _, va_up_self _ _ _, by simp, _, va_up_self _ _ _, by simp, _, va_up_self _ _ _, by simp, _, va_up_self _ _ _, by simp, nn_s ?_⟩
    simp only [up_up]
    have old : ∀ p, M p ≠ none → p ≠ q := fun p hp e => hp (by rw [e]; exact hq)
    have hwa := old wa (by rw [h5]; simp)
    have hka := old ka (by rw [h7]; simp)
    have hh := old h (by rw [h4]; simp)
    have hhw : h ≠ wa := fun e => by rw [e, h5] at h4; cases h4
    have hkw : ka ≠ wa := fun e => by rw [e, h2] at h3; cases h3
    have hqw : q ≠ wa := fun e => hwa e.symm
    refine ⟨6, f, (va_up_ne _ _ hwa).trans h5, i_in (by omega) (by decide), fun p e => by cases e; exact ⟨2, _, va_up_self _ _ _, rfl⟩, ?_⟩
    rw [i_of (by omega), i_succ]
    refine ih (i + 1) (va_up wk i q) (va_up O q (10 + i)) _ (by omega) ⟨(va_up_ne _ _ hh).trans h1, (va_up_ne _ _ hwa).trans h2, (va_up_ne _ _ hka).trans h3, ?_, ⟨va_up f i (some q), va_up_self _ _ _, fun t ht => ?_⟩, ?_, fun t ht => ?_⟩
    · rw [va_up_ne _ _ hhw, va_up_ne _ _ hh]; exact h4
    · by_cases e : t = i
      · subst e; rw [va_up_self, va_up_self]
      · rw [va_up_ne _ _ e, va_up_ne _ _ e]; exact h6 t (by omega)
    · rw [va_up_ne _ _ hkw, va_up_ne _ _ hka]; exact h7
    · by_cases e : t = i
      · subst e
        rw [va_up_self]
        refine ⟨va_up_self _ _ _, ?_⟩
        rw [va_up_ne _ _ hqw, va_up_self]
        rfl
      · rw [va_up_ne _ _ e]
        obtain ⟨a1, a2⟩ := h8 t (by omega)
        have hwq := old (wk t) (by rw [a2]; simp)
        have hww : wk t ≠ wa := fun e => by rw [e, h5] at a2; cases a2
        exact ⟨(va_up_ne _ _ hwq).trans a1, by rw [va_up_ne _ _ hww, va_up_ne _ _ hwq]; exact a2⟩
theorem H_init {M : hM} {v0 v1 v2 v3 : Value} (hMh : M h = some (.inr (3, [v0, v1, v2, v3]))) {post : hM → Prop} (hp : ∀ wa ka wk ch li kf M', RC G ca h wa ka wk ch li kf M' o_0 → post M') : wp_Ha_init G ca post M h := by
  refine ⟨by decide, by decide, fun wa hwa => ?_⟩
  have n1 : h ≠ wa := fun e => by rw [e, hwa] at hMh; cases hMh
  refine ⟨_, (va_up_ne _ _ n1).trans hMh, by simp, by decide, by decide, fun ka hka => ?_⟩
  have n2 : h ≠ ka := fun e => by rw [e, va_up_self] at hka; cases hka
  have n3 : wa ≠ ka := fun e => by rw [← e, va_up_ne _ _ (fun e => n1 e.symm), va_up_self] at hka; cases hka
  refine ⟨_, (va_up_ne _ _ n2).trans (va_up_self _ _ _), by simp, _, va_up_self _ _ _, by simp, _, va_up_self _ _ _, by simp, 7, by decide, ?_⟩
  refine hb_34 (wa := wa) (ka := ka) (fun wk O M' g => ?_) 6 0 (fun _ => 0) (va_up (va_up (va_up (fun _ => 0) h 1) wa 2) ka 3) _ rfl ⟨?_, ?_, va_up_self _ _ _, ?_, ⟨fun _ => none, ?_, fun t ht => absurd ht (Nat.not_lt_zero t)⟩, ?_, fun t ht => absurd ht (Nat.not_lt_zero t)⟩
  · obtain ⟨h1, h2, h3, h4, ⟨f, h5, h6⟩, h7, h8⟩ := g
    refine hp wa ka wk (fun _ => 0) (fun _ => 0) (fun _ => FP.dconst0) M' ⟨O, ⟨h1, h2, h3, ⟨FP.dconst0, ?_, q8_0⟩, ⟨f, h5, h6⟩, _, h7, fun c hc => ?_⟩, fun t ht => ⟨(h8 t ht).1, some (G 2), 0, FP.dconst0, ?_, fun c hc => by cases hc⟩, fun c hc => ⟨fun _ => ⟨rfl, rfl, rfl, rfl⟩, fun e => ?_⟩⟩
    · rw [h4]
      have : cn (x_v o_0 13) 8 = 0 := by decide
      rw [this]
    · rw [if_pos]
      show (if c < 8 then (-1 : Int32) else 0) < 0
      rw [if_pos hc]; decide
    · rw [(h8 t ht).2]
      have : x_v o_0 3 t = -1 := by
        show (if t < 6 then (-1 : Int32) else 0) = -1
        rw [if_pos ht]
      rw [this]; rfl
    · refine absurd ?_ e
      show (if c < 8 then (-1 : Int32) else 0) < 0
      rw [if_pos hc]; decide
  · rw [va_up_ne _ _ n2, va_up_ne _ _ n1, va_up_self]
  · rw [va_up_ne _ _ n3, va_up_self]
  · rw [va_up_self]; rfl
  · rw [va_up_ne _ _ (fun e => n1 e.symm), va_up_ne _ _ (fun e => n1 e.symm), va_up_ne _ _ (fun e => n1 e.symm), va_up_ne _ _ n3, va_up_ne _ _ (fun e => n1 e.symm), va_up_self]; rfl
  · rw [va_up_ne _ _ (fun e => n2 e.symm), va_up_ne _ _ (fun e => n2 e.symm), va_up_ne _ _ (fun e => n2 e.symm), va_up_self]; rfl
end

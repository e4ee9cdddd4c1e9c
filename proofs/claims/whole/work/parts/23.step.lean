/-! SERVING: every step keeps what always holds and frees a waiter; six steps are enough. -/
theorem step_cases {σ σ' : St} {c : Nat} (h : o_step σ c = some σ') :
    (∃ t, fw σ c 1 = some t ∧ rdy σ c = true ∧ σ' = o_free (o_tf σ t c) c t 1) ∨
    (∃ g, fw σ c 0 = some g ∧ o_fits σ c = true ∧ σ' = o_free (o_lay σ c (x_v σ 8 g) (x_e σ 9 g) (x_e σ 10 g)) c g 1) ∨
    (∃ t g, fw σ c 1 = some t ∧ fw σ c 0 = some g ∧ x_v σ 13 c = 2 ∧ σ' = o_free (o_free (o_obt σ t c (x_v σ 8 g) 0) c t 1) c g 1) := by
  unfold o_step at h
  cases ht : fw σ c 1 with
  | some t =>
    rw [ht] at h
    cases hg : fw σ c 0 with
    | some g =>
      rw [hg] at h
      dsimp only at h
      split at h
      · rename_i hr
        exact Or.inl ⟨t, rfl, hr, (Option.some.inj h).symm⟩
      · split at h
        · rename_i hf
          exact Or.inr (Or.inl ⟨g, rfl, hf, (Option.some.inj h).symm⟩)
        · split at h
          · rename_i hk
            exact Or.inr (Or.inr ⟨t, g, rfl, rfl, hk, (Option.some.inj h).symm⟩)
          · cases h
    | none =>
      rw [hg] at h
      dsimp only at h
      split at h
      · rename_i hr
        exact Or.inl ⟨t, rfl, hr, (Option.some.inj h).symm⟩
      · cases h
  | none =>
    rw [ht] at h
    cases hg : fw σ c 0 with
    | some g =>
      rw [hg] at h
      dsimp only at h
      split at h
      · rename_i hf
        exact Or.inr (Or.inl ⟨g, rfl, hf, (Option.some.inj h).symm⟩)
      · cases h
    | none =>
      rw [hg] at h
      cases h
theorem role_kind {σ : St} {N : Int} (h : IV σ N) {c t : Nat} {r : Int32} (hc : c < 8) (hf : fw σ c r = some t) (hr : r ≠ 2) : x_v σ 13 c ≠ 5 ∧ x_v σ 13 c ≠ 6 ∧ x_v σ 13 c ≠ -1 := by
  obtain ⟨hm, hv⟩ := fw_some hf
  have g := (h.2.1 c hc).2 t hm
  have k3 := h.2.2.1 c hc
  refine ⟨fun e => ?_, fun e => ?_, fun e => ?_⟩
  · have := g.2.2.1 (Or.inl e); rw [hv] at this; exact hr this
  · have := g.2.2.1 (Or.inr e); rw [hv] at this; exact hr this
  · rcases k3 with ⟨_, _, h0⟩ | ⟨kn, R, a, b, _⟩
    · rw [List.length_eq_zero_iff] at h0
      rw [h0] at hm; cases hm
    · rw [e] at a
      have : ∀ n, n ≤ 6 → (-1 : Int32) ≠ Int32.ofNat n := by decide
      exact this kn b a
theorem w_obt (σ : St) (t c : Nat) (v : Int32) (d : Int) : x_w (o_obt σ t c v d) = x_w σ := rfl
theorem w_tf (σ : St) (t c : Nat) : x_w (o_tf σ t c) = x_w σ := by
  cases hi : x_i σ c with
  | nil => rw [tf_nil hi]
  | cons e l => rw [tf_cons hi]; rfl
theorem w_lay (σ : St) (c : Nat) (v : Int32) (r d : Int) : x_w (o_lay σ c v r d) = x_w σ := rfl
theorem w_free (σ : St) (c t : Nat) (w : Int32) : x_w (o_free σ c t w) c = (x_w σ c).erase t := by
  show va_up σ.2.2.2.2.2.1 c ((x_w σ c).erase t) c = _
  exact va_up_self _ _ _
theorem fw_ne {σ : St} {c t g : Nat} (ht : fw σ c 1 = some t) (hg : fw σ c 0 = some g) : t ≠ g := by
  intro e; subst e
  have h1 := (fw_some ht).2
  have h2 := (fw_some hg).2
  rw [h1] at h2
  exact absurd h2 (by decide)
theorem IV_step {σ σ' : St} {N : Int} {c : Nat} (h : IV σ N) (hc : c < 8) (hs : o_step σ c = some σ') : IV σ' N ∧ (x_w σ' c).length < (x_w σ c).length := by
  rcases step_cases hs with ⟨t, ht, hr, rfl⟩ | ⟨g, hg, hf, rfl⟩ | ⟨t, g, ht, hg, hk, rfl⟩
  · have hm := (fw_some ht).1
    refine ⟨IV_free (IV_tf h t hc) hc (by rw [w_tf]; exact hm) 1, ?_⟩
    rw [w_free, w_tf, List.length_erase_of_mem hm]
    have := List.length_pos_of_mem hm
    omega
  · have hm := (fw_some hg).1
    have k := role_kind h hc hg (by decide)
    refine ⟨IV_free (IV_lay h hc k.2.1 k.2.2 hf _ _ _) hc (by rw [w_lay]; exact hm) 1, ?_⟩
    rw [w_free, w_lay, List.length_erase_of_mem hm]
    have := List.length_pos_of_mem hm
    omega
  · have hm := (fw_some ht).1
    have hm2 := (fw_some hg).1
    have hne := fw_ne ht hg
    have i1 := IV_obt h t hc (x_v σ 8 g) (d := 0) (by decide) (by decide)
    have i2 := IV_free i1 hc (t := t) (by rw [w_obt]; exact hm) 1
    have hm3 : g ∈ x_w (o_free (o_obt σ t c (x_v σ 8 g) 0) c t 1) c := by
      rw [w_free, w_obt]
      exact (List.Nodup.mem_erase_iff (h.2.1 c hc).1).mpr ⟨fun e => hne e.symm, hm2⟩
    refine ⟨IV_free i2 hc hm3 1, ?_⟩
    have h9 := List.length_pos_of_mem hm3
    rw [w_free, List.length_erase_of_mem hm3]
    rw [w_free, w_obt, List.length_erase_of_mem hm] at h9 ⊢
    omega
theorem serve_end : ∀ (n : Nat) {σ : St} {N : Int} {c : Nat}, IV σ N → c < 8 → (x_w σ c).length ≤ n → IV (o_serve n σ c) N ∧ o_step (o_serve n σ c) c = none
  | 0, σ, N, c, h, hc, hl => by
    refine ⟨h, ?_⟩
    cases hs : o_step σ c with
    | none => exact hs
    | some σ' => have := (IV_step h hc hs).2; omega
  | n + 1, σ, N, c, h, hc, hl => by
    unfold o_serve
    cases hs : o_step σ c with
    | none => exact ⟨h, hs⟩
    | some σ' =>
      have := IV_step h hc hs
      exact serve_end n this.1 hc (by omega)
theorem IV_sv {σ : St} {N : Int} (h : IV σ N) {c : Nat} (hc : c < 8) : IV (o_sv σ c) N := (serve_end 6 h hc (IV_len h hc)).1
/-- where no step can be made, nothing is served -/
theorem serve_none {σ : St} {c : Nat} (h : o_step σ c = none) : ∀ n, o_serve n σ c = σ
  | 0 => rfl
  | n + 1 => by unfold o_serve; rw [h]
/-- more steps than are wanted change nothing -/
theorem serve_more : ∀ (n m : Nat) {σ : St} {N : Int} {c : Nat}, IV σ N → c < 8 → (x_w σ c).length ≤ n → n ≤ m → o_serve m σ c = o_serve n σ c
  | 0, m, σ, N, c, h, hc, hl, _ => serve_none (serve_end 0 h hc hl).2 m
  | n + 1, 0, _, _, _, _, _, _, hm => absurd hm (by omega)
  | n + 1, m + 1, σ, N, c, h, hc, hl, hm => by
    unfold o_serve
    cases hs : o_step σ c with
    | none => rfl
    | some σ' =>
      have := IV_step h hc hs
      exact serve_more n m this.1 hc (by omega) (by omega)
theorem fw_56 {σ : St} {N : Int} (h : IV σ N) {c : Nat} (hc : c < 8) (hk : x_v σ 13 c = 5 ∨ x_v σ 13 c = 6 ∨ x_v σ 13 c = -1) {r : Int32} (hr : r ≠ 2) : fw σ c r = none := by
  cases hf : fw σ c r with
  | none => rfl
  | some t =>
    have := role_kind h hc hf hr
    rcases hk with h | h | h
    · exact absurd h this.1
    · exact absurd h this.2.1
    · exact absurd h this.2.2
theorem step_56 {σ : St} {N : Int} (h : IV σ N) {c : Nat} (hc : c < 8) (hk : x_v σ 13 c = 5 ∨ x_v σ 13 c = 6 ∨ x_v σ 13 c = -1) : o_step σ c = none := by
  unfold o_step
  rw [fw_56 h hc hk (by decide), fw_56 h hc hk (by decide)]
theorem sv_56 {σ : St} {N : Int} (h : IV σ N) {c : Nat} (hc : c < 8) (hk : x_v σ 13 c = 5 ∨ x_v σ 13 c = 6 ∨ x_v σ 13 c = -1) : o_sv σ c = σ := serve_none (step_56 h hc hk) 6
theorem IV_leave {σ : St} {N : Int} (h : IV σ N) {t : Nat} (ht : t < 6) (w : Int32) : IV (o_leave σ t w) N := by
  unfold o_leave
  split
  · exact h
  · rename_i c hp
    have := (h.1 t ht).2 c hp
    have h1 := IV_free h this.1 this.2 w
    split
    · exact IV_sv (IV_brk h1 this.1) this.1
    · exact IV_sv h1 this.1
/-- two waiters are freed in either order -/
theorem free_comm (σ : St) (c : Nat) {t g : Nat} (h : t ≠ g) (w : Int32) : o_free (o_free σ c t w) c g w = o_free (o_free σ c g w) c t w := by
  have h2 : g ≠ t := fun e => h e.symm
  dsimp only [o_free, s_v, s_e, s_p, s_w, x_w]
  rw [va_up_self, va_up_self, List.erase_comm]
  refine Prod.ext ?_ (Prod.ext ?_ (Prod.ext ?_ (Prod.ext rfl (Prod.ext rfl (Prod.ext ?_ rfl)))))
  · funext k i
    show u2 (u2 σ.1 3 t w) 3 g w k i = u2 (u2 σ.1 3 g w) 3 t w k i
    by_cases hk : k = 3
    · subst hk
      by_cases ht : i = t
      · subst ht; rw [u2_i _ _ _ h, u2_s, u2_s]
      · by_cases hg : i = g
        · subst hg; rw [u2_s, u2_i _ _ _ h2, u2_s]
        · rw [u2_i _ _ _ hg, u2_i _ _ _ ht, u2_i _ _ _ ht, u2_i _ _ _ hg]
    · rw [u2_n _ _ _ hk, u2_n _ _ _ hk, u2_n _ _ _ hk, u2_n _ _ _ hk]
  · funext i
    show va_up (va_up σ.2.1 t none) g none i = va_up (va_up σ.2.1 g none) t none i
    rw [va_up_at, va_up_at, va_up_at, va_up_at]
    by_cases ht : i = t <;> by_cases hg : i = g <;> simp [ht, hg]
  · funext k i
    show u2 (u2 σ.2.2.1 11 t (-8)) 11 g (-8) k i = u2 (u2 σ.2.2.1 11 g (-8)) 11 t (-8) k i
    by_cases hk : k = 11
    · subst hk
      by_cases ht : i = t
      · subst ht; rw [u2_i _ _ _ h, u2_s, u2_s]
      · by_cases hg : i = g
        · subst hg; rw [u2_s, u2_i _ _ _ h2, u2_s]
        · rw [u2_i _ _ _ hg, u2_i _ _ _ ht, u2_i _ _ _ ht, u2_i _ _ _ hg]
    · rw [u2_n _ _ _ hk, u2_n _ _ _ hk, u2_n _ _ _ hk, u2_n _ _ _ hk]
  · funext d
    show va_up (va_up σ.2.2.2.2.2.1 c _) c _ d = va_up (va_up σ.2.2.2.2.2.1 c _) c _ d
    rw [va_up_at, va_up_at, va_up_at, va_up_at]
    by_cases hd : d = c <;> simp [hd]

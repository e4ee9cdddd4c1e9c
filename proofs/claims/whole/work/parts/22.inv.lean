/-! WHAT ALWAYS HOLDS goes on holding, step by step. -/
theorem IV_v {σ : St} {N : Int} (h : IV σ N) {k : Nat} (hk : k ≠ 2 ∧ k ≠ 7 ∧ k ≠ 13 ∧ k ≠ 14) (i : Nat) (v : Int32) : IV (s_v σ k i v) N := by
  have e2 : u2 σ.1 k i v 2 = σ.1 2 := u2_n _ _ _ (by omega)
  have e7 : u2 σ.1 k i v 7 = σ.1 7 := u2_n _ _ _ (by omega)
  have e13 : u2 σ.1 k i v 13 = σ.1 13 := u2_n _ _ _ (by omega)
  have e14 : u2 σ.1 k i v 14 = σ.1 14 := u2_n _ _ _ (by omega)
  unfold s_v IV
  dsimp only [x_v, x_p, x_w, x_i, x_s, x_n]
  rw [e2, e7, e13, e14]
  exact h
theorem IV_flag {σ : St} {N : Int} (h : IV σ N) (t : Nat) {v : Int32} (hv : v = 0 ∨ v = 1) : IV (s_v σ 2 t v) N := by
  obtain ⟨h1, h2⟩ := h
  refine ⟨fun u hu => ⟨?_, (h1 u hu).2⟩, h2⟩
  show u2 σ.1 2 t v 2 u = 0 ∨ u2 σ.1 2 t v 2 u = 1
  rw [u2_k]
  dsimp only
  split
  · exact hv
  · exact (h1 u hu).1
theorem IV_e {σ : St} {N : Int} (h : IV σ N) (k i : Nat) (v : Int) : IV (s_e σ k i v) N := h
theorem IV_s {σ : St} {N : Int} (h : IV σ N) (c : Nat) {v : UInt64} (hv : FP.Core.dIsNaN v = false) : IV (s_s σ c v) N := by
  obtain ⟨h1, h2, h3, h4, h5, h6⟩ := h
  refine ⟨h1, h2, h3, h4, fun d hd => ?_, h6⟩
  show FP.Core.dIsNaN (va_up σ.2.2.2.1 c v d) = false
  rw [va_up_at]
  split
  · exact hv
  · exact h5 d hd
theorem IV_n {σ : St} {N N' : Int} (h : IV σ N) {n : Int} (h1 : x_n σ ≤ n) (h2 : n ≤ N') (h3 : N' ≤ 4104000) : IV (s_n σ n) N' := by
  obtain ⟨g1, g2, g3, g4, g5, g6, g7⟩ := h
  refine ⟨g1, g2, g3, fun c hc e he => ?_, g5, ?_, h2, h3⟩
  · have := g4 c hc e he
    exact ⟨this.1, Int.le_trans this.2 h1⟩
  · exact Int.le_trans g6 h1
theorem IV_N {σ : St} {N N' : Int} (h : IV σ N) (h2 : N ≤ N') (h3 : N' ≤ 4104000) : IV σ N' := by
  obtain ⟨g1, g2, g3, g4, g5, g6, g7, g8⟩ := h
  exact ⟨g1, g2, g3, g4, g5, g6, Int.le_trans g7 h2, h3⟩
theorem IV_obt {σ : St} {N : Int} (h : IV σ N) (t : Nat) {c : Nat} (hc : c < 8) (v : Int32) {d : Int} (h0 : 0 ≤ d) (h1 : d < 2147483648) : IV (o_obt σ t c v d) N :=
  IV_v (IV_s (IV_v (IV_v h (by decide) _ _) (by decide) _ _) c (nan_add (h.2.2.2.2.1 c hc) (bt_q h0 h1).1)) (by decide) _ _
theorem IV_items {σ : St} {N : Int} (h : IV σ N) {c : Nat} {l : List It} (hl : ∀ e, e ∈ l → 0 ≤ e.2.2.2 ∧ e.2.2.2 ≤ x_n σ) (hk : c < 8 → KO (x_v σ 13 c) (x_v σ 14 c) l.length (x_w σ c).length) : IV (s_i σ c l) N := by
  obtain ⟨h1, h2, h3, h4, h5, h6⟩ := h
  refine ⟨h1, h2, fun d hd => ?_, fun d hd e he => ?_, h5, h6⟩
  · have := h3 d hd
    dsimp only [s_i, x_v, x_i, x_w] at this hk ⊢
    rw [va_up_at]
    split
    · rename_i e; subst e; exact hk hd
    · exact this
  · dsimp only [s_i, x_v, x_i, x_w, x_n] at he hl ⊢
    rw [va_up_at] at he
    split at he
    · exact hl e he
    · exact h4 d hd e he
theorem KO_le {k rm : Int32} {li lj lw : Nat} (h : KO k rm li lw) (hl : lj ≤ li) : KO k rm lj lw := by
  rcases h with ⟨a, b, c⟩ | ⟨kn, R, a, b, c, d, e, f, g⟩
  · exact Or.inl ⟨a, by omega, c⟩
  · exact Or.inr ⟨kn, R, a, b, c, d, e, fun h => by have := f h; omega, by omega⟩
theorem tf_nil {σ : St} {t c : Nat} (h : x_i σ c = []) : o_tf σ t c = σ := by unfold o_tf; rw [h]
theorem tf_cons {σ : St} {t c : Nat} {e : It} {l : List It} (h : x_i σ c = e :: l) : o_tf σ t c = s_i (o_obt σ t c e.1 (x_n σ - e.2.2.2)) c l := by unfold o_tf; rw [h]
theorem IV_tf {σ : St} {N : Int} (h : IV σ N) (t : Nat) {c : Nat} (hc : c < 8) : IV (o_tf σ t c) N := by
  cases hi : x_i σ c with
  | nil => rw [tf_nil hi]; exact h
  | cons e l =>
    rw [tf_cons hi]
    have h4 := h.2.2.2.1 c hc
    have h6 := h.2.2.2.2.2
    rw [hi] at h4
    have he := h4 e (by simp)
    refine IV_items (IV_obt h t hc _ (by omega) (by omega)) (fun e' he' => h4 e' (by simp [he'])) (fun _ => ?_)
    have h3 := h.2.2.1 c hc
    rw [hi] at h3
    exact KO_le h3 (by simp)
theorem fits_lt {σ : St} {N : Int} (h : IV σ N) {c : Nat} (hc : c < 8) (hk : x_v σ 13 c ≠ 6) (hk1 : x_v σ 13 c ≠ -1) (hf : o_fits σ c = true) : KO (x_v σ 13 c) (x_v σ 14 c) ((x_i σ c).length + 1) (x_w σ c).length := by
  unfold o_fits at hf
  have hf := of_decide_eq_true hf
  rcases h.2.2.1 c hc with ⟨a, b, c⟩ | ⟨kn, R, a, b, c1, d, e, f, g⟩
  · exact absurd a hk1
  · rw [c1, i_lt (by omega) (by omega)] at hf
    exact Or.inr ⟨kn, R, a, b, c1, d, e, fun h6 => by subst h6; exact absurd a hk, by omega⟩
theorem IV_lay {σ : St} {N : Int} (h : IV σ N) {c : Nat} (hc : c < 8) (hk : x_v σ 13 c ≠ 6) (hk1 : x_v σ 13 c ≠ -1) (hf : o_fits σ c = true) (v : Int32) (r d : Int) : IV (o_lay σ c v r d) N := by
  unfold o_lay
  refine IV_items h (fun e he => ?_) (fun _ => ?_)
  · have h6 := h.2.2.2.2.2
    rcases List.mem_append.mp he with h1 | h1
    · exact h.2.2.2.1 c hc e (List.mem_of_mem_take h1)
    · rcases List.mem_cons.mp h1 with h1 | h1
      · subst h1; exact ⟨h6.1, Int.le_refl _⟩
      · exact h.2.2.2.1 c hc e (List.mem_of_mem_drop h1)
  · have := fits_lt h hc hk hk1 hf
    rw [List.length_append, List.length_cons, List.length_take, List.length_drop]
    exact KO_le this (by omega)
theorem IV_all {σ : St} {N : Int} (h : IV σ N) {c : Nat} (hc : c < 8) (w : Int32) : IV (o_all σ c w) N := by
  obtain ⟨h1, h2, h3, h4, h5, h6⟩ := h
  refine ⟨fun u hu => ⟨(h1 u hu).1, fun d hd => ?_⟩, fun d hd => ⟨?_, fun u hu => ?_⟩, fun d hd => ?_, h4, h5, h6⟩
  · dsimp only [o_all, x_p, x_w] at hd ⊢
    split at hd
    · cases hd
    · rename_i hn
      have := (h1 u hu).2 d hd
      refine ⟨this.1, ?_⟩
      rw [va_up_at]
      split
      · rename_i e; subst e; exact absurd this.2 hn
      · exact this.2
  · dsimp only [o_all, x_w]
    rw [va_up_at]
    split
    · exact List.nodup_nil
    · exact (h2 d hd).1
  · dsimp only [o_all, x_w, x_p, x_v] at hu ⊢
    rw [va_up_at] at hu
    split at hu
    · cases hu
    · rename_i hne
      have := (h2 d hd).2 u hu
      refine ⟨this.1, ?_, this.2.2⟩
      rw [if_neg]
      · exact this.2.1
      · intro hm
        have h9 := ((h2 c hc).2 u hm).2.1
        rw [this.2.1] at h9
        exact hne (Option.some.inj h9)
  · have := h3 d hd
    show KO (σ.1 13 d) (σ.1 14 d) (x_i σ d).length (va_up σ.2.2.2.2.2.1 c [] d).length
    rw [va_up_at]
    split
    · rename_i e; subst e
      rcases this with ⟨a, b, c⟩ | a
      · exact Or.inl ⟨a, b, rfl⟩
      · exact Or.inr a
    · exact this
theorem IV_in {σ : St} {N : Int} (h : IV σ N) {t c : Nat} (ht : t < 6) (hc : c < 8) (hp : x_p σ t = none) (hk : x_v σ 13 c ≠ -1) {r : Int32} (hr : ((x_v σ 13 c = 5 ∨ x_v σ 13 c = 6) → r = 2) ∧ (¬ (x_v σ 13 c = 5 ∨ x_v σ 13 c = 6) → r = 0 ∨ r = 1)) (lim : Int) : IV (o_in σ t c r lim) N := by
  obtain ⟨h1, h2, h3, h4, h5, h6⟩ := h
  have hnm : ∀ d, d < 8 → t ∉ x_w σ d := fun d hd hm => by
    have := ((h2 d hd).2 t hm).2.1
    rw [hp] at this; cases this
  refine ⟨fun u hu => ⟨(h1 u hu).1, fun d hd => ?_⟩, fun d hd => ⟨?_, fun u hu => ?_⟩, fun d hd => ?_, h4, h5, h6⟩
  · dsimp only [o_in, s_v, s_e, s_p, s_w, x_p, x_w] at hd ⊢
    rw [va_up_at] at hd
    rw [va_up_at]
    split at hd
    · rename_i e; subst e
      have e := Option.some.inj hd
      subst e
      rw [if_pos rfl]
      exact ⟨hc, by simp⟩
    · have := (h1 u hu).2 d hd
      refine ⟨this.1, ?_⟩
      split
      · rename_i e; subst e; exact List.mem_append_left _ this.2
      · exact this.2
  · dsimp only [o_in, s_v, s_e, s_p, s_w, x_p, x_w]
    rw [va_up_at]
    split
    · rw [List.nodup_append]
      refine ⟨(h2 c hc).1, by simp, fun a ha b hb => ?_⟩
      rw [List.mem_singleton] at hb
      subst hb
      intro e; subst e
      exact hnm c hc ha
    · exact (h2 d hd).1
  · dsimp only [o_in, s_v, s_e, s_p, s_w, x_p, x_w, x_v] at hu ⊢
    rw [va_up_at] at hu
    have e13 : ∀ a b : Nat → Nat → Int32, True := fun _ _ => trivial
    have e1 : ∀ (f : Nat → Nat → Int32) (i j : Nat) (a b : Int32), u2 (u2 f 7 i a) 3 j b 13 = f 13 := fun f i j a b => by rw [u2_n _ _ _ (by decide), u2_n _ _ _ (by decide)]
    have e2 : ∀ (f : Nat → Nat → Int32) (i j : Nat) (a b : Int32), u2 (u2 f 7 i a) 3 j b 7 = u2 f 7 i a 7 := fun f i j a b => by rw [u2_n _ _ _ (by decide)]
    rw [e1, e2, u2_k, va_up_at]
    dsimp only
    by_cases hut : u = t
    · subst hut
      rw [if_pos rfl, if_pos rfl]
      have hdc : d = c := by
        split at hu
        · assumption
        · exact absurd hu (hnm d hd)
      subst hdc
      exact ⟨ht, rfl, hr.1, hr.2⟩
    · rw [if_neg hut, if_neg hut]
      have hm : u ∈ x_w σ d := by
        split at hu
        · rename_i e; subst e
          rcases List.mem_append.mp hu with g | g
          · exact g
          · exact absurd (List.mem_singleton.mp g) hut
        · exact hu
      exact (h2 d hd).2 u hm
  · have := h3 d hd
    dsimp only [o_in, s_v, s_e, s_p, s_w, x_p, x_w, x_v, x_i] at this hk ⊢
    have e1 : ∀ (f : Nat → Nat → Int32) (i j : Nat) (a b : Int32), u2 (u2 f 7 i a) 3 j b 13 = f 13 := fun f i j a b => by rw [u2_n _ _ _ (by decide), u2_n _ _ _ (by decide)]
    have e2 : ∀ (f : Nat → Nat → Int32) (i j : Nat) (a b : Int32), u2 (u2 f 7 i a) 3 j b 14 = f 14 := fun f i j a b => by rw [u2_n _ _ _ (by decide), u2_n _ _ _ (by decide)]
    rw [e1, e2, va_up_at]
    split
    · rename_i e; subst e
      rcases this with ⟨a, b⟩ | a
      · exact absurd a hk
      · exact Or.inr a
    · exact this
theorem IV_brk {σ : St} {N : Int} (h : IV σ N) {c : Nat} (hc : c < 8) : IV (o_brk σ c) N := IV_all (IV_v h (by decide) _ _) hc 4

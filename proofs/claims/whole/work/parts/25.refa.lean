/-! THE REFERENCE'S METHODS: first, settle, waitAt, free. -/
theorem RSv_u {fI : Nat → Nat → Int32} {σ : St} (h : RSv fI σ) (k i : Nat) (v : Int32) : RSv (u2 fI k i v) (s_v σ k i v) := by
  intro j hj
  show u2 fI k i v j = u2 σ.1 k i v j
  have e := h j hj
  by_cases hk : j = k
  · subst hk
    rw [u2_k, u2_k, e]
  · rw [u2_n _ _ _ hk, u2_n _ _ _ hk, e]
theorem RSv_o {fI : Nat → Nat → Int32} {σ : St} (h : RSv fI σ) {k : Nat} (hk : ∀ j, j ∈ [2, 3, 4, 5, 7, 8, 13, 14, 15, 16, 25] → j ≠ k) (i : Nat) (v : Int32) : RSv (u2 fI k i v) σ := by
  intro j hj
  rw [u2_n _ _ _ (hk j hj)]
  exact h j hj
theorem RSe_u {fD : Nat → Nat → UInt64} {σ : St} (h : RSe fD σ) (k t : Nat) {x : UInt64} {v : Int} (hx : q8 x v) : RSe (u2 fD k t x) (s_e σ k t v) := by
  intro j hj u hu
  show q8 (u2 fD k t x j u) (u2 σ.2.2.1 k t v j u)
  by_cases hk : j = k
  · subst hk
    rw [u2_k, u2_k]
    dsimp only
    by_cases e : u = t
    · rw [if_pos e, if_pos e]; exact hx
    · rw [if_neg e, if_neg e]; exact h j hj u hu
  · rw [u2_n _ _ _ hk, u2_n _ _ _ hk]; exact h j hj u hu
theorem RSe_o {fD : Nat → Nat → UInt64} {σ : St} (h : RSe fD σ) {k : Nat} (hk : k ≠ 9 ∧ k ≠ 10 ∧ k ≠ 11) (i : Nat) (v : UInt64) : RSe (u2 fD k i v) σ := by
  intro j hj u hu
  rw [u2_n _ _ _ (by simp at hj; omega)]
  exact h j hj u hu
theorem RSp_o {fI : Nat → Nat → Int32} {σ : St} (h : RSp fI σ) {k : Nat} (hk : k ≠ 6 ∧ k ≠ 1) (i : Nat) (v : Int32) : RSp (u2 fI k i v) σ := by
  intro t ht
  rw [u2_n _ _ _ (fun e => hk.1 e.symm), u2_n _ _ _ (fun e => hk.2 e.symm)]
  exact h t ht
theorem RSw_o {fI : Nat → Nat → Int32} {σ : St} (h : RSw fI σ) {k : Nat} (hk : k ≠ 17 ∧ k ≠ 18) (i : Nat) (v : Int32) : RSw (u2 fI k i v) σ := by
  intro c hc
  rw [u2_n _ _ _ (fun e => hk.1 e.symm), u2_n _ _ _ (fun e => hk.2 e.symm)]
  exact h c hc
theorem RSi_o {fI : Nat → Nat → Int32} {fD : Nat → Nat → UInt64} {σ : St} (h : RSi fI fD σ) {k : Nat} (hk : k ≠ 23 ∧ k ≠ 19) (i : Nat) (v : Int32) : RSi (u2 fI k i v) fD σ := by
  intro c hc
  rw [u2_n _ _ _ (fun e => hk.1 e.symm), u2_n _ _ _ (fun e => hk.2 e.symm)]
  exact h c hc
theorem RSi_d {fI : Nat → Nat → Int32} {fD : Nat → Nat → UInt64} {σ : St} (h : RSi fI fD σ) {k : Nat} (hk : k ≠ 20 ∧ k ≠ 21 ∧ k ≠ 22) (i : Nat) (v : UInt64) : RSi fI (u2 fD k i v) σ := by
  intro c hc
  rw [u2_n _ _ _ (fun e => hk.1 e.symm), u2_n _ _ _ (fun e => hk.2.1 e.symm), u2_n _ _ _ (fun e => hk.2.2 e.symm)]
  exact h c hc
/-- one of the state's ints is laid -/
theorem RS_v {fI : Nat → Nat → Int32} {fD : Nat → Nat → UInt64} {tx : UInt64} {σ : St} (h : RS fI fD tx σ) {k : Nat} (hk : k ∈ [2, 3, 4, 5, 7, 8, 13, 14, 15, 16, 25]) (i : Nat) (v : Int32) : RS (u2 fI k i v) fD tx (s_v σ k i v) := by
  obtain ⟨h1, h2, h3, h4, h5, h6, h7⟩ := h
  simp at hk
  exact ⟨RSv_u h1 k i v, h2, RSp_o h3 (by omega) i v, RSw_o h4 (by omega) i v, RSi_o h5 (by omega) i v, h6, h7⟩
theorem RS_e {fI : Nat → Nat → Int32} {fD : Nat → Nat → UInt64} {tx : UInt64} {σ : St} (h : RS fI fD tx σ) {k : Nat} (hk : k ∈ [9, 10, 11]) (i : Nat) {x : UInt64} {v : Int} (hx : q8 x v) : RS fI (u2 fD k i x) tx (s_e σ k i v) := by
  obtain ⟨h1, h2, h3, h4, h5, h6, h7⟩ := h
  simp at hk
  refine ⟨h1, RSe_u h2 k i hx, h3, h4, RSi_d h5 (by omega) i x, ?_, h7⟩
  rw [u2_n _ _ _ (by omega)]; exact h6
section
variable {G ca ma : Nat → Nat} {mo : Nat} {M : hM} {fI : Nat → Nat → Int32} {fD : Nat → Nat → UInt64} {fl : Int32} {tx : UInt64} {σ : St} {N : Int}
theorem m_first_2 (h : RM ca ma mo M fI fD fl tx) (hs : RS fI fD tx σ) (hi : IV σ N) {c : Nat} (hc : c < 8) {r : Int32} {post : Int32 → hM → Prop} :
    ∀ (d i : Nat), i + d = (x_w σ c).length → post (oi (((x_w σ c).drop i).find? fun t => decide (x_v σ 7 t = r))) M → wp_Mo_first_2 G ca post (d + 1) M mo (Int32.ofNat c) r (Int32.ofNat i) := by
  have hl := IV_len hi hc
  have h18 := (hs.2.2.2.1 c hc).1
  have h17 := (hs.2.2.2.1 c hc).2
  have h7 := hs.1 7 (by decide)
  intro d
  induction d with
  | zero =>
    intro i hd hp
    unfold wp_Mo_first_2
    refine gr_m h rfl (nn_s (ai_m h rfl rfl rfl rfl (by dsimp [mN]; omega) ?_))
    rw [h18]
    refine ⟨fun _ => ?_, fun hn => absurd ((i_le (by omega) (by omega)).mpr (by omega)) hn⟩
    rw [List.drop_of_length_le (by omega)] at hp
    exact hp
  | succ d ih =>
    intro i hd hp
    unfold wp_Mo_first_2
    refine gr_m h rfl (nn_s (ai_m h rfl rfl rfl rfl (by dsimp [mN]; omega) ?_))
    rw [h18]
    have hil : i < (x_w σ c).length := by omega
    refine ⟨fun hn => absurd ((i_le (by omega) (by omega)).mp hn) (by omega), fun _ => ?_⟩
    have h17i := h17 i _ (List.getElem?_eq_getElem hil)
    have ht := ((hi.2.1 c hc).2 _ (List.getElem_mem hil)).1
    rw [List.drop_eq_getElem_cons hil, List.find?_cons] at hp
    rw [i_six, i_add]
    refine gr_m h rfl (gr_m h rfl (nn_s (ai_m h rfl rfl rfl rfl (by dsimp [mN]; omega) (nn_s ?_))))
    rw [h17i]
    refine ai_m h rfl rfl rfl rfl ht ?_
    rw [h7]
    refine ⟨fun hn => ?_, fun he => gr_m h rfl (nn_s (ai_m h rfl rfl rfl rfl (by dsimp [mN]; omega) ?_))⟩
    · rw [i_succ]
      refine ih (i + 1) (by omega) ?_
      simp only [hn, decide_false] at hp
      exact hp
    · rw [h17i]
      simp only [he, decide_true] at hp
      exact hp
theorem m_first (h : RM ca ma mo M fI fD fl tx) (hs : RS fI fD tx σ) (hi : IV σ N) {c : Nat} (hc : c < 8) {r : Int32} {post : Int32 → hM → Prop} (hp : post (oi (fw σ c r)) M) : wp_Mo_first G ca post M mo (Int32.ofNat c) r :=
  ⟨_, m_first_2 h hs hi hc _ 0 (Nat.zero_add _) hp⟩
theorem m_settle (h : RM ca ma mo M fI fD fl tx) {t : Nat} (ht : t < 6) {w : Int32} {post : Int32 → hM → Prop} (hp : ∀ M', RM ca ma mo M' (u2 fI 3 t w) fD fl tx → post w M') : wp_Mo_settle G ca post M mo (Int32.ofNat t) w :=
  gr_m h rfl (nn_s (si_m h rfl rfl rfl rfl ht hp))
theorem m_waitAt (h : RM ca ma mo M fI fD fl tx) (hs : RS fI fD tx σ) (hi : IV σ N) {t c : Nat} (ht : t < 6) (hc : c < 8) (hpl : x_p σ t = none) {r : Int32} {lx : UInt64} {lim : Int} (hlx : q8 lx lim) (hlim : lim ≤ 8000) {post : Int32 → hM → Prop}
    (hp : ∀ M', RR ca ma mo M' (o_wait σ t c r lim).2 fl → post (o_wait σ t c r lim).1 M') : wp_Mo_waitAt G ca post M mo (Int32.ofNat t) (Int32.ofNat c) r lx := by
  have hl := IV_len hi hc
  have hnm : t ∉ x_w σ c := fun hm => by
    have := ((hi.2.1 c hc).2 t hm).2.1
    rw [hpl] at this; cases this
  have hl5 : (x_w σ c).length < 6 := by
    have hd : (t :: x_w σ c).Nodup := List.nodup_cons.mpr ⟨hnm, (hi.2.1 c hc).1⟩
    have := pigeon 6 (t :: x_w σ c) hd (fun u hu => by
      rcases List.mem_cons.mp hu with rfl | hu
      · exact ht
      · exact ((hi.2.1 c hc).2 u hu).1)
    simp at this
    omega
  obtain ⟨s1, s2, s3, s4, s5, s6, s7⟩ := hs
  have h18 := (s4 c hc).1
  unfold o_wait at hp
  constructor
  · intro hne
    rw [e_eq hlx.1 q8_0.1] at hne
    rw [if_neg hne] at hp
    refine gr_m h rfl (gr_m h rfl (nn_s (ai_m h rfl rfl rfl rfl (by dsimp [mN]; omega) (nn_s ?_))))
    rw [h18, i_six, i_add]
    refine si_m h rfl rfl rfl rfl (by dsimp [mN]; omega) fun M1 h1 => ?_
    refine gr_m h1 rfl (nn_s (ai_m h1 rfl rfl rfl rfl (by dsimp [mN]; omega) ?_))
    rw [u2_n _ _ _ (by decide), h18, i_succ]
    refine si_m h1 rfl rfl rfl rfl (by dsimp [mN]; omega) fun M2 h2 => ?_
    refine gr_m h2 rfl (nn_s (si_m h2 rfl rfl rfl rfl ht fun M3 h3 => ?_))
    refine gr_m h3 rfl (nn_s (si_m h3 rfl rfl rfl rfl ht fun M4 h4 => ?_))
    refine gr_m h4 rfl (nn_s ⟨Or.inr rfl, si_m h4 rfl rfl rfl rfl ht fun M5 h5 => ?_⟩)
    have key : ∀ (ex : UInt64), q8 ex (if 0 < lim then x_n σ + lim else -8) → wp_Mo_waitAt_87 G ca post M5 mo (Int32.ofNat t) ex (Int32.ofNat t) (some (ma 11)) := by
      intro ex hex
      refine nn_s (sd_m h5 rfl rfl rfl ht fun M6 h6 => rc_m h6 (m_settle h6 ht fun M7 h7 => ?_))
      refine hp M7 ⟨_, _, _, h7, ?_⟩
      refine ⟨?_, ?_, ?_, ?_, ?_, ?_, s7⟩
      · exact RSv_u (RSv_o (RSv_u (σ := σ) (RSv_o (RSv_o (RSv_o s1 (by decide) _ _) (by decide) _ _) (by decide) _ _) 7 t r) (by decide) _ _) 3 t 0
      · exact RSe_u (σ := σ) s2 11 t hex
      · intro u hu
        have := s3 u hu
        show u2 (u2 (u2 (u2 (u2 (u2 fI 17 _ _) 18 _ _) 6 _ _) 7 _ _) 1 _ _) 3 _ _ 6 u = oi (va_up σ.2.1 t (some c) u) ∧ u2 (u2 (u2 (u2 (u2 (u2 fI 17 _ _) 18 _ _) 6 _ _) 7 _ _) 1 _ _) 3 _ _ 1 u = ob (va_up σ.2.1 t (some c) u)
        rw [va_up_at]
        by_cases e : u = t
        · simp [u2, e, oi, ob]
        · simp [u2, e]; exact this
      · intro d hd
        have := s4 d hd
        show u2 (u2 (u2 (u2 (u2 (u2 fI 17 _ _) 18 _ _) 6 _ _) 7 _ _) 1 _ _) 3 _ _ 18 d = Int32.ofNat (va_up σ.2.2.2.2.2.1 c (x_w σ c ++ [t]) d).length ∧ ∀ i u, (va_up σ.2.2.2.2.2.1 c (x_w σ c ++ [t]) d)[i]? = some u → u2 (u2 (u2 (u2 (u2 (u2 fI 17 _ _) 18 _ _) 6 _ _) 7 _ _) 1 _ _) 3 _ _ 17 (6 * d + i) = Int32.ofNat u
        rw [va_up_at]
        by_cases e : d = c
        · subst e
          rw [if_pos rfl]
          refine ⟨by simp [u2], fun i u hiu => ?_⟩
          rw [List.getElem?_append] at hiu
          split at hiu
          · rename_i hlt
            have h9 := this.2 i u hiu
            simp [u2]
            rw [if_neg (by omega)]; exact h9
          · rename_i hge
            have : i = (x_w σ d).length := by
              by_cases h0 : i - (x_w σ d).length = 0
              · omega
              · rw [List.getElem?_eq_none (by simp; omega)] at hiu; cases hiu
            subst this
            simp at hiu
            simp [u2, hiu]
        · rw [if_neg e]
          have hld := IV_len hi hd
          refine ⟨by simp [u2, e]; exact this.1, fun i u hiu => ?_⟩
          have hil : i < (x_w σ d).length := by
            rcases Nat.lt_or_ge i (x_w σ d).length with g | g
            · exact g
            · rw [List.getElem?_eq_none g] at hiu; cases hiu
          simp [u2]
          rw [if_neg (by omega)]; exact this.2 i u hiu
      · exact RSi_o (RSi_o (RSi_o (RSi_o (RSi_o (RSi_o (RSi_d s5 (by decide) _ _) (by decide) _ _) (by decide) _ _) (by decide) _ _) (by decide) _ _) (by decide) _ _) (by decide) _ _
      · rw [u2_n _ _ _ (by decide)]; exact s6
    have hn := hi.2.2.2.2.2
    refine gr_m h5 rfl ⟨fun hle => ?_, fun hgt => gd_m h5 ⟨?_, ?_⟩⟩
    · rw [e_le hlx.1 q8_0.1] at hle
      exact key _ (by rw [if_neg (by omega)]; exact q8_m1)
    · rw [e_le hlx.1 q8_0.1] at hgt
      exact e8_nn (q8_add s7 hlx (by omega) (by omega) (by omega)).1
    · rw [e_le hlx.1 q8_0.1] at hgt
      exact key _ (by rw [if_pos (by omega)]; exact q8_add s7 hlx (by omega) (by omega) (by omega))
  · intro he
    rw [e_eq hlx.1 q8_0.1] at he
    rw [if_pos he] at hp
    exact rc_m h (m_settle h ht fun M' h' => hp M' ⟨_, _, _, h', RS_v ⟨s1, s2, s3, s4, s5, s6, s7⟩ (by decide) t 2⟩)
end

/-! THE LAW: every call answers alike. -/
theorem vpj {k L j : Nat} (h : 6 * k + j < L) (hL : L ≤ 3072) : vp_in (Int32.ofNat (6 * k) + Int32.ofNat j) L := by
  rw [i_add]; exact i_in h (by omega)
theorem idx {k L : Nat} (hL : L ≤ 3072) (hk : k ≤ 512) (h : ¬ Int32.ofNat L - 6 < Int32.ofNat (6 * k)) : 6 * k + 6 ≤ L := by
  by_cases h6 : 6 ≤ L
  · rw [show Int32.ofNat L - 6 = Int32.ofNat (L - 6) from i_sub (b := 6) h6, i_lt (by omega) (by omega)] at h
    omega
  · refine absurd (Int32.lt_of_lt_of_le (?_ : Int32.ofNat L - 6 < 0) (Int32.not_lt.mp (i_nn (n := 6 * k) (by omega)))) h
    have : ∀ L, L < 6 → Int32.ofNat L - 6 < 0 := by decide
    exact this L (by omega)
section
variable {G ca : Nat → Nat} {h mo l3 l4 : Nat} {σ : St} {N : Int}

/-- the world after the class's stay -/
def LSt (G ca : Nat → Nat) (h l3 l4 : Nat) (σ : St) (M : hM) (r : Int32 × UInt64) : Prop := ∃ Mc Mx : hM, dis Mc Mx ∧ M = uni Mc Mx ∧ (∃ wa ka wk ch li kf, RC G ca h wa ka wk ch li kf Mc σ) ∧ XO ca l3 l4 Mx ∧ (r.1 = 0 → ∃ f : Nat → UInt64, Mx l4 = some (.inl (ca 4, 1, .inr (.inr (.inr (.inl f))))) ∧ f 0 = r.2)
theorem S_ex {Mc Mx : hM} {r : Int32 × UInt64} {k : Int32} {wa ka : Nat} {wk ch li : Nat → Nat} {kf : Nat → UInt64} {post : Int32 → hM → Prop} (g : RC G ca h wa ka wk ch li kf Mc σ) (hd : dis Mc Mx) (hX : XO ca l3 l4 Mx) (hp : ∀ M16, LSt G ca h l3 l4 σ M16 r → post r.1 M16) (hk : k ≠ 0) (e : r = (k, 0)) : post k (uni Mc Mx) := by
  subst e
  exact hp _ ⟨Mc, Mx, hd, rfl, ⟨_, _, _, _, _, _, g⟩, hX, fun e => absurd e hk⟩
theorem L_stay {Mc Mx : hM} {wa ka : Nat} {wk ch li : Nat → Nat} {kf : Nat → UInt64} (g : RC G ca h wa ka wk ch li kf Mc σ) (hi : IV σ N) (hd : dis Mc Mx) (hX : XO ca l3 l4 Mx) {C : Int32} {post : Int32 → hM → Prop}
    (hp : ∀ M16, LSt G ca h l3 l4 σ M16 (o_stay σ C) → post (o_stay σ C).1 M16) : wp_La_stay G ca post (uni Mc Mx) (some h) C (some l4) := by
  refine nn_s ⟨Mc, Mx, hd, rfl, rc_h g (H_stay g hi (fun h0 => ?_) (fun e _ M11 e2 => by subst e2; exact Or.inl ⟨rfl, S_ex g hd hX hp (by decide) e⟩) (fun e _ M11 e2 => by subst e2; exact Or.inr (Or.inl ⟨rfl, S_ex g hd hX hp (by decide) e⟩)) (fun e _ M11 e2 => by subst e2; exact Or.inr (Or.inr ⟨rfl, S_ex g hd hX hp (by decide) e⟩)))⟩
  intro _ M11 e
  subst e
  have hne := XO_ne hX
  obtain ⟨⟨f, h1⟩, g4, h2⟩ := hX
  have hc4 : Mc l4 = none := by
    rcases hd l4 with e | e
    · exact e
    · rw [h2] at e; cases e
  refine nn_s ⟨1, g4, by rw [uni_n hc4]; exact h2, i_in (n := 0) (N := 1) (by decide) (by decide), ?_⟩
  rw [h0] at hp
  refine hp _ ⟨Mc, va_up Mx l4 (some (.inl (ca 4, 1, .inr (.inr (.inr (.inl (vf_upd g4 0 (o_stay σ C).2))))))), fun q => ?_, ?_, ⟨_, _, _, _, _, _, g⟩, ⟨⟨f, (va_up_ne _ _ hne).trans h1⟩, ⟨_, va_up_self _ _ _⟩⟩, fun _ => ⟨_, va_up_self _ _ _, by simp [vf_upd]⟩⟩
  · by_cases e : q = l4
    · rw [e]; exact Or.inl hc4
    · rw [va_up_ne _ _ e]; exact hd q
  · funext q
    by_cases e : q = l4
    · rw [e, va_up_self, uni_n hc4, va_up_self]; rfl
    · rw [va_up_ne _ _ e]
      cases e1 : Mc q with
      | none => rw [uni_n e1, uni_n e1, va_up_ne _ _ e]
      | some x => rw [uni_s e1, uni_s e1]
theorem stay_n (hi : IV σ N) {C : Int32} (h0 : (o_stay σ C).1 = 0) : vf_n64 (o_stay σ C).2 := by
  unfold o_stay at h0 ⊢
  by_cases hb : bC C
  · rw [if_pos hb] at h0; exact nx1 h0
  · rw [if_neg hb] at h0 ⊢
    obtain ⟨c, hc, rfl, ec⟩ := i_C hb
    rw [ec] at h0 ⊢
    by_cases h2 : x_v σ 13 c < 0
    · rw [if_pos h2] at h0; exact nx2 h0
    · rw [if_neg h2] at h0 ⊢
      by_cases h3 : x_v σ 25 c = 0
      · rw [if_pos h3] at h0; exact nx3 h0
      · rw [if_neg h3]
        exact nan_div (hi.2.2.2.2.1 c hc) h3
theorem S_fin {M16 Mr : hM} {r : Int32 × UInt64} {fl : Int32} {ma : Nat → Nat} (hMM : LSt G ca h l3 l4 σ M16 r) (hr : RR ca ma mo Mr σ fl) (hv : r.1 = 0 → vf_n64 r.2) (hd : dis M16 Mr) {M347 : hM} (e347 : M347 = uni M16 Mr) {WP : (UInt64 → hM → Prop) → hM → Prop} {NEXT : hM → Prop} {BAD : UInt64 → hM → Prop}
    (hw : ∀ post : UInt64 → hM → Prop, (∀ b M', RR ca ma mo M' σ r.1 → (r.1 = 0 → b = r.2) → post b M') → WP post Mr) (hn : ∀ M', LW G ca h mo l3 l4 M' σ → NEXT M') :
    spl M347 fun Ma Mb => rC Ma mo 5 (WP (fun r354 Mc358 => dis Mc358 Mb → ∀ M355 : hM, M355 = uni Mc358 Mb → spl M355 fun Ma361 Mb362 => rC Ma361 mo 5 (wp_Mo_thrown G ca (fun r359 Mc363 => dis Mc363 Mb362 → ∀ M360 : hM, M360 = uni Mc363 Mb362 → (r359 = r.1 → (¬ r.1 = 0 → NEXT M360) ∧ (r.1 = 0 → aD M360 l4 (ca 4) 0 fun v366 => ((Op.cmpValue (FP.dcmp v366 r354) .l) = 0 → NEXT M360) ∧ (¬ (Op.cmpValue (FP.dcmp v366 r354) .l) = 0 → BAD r354 M360))) ∧ (¬ r359 = r.1 → False)) Ma361 mo)) Ma) := by
  subst e347
  refine ⟨Mr, M16, dis_s hd, uni_c hd, rc_r hr (hw _ fun b Mr' hr' hb hd2 M355 e355 => ⟨Mr', M16, hd2, e355, rc_r hr' (gi_r hr' fun _ M360 e360 => ?_)⟩)⟩
  subst e360
  obtain ⟨Mc, Mx, hdx, rfl, g, hX, hf⟩ := hMM
  have hlw : LW G ca h mo l3 l4 (uni Mr' (uni Mc Mx)) σ := ⟨Mc, Mr', Mx, hdx, dis_s hd2, uni_c hd2, g, ⟨ma, r.1, hr'⟩, hX⟩
  refine ⟨fun _ => ⟨fun _ => hn _ hlw, fun h0 => ?_⟩, fun e => absurd rfl e⟩
  obtain ⟨f, h1, h2⟩ := hf h0
  have hc4 : Mc l4 = none := by
    rcases hdx l4 with e | e
    · exact e
    · rw [h1] at e; cases e
  have hr4 : Mr' l4 = none := by
    rcases hd2 l4 with e | e
    · exact e
    · rw [uni_n hc4, h1] at e; cases e
  refine ⟨1, f, by rw [uni_n hr4, uni_n hc4]; exact h1, i_in (n := 0) (N := 1) (by decide) (by decide), ?_⟩
  rw [hb h0, show f (0 : Int32).toNatClampNeg = r.2 from h2]
  dsimp only
  rw [nn_self (hv h0)]
  exact ⟨fun _ => hn _ hlw, fun e => absurd rfl e⟩
theorem law_28 (hG : ∀ i j, i < 3 → j < 3 → G i = G j → i = j) {L : Nat} (hL : L ≤ 3072) {xs : Nat → Int32} : ∀ (d k : Nat) (M : hM) (σ : St), k + d = 512 → IV σ (8000 * (k : Int)) → LW G ca h mo l3 l4 M σ → wp_La_law_28 G ca L xs (d + 1) M h mo l3 l4 (Int32.ofNat (6 * k)) := by
  intro d
  induction d with
  | zero =>
    intro k M σ e hi hw
    exact ⟨fun _ => trivial, fun hn => absurd (idx hL (by omega) hn) (by omega)⟩
  | succ d ih =>
    intro k M σ e hi hw
    refine ⟨fun _ => trivial, fun hn => ?_⟩
    have hlen := idx hL (by omega) hn
    have h0 := vpj (j := 0) (by omega : 6 * k + 0 < L) hL
    have h1 := vpj (j := 1) (by omega : 6 * k + 1 < L) hL
    have h2 := vpj (j := 2) (by omega : 6 * k + 2 < L) hL
    have h3 := vpj (j := 3) (by omega : 6 * k + 3 < L) hL
    have h4 := vpj (j := 4) (by omega : 6 * k + 4 < L) hL
    have h5 := vpj (j := 5) (by omega : 6 * k + 5 < L) hL
    have hv0 : vp_in (Int32.ofNat (6 * k)) L := i_in (by omega) (by omega)
    have hnd : ∀ v : Int32, vf_n64 (FP.dmul (FP.i2d v) 4593671619917905920) := fun v => e8_nn (q8_mul v).1
    have nx : ∀ M' σ', IV σ' (8000 * (k : Int) + 8000) → LW G ca h mo l3 l4 M' σ' → wp_La_law_28 G ca L xs (d + 1) M' h mo l3 l4 (Int32.ofNat (6 * k) + 6) := fun M' σ' hi' hw' => by
      have := ih (k + 1) M' σ' (by omega) (by rw [show (8000 * ((k + 1 : Nat) : Int)) = 8000 * (k : Int) + 8000 by omega]; exact hi') hw'
      rw [show Int32.ofNat (6 * (k + 1)) = Int32.ofNat (6 * k) + 6 from (i_add (6 * k) 6).symm] at this
      exact this
    have nxi : ∀ M' σ', IV σ' (8000 * (k : Int)) → LW G ca h mo l3 l4 M' σ' → wp_La_law_28 G ca L xs (d + 1) M' h mo l3 l4 (Int32.ofNat (6 * k) + 6) := fun M' σ' hi' hw' => nx M' σ' (IV_N hi' (by omega) (by omega)) hw'
    have hw0 := hw
    obtain ⟨Mc, Mr, Mx, hdx, hdr, rfl, ⟨wa, ka, wk, ch, li, kf, g⟩, ⟨ma, fl, hr⟩, hX⟩ := hw
    refine ⟨by omega, hv0, fun v0 ev0 => ?_⟩
    clear ev0
    refine ⟨fun _ => ?_, fun _ => ?_⟩
    · refine ⟨h1, fun v1 e1 => ⟨h2, fun v2 e2 => ⟨h3, fun v3 e3 => ?_⟩⟩⟩
      subst e1 e2 e3
      refine ⟨uni Mc Mx, Mr, hdr, rfl, L_make g hi hdx hX fun M16 hm hd16 M347 e347 => ⟨h1, fun w1 f1 => ⟨h2, fun w2 f2 => ⟨h3, fun w3 f3 => ?_⟩⟩⟩⟩
      subst f1 f2 f3
      exact L_fin hm hr hd16 e347 (WP := fun post M => wp_Mo_make G ca post M mo _ _ _) (fun post hp => m_make hr hp) (fun M' hl => nxi M' _ (IV_make hi _ _ _) hl)
    refine ⟨fun _ => ?_, fun _ => ?_⟩
    · refine ⟨h1, fun v1 e1 => ⟨h2, fun v2 e2 => ⟨h3, fun v3 e3 => ⟨h4, fun v4 e4 => ⟨hnd _, ⟨h5, fun v5 e5 => ⟨hnd _, ?_⟩⟩⟩⟩⟩⟩⟩
      subst e1 e2 e3 e4 e5
      refine ⟨uni Mc Mx, Mr, hdr, rfl, L_give hG g hi hdx hX (q8_mul _) (q8_mul _) fun M16 hm hd16 M347 e347 => ⟨h1, fun w1 f1 => ⟨h2, fun w2 f2 => ⟨h3, fun w3 f3 => ⟨h4, fun w4 f4 => ⟨hnd _, ⟨h5, fun w5 f5 => ⟨hnd _, ?_⟩⟩⟩⟩⟩⟩⟩⟩
      subst f1 f2 f3 f4 f5
      exact L_fin hm hr hd16 e347 (WP := fun post M => wp_Mo_give G ca post M mo _ _ _ _ _) (fun post hp => m_give hr hi (q8_mul _) (q8_mul _) hp) (fun M' hl => nxi M' _ (IV_give hi _ _ _ _ _) hl)
    refine ⟨fun _ => ?_, fun _ => ?_⟩
    · refine ⟨h1, fun v1 e1 => ⟨h2, fun v2 e2 => ⟨h3, fun v3 e3 => ⟨hnd _, ?_⟩⟩⟩⟩
      subst e1 e2 e3
      refine ⟨uni Mc Mx, Mr, hdr, rfl, L_take hG g hi hdx hX (q8_mul _) fun M16 hm hd16 M347 e347 => ⟨h1, fun w1 f1 => ⟨h2, fun w2 f2 => ⟨h3, fun w3 f3 => ⟨hnd _, ?_⟩⟩⟩⟩⟩
      subst f1 f2 f3
      exact L_fin hm hr hd16 e347 (WP := fun post M => wp_Mo_take G ca post M mo _ _ _) (fun post hp => m_take hr hi (q8_mul _) hp) (fun M' hl => nxi M' _ (IV_take hi _ _ _) hl)
    refine ⟨fun _ => ?_, fun _ => ?_⟩
    · refine ⟨h1, fun v1 e1 => ⟨h2, fun v2 e2 => ⟨h3, fun v3 e3 => ⟨h4, fun v4 e4 => ⟨hnd _, ?_⟩⟩⟩⟩⟩
      subst e1 e2 e3 e4
      refine ⟨uni Mc Mx, Mr, hdr, rfl, L_swap hG g hi hdx hX (q8_mul _) fun M16 hm hd16 M347 e347 => ⟨h1, fun w1 f1 => ⟨h2, fun w2 f2 => ⟨h3, fun w3 f3 => ⟨h4, fun w4 f4 => ⟨hnd _, ?_⟩⟩⟩⟩⟩⟩
      subst f1 f2 f3 f4
      exact L_fin hm hr hd16 e347 (WP := fun post M => wp_Mo_swap G ca post M mo _ _ _ _) (fun post hp => m_swap hr hi (q8_mul _) hp) (fun M' hl => nxi M' _ (IV_swap hi _ _ _ _) hl)
    refine ⟨fun _ => ?_, fun _ => ?_⟩
    · refine ⟨h1, fun v1 e1 => ⟨h2, fun v2 e2 => ⟨h3, fun v3 e3 => ⟨hnd _, ?_⟩⟩⟩⟩
      subst e1 e2 e3
      refine ⟨uni Mc Mx, Mr, hdr, rfl, L_arrive g hi hdx hX (q8_mul _) fun M16 hm hd16 M347 e347 => ⟨h1, fun w1 f1 => ⟨h2, fun w2 f2 => ⟨h3, fun w3 f3 => ⟨hnd _, ?_⟩⟩⟩⟩⟩
      subst f1 f2 f3
      exact L_fin hm hr hd16 e347 (WP := fun post M => wp_Mo_arrive G ca post M mo _ _ _) (fun post hp => m_arrive hr hi (q8_mul _) hp) (fun M' hl => nxi M' _ (IV_arrive hi _ _ _) hl)
    refine ⟨fun _ => ?_, fun _ => ?_⟩
    · refine ⟨h1, fun v1 e1 => ?_⟩
      subst e1
      refine ⟨uni Mc Mx, Mr, hdr, rfl, L_reset g hi hdx hX fun M16 hm hd16 M347 e347 => ⟨h1, fun w1 f1 => ?_⟩⟩
      subst f1
      exact L_fin hm hr hd16 e347 (WP := fun post M => wp_Mo_reset G ca post M mo _) (fun post hp => m_reset hr hi hp) (fun M' hl => nxi M' _ (IV_reset hi _) hl)
    refine ⟨fun _ => ?_, fun _ => ?_⟩
    · refine ⟨h1, fun v1 e1 => ?_⟩
      subst e1
      refine ⟨uni Mc Mx, Mr, hdr, rfl, L_intr hG g hi hdx hX fun M16 hm hd16 M347 e347 => ⟨h1, fun w1 f1 => ?_⟩⟩
      subst f1
      exact L_fin hm hr hd16 e347 (WP := fun post M => wp_Mo_interrupt G ca post M mo _) (fun post hp => m_interrupt hr hi hp) (fun M' hl => nxi M' _ (IV_intr hi _) hl)
    refine ⟨fun _ => ?_, fun _ => ?_⟩
    · refine ⟨h1, fun v1 e1 => ⟨hnd _, ?_⟩⟩
      subst e1
      refine ⟨uni Mc Mx, Mr, hdr, rfl, L_tick hG g hi (by omega) hdx hX (q8_mul _) fun M16 hm hd16 M347 e347 => ⟨h1, fun w1 f1 => ⟨hnd _, ?_⟩⟩⟩
      subst f1
      exact L_fin hm hr hd16 e347 (WP := fun post M => wp_Mo_tick G ca post M mo _) (fun post hp => m_tick hr hi (by omega) (q8_mul _) hp) (fun M' hl => nx M' _ (IV_tick hi (by omega) _) hl)
    refine ⟨fun _ => ?_, fun _ => ?_⟩
    · refine ⟨h1, fun v1 e1 => ?_⟩
      subst e1
      refine ⟨uni Mc Mx, Mr, hdr, rfl, L_got g hdx hX fun M16 hm hd16 M347 e347 => ⟨h1, fun w1 f1 => ?_⟩⟩
      subst f1
      exact L_fin hm hr hd16 e347 (WP := fun post M => wp_Mo_got G ca post M mo _) (fun post hp => m_got hr hp) (fun M' hl => nxi M' _ ((by rw [o_q1]; exact hi)) hl)
    refine ⟨fun _ => ?_, fun _ => ?_⟩
    · refine ⟨h1, fun v1 e1 => ⟨h2, fun v2 e2 => ?_⟩⟩
      subst e1 e2
      refine ⟨uni Mc Mx, Mr, hdr, rfl, L_thread g hi hdx hX fun M16 hm hd16 M347 e347 => ⟨h1, fun w1 f1 => ⟨h2, fun w2 f2 => ?_⟩⟩⟩
      subst f1 f2
      exact L_fin hm hr hd16 e347 (WP := fun post M => wp_Mo_thread G ca post M mo _ _) (fun post hp => m_thread hr hp) (fun M' hl => nxi M' _ ((by rw [o_q2]; exact hi)) hl)
    refine ⟨fun _ => ?_, fun _ => ?_⟩
    · refine ⟨h1, fun v1 e1 => ⟨h2, fun v2 e2 => ?_⟩⟩
      subst e1 e2
      refine ⟨uni Mc Mx, Mr, hdr, rfl, L_channel g hi hdx hX fun M16 hm hd16 M347 e347 => ⟨h1, fun w1 f1 => ⟨h2, fun w2 f2 => ?_⟩⟩⟩
      subst f1 f2
      exact L_fin hm hr hd16 e347 (WP := fun post M => wp_Mo_channel G ca post M mo _ _) (fun post hp => m_channel hr hi hp) (fun M' hl => nxi M' _ ((by rw [o_q3]; exact hi)) hl)
    refine ⟨fun _ => ?_, fun _ => ?_⟩
    · refine ⟨h1, fun v1 e1 => ⟨h2, fun v2 e2 => ?_⟩⟩
      subst e1 e2
      refine ⟨uni Mc Mx, Mr, hdr, rfl, L_item g hi hdx hX fun M16 hm hd16 M347 e347 => ⟨h1, fun w1 f1 => ⟨h2, fun w2 f2 => ?_⟩⟩⟩
      subst f1 f2
      exact L_fin hm hr hd16 e347 (WP := fun post M => wp_Mo_item G ca post M mo _ _) (fun post hp => m_item hr hi hp) (fun M' hl => nxi M' _ ((by rw [o_q4]; exact hi)) hl)
    refine ⟨fun _ => ?_, fun _ => ?_⟩
    · refine ⟨h1, fun v1 e1 => ?_⟩
      subst e1
      refine ⟨uni Mc Mx, Mr, hdr, rfl, L_stay g hi hdx hX fun M16 hm hd16 M347 e347 => ⟨h1, fun w1 f1 => ?_⟩⟩
      subst f1
      exact S_fin hm hr (stay_n hi) hd16 e347 (WP := fun post M => wp_Mo_stay G ca post M mo _) (fun post hp => m_stay hr hi hp) (fun M' hl => nxi M' _ hi hl)
    refine ⟨fun _ => ?_, fun _ => nxi _ _ hi hw0⟩
    have hd1 : dis Mc Mr := dis_l hdr
    have hd2 : dis Mx Mr := dis_r hdr hdx
    have hdm : dis Mc (uni Mx Mr) := dis_s (dis_u (dis_s hdx) (dis_s hd1))
    refine ⟨Mc, uni Mx Mr, hdm, uni_a Mc Mx Mr, H_time g fun b hb _ M653 e653 => ?_⟩
    rw [← uni_a] at e653
    subst e653
    refine ⟨Mr, uni Mc Mx, dis_s hdr, uni_c hdr, rc_r hr (m_time hr fun b2 Mr' hr' hb2 hd3 M658 e658 => ?_)⟩
    subst e658
    have hlw : LW G ca h mo l3 l4 (uni Mr' (uni Mc Mx)) σ := ⟨Mc, Mr', Mx, hdx, dis_s hd3, uni_c hd3, ⟨_, _, _, _, _, _, g⟩, ⟨ma, 0, hr'⟩, hX⟩
    exact ⟨fun _ => nxi _ _ hi hlw, fun hz => absurd ((e_eq hb.1 hb2.1).mpr rfl) hz⟩
/-- the law from nothing -/
theorem law_0 (hG : ∀ i j, i < 3 → j < 3 → G i = G j → i = j) {L : Nat} (hL : L ≤ 3072) {xs : Nat → Int32} : wp_La_law G ca L xs (fun _ => none) := by
  intro h _
  refine ⟨va_up (fun _ => none) h (some (.inr (3, [.null, .null, .int 0, .double FP.dconst0]))), fun _ => none, fun q => Or.inr rfl, ?_, H_init (va_up_self _ _ _) fun wa ka wk ch li kf Mc g _ M667 e667 mo hmo => ?_⟩
  · funext q
    cases e : va_up (fun _ => none : hM) h (some (.inr (3, [.null, .null, .int 0, .double FP.dconst0]))) q with
    | none => rw [uni_n e]
    | some x => rw [uni_s e]
  have e667 : M667 = Mc := by
    rw [e667]
    funext q
    cases e : Mc q with
    | none => rw [uni_n e]
    | some x => rw [uni_s e]
  subst e667
  generalize hfs : [Value.int 0, .null, .null, .null, .null, .null, .null, .null, .null, .null, .null, .null, .double FP.dconst0, .null, .null, .null, .null, .null, .null, .null, .null, .null, .null, .null, .null, .null] = fs
  have hd0 : dis (va_up (fun _ => none : hM) mo (some (.inr (5, fs)))) M667 := fun q => by
    by_cases e : q = mo
    · rw [e]; exact Or.inr hmo
    · exact Or.inl (va_up_ne _ _ e)
  refine ⟨va_up (fun _ => none) mo (some (.inr (5, fs))), M667, hd0, ?_, m_init (va_up_self _ _ _) (by rw [← hfs]; rfl) (by rw [← hfs]; rfl) (by rw [← hfs]; rfl) fun ma Mr hr hd M673 e673 => ?_⟩
  · funext q
    by_cases e : q = mo
    · rw [e, va_up_self, uni_s (va_up_self _ _ _)]
    · rw [va_up_ne _ _ e, uni_n (va_up_ne _ _ e)]
  subst e673
  refine ⟨by decide, by decide, fun l3 hl3 => ⟨by decide, by decide, fun l4 hl4 => ⟨513, by decide, ?_⟩⟩⟩
  have hr3 : Mr l3 = none := by
    cases e : Mr l3 with
    | none => rfl
    | some x => rw [uni_s e] at hl3; cases hl3
  have hc3 : M667 l3 = none := by rw [uni_n hr3] at hl3; exact hl3
  have hne : l4 ≠ l3 := fun e => by rw [e, va_up_self] at hl4; cases hl4
  have hl4' : uni Mr M667 l4 = none := by rw [va_up_ne _ _ hne] at hl4; exact hl4
  have hr4 : Mr l4 = none := by
    cases e : Mr l4 with
    | none => rfl
    | some x => rw [uni_s e] at hl4'; cases hl4'
  have hc4 : M667 l4 = none := by rw [uni_n hr4] at hl4'; exact hl4'
  generalize ha3 : (.inl (ca 3, (1 : Int32).toNatClampNeg, .inr (.inl (fun _ => 0))) : va_E) = a3
  generalize ha4 : (.inl (ca 4, (1 : Int32).toNatClampNeg, .inr (.inr (.inr (.inl (fun _ => FP.dconst0))))) : va_E) = a4
  have hx : ∀ q, q ≠ l3 → q ≠ l4 → va_up (va_up (fun _ => none : hM) l3 (some a3)) l4 (some a4) q = none := fun q a b => by rw [va_up_ne _ _ b, va_up_ne _ _ a]
  have hdx : dis M667 (va_up (va_up (fun _ => none : hM) l3 (some a3)) l4 (some a4)) := fun q => by
    by_cases e3 : q = l3
    · rw [e3]; exact Or.inl hc3
    · by_cases e4 : q = l4
      · rw [e4]; exact Or.inl hc4
      · exact Or.inr (hx q e3 e4)
  have hrx : dis (va_up (va_up (fun _ => none : hM) l3 (some a3)) l4 (some a4)) Mr := fun q => by
    by_cases e3 : q = l3
    · rw [e3]; exact Or.inr hr3
    · by_cases e4 : q = l4
      · rw [e4]; exact Or.inr hr4
      · exact Or.inl (hx q e3 e4)
  refine law_28 hG hL 512 0 _ o_0 rfl IV_0 ⟨M667, Mr, va_up (va_up (fun _ => none) l3 (some a3)) l4 (some a4), hdx, dis_u (dis_s hd) hrx, ?_, ⟨_, _, _, _, _, _, g⟩, ⟨ma, 0, hr⟩, ⟨⟨_, by rw [va_up_ne _ _ (fun e => hne e.symm), va_up_self, ← ha3]; rfl⟩, _, by rw [va_up_self, ← ha4]; rfl⟩⟩
  generalize hMx : va_up (va_up (fun _ => none : hM) l3 (some a3)) l4 (some a4) = Mx at hx hdx hrx
  have m3 : Mx l3 = some a3 := by rw [← hMx, va_up_ne _ _ (fun e => hne e.symm), va_up_self]
  have m4 : Mx l4 = some a4 := by rw [← hMx, va_up_self]
  funext q
  by_cases e4 : q = l4
  · have r1 : uni (uni M667 Mx) Mr q = some a4 := by
      rw [e4]
      exact uni_s (by rw [uni_n hc4]; exact m4)
    rw [r1, e4, va_up_self]
    exact congrArg some ha4
  · rw [va_up_ne _ _ e4]
    by_cases e3 : q = l3
    · have r1 : uni (uni M667 Mx) Mr q = some a3 := by
        rw [e3]
        exact uni_s (by rw [uni_n hc3]; exact m3)
      rw [r1, e3, va_up_self]
      exact congrArg some ha3
    · rw [va_up_ne _ _ e3]
      cases e1 : M667 q with
      | none =>
        have r1 : uni (uni M667 Mx) Mr q = Mr q := uni_n (by rw [uni_n e1]; exact hx q e3 e4)
        rw [r1]
        cases e2 : Mr q with
        | none => rw [uni_n e2, e1]
        | some x => rw [uni_s e2]
      | some x =>
        have r1 : uni (uni M667 Mx) Mr q = some x := uni_s (uni_s e1)
        rw [r1]
        rcases hd q with k | k
        · rw [uni_n k, e1]
        · rw [e1] at k; cases k
end

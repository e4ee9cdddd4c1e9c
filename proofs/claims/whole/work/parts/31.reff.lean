/-! THE REFERENCE'S CALLS: swap, arrive, reset, interrupt, channel, make. -/
section
variable {G ca ma : Nat → Nat} {mo : Nat} {fl : Int32} {σ : St} {N : Int}
theorem xs_r {M : hM} {t j : Nat} {K : hM → Prop} (h : RR ca ma mo M σ fl) (ht : t < 6) (hj : j < 6) (hK : ∀ M', RR ca ma mo M' (s_v σ 5 t (x_v σ 8 j)) fl → K M') :
    gR M mo 5 5 fun v => gR M mo 5 8 fun w => nN w fun b => aI M b (ca 5) (Int32.ofNat j) fun x => nN v fun b' => sI M b' (ca 5) (Int32.ofNat t) x K := by
  have h0 := h
  obtain ⟨fI, fD, tx, h, hs⟩ := h
  refine gr_m h rfl (rv_r h0 (by decide) rfl rfl hj (nn_s (si_m h rfl rfl rfl rfl ht fun M' h' => hK M' ⟨_, _, _, h', RS_v hs (by decide) t _⟩)))
theorem xw_r {M : hM} {t c : Nat} {K : hM → Prop} (h : RR ca ma mo M σ fl) (ht : t < 6) (hc : c < 8) (hK : ∀ M', RR ca ma mo M' (s_v σ 5 t (Int32.ofNat (x_w σ c).length)) fl → K M') :
    gR M mo 5 5 fun v => gR M mo 5 18 fun w => nN w fun b => aI M b (ca 5) (Int32.ofNat c) fun x => nN v fun b' => sI M b' (ca 5) (Int32.ofNat t) x K := by
  have h0 := h
  obtain ⟨fI, fD, tx, h, hs⟩ := h
  refine gr_m h rfl (wl_r h0 hc (nn_s (si_m h rfl rfl rfl rfl ht fun M' h' => hK M' ⟨_, _, _, h', RS_v hs (by decide) t _⟩)))
theorem m_swap_42 {M : hM} (h : RR ca ma mo M σ fl) (hi : IV σ N) {t c : Nat} (ht : t < 6) (hc : c < 8) {v : Int32} {l : Int} {lx : UInt64} (hl : q8 lx l) (hl2 : l ≤ 8000) {post : Int32 → hM → Prop}
    (hp : ∀ b M', RR ca ma mo M' (g_swap σ t c v l).2.2 (g_swap σ t c v l).1 → ((g_swap σ t c v l).1 = 0 → b = (g_swap σ t c v l).2.1) → post b M') :
    wp_Mo_swap_42 G ca post M mo (Int32.ofNat t) (Int32.ofNat c) v lx (o_ck σ t c 5 5) mo := by
  refine pf_r h fun M0 h0 => gi_r h0 ⟨fun hk => ?_, fun hk => ?_⟩
  · have hk := ck_le hk
    rw [hk] at h0
    unfold g_swap at hp; rw [if_neg (fun e => e hk)] at hp
    refine m_flagged h0 ht (fun hf M1 h1 => ⟨fun e => nx1 e, fun _ => ?_⟩) (fun hf => ⟨fun _ => wl_r h0 hc ⟨fun hn => ?_, fun hn => ?_⟩, fun e => absurd rfl e⟩)
    · rw [if_pos hf] at hp; exact hp 3 M1 h1 (fun _ => rfl)
    · rw [if_neg (fun e => e hf)] at hp
      cases hw : x_w σ c with
      | nil => rw [hw] at hn; exact absurd rfl hn
      | cons o w =>
        rw [hw] at hp
        have hom : o ∈ x_w σ c := by rw [hw]; simp
        have ho := ((hi.2.1 c hc).2 o hom).1
        refine wt_r h0 hc (i := 0) (t := o) (by decide) (i_six c) (by rw [hw]; rfl) (wb_r h0 (Or.inr rfl) (by decide) rfl rfl ht fun M1 h1 => xs_r h1 ht ho fun M2 h2 => wb_r h2 (Or.inr rfl) (by decide) rfl rfl ho fun M3 h3 => wv_r h3 (by decide) rfl rfl ho fun M4 h4 => ?_)
        have hi4 : IV (s_v (s_v (s_v (s_v σ 4 t 1) 5 t (x_v σ 8 o)) 4 o 1) 5 o v) N := IV_v (IV_v (IV_v (IV_v hi (by decide) _ _) (by decide) _ _) (by decide) _ _) (by decide) _ _
        exact rc_r h4 (m_free hc h4 hi4 hom fun M5 h5 => settle_r h5 ht fun M6 h6 => hp 1 M6 h6 (fun _ => rfl))
    · rw [if_neg (fun e => e hf)] at hp
      cases hw : x_w σ c with
      | nil =>
        rw [hw] at hp
        exact wv_r h0 (by decide) rfl rfl ht fun M1 h1 => wait_r h1 (IV_v hi (by decide) _ _) ht hc (ck_0 hk).2.1 hl hl2 fun M' h' => hp _ M' h' (fun _ => rfl)
      | cons o w =>
        have := IV_len hi hc
        rw [hw] at hn this
        have e := (i_eq (a := (o :: w).length) (b := 0) (by omega) (by decide)).mp hn
        simp at e
  · have hk : o_ck σ t c 5 5 ≠ 0 := fun e => hk (by rw [e]; decide)
    unfold g_swap at hp; rw [if_pos hk] at hp
    exact hp 0 M0 h0 (fun e => absurd e hk)
theorem m_swap {M : hM} (h : RR ca ma mo M σ fl) (hi : IV σ N) {T C V L : Int32} {lx : UInt64} (hl : q8 lx L.toInt) {post : Int32 → hM → Prop}
    (hp : ∀ b M', RR ca ma mo M' (o_swap σ T C V L).2.2 (o_swap σ T C V L).1 → ((o_swap σ T C V L).1 = 0 → b = (o_swap σ T C V L).2.1) → post b M') : wp_Mo_swap G ca post M mo T C V lx := by
  have hbad : (bT T ∨ bC C ∨ bL L) → wp_Mo_swap_30 G ca post M mo T C V lx mo := fun e => by
    unfold o_swap at hp; rw [if_pos e] at hp
    show wp_Mo_swap_42 G ca post M mo T C V lx 1 mo
    exact pf_r h fun M0 h0 => gi_r h0 ⟨fun e => absurd e (by decide), fun _ => hp 0 M0 h0 (fun e => nx1 e)⟩
  refine m_out h (fun hb => ⟨fun _ => hbad (Or.inl hb), fun e => nx1 e⟩) fun hT => ⟨fun e => absurd rfl e, fun _ => m_out h (fun hb => ⟨fun _ => hbad (Or.inr (Or.inl hb)), fun e => nx1 e⟩) fun hC => ⟨fun e => absurd rfl e, fun _ => m_badLimit h hl (fun hb => ⟨fun e => nx1 e, fun _ => hbad (Or.inr (Or.inr hb))⟩) fun hL => ⟨fun _ => ?_, fun e => absurd rfl e⟩⟩⟩
  unfold o_swap at hp
  rw [if_neg (fun e => e.elim hT (fun e => e.elim hC hL))] at hp
  obtain ⟨t, ht, rfl, et⟩ := i_T hT
  obtain ⟨c, hc, rfl, ec⟩ := i_C hC
  rw [et, ec] at hp
  exact m_check h ht hc (m_swap_42 h hi ht hc hl (by unfold bL at hL; omega) hp)
theorem m_arrive_43 {M : hM} (h : RR ca ma mo M σ fl) (hi : IV σ N) {t c : Nat} (ht : t < 6) (hc : c < 8) {l : Int} {lx : UInt64} (hl : q8 lx l) (hl2 : l ≤ 8000) {post : Int32 → hM → Prop}
    (hp : ∀ b M', RR ca ma mo M' (g_arrive σ t c l).2.2 (g_arrive σ t c l).1 → ((g_arrive σ t c l).1 = 0 → b = (g_arrive σ t c l).2.1) → post b M') :
    wp_Mo_arrive_43 G ca post M mo (Int32.ofNat t) (Int32.ofNat c) lx (o_ck σ t c 6 6) mo := by
  refine pf_r h fun M0 h0 => gi_r h0 ⟨fun hk => rv_r h0 (by decide) rfl rfl hc ⟨fun hb => ?_, fun hb => ?_⟩, fun hk => ?_⟩
  · have hk := ck_le hk
    rw [hk] at h0
    unfold g_arrive at hp; rw [if_neg (fun e => e hk), if_neg (fun e => e hb)] at hp
    refine m_flagged h0 ht (fun hf M1 h1 => ⟨fun e => nx1 e, fun _ => ?_⟩) (fun hf => ⟨fun _ => wl_r h0 hc (rv_r h0 (by decide) rfl rfl hc ⟨fun hn => ?_, fun hn => ?_⟩), fun e => absurd rfl e⟩)
    · rw [if_pos hf] at hp
      refine wb_r h1 (Or.inr rfl) (by decide) rfl rfl hc fun M2 h2 => rc_r h2 (m_freeAll hc h2 (IV_v (IV_v (IV_flag hi t (Or.inl rfl)) (by decide) _ _) (by decide) _ _) fun M3 h3 => hp 3 M3 h3 (fun _ => rfl))
    · rw [if_neg (fun e => e hf), if_neg hn] at hp
      refine wb_r h0 (Or.inr rfl) (by decide) rfl rfl ht fun M1 h1 => xw_r h1 ht hc fun M2 h2 => ?_
      have hi2 : IV (s_v (s_v σ 4 t 1) 5 t (Int32.ofNat (x_w σ c).length)) N := IV_v (IV_v hi (by decide) _ _) (by decide) _ _
      refine wait_r h2 hi2 ht hc (ck_0 hk).2.1 hl hl2 fun M3 h3 => ?_
      unfold o_wait at h3 ⊢
      by_cases hz : l = 0
      · rw [if_pos hz] at hp h3 ⊢
        refine ⟨fun e => absurd rfl e, fun _ => wb_r h3 (Or.inr rfl) (by decide) rfl rfl hc fun M4 h4 => rc_r h4 (m_freeAll hc h4 (IV_v (IV_v hi2 (by decide) _ _) (by decide) _ _) fun M5 h5 => hp 2 M5 h5 (fun _ => rfl))⟩
      · rw [if_neg hz] at hp h3 ⊢
        exact ⟨fun _ => hp 0 M3 h3 (fun _ => rfl), fun e => absurd (show (0 : Int32) = 2 from e) (by decide)⟩
    · rw [if_neg (fun e => e hf), if_pos hn] at hp
      exact rc_r h0 (m_freeAll hc h0 hi fun M1 h1 => by
        obtain ⟨fI, fD, tx, h1c, hs⟩ := id h1
        refine gr_m h1c rfl (nn_s (ai_m h1c rfl rfl rfl rfl hc (si_m h1c rfl rfl rfl rfl hc fun M2 h2 => settle_r (σ := s_v (o_all σ c 1) 16 c (x_v σ 16 c + 1)) ⟨_, _, _, h2, ?_⟩ ht fun M3 h3 => hp 1 M3 h3 (fun _ => rfl))))
        rw [hs.1 16 (by decide)]
        exact RS_v hs (by decide) c _)
  · have hk := ck_le hk
    unfold g_arrive at hp; rw [if_neg (fun e => e hk), if_pos hb] at hp
    exact m_fail h0 fun M1 h1 => hp 0 M1 h1 (fun e => nx5 e)
  · have hk : o_ck σ t c 6 6 ≠ 0 := fun e => hk (by rw [e]; decide)
    unfold g_arrive at hp; rw [if_pos hk] at hp
    exact hp 0 M0 h0 (fun e => absurd e hk)
theorem m_arrive {M : hM} (h : RR ca ma mo M σ fl) (hi : IV σ N) {T C L : Int32} {lx : UInt64} (hl : q8 lx L.toInt) {post : Int32 → hM → Prop}
    (hp : ∀ b M', RR ca ma mo M' (o_arrive σ T C L).2.2 (o_arrive σ T C L).1 → ((o_arrive σ T C L).1 = 0 → b = (o_arrive σ T C L).2.1) → post b M') : wp_Mo_arrive G ca post M mo T C lx := by
  have hbad : (bT T ∨ bC C ∨ bL L) → wp_Mo_arrive_29 G ca post M mo T C lx mo := fun e => by
    unfold o_arrive at hp; rw [if_pos e] at hp
    show wp_Mo_arrive_43 G ca post M mo T C lx 1 mo
    exact pf_r h fun M0 h0 => gi_r h0 ⟨fun e => absurd e (by decide), fun _ => hp 0 M0 h0 (fun e => nx1 e)⟩
  refine m_out h (fun hb => ⟨fun _ => hbad (Or.inl hb), fun e => nx1 e⟩) fun hT => ⟨fun e => absurd rfl e, fun _ => m_out h (fun hb => ⟨fun _ => hbad (Or.inr (Or.inl hb)), fun e => nx1 e⟩) fun hC => ⟨fun e => absurd rfl e, fun _ => m_badLimit h hl (fun hb => ⟨fun e => nx1 e, fun _ => hbad (Or.inr (Or.inr hb))⟩) fun hL => ⟨fun _ => ?_, fun e => absurd rfl e⟩⟩⟩
  unfold o_arrive at hp
  rw [if_neg (fun e => e.elim hT (fun e => e.elim hC hL))] at hp
  obtain ⟨t, ht, rfl, et⟩ := i_T hT
  obtain ⟨c, hc, rfl, ec⟩ := i_C hC
  rw [et, ec] at hp
  exact m_check h ht hc (m_arrive_43 h hi ht hc hl (by unfold bL at hL; omega) hp)
theorem m_reset {M : hM} (h : RR ca ma mo M σ fl) (hi : IV σ N) {C : Int32} {post : Int32 → hM → Prop} (hp : ∀ b M', RR ca ma mo M' (o_reset σ C).2.2 (o_reset σ C).1 → ((o_reset σ C).1 = 0 → b = (o_reset σ C).2.1) → post b M') : wp_Mo_reset G ca post M mo C := by
  refine pf_r h fun M0 h0 => m_out h0 (fun hb => ⟨fun e => nx1 e, fun _ => m_fail h0 fun M' h' => ?_⟩) fun hg => ⟨fun _ => ?_, fun e => absurd rfl e⟩
  · unfold o_reset at hp; rw [if_pos hb] at hp
    exact hp 0 M' h' (fun e => nx1 e)
  · obtain ⟨c, hc, rfl, e⟩ := i_C hg
    unfold o_reset at hp; rw [if_neg hg, e] at hp
    refine rv_r h0 (by decide) rfl rfl hc ⟨fun hk => rv_r h0 (by decide) rfl rfl hc ⟨fun h6 => ?_, fun h6 => m_fail h0 fun M' h' => ?_⟩, fun hk => m_fail h0 fun M' h' => ?_⟩
    · rw [if_neg (Int32.not_lt.mpr hk), if_neg (fun e => e h6)] at hp
      exact wl_r h0 hc (rc_r h0 (m_freeAll hc h0 hi fun M1 h1 => wb_r h1 (Or.inl rfl) (by decide) rfl rfl hc fun M2 h2 => hp _ M2 h2 (fun _ => rfl)))
    · rw [if_neg (Int32.not_lt.mpr hk), if_pos h6] at hp; exact hp 0 M' h' (fun e => nx3 e)
    · rw [if_pos (Int32.not_le.mp hk)] at hp; exact hp 0 M' h' (fun e => nx2 e)
theorem m_interrupt {M : hM} (h : RR ca ma mo M σ fl) (hi : IV σ N) {T : Int32} {post : Int32 → hM → Prop} (hp : ∀ b M', RR ca ma mo M' (o_intr σ T).2.2 (o_intr σ T).1 → ((o_intr σ T).1 = 0 → b = (o_intr σ T).2.1) → post b M') : wp_Mo_interrupt G ca post M mo T := by
  refine pf_r h fun M0 h0 => m_out h0 (fun hb => ⟨fun e => nx1 e, fun _ => m_fail h0 fun M' h' => ?_⟩) fun hg => ⟨fun _ => ?_, fun e => absurd rfl e⟩
  · unfold o_intr at hp; rw [if_pos hb] at hp
    exact hp 0 M' h' (fun e => nx1 e)
  · obtain ⟨t, ht, rfl, e⟩ := i_T hg
    unfold o_intr at hp; rw [if_neg hg, e] at hp
    refine pl_r h0 ht ⟨fun hz => ?_, fun hz => ?_⟩
    · have hn : x_p σ t = none := by
        cases hq : x_p σ t with
        | none => rfl
        | some d => rw [hq] at hz; exact nx1 hz
      unfold o_ist at hp; rw [if_pos hn] at hp
      exact wb_r h0 (Or.inr rfl) (by decide) rfl rfl ht fun M1 h1 => rv_r h1 (by decide) rfl rfl ht (hp _ M1 h1 (fun _ => rfl))
    · have hn : x_p σ t ≠ none := fun hq => hz (by rw [hq]; rfl)
      unfold o_ist at hp; rw [if_neg hn] at hp
      exact rc_r h0 (m_leave ht h0 hi hn fun M1 h1 => rv_r h1 (by decide) rfl rfl ht (hp _ M1 h1 (fun _ => rfl)))
theorem m_channel {M : hM} (h : RR ca ma mo M σ fl) (hi : IV σ N) {C W : Int32} {post : Int32 → hM → Prop} (hp : ∀ b M', RR ca ma mo M' (o_channel σ C W).2.2 (o_channel σ C W).1 → ((o_channel σ C W).1 = 0 → b = (o_channel σ C W).2.1) → post b M') : wp_Mo_channel G ca post M mo C W := by
  have hbad : (bC C ∨ W < 0 ∨ ¬ W < 11) → ∀ M0, RR ca ma mo M0 σ 0 → wp_Mo_channel_25 G ca post M0 mo := fun hb M0 h0 => by
    unfold o_channel at hp; rw [if_pos hb] at hp
    exact m_fail h0 fun M' h' => hp 0 M' h' (fun e => nx1 e)
  refine pf_r h fun M0 h0 => m_out h0 (fun hb => ⟨fun _ => hbad (Or.inl hb) M0 h0, fun e => nx1 e⟩) fun hC => ⟨fun e => absurd rfl e, fun _ => m_out h0 (fun hb => ⟨fun e => nx1 e, fun _ => hbad (Or.inr hb) M0 h0⟩) fun hW => ⟨fun _ => ?_, fun e => absurd rfl e⟩⟩
  unfold o_channel at hp; rw [if_neg (fun e => e.elim hC hW)] at hp
  obtain ⟨c, hc, rfl, ec⟩ := i_C hC
  rw [ec] at hp
  refine rv_r h0 (by decide) rfl rfl hc ⟨fun hk => ?_, fun hk => m_fail h0 fun M' h' => ?_⟩
  · rw [if_neg (Int32.not_lt.mpr hk)] at hp
    have hpb := fun b e => hp b M0 h0 (fun _ => e)
    refine ⟨fun w0 => rv_r h0 (by decide) rfl rfl hc (hpb _ ?_), fun w0 => ⟨fun w1 => il_r h0 hc (hpb _ ?_), fun w1 => ⟨fun w2 => wl_r h0 hc (hpb _ ?_), fun w2 => ⟨fun w3 => rc_r h0 (m_ready h0 hi hc ⟨fun hr => ?_, fun hr => rv_r h0 (by decide) rfl rfl hc ⟨fun h6 => ?_, fun h6 => rv_r h0 (by decide) rfl rfl hc ⟨fun hb => ?_, fun hb => ?_⟩⟩⟩), fun w3 => ⟨fun w4 => rv_r h0 (by decide) rfl rfl hc (hpb _ ?_), fun w4 => ?_⟩⟩⟩⟩⟩
    · rw [if_pos w0]
    · rw [if_neg w0, if_pos w1]
    · rw [if_neg w0, if_neg w1, if_pos w2]
    · refine hpb 1 ?_
      rw [if_neg w0, if_neg w1, if_neg w2, if_pos w3]
      have h6 : x_v σ 13 c ≠ 6 := fun e6 => by
        rcases hi.2.2.1 c hc with g | ⟨kn, R, g1, g2, g3, g4, g5, g6, g7⟩
        · rw [g.1] at e6; exact absurd e6 (by decide)
        · rw [g1] at e6
          have := g6 ((i_eq (a := kn) (b := 6) (by omega) (by decide)).mp e6)
          refine hr (bi_0.mpr ?_)
          unfold rdy; rw [List.length_eq_zero_iff.mp this]
      rw [if_neg h6]
      rcases bi_z (rdy σ c) with e | e
      · exact absurd e hr
      · rw [e]
    · refine hpb 0 ?_
      rw [if_neg w0, if_neg w1, if_neg w2, if_pos w3, if_neg h6, hr]
    · refine hpb 0 ?_
      rw [if_neg w0, if_neg w1, if_neg w2, if_pos w3, if_pos h6, if_neg hb]
    · refine hpb 1 ?_
      rw [if_neg w0, if_neg w1, if_neg w2, if_pos w3, if_pos h6, if_pos hb]
    · rw [if_neg w0, if_neg w1, if_neg w2, if_neg w3, if_pos w4]
    · obtain ⟨w, hw, rfl⟩ := i_rng (n := 11) (by decide) (fun e => hW (Or.inl e)) (Classical.byContradiction fun e => hW (Or.inr e))
      have hw5 : 5 ≤ w := by
        rcases w with _|_|_|_|_|w
        · exact absurd rfl w0
        · exact absurd rfl w1
        · exact absurd rfl w2
        · exact absurd rfl w3
        · exact absurd rfl w4
        · omega
      have hl := IV_len hi hc
      rw [if_neg w0, if_neg w1, if_neg w2, if_neg w3, if_neg w4, i_of (by omega)] at hpb
      have e5 : Int32.ofNat w - 5 = Int32.ofNat (w - 5) := i_sub (b := 5) hw5
      refine wl_r h0 hc ⟨fun hn => ?_, fun hn => ?_⟩
      · rw [e5, i_le (by omega) (by omega)] at hn
        refine hpb (-1) ?_
        rw [List.getElem?_eq_none hn]; rfl
      · rw [e5, i_le (by omega) (by omega)] at hn
        have hn2 : w - 5 < (x_w σ c).length := by omega
        refine wt_r h0 hc (i := w - 5) (t := (x_w σ c)[w - 5]) (by omega) ?_ (List.getElem?_eq_getElem hn2) (hpb _ ?_)
        · rw [i_six, i_add, show (5 : Int32) = Int32.ofNat 5 from rfl, i_sub (by omega)]
          congr 1; omega
        · rw [List.getElem?_eq_getElem hn2]; rfl
  · rw [if_pos (Int32.not_le.mp hk)] at hp; exact hp 0 M' h' (fun e => nx2 e)
/-- make -/
theorem m_make_153 {M : hM} (h : RR ca ma mo M σ fl) {post : Int32 → hM → Prop} (hp : post (cn (x_v σ 13) 8) M) : ∀ (d j : Nat), j + d = 8 → wp_Mo_make_153 G ca post (d + 1) M mo (cn (x_v σ 13) j) (Int32.ofNat j)
  | 0, j, e => by
    have : j = 8 := by omega
    subst this
    exact ⟨fun _ => hp, fun e => absurd (show (8 : Int32) ≤ Int32.ofNat 8 by decide) e⟩
  | d + 1, j, e => by
    have hj : j < 8 := by omega
    have ih := m_make_153 h hp d (j + 1) (by omega)
    refine ⟨fun g => absurd ((i_le (a := 8) (b := j) (by decide) (by omega)).mp g) (by omega), fun _ => rv_r h (by decide) rfl rfl hj ⟨fun hv => ?_, fun hv => ?_⟩⟩
    · rw [cn, if_pos hv, ← i_succ] at ih; exact ih
    · rw [cn, if_neg hv, ← i_succ] at ih; exact ih
theorem m_make {M : hM} (h : RR ca ma mo M σ fl) {C K A : Int32} {post : Int32 → hM → Prop} (hp : ∀ b M', RR ca ma mo M' (o_make σ C K A).2.2 (o_make σ C K A).1 → ((o_make σ C K A).1 = 0 → b = (o_make σ C K A).2.1) → post b M') : wp_Mo_make G ca post M mo C K A := by
  have hbad : (bC C ∨ bM K A) → ∀ M0, RR ca ma mo M0 σ 0 → wp_Mo_make_25 G ca post M0 mo := fun hb M0 h0 => by
    unfold o_make at hp; rw [if_pos hb] at hp
    exact m_fail h0 fun M' h' => hp 0 M' h' (fun e => nx1 e)
  have hgo : ¬ bC C → ¬ bM K A → ∀ M0, RR ca ma mo M0 σ 0 → wp_Mo_make_79 G ca post M0 mo C K A := fun hC hM M0 h0 => by
    unfold o_make at hp; rw [if_neg (fun e => e.elim hC hM)] at hp
    obtain ⟨c, hc, rfl, ec⟩ := i_C hC
    rw [ec] at hp
    refine rv_r h0 (by decide) rfl rfl hc ⟨fun hv => wv_r h0 (by decide) rfl rfl hc fun M1 h1 => ?_, fun hv => m_fail h0 fun M' h' => ?_⟩
    · rw [if_neg (fun e => e hv)] at hp
      have key : ∀ r, o_rm K A = r → nN (some (ma 14)) fun b48 => sI M1 b48 (ca 5) (Int32.ofNat c) r fun M49 => ∃ n, wp_Mo_make_153 G ca post n M49 mo 0 0 := fun r er => by
        obtain ⟨fI, fD, tx, h1c, hs⟩ := h1
        refine nn_s (si_m h1c rfl rfl rfl rfl hc fun M2 h2 => ?_)
        have h3 : RR ca ma mo M2 (o_new σ c K A) 0 := ⟨_, _, _, h2, by unfold o_new; rw [er]; exact RS_v hs (by decide) c r⟩
        exact ⟨9, m_make_153 h3 (hp _ M2 h3 (fun _ => rfl)) 8 0 rfl⟩
      obtain ⟨fI, fD, tx, h1c, hs⟩ := id h1
      refine gr_m h1c rfl ⟨fun k0 => key _ ?_, fun k0 => ⟨fun k6 => ⟨fun k1 => ⟨fun k3 => key _ ?_, fun k3 => ⟨fun k4 => key _ ?_, fun k4 => key _ ?_⟩⟩, fun k1 => key _ ?_⟩, fun k6 => key _ ?_⟩⟩
      · unfold o_rm; rw [if_pos (Or.inl k0)]
      · unfold o_rm; rw [if_neg (fun e => e.elim k0 k6), if_neg k1, if_pos (Or.inl k3)]
      · unfold o_rm; rw [if_neg (fun e => e.elim k0 k6), if_neg k1, if_neg (fun e => e.elim k3 k4)]
      · unfold o_rm; rw [if_neg (fun e => e.elim k0 k6), if_neg k1, if_pos (Or.inr k4)]
      · unfold o_rm; rw [if_neg (fun e => e.elim k0 k6), if_pos k1]
      · unfold o_rm; rw [if_pos (Or.inr k6)]
    · rw [if_pos hv] at hp; exact hp 0 M' h' (fun e => nx2 e)
  refine pf_r h fun M0 h0 => m_out h0 (fun hb => ⟨fun _ => hbad (Or.inl hb) M0 h0, fun e => nx1 e⟩) fun hC => ⟨fun e => absurd rfl e, fun _ => m_out h0 (fun hb => ⟨fun e => nx1 e, fun _ => hbad (Or.inr (hb.elim Or.inl (fun g => Or.inr (Or.inl g)))) M0 h0⟩) fun hK => ⟨fun _ => ?_, fun e => absurd rfl e⟩⟩
  have hm : ∀ P : Prop, (P ↔ (if K = 0 then A - 1 < 0 ∨ ¬ A - 1 < 4 else if K = 6 then A - 2 < 0 ∨ ¬ A - 2 < 4 else A ≠ 0)) → (P → bM K A) ∧ (¬ P → ¬ bM K A) := fun P hP =>
    ⟨fun p => Or.inr (Or.inr (hP.mp p)), fun p e => e.elim (fun g => hK (Or.inl g)) (fun e => e.elim (fun g => hK (Or.inr g)) (fun g => p (hP.mpr g)))⟩
  refine ⟨fun k0 => ⟨fun k6 => ⟨fun a0 => ?_, fun a0 => ?_⟩, fun k6 => m_out h0 (fun hb => ⟨fun e => nx1 e, fun _ => ?_⟩) fun hb => ⟨fun _ => ?_, fun e => absurd rfl e⟩⟩, fun k0 => m_out h0 (fun hb => ⟨fun e => nx1 e, fun _ => ?_⟩) fun hb => ⟨fun _ => ?_, fun e => absurd rfl e⟩⟩
  · exact hgo hC ((hm (A ≠ 0) (by rw [if_neg k0, if_neg k6])).2 (fun e => e a0)) M0 h0
  · exact hbad (Or.inr ((hm (A ≠ 0) (by rw [if_neg k0, if_neg k6])).1 a0)) M0 h0
  · exact hbad (Or.inr ((hm (A - 2 < 0 ∨ ¬ A - 2 < 4) (by rw [if_neg k0, if_pos k6])).1 hb)) M0 h0
  · exact hgo hC ((hm (A - 2 < 0 ∨ ¬ A - 2 < 4) (by rw [if_neg k0, if_pos k6])).2 hb) M0 h0
  · exact hbad (Or.inr ((hm (A - 1 < 0 ∨ ¬ A - 1 < 4) (by rw [if_pos k0])).1 hb)) M0 h0
  · exact hgo hC ((hm (A - 1 < 0 ∨ ¬ A - 1 < 4) (by rw [if_pos k0])).2 hb) M0 h0
end

/-! THE HALL'S CALLS: swap, arrive, reset, interrupt, tick, and the questions. -/
theorem i_34 {W : Int32} : 3 < W ↔ ¬ W < 4 := by
  rw [Int32.lt_iff_toInt_lt, Int32.lt_iff_toInt_lt, show (3 : Int32).toInt = 3 from rfl, show (4 : Int32).toInt = 4 from rfl]; omega
theorem fw_5 {σ : St} {N : Int} (hi : IV σ N) {c : Nat} (hc : c < 8) (h5 : x_v σ 13 c = 5) : fw σ c 2 = (x_w σ c).head? := by
  unfold fw
  cases hw : x_w σ c with
  | nil => rfl
  | cons o l =>
    have := ((hi.2.1 c hc).2 o (by rw [hw]; simp)).2.2.1 (Or.inl h5)
    rw [List.find?_cons, decide_eq_true this]; rfl
theorem brk_3 {σ : St} {c t : Nat} (ht : t ∉ x_w σ c) (v : Int32) : s_v (o_brk σ c) 3 t v = o_brk (s_v σ 3 t v) c := by
  refine Prod.ext (funext fun k => ?_) rfl
  show u2 (o_brk σ c).1 3 t v k = (o_brk (s_v σ 3 t v) c).1 k
  by_cases e : k = 3
  · subst e
    rw [u2_k]
    funext i
    show (if i = t then v else (if i ∈ x_w σ c then (4 : Int32) else u2 σ.1 15 c 1 3 i)) = (if i ∈ x_w σ c then (4 : Int32) else u2 (u2 σ.1 3 t v) 15 c 1 3 i)
    rw [u2_n _ _ _ (by decide : (3 : Nat) ≠ 15), u2_n _ _ _ (by decide : (3 : Nat) ≠ 15), u2_k]
    dsimp only
    by_cases hi : i = t
    · subst hi; rw [if_pos rfl, if_neg ht, if_pos rfl]
    · rw [if_neg hi, if_neg hi]
  · rw [u2_n _ _ _ e]
    show (if k = 3 then _ else u2 σ.1 15 c 1 k) = (if k = 3 then _ else u2 (u2 σ.1 3 t v) 15 c 1 k)
    rw [if_neg e, if_neg e]
    by_cases e2 : k = 15
    · subst e2
      rw [u2_k, u2_k, u2_n _ _ _ e]
    · rw [u2_n _ _ _ e2, u2_n _ _ _ e2, u2_n _ _ _ e]
section
variable {G ca : Nat → Nat} {h wa ka : Nat} {wk ch li : Nat → Nat} {kf : Nat → UInt64} {M : hM} {σ : St} {N : Int}
theorem H_swap_58 (hG : ∀ i j, i < 3 → j < 3 → G i = G j → i = j) (g : RC G ca h wa ka wk ch li kf M σ) (hi : IV σ N) {t c : Nat} (ht : t < 6) (hc : c < 8) (hm : ¬ x_v σ 13 c < 0) (hpl : x_p σ t = none) (h5 : x_v σ 13 c = 5) {v : Int32} {l : Int} {lx : UInt64} (hl : q8 lx l) (hl1 : -8 ≤ l) (hl2 : l ≤ 8000) {post : Int32 → hM → Prop} {xp : String → hM → Prop}
    (hp : (g_swap σ t c v l).1 = 0 → ∀ kf' M', RC G ca h wa ka wk ch li kf' M' (g_swap σ t c v l).2.2 → post (g_swap σ t c v l).2.1 M') : wp_Ha_swap_58 G ca post xp M h v lx (ch c) (some (wk t)) 1 := by
  have hk : o_ck σ t c 5 5 = 0 := ck_k hm hpl (fun e => by rw [h5] at e; exact e.elim (fun k => absurd k (by decide)) (fun k => absurd k (by decide)))
  unfold g_swap at hp
  rw [if_neg (fun e => e hk)] at hp
  refine ⟨fun _ => nn_s (wo_lf g hi ht (fun hf M1 g1 => ⟨fun _ => ?_, fun e => absurd rfl e⟩) (fun hf M1 g1 => ⟨fun e => nx1 e, fun _ => wo_end g1 ht fun M2 g2 => ?_⟩)), fun e => nx1 e⟩
  · rw [if_neg (fun e => e hf)] at hp
    refine ch_fw hG g1 hi hc hm (r := 2) (by decide) ?_
    rw [show Int32.ofNat 2 = 2 from rfl, fw_5 hi hc h5]
    cases hw : x_w σ c with
    | nil =>
      rw [hw] at hp
      refine ⟨fun _ => wo_off g1 ht hpl fun M2 g2 => ?_, fun b e => by cases e⟩
      exact ha_wait g2 (IV_v hi (by decide) _ _) ht hc hm (r := 2) (by decide) hpl (fun e => absurd e (by decide)) hl hl1 hl2 fun M3 g4 => hp rfl _ M3 g4
    | cons o w =>
      rw [hw] at hp
      refine ⟨fun e => (by cases e), fun b e => ?_⟩
      cases e
      have hom : o ∈ x_w σ c := by rw [hw]; simp
      have ho := ((hi.2.1 c hc).2 o hom).1
      refine wg_c (k := 8) g1 (by decide) ho (wo_rcv g1 ht fun M2 g2 => wo_rcv g2 ho fun M3 g3 => ?_)
      exact ch_rel g3 hc hm (IV_w (σ := σ) hi hc) (IV_len (σ := σ) hi hc) hom fun M4 g4 => wo_end g4 ht fun M5 g5 => hp rfl kf M5 g5
  · rw [if_pos hf] at hp
    exact hp rfl kf M2 g2
theorem H_swap (hG : ∀ i j, i < 3 → j < 3 → G i = G j → i = j) (g : RC G ca h wa ka wk ch li kf M σ) (hi : IV σ N) {T C V L : Int32} {lx : UInt64} (hl : q8 lx L.toInt) {post : Int32 → hM → Prop} {xp : String → hM → Prop}
    (hp : (o_swap σ T C V L).1 = 0 → ∀ kf' M', RC G ca h wa ka wk ch li kf' M' (o_swap σ T C V L).2.2 → post (o_swap σ T C V L).2.1 M') (hx : x4 (o_swap σ T C V L) σ M xp) : wp_Ha_swap G ca post xp M h T C V lx := by
  have hbad : (bT T ∨ bC C ∨ bL L) → wp_Ha_swap_26 G ca post xp M h T C V lx := fun e => ⟨fun k => absurd rfl k, fun _ => hx.1 (by unfold o_swap; rw [if_pos e])⟩
  refine is_thr (fun hb => ⟨fun _ => hbad (Or.inl hb), fun e => absurd rfl e⟩) fun hT => ⟨fun e => nx1 e, fun _ => is_chn (fun hb => ⟨fun _ => hbad (Or.inr (Or.inl hb)), fun e => absurd rfl e⟩) fun hC => ⟨fun e => nx1 e, fun _ => is_lim hl (fun hb => ⟨fun _ => hbad (Or.inr (Or.inr hb)), fun e => absurd rfl e⟩) fun hL => ⟨fun e => nx1 e, fun _ => ?_⟩⟩⟩
  unfold o_swap at hp hx
  rw [if_neg (fun e => e.elim hT (fun e => e.elim hC hL))] at hp hx
  obtain ⟨t, ht, rfl, et⟩ := i_T hT
  obtain ⟨c, hc, rfl, ec⟩ := i_C hC
  rw [et, ec] at hp hx
  unfold bL at hL
  have thr : ∀ k, o_ck σ t c 5 5 = k → k ≠ 0 → g_swap σ t c V L.toInt = (k, 0, σ) := fun k e hk => by unfold g_swap; rw [e, if_pos hk]
  refine ⟨fun _ => pre_c g ht hc (fun hm => hx.2.1 (thr 2 (ck_2 hm) (by decide))) (fun hm hpl => hx.2.2.1 (thr 3 (ck_3 hm hpl) (by decide))) (fun hm hpl => nn_s (ck_g g hc hm ⟨fun h5 => ⟨fun e => absurd rfl e, fun _ => hx.2.2.2 (thr 4 (ck_4 hm hpl ?_) (by decide))⟩, fun h5 => H_swap_58 hG g hi ht hc hm hpl h5 hl (by omega) (by omega) hp⟩)), fun e => nx1 e⟩
  exact Classical.byContradiction fun k => h5 (i_anti (fun e => k (Or.inl e)) (fun e => k (Or.inr e)))
theorem H_arrive_58 (g : RC G ca h wa ka wk ch li kf M σ) (hi : IV σ N) {t c : Nat} (ht : t < 6) (hc : c < 8) (hm : ¬ x_v σ 13 c < 0) (hpl : x_p σ t = none) (h6 : x_v σ 13 c = 6) {l : Int} {lx : UInt64} (hl : q8 lx l) (hl1 : -8 ≤ l) (hl2 : l ≤ 8000) {post : Int32 → hM → Prop} {xp : String → hM → Prop}
    (hp : (g_arrive σ t c l).1 = 0 → ∀ kf' M', RC G ca h wa ka wk ch li kf' M' (g_arrive σ t c l).2.2 → post (g_arrive σ t c l).2.1 M') (hx : xA (g_arrive σ t c l) σ M xp) : wp_Ha_arrive_58 G ca post xp M h lx (ch c) (some (wk t)) 1 := by
  have hk : o_ck σ t c 6 6 = 0 := ck_k hm hpl (fun e => by rw [h6] at e; exact e.elim (fun k => absurd k (by decide)) (fun k => absurd k (by decide)))
  have hnm : t ∉ x_w σ c := fun hm => by
    have := ((hi.2.1 c hc).2 t hm).2.1
    rw [hpl] at this; cases this
  refine ⟨fun _ => ⟨_, _, c_cell g hc hm, rfl, fun hb => nn_s ?_, fun hb => hx.2.2.2.2 (by unfold g_arrive; rw [if_neg (fun e => e hk), if_pos hb])⟩, fun e => nx1 e⟩
  unfold g_arrive at hp
  rw [if_neg (fun e => e hk), if_neg (fun e => e hb)] at hp
  refine wo_lf g hi ht (fun hf M1 g1 => ⟨fun _ => ?_, fun e => absurd rfl e⟩) (fun hf M1 g1 => ⟨fun e => nx1 e, fun _ => ?_⟩)
  · rw [if_neg (fun e => e hf)] at hp
    refine wt_size g1 hc hm ⟨_, _, c_cell g1 hc hm, rfl, ?_⟩
    rw [if_pos h6]
    refine ⟨fun hn => ?_, fun hn => ?_⟩
    · rw [if_neg hn] at hp
      refine wo_rcv g1 ht fun M2 g2 => ?_
      have hi2 : IV (s_v (s_v σ 4 t 1) 5 t (Int32.ofNat (x_w σ c).length)) N := IV_v (IV_v hi (by decide) _ _) (by decide) _ _
      refine ha_wait g2 hi2 ht hc hm (r := 2) (by decide) hpl (fun e => absurd e (by decide)) hl hl1 hl2 fun M3 g3 => ?_
      unfold o_wait at g3 ⊢
      by_cases hz : l = 0
      · rw [if_pos hz] at hp g3 ⊢
        exact ⟨fun e => absurd rfl e, fun _ => ch_brk g3 hc hm (IV_w (σ := σ) hi hc) (IV_len (σ := σ) hi hc) fun M4 g4 => hp rfl kf M4 g4⟩
      · rw [if_neg hz] at hp g3 ⊢
        exact ⟨fun _ => hp rfl kf M3 g3, fun e => absurd (show (0 : Int32) = 2 from e) (by decide)⟩
    · rw [if_pos hn] at hp
      exact ch_all g1 hc hm (IV_w hi hc) (IV_len hi hc) fun M2 g2 => ⟨_, _, c_cell g2 hc hm, rfl, cv_c (k := 16) g2 (by decide) hc hm fun M3 g3 => wo_end g3 ht fun M4 g4 => hp rfl kf M4 g4⟩
  · rw [if_pos hf] at hp
    refine ch_brk g1 hc hm (IV_w (σ := σ) hi hc) (IV_len (σ := σ) hi hc) fun M2 g2 => wo_end g2 ht fun M3 g3 => ?_
    rw [brk_3 (σ := s_v σ 2 t 0) hnm] at g3
    exact hp rfl kf M3 g3
theorem H_arrive (g : RC G ca h wa ka wk ch li kf M σ) (hi : IV σ N) {T C L : Int32} {lx : UInt64} (hl : q8 lx L.toInt) {post : Int32 → hM → Prop} {xp : String → hM → Prop}
    (hp : (o_arrive σ T C L).1 = 0 → ∀ kf' M', RC G ca h wa ka wk ch li kf' M' (o_arrive σ T C L).2.2 → post (o_arrive σ T C L).2.1 M') (hx : xA (o_arrive σ T C L) σ M xp) : wp_Ha_arrive G ca post xp M h T C lx := by
  have hbad : (bT T ∨ bC C ∨ bL L) → wp_Ha_arrive_25 G ca post xp M h T C lx := fun e => ⟨fun k => absurd rfl k, fun _ => hx.1 (by unfold o_arrive; rw [if_pos e])⟩
  refine is_thr (fun hb => ⟨fun _ => hbad (Or.inl hb), fun e => absurd rfl e⟩) fun hT => ⟨fun e => nx1 e, fun _ => is_chn (fun hb => ⟨fun _ => hbad (Or.inr (Or.inl hb)), fun e => absurd rfl e⟩) fun hC => ⟨fun e => nx1 e, fun _ => is_lim hl (fun hb => ⟨fun _ => hbad (Or.inr (Or.inr hb)), fun e => absurd rfl e⟩) fun hL => ⟨fun e => nx1 e, fun _ => ?_⟩⟩⟩
  unfold o_arrive at hp hx
  rw [if_neg (fun e => e.elim hT (fun e => e.elim hC hL))] at hp hx
  obtain ⟨t, ht, rfl, et⟩ := i_T hT
  obtain ⟨c, hc, rfl, ec⟩ := i_C hC
  rw [et, ec] at hp hx
  unfold bL at hL
  have thr : ∀ k, o_ck σ t c 6 6 = k → k ≠ 0 → g_arrive σ t c L.toInt = (k, 0, σ) := fun k e hk => by unfold g_arrive; rw [e, if_pos hk]
  refine ⟨fun _ => pre_c g ht hc (fun hm => hx.2.1 (thr 2 (ck_2 hm) (by decide))) (fun hm hpl => hx.2.2.1 (thr 3 (ck_3 hm hpl) (by decide))) (fun hm hpl => nn_s (ck_g g hc hm ⟨fun h5 => ⟨fun e => absurd rfl e, fun _ => hx.2.2.2.1 (thr 4 (ck_4 hm hpl ?_) (by decide))⟩, fun h6 => H_arrive_58 g hi ht hc hm hpl h6 hl (by omega) (by omega) hp hx⟩)), fun e => nx1 e⟩
  exact Classical.byContradiction fun k => h5 (i_anti (fun e => k (Or.inl e)) (fun e => k (Or.inr e)))
theorem H_reset (g : RC G ca h wa ka wk ch li kf M σ) (hi : IV σ N) {C : Int32} {post : Int32 → hM → Prop} {xp : String → hM → Prop}
    (hp : (o_reset σ C).1 = 0 → ∀ kf' M', RC G ca h wa ka wk ch li kf' M' (o_reset σ C).2.2 → post (o_reset σ C).2.1 M') (h1 : o_reset σ C = (1, 0, σ) → xp "java/lang/IllegalArgumentException" M) (h2 : o_reset σ C = (2, 0, σ) → xp "java/util/NoSuchElementException" M) (h3 : o_reset σ C = (3, 0, σ) → xp "java/lang/UnsupportedOperationException" M) : wp_Ha_reset G ca post xp M h C := by
  refine is_chn (fun hb => ⟨fun e => absurd rfl e, fun _ => h1 (by unfold o_reset; rw [if_pos hb])⟩) fun hC => ⟨fun _ => ?_, fun e => nx1 e⟩
  obtain ⟨c, hc, rfl, ec⟩ := i_C hC
  unfold o_reset at hp h2 h3
  rw [if_neg hC, ec] at hp h2 h3
  refine prs g hc (fun hm => h2 (by rw [if_pos hm])) fun hm => nn_s (ck_g g hc hm ⟨fun h6 => ⟨fun e => absurd rfl e, fun _ => h3 (by rw [if_neg hm, if_pos h6])⟩, fun h6 => ⟨fun _ => wt_size g hc hm (ch_all g hc hm (IV_w hi hc) (IV_len hi hc) fun M1 g1 => cv_c (k := 15) g1 (by decide) hc hm fun M2 g2 => ?_), fun e => nx1 e⟩⟩)
  rw [if_neg hm, if_neg (fun e => e h6)] at hp
  exact hp rfl kf M2 g2
theorem H_intr (hG : ∀ i j, i < 3 → j < 3 → G i = G j → i = j) (g : RC G ca h wa ka wk ch li kf M σ) (hi : IV σ N) {T : Int32} {post : Int32 → hM → Prop} {xp : String → hM → Prop}
    (hp : (o_intr σ T).1 = 0 → ∀ kf' M', RC G ca h wa ka wk ch li kf' M' (o_intr σ T).2.2 → post (o_intr σ T).2.1 M') (h1 : o_intr σ T = (1, 0, σ) → xp "java/lang/IllegalArgumentException" M) : wp_Ha_interrupt G ca post xp M h T := by
  refine is_thr (fun hb => ⟨fun e => absurd rfl e, fun _ => h1 (by unfold o_intr; rw [if_pos hb])⟩) fun hT => ⟨fun _ => ?_, fun e => nx1 e⟩
  obtain ⟨t, ht, rfl, et⟩ := i_T hT
  unfold o_intr at hp
  rw [if_neg hT, et] at hp
  refine hw_c g ht (nn_s (wp_c g ht ?_))
  unfold o_ist at hp
  cases hpl : x_p σ t with
  | none =>
    rw [if_pos hpl] at hp
    exact ⟨fun _ => wv_c (k := 2) g (by decide) ht fun M1 g1 => wg_c (k := 3) g1 (by decide) ht (hp rfl kf M1 g1), fun b e => by cases e⟩
  | some c =>
    rw [if_neg (by rw [hpl]; simp)] at hp
    exact ⟨fun e => (by cases e), fun b _ => ha_up hG g hi ht (IV_mp hi ht) fun M1 g1 => wg_c (k := 3) g1 (by decide) ht (hp rfl kf M1 g1)⟩
theorem H_tick (hG : ∀ i j, i < 3 → j < 3 → G i = G j → i = j) (g : RC G ca h wa ka wk ch li kf M σ) (hi : IV σ N) (hN : N + 8000 ≤ 4104000) {D : Int32} {dx : UInt64} (hdx : q8 dx D.toInt) {post : Int32 → hM → Prop} {xp : String → hM → Prop}
    (hp : (o_tick σ D).1 = 0 → ∀ kf' M', RC G ca h wa ka wk ch li kf' M' (o_tick σ D).2.2 → post (o_tick σ D).2.1 M') (h1 : o_tick σ D = (1, 0, σ) → xp "java/lang/IllegalArgumentException" M) : wp_Ha_tick G ca post xp M h dx := by
  have hbad : (D.toInt < 0 ∨ 8000 < D.toInt) → wp_Ha_tick_18 G ca post xp M h dx := fun e => ⟨fun k => absurd rfl k, fun _ => h1 (by unfold o_tick; rw [if_pos e])⟩
  refine ⟨fun h0 => hbad (Or.inl ?_), fun h0 => ⟨fun h2 => hbad (Or.inr ?_), fun h2 => ⟨fun _ => hn_c g fun nx hnx => ?_, fun e => nx1 e⟩⟩⟩
  · rw [e_lt hdx.1 q8_0.1] at h0; exact h0
  · rw [e_gt hdx.1 e8_1000] at h2; exact h2
  · rw [e_lt hdx.1 q8_0.1] at h0
    rw [e_gt hdx.1 e8_1000] at h2
    unfold o_tick at hp; rw [if_neg (by omega)] at hp
    have h6 := hi.2.2.2.2.2
    have hgx : q8 (FP.dadd nx dx) (x_n σ + D.toInt) := q8_add hnx hdx h6.1 (by omega) (by omega)
    have hi2 : IV σ (N + 8000) := IV_N hi (by omega) hN
    exact ⟨e8_nn hgx.1, 7, by decide, ha_tk_35 hG hgx (by omega) (N := N + 8000) (by omega) 6 0 σ 0 M rfl g hi2 fun M' g' => hp rfl kf M' g'⟩
theorem H_got (g : RC G ca h wa ka wk ch li kf M σ) {T : Int32} {post : Int32 → hM → Prop} {xp : String → hM → Prop}
    (hp : (o_got σ T).1 = 0 → ∀ kf' M', RC G ca h wa ka wk ch li kf' M' (o_got σ T).2.2 → post (o_got σ T).2.1 M') (h1 : o_got σ T = (1, 0, σ) → xp "java/lang/IllegalArgumentException" M) (h2 : o_got σ T = (2, 0, σ) → xp "java/util/NoSuchElementException" M) : wp_Ha_got G ca post xp M h T := by
  refine is_thr (fun hb => ⟨fun e => absurd rfl e, fun _ => h1 (by unfold o_got; rw [if_pos hb])⟩) fun hT => ⟨fun _ => ?_, fun e => nx1 e⟩
  obtain ⟨t, ht, rfl, et⟩ := i_T hT
  unfold o_got at hp h2
  rw [if_neg hT, et] at hp h2
  refine hw_c g ht (nn_s (wg_c (k := 4) g (by decide) ht ⟨fun hz => wg_c (k := 5) g (by decide) ht ?_, fun hz => h2 (by rw [if_pos hz])⟩))
  rw [if_neg hz] at hp
  exact hp rfl kf M g
theorem H_thread (g : RC G ca h wa ka wk ch li kf M σ) (hi : IV σ N) {T W : Int32} {post : Int32 → hM → Prop} {xp : String → hM → Prop}
    (hp : (o_thread σ T W).1 = 0 → ∀ kf' M', RC G ca h wa ka wk ch li kf' M' (o_thread σ T W).2.2 → post (o_thread σ T W).2.1 M') (h1 : o_thread σ T W = (1, 0, σ) → xp "java/lang/IllegalArgumentException" M) : wp_Ha_thread G ca post xp M h T W := by
  have hbad : (bT T ∨ W < 0 ∨ ¬ W < 4) → wp_Ha_thread_20 G ca post xp M h T W := fun e => ⟨fun k => absurd rfl k, fun _ => h1 (by unfold o_thread; rw [if_pos e])⟩
  refine is_thr (fun hb => ⟨fun _ => hbad (Or.inl hb), fun e => absurd rfl e⟩) fun hT => ⟨fun e => nx1 e, fun _ => ⟨fun hw => hbad (Or.inr (Or.inl hw)), fun hw => ⟨fun hw2 => hbad (Or.inr (Or.inr (i_34.mp hw2))), fun hw2 => ⟨fun _ => ?_, fun e => nx1 e⟩⟩⟩⟩
  have hn : ¬ (bT T ∨ W < 0 ∨ ¬ W < 4) := fun e => e.elim hT (fun e => e.elim hw (fun k => hw2 (i_34.mpr k)))
  obtain ⟨t, ht, rfl, et⟩ := i_T hT
  unfold o_thread at hp
  rw [if_neg hn, et] at hp
  have hpp := fun b (e : (if W = 0 then ob (x_p σ t) else if W = 1 then x_v σ 3 t else if W = 2 then (if x_v σ 2 t = 0 then 0 else 1) else oi (x_p σ t)) = b) => (show post b M from e ▸ hp rfl kf M g)
  refine hw_c g ht ⟨fun w0 => nn_s (wp_c g ht ⟨fun e => hpp 0 ?_, fun b e => hpp 1 ?_⟩), fun w0 => ⟨fun w1 => nn_s (wg_c (k := 3) g (by decide) ht (hpp _ ?_)), fun w1 => ⟨fun w2 => nn_s (wg_c (k := 2) g (by decide) ht ⟨fun z => hpp 0 ?_, fun z => hpp 1 ?_⟩), fun w2 => nn_s (wp_c g ht ⟨fun e => hpp (-1) ?_, fun b e => ?_⟩)⟩⟩⟩
  · rw [if_pos w0]
    cases hq : x_p σ t with
    | none => rfl
    | some c => rw [hq] at e; cases e
  · rw [if_pos w0]
    cases hq : x_p σ t with
    | none => rw [hq] at e; cases e
    | some c => rfl
  · rw [if_neg w0, if_pos w1]
  · rw [if_neg w0, if_neg w1, if_pos w2, if_pos z]
  · rw [if_neg w0, if_neg w1, if_pos w2, if_neg z]
  · rw [if_neg w0, if_neg w1, if_neg w2]
    cases hq : x_p σ t with
    | none => rfl
    | some c => rw [hq] at e; cases e
  · cases hq : x_p σ t with
    | none => rw [hq] at e; cases e
    | some c =>
      refine wp_c g ht ?_
      rw [hq]
      refine nn_s ⟨_, _, c_cell g ((hi.1 t ht).2 c hq).1 (IV_mp hi ht c hq), rfl, hpp _ ?_⟩
      rw [if_neg w0, if_neg w1, if_neg w2, hq]; rfl
theorem H_channel (g : RC G ca h wa ka wk ch li kf M σ) (hi : IV σ N) {C W : Int32} {post : Int32 → hM → Prop} {xp : String → hM → Prop}
    (hp : (o_channel σ C W).1 = 0 → ∀ kf' M', RC G ca h wa ka wk ch li kf' M' (o_channel σ C W).2.2 → post (o_channel σ C W).2.1 M') (h1 : o_channel σ C W = (1, 0, σ) → xp "java/lang/IllegalArgumentException" M) (h2 : o_channel σ C W = (2, 0, σ) → xp "java/util/NoSuchElementException" M) : wp_Ha_channel G ca post xp M h C W := by
  have hbad : (bC C ∨ W < 0 ∨ ¬ W < 11) → wp_Ha_channel_21 G ca post xp M h C W := fun e => ⟨fun k => absurd rfl k, fun _ => h1 (by unfold o_channel; rw [if_pos e])⟩
  refine is_chn (fun hb => ⟨fun _ => hbad (Or.inl hb), fun e => absurd rfl e⟩) fun hC => ⟨fun e => nx1 e, fun _ => ⟨fun hw => hbad (Or.inr (Or.inl hw)), fun hw => ⟨fun hw2 => hbad (Or.inr (Or.inr (Int32.not_lt.mpr hw2))), fun hw2 => ⟨fun _ => ?_, fun e => nx1 e⟩⟩⟩⟩
  have hn : ¬ (bC C ∨ W < 0 ∨ ¬ W < 11) := fun e => e.elim hC (fun e => e.elim hw (fun k => k (Int32.not_le.mp hw2)))
  obtain ⟨c, hc, rfl, ec⟩ := i_C hC
  unfold o_channel at hp h2
  rw [if_neg hn, ec] at hp h2
  refine prs g hc (fun hm => h2 (by rw [if_pos hm])) fun hm => ?_
  rw [if_neg hm] at hp
  have hpp := fun b (e : (if W = 0 then x_v σ 13 c else if W = 1 then Int32.ofNat (x_i σ c).length else if W = 2 then Int32.ofNat (x_w σ c).length else
    if W = 3 then (if x_v σ 13 c = 6 then (if x_v σ 15 c = 0 then 1 else 0) else bi (rdy σ c)) else if W = 4 then x_v σ 16 c else oi ((x_w σ c)[W.toNatClampNeg - 5]?)) = b) => (show post b M from e ▸ hp rfl kf M g)
  refine ⟨fun w0 => nn_s (ck_g g hc hm (hpp _ ?_)), fun w0 => ⟨fun w1 => nn_s (it_size g hc hm (hpp _ ?_)), fun w1 => ⟨fun w2 => nn_s (wt_size g hc hm (hpp _ ?_)), fun w2 => ⟨fun w3 => hn_c g fun nx hnx => nn_s (ch_open g hi hc hm hnx ⟨fun z => hpp 0 ?_, fun z => hpp 1 ?_⟩), fun w3 => ⟨fun w4 => nn_s ⟨_, _, c_cell g hc hm, rfl, hpp _ ?_⟩, fun w4 => nn_s ?_⟩⟩⟩⟩⟩
  · rw [if_pos w0]
  · rw [if_neg w0, if_pos w1]
  · rw [if_neg w0, if_neg w1, if_pos w2]
  · rw [if_neg w0, if_neg w1, if_neg w2, if_pos w3]; exact z
  · rw [if_neg w0, if_neg w1, if_neg w2, if_pos w3]
    split
    · rename_i h6
      rw [if_pos h6] at z
      split
      · rfl
      · rename_i h0; rw [if_neg h0] at z; exact absurd rfl z
    · rename_i h6
      rw [if_neg h6] at z
      rcases bi_z (rdy σ c) with e | e
      · exact absurd e z
      · exact e
  · rw [if_neg w0, if_neg w1, if_neg w2, if_neg w3, if_pos w4]
  · obtain ⟨w, hw, rfl⟩ := i_rng (n := 11) (by decide) hw (Int32.not_le.mp hw2)
    have hw5 : 5 ≤ w := by
      rcases w with _|_|_|_|_|w
      · exact absurd rfl w0
      · exact absurd rfl w1
      · exact absurd rfl w2
      · exact absurd rfl w3
      · exact absurd rfl w4
      · omega
    rw [show Int32.ofNat w - 5 = Int32.ofNat (w - 5) from i_sub (b := 5) hw5]
    refine ch_num g hi hc hm (by omega) (hpp _ ?_)
    rw [if_neg w0, if_neg w1, if_neg w2, if_neg w3, if_neg w4, i_of (by omega)]
theorem H_item (g : RC G ca h wa ka wk ch li kf M σ) (hi : IV σ N) {C I : Int32} {post : Int32 → hM → Prop} {xp : String → hM → Prop}
    (hp : (o_item σ C I).1 = 0 → ∀ kf' M', RC G ca h wa ka wk ch li kf' M' (o_item σ C I).2.2 → post (o_item σ C I).2.1 M') (h1 : o_item σ C I = (1, 0, σ) → xp "java/lang/IllegalArgumentException" M) (h2 : o_item σ C I = (2, 0, σ) → xp "java/util/NoSuchElementException" M) (h3 : o_item σ C I = (3, 0, σ) → xp "java/lang/IndexOutOfBoundsException" M) : wp_Ha_item G ca post xp M h C I := by
  refine is_chn (fun hb => ⟨fun e => absurd rfl e, fun _ => h1 (by unfold o_item; rw [if_pos hb])⟩) fun hC => ⟨fun _ => ?_, fun e => nx1 e⟩
  obtain ⟨c, hc, rfl, ec⟩ := i_C hC
  unfold o_item at hp h2 h3
  rw [if_neg hC, ec] at hp h2 h3
  have hl := IV_it hi hc
  refine prs g hc (fun hm => h2 (by rw [if_pos hm])) fun hm => ?_
  rw [if_neg hm] at hp h3
  refine ⟨fun hI => h3 (by rw [if_pos hI]), fun hI => nn_s (it_size g hc hm ⟨fun hlt => ?_, fun hlt => ?_⟩)⟩
  · obtain ⟨n, hn, rfl⟩ := i_rng (by omega) hI hlt
    rw [if_neg hI, i_of (by omega), List.getElem?_eq_getElem hn] at hp
    exact it_get g hc hm (List.getElem?_eq_getElem hn) fun q ⟨kx, sx, e1, e2, e3⟩ => ⟨_, _, rfl, e1, _, _, e1, rfl, hp rfl kf M g⟩
  · obtain ⟨n, hn, rfl⟩ := i_nat hI
    rw [i_lt hn (by omega)] at hlt
    rw [if_neg hI, i_of hn, List.getElem?_eq_none (by omega)] at h3
    exact h3 rfl
theorem H_stay (g : RC G ca h wa ka wk ch li kf M σ) (hi : IV σ N) {C : Int32} {post : UInt64 → hM → Prop} {xp : String → hM → Prop}
    (hp : (o_stay σ C).1 = 0 → post (o_stay σ C).2 M) (h1 : o_stay σ C = (1, 0) → xp "java/lang/IllegalArgumentException" M) (h2 : o_stay σ C = (2, 0) → xp "java/util/NoSuchElementException" M) (h3 : o_stay σ C = (3, 0) → xp "java/lang/ArithmeticException" M) : wp_Ha_stay G ca post xp M h C := by
  refine is_chn (fun hb => ⟨fun e => absurd rfl e, fun _ => h1 (by unfold o_stay; rw [if_pos hb])⟩) fun hC => ⟨fun _ => ?_, fun e => nx1 e⟩
  obtain ⟨c, hc, rfl, ec⟩ := i_C hC
  unfold o_stay at hp h2 h3
  rw [if_neg hC, ec] at hp h2 h3
  refine prs g hc (fun hm => h2 (by rw [if_pos hm])) fun hm => nn_s ⟨_, _, c_cell g hc hm, rfl, fun hz => ⟨_, _, c_cell g hc hm, rfl, _, _, c_cell g hc hm, rfl, nan_div (hi.2.2.2.2.1 c hc) hz, ?_⟩, fun hz => h3 (by rw [if_neg hm, if_pos hz])⟩
  rw [if_neg hm, if_neg hz] at hp
  exact hp rfl
theorem H_time (g : RC G ca h wa ka wk ch li kf M σ) {post : UInt64 → hM → Prop} (hp : ∀ b, q8 b (x_n σ) → post b M) : rC M h 3 (wp_Ha_time G ca post M h) := rc_h g (hn_c g hp)
end

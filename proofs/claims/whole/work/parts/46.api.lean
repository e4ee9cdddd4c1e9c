/-! THE HALL'S CALLS: give, take, swap, arrive. -/
theorem sv_id {σ : St} {k t : Nat} {v : Int32} (h : x_v σ k t = v) : s_v σ k t v = σ := by
  refine Prod.ext (funext fun k' => funext fun i => ?_) rfl
  show u2 σ.1 k t v k' i = σ.1 k' i
  by_cases e : k' = k
  · subst e
    rw [u2_k]
    dsimp only
    split
    · rename_i e; rw [e]; exact h.symm
    · rfl
  · rw [u2_n _ _ _ e]
theorem ck_2 {σ : St} {t c : Nat} {lo hi : Int32} (h : x_v σ 13 c < 0) : o_ck σ t c lo hi = 2 := by unfold o_ck; rw [if_pos h]
theorem ck_3 {σ : St} {t c : Nat} {lo hi : Int32} (h : ¬ x_v σ 13 c < 0) (g : x_p σ t ≠ none) : o_ck σ t c lo hi = 3 := by unfold o_ck; rw [if_neg h, if_pos g]
theorem ck_4 {σ : St} {t c : Nat} {lo hi : Int32} (h : ¬ x_v σ 13 c < 0) (g : x_p σ t = none) (k : x_v σ 13 c < lo ∨ hi < x_v σ 13 c) : o_ck σ t c lo hi = 4 := by unfold o_ck; rw [if_neg h, if_neg (fun e => e g), if_pos k]
theorem ck_k {σ : St} {t c : Nat} {lo hi : Int32} (h : ¬ x_v σ 13 c < 0) (g : x_p σ t = none) (k : ¬ (x_v σ 13 c < lo ∨ hi < x_v σ 13 c)) : o_ck σ t c lo hi = 0 := by unfold o_ck; rw [if_neg h, if_neg (fun e => e g), if_neg k]
/-- what is thrown -/
def xA (r : Rs) (σ : St) (M : hM) (xp : String → hM → Prop) : Prop := (r = (1, 0, σ) → xp "java/lang/IllegalArgumentException" M) ∧ (r = (2, 0, σ) → xp "java/util/NoSuchElementException" M) ∧ (r = (3, 0, σ) → xp "java/lang/IllegalStateException" M) ∧ (r = (4, 0, σ) → xp "java/lang/UnsupportedOperationException" M) ∧ (r = (5, 0, σ) → xp "java/lang/ArithmeticException" M)
def x4 (r : Rs) (σ : St) (M : hM) (xp : String → hM → Prop) : Prop := (r = (1, 0, σ) → xp "java/lang/IllegalArgumentException" M) ∧ (r = (2, 0, σ) → xp "java/util/NoSuchElementException" M) ∧ (r = (3, 0, σ) → xp "java/lang/IllegalStateException" M) ∧ (r = (4, 0, σ) → xp "java/lang/UnsupportedOperationException" M)
section
variable {G ca : Nat → Nat} {h wa ka : Nat} {wk ch li : Nat → Nat} {kf : Nat → UInt64} {M : hM} {σ : St} {N : Int}
theorem is_thr {T : Int32} {post : Int32 → hM → Prop} (h0 : bT T → post 0 M) (h1 : ¬ bT T → post 1 M) : wp_Ha_isThread G ca post M T :=
  ⟨fun e => ⟨Or.inl rfl, h0 (Or.inl e)⟩, fun e => ⟨fun g => ⟨Or.inl rfl, h0 (Or.inr (Int32.not_lt.mpr g))⟩, fun g => ⟨Or.inr rfl, h1 (fun k => k.elim e (fun k => k (Int32.not_le.mp g)))⟩⟩⟩
theorem is_chn {C : Int32} {post : Int32 → hM → Prop} (h0 : bC C → post 0 M) (h1 : ¬ bC C → post 1 M) : wp_Ha_isChannel G ca post M C :=
  ⟨fun e => ⟨Or.inl rfl, h0 (Or.inl e)⟩, fun e => ⟨fun g => ⟨Or.inl rfl, h0 (Or.inr (Int32.not_lt.mpr g))⟩, fun g => ⟨Or.inr rfl, h1 (fun k => k.elim e (fun k => k (Int32.not_le.mp g)))⟩⟩⟩
theorem is_lim {L : Int32} {lx : UInt64} (hl : q8 lx L.toInt) {post : Int32 → hM → Prop} (h0 : bL L → post 0 M) (h1 : ¬ bL L → post 1 M) : wp_Ha_isLimit G ca post M lx := by
  refine ⟨fun e => ⟨Or.inl rfl, h0 (Or.inl ?_)⟩, fun e => ⟨fun g => ⟨Or.inl rfl, h0 (Or.inr ?_)⟩, fun g => ⟨Or.inr rfl, h1 ?_⟩⟩⟩
  · rw [e_lt hl.1 e8_m1] at e; exact e
  · rw [e_gt hl.1 e8_1000] at g; exact g
  · rw [e_lt hl.1 e8_m1] at e
    rw [e_gt hl.1 e8_1000] at g
    rintro (k | k) <;> omega
theorem pre_c (g : RC G ca h wa ka wk ch li kf M σ) {t c : Nat} (ht : t < 6) (hc : c < 8) {xp : String → hM → Prop} {K : Option Nat → Option Nat → hM → Prop} (h2 : x_v σ 13 c < 0 → xp "java/util/NoSuchElementException" M) (h3 : ¬ x_v σ 13 c < 0 → x_p σ t ≠ none → xp "java/lang/IllegalStateException" M) (hK : ¬ x_v σ 13 c < 0 → x_p σ t = none → K (some (ch c)) (some (wk t)) M) :
    rC M h 3 (wp_Ha_presentChannel G ca (fun r M' => rC M' h 3 (wp_Ha_runningWorker G ca (fun r' M'' => K r r' M'') xp M' h (Int32.ofNat t))) xp M h (Int32.ofNat c)) := by
  refine rc_h g (hc_c g hc ?_)
  by_cases hm : x_v σ 13 c < 0
  · rw [if_pos hm]
    exact ⟨fun _ => h2 hm, fun b e => by cases e⟩
  · rw [if_neg hm]
    refine ⟨fun e => (by cases e), fun b e => ?_⟩
    cases e
    refine rc_h g (hw_c g ht (nn_s (wp_c g ht ?_)))
    cases hpl : x_p σ t with
    | none => exact ⟨fun _ => hK hm hpl, fun b e => by cases e⟩
    | some d => exact ⟨fun e => (by cases e), fun b e => h3 hm (by rw [hpl]; simp)⟩
theorem prs (g : RC G ca h wa ka wk ch li kf M σ) {c : Nat} (hc : c < 8) {xp : String → hM → Prop} {K : Option Nat → hM → Prop} (h2 : x_v σ 13 c < 0 → xp "java/util/NoSuchElementException" M) (hK : ¬ x_v σ 13 c < 0 → K (some (ch c)) M) :
    rC M h 3 (wp_Ha_presentChannel G ca K xp M h (Int32.ofNat c)) := by
  refine rc_h g (hc_c g hc ?_)
  by_cases hm : x_v σ 13 c < 0
  · rw [if_pos hm]
    exact ⟨fun _ => h2 hm, fun b e => by cases e⟩
  · rw [if_neg hm]
    refine ⟨fun e => (by cases e), fun b e => ?_⟩
    cases e
    exact hK hm
theorem wo_lf (g : RC G ca h wa ka wk ch li kf M σ) (hi : IV σ N) {t : Nat} (ht : t < 6) {post : Int32 → hM → Prop} (h0 : x_v σ 2 t = 0 → ∀ M', RC G ca h wa ka wk ch li kf M' σ → post 0 M') (h1 : x_v σ 2 t ≠ 0 → ∀ M', RC G ca h wa ka wk ch li kf M' (s_v σ 2 t 0) → post 1 M') : rC M (wk t) 2 (wp_Wo_losesFlag G ca post M (wk t)) := by
  refine rc_w g ht (wg_c (k := 2) g (by decide) ht (wv_c (k := 2) g (by decide) ht fun M1 g1 => ?_))
  rcases (hi.1 t ht).1 with e | e
  · rw [e]
    rw [sv_id e] at g1
    exact ⟨Or.inl rfl, h0 e M1 g1⟩
  · rw [e]
    exact ⟨Or.inr rfl, h1 (by rw [e]; decide) M1 g1⟩
theorem ch_key (g : RC G ca h wa ka wk ch li kf M σ) (hi : IV σ N) {c : Nat} (hc : c < 8) (hm : ¬ x_v σ 13 c < 0) {xx nx : UInt64} {x : Int} (hx : q8 xx x) (hx2 : x ≤ 8000) (hn : q8 nx (x_n σ)) {post : UInt64 → hM → Prop} (hp : ∀ kx, kO (x_v σ 13 c) x (x_n σ + if x < 0 then 0 else x) kx → post kx M) : rC M (ch c) 0 (wp_Ch_keyOf G ca post M (ch c) xx nx) := by
  have h6 := hi.2.2.2.2.2
  have h34 : (3 : Int32) ≠ 4 := by decide
  refine rc_c g hc hm (ck_g g hc hm ⟨fun h3 => hp _ ⟨fun _ => e8_neg hx.1, fun e => absurd (h3.symm.trans e) h34, fun e => absurd h3 e⟩, fun h3 => ⟨fun h4 => ⟨fun hg => ?_, fun hg => ?_⟩, fun h4 => hp _ ⟨fun e => absurd e h3, fun e => absurd e h4, fun _ _ => q8_0.1⟩⟩⟩)
  · rw [e_ge hx.1 q8_0.1] at hg
    have hs : q8 (FP.dadd nx xx) (x_n σ + if x < 0 then 0 else x) := by rw [if_neg (by omega)]; exact q8_add hn hx h6.1 hg (by omega)
    exact ⟨e8_nn hs.1, hp _ ⟨fun e => absurd e h3, fun _ => hs, fun _ e => absurd h4 e⟩⟩
  · rw [e_ge hx.1 q8_0.1] at hg
    have hs : q8 (FP.dadd nx FP.dconst0) (x_n σ + if x < 0 then 0 else x) := by rw [if_pos (by omega)]; exact q8_add hn q8_0 h6.1 (by decide) (by omega)
    exact ⟨e8_nn hs.1, hp _ ⟨fun e => absurd e h3, fun _ => hs, fun _ e => absurd h4 e⟩⟩
theorem wo_off (g : RC G ca h wa ka wk ch li kf M σ) {t : Nat} (ht : t < 6) (hpl : x_p σ t = none) {v : Int32} {kx : UInt64} {post : hM → Prop} (hp : ∀ M', RC G ca h wa ka wk ch li (va_up kf t kx) M' (s_v σ 8 t v) → post M') : rC M (wk t) 2 (wp_Wo_offer G ca post M (wk t) v kx) := by
  refine rc_w g ht ?_
  obtain ⟨rl, he, ex, h1, h2⟩ := w_cell g ht
  obtain ⟨O, g⟩ := g
  have ek : va_up kf t kx t = kx := va_up_self _ _ _
  have key := RO_w (σ' := s_v σ 8 t v) (kf' := va_up kf t kx) (rl := rl) (he := he) (ex := ex) g ht (fun c hc => by rw [show x_p (s_v σ 8 t v) t = none from hpl] at hc; cases hc) (fun u hu => ⟨sW_v σ 8 v hu, va_up_ne _ _ hu⟩) (fun c => sC_v σ (by decide) t v c) (sH_v σ (by decide) t v)
  rw [ek, xv_s] at key
  refine ⟨_, h1, by simp [wL], _, va_up_self _ _ _, by simp [wL], hp _ ⟨O, ?_⟩⟩
  have eu : ∀ e1 e2 : va_E, va_up (va_up M (wk t) (some e1)) (wk t) (some e2) = va_up M (wk t) (some e2) := fun e1 e2 => by
    funext j
    by_cases hj : j = wk t
    · rw [hj, va_up_self, va_up_self]
    · rw [va_up_ne _ _ hj, va_up_ne _ _ hj, va_up_ne _ _ hj]
  rw [eu]
  exact key
theorem rc_e (g : RC G ca h wa ka wk ch li kf M σ) {t : Nat} (hpl : x_p σ t = none) (k : Nat) (v : Int) : RC G ca h wa ka wk ch li kf M (s_e σ k t v) := by
  obtain ⟨O, g⟩ := g
  refine ⟨O, RO_e g ⟨rfl, rfl⟩ (fun c => sC_e σ k t v c) fun u => ⟨fun _ _ => rfl, rfl, fun hn => sW_e σ k v fun e => ?_⟩⟩
  rw [e] at hn; exact hn hpl
/-- take -/
theorem H_take_26 (hG : ∀ i j, i < 3 → j < 3 → G i = G j → i = j) (g : RC G ca h wa ka wk ch li kf M σ) (hi : IV σ N) {t c : Nat} (ht : t < 6) (hc : c < 8) {l : Int} {lx : UInt64} (hl : q8 lx l) (hl1 : -8 ≤ l) (hl2 : l ≤ 8000) {post : Int32 → hM → Prop} {xp : String → hM → Prop}
    (hp : (g_take σ t c l).1 = 0 → ∀ kf' M', RC G ca h wa ka wk ch li kf' M' (g_take σ t c l).2.2 → post (g_take σ t c l).2.1 M') (hx : x4 (g_take σ t c l) σ M xp) : wp_Ha_take_26 G ca post xp M h (Int32.ofNat t) (Int32.ofNat c) lx 1 := by
  have thr : ∀ k, o_ck σ t c 0 4 = k → k ≠ 0 → g_take σ t c l = (k, 0, σ) := fun k e hk => by unfold g_take; rw [e, if_pos hk]
  refine ⟨fun _ => pre_c g ht hc (fun hm => hx.2.1 (thr 2 (ck_2 hm) (by decide))) (fun hm hpl => hx.2.2.1 (thr 3 (ck_3 hm hpl) (by decide))) (fun hm hpl => nn_s (rc_c g hc hm (ck_g g hc hm ⟨fun h4 => ⟨Or.inl rfl, ⟨fun e => absurd rfl e, fun _ => hx.2.2.2 (thr 4 (ck_4 hm hpl (Or.inr h4)) (by decide))⟩⟩, fun h4 => ⟨Or.inr rfl, ⟨fun _ => nn_s ?_, fun e => nx1 e⟩⟩⟩))), fun e => nx1 e⟩
  have hk : o_ck σ t c 0 4 = 0 := ck_k hm hpl (fun e => e.elim hm h4)
  unfold g_take at hp
  rw [if_neg (fun e => e hk)] at hp
  refine wo_lf g hi ht (fun hf M1 g1 => ⟨fun _ => ?_, fun e => absurd rfl e⟩) (fun hf M1 g1 => ⟨fun e => nx1 e, fun _ => wo_end g1 ht fun M2 g2 => ?_⟩)
  · rw [if_neg (fun e => e hf)] at hp
    refine hn_c g1 fun nx hn => ch_yld hG g1 hi hc hm hn ⟨fun hc1 => ⟨fun e => absurd rfl e, fun _ => ?_⟩, fun hc1 => ⟨fun _ => hn_c g1 fun nx2 hn2 => ?_, fun e => nx1 e⟩⟩
    · rw [if_pos hc1] at hp
      exact ha_wait g1 hi ht hc hm (r := 1) (by decide) hpl (fun e => absurd e (by decide)) hl hl1 hl2 fun M2 g2 => hp rfl kf M2 g2
    · rw [if_neg hc1] at hp
      by_cases h2 : x_v σ 13 c = 2
      · rw [if_pos h2] at hp hc1
        cases hg : fw σ c 0 with
        | none => exact absurd (Or.inr (by rw [hg]; rfl)) hc1
        | some k =>
          rw [hg] at hp
          refine ch_yie2 hG g1 hi hc hm h2 ht hg fun M2 g2 => hn_c g2 fun nx3 hn3 => ch_serve hG g2 (IV_free (IV_obt hi t hc _ (by decide) (by decide)) hc (fw_some hg).1 1) hc hm hn3 fun M3 g3 => wo_end g3 ht fun M4 g4 => hp rfl kf M4 g4
      · rw [if_neg h2] at hp hc1
        refine ch_yien hG g1 hi hc hm h2 ht hn2 fun M2 g2 => hn_c g2 fun nx3 hn3 => ch_serve hG g2 (IV_tf hi t hc) hc (by rw [(kF_tf σ t c).1.2.1]; exact hm) hn3 fun M3 g3 => wo_end g3 ht fun M4 g4 => hp rfl kf M4 g4
  · rw [if_pos hf] at hp
    exact hp rfl kf M2 g2
theorem H_take (hG : ∀ i j, i < 3 → j < 3 → G i = G j → i = j) (g : RC G ca h wa ka wk ch li kf M σ) (hi : IV σ N) {T C L : Int32} {lx : UInt64} (hl : q8 lx L.toInt) {post : Int32 → hM → Prop} {xp : String → hM → Prop}
    (hp : (o_take σ T C L).1 = 0 → ∀ kf' M', RC G ca h wa ka wk ch li kf' M' (o_take σ T C L).2.2 → post (o_take σ T C L).2.1 M') (hx : x4 (o_take σ T C L) σ M xp) : wp_Ha_take G ca post xp M h T C lx := by
  have hbad : (bT T ∨ bC C ∨ bL L) → wp_Ha_take_25 G ca post xp M h T C lx := fun e => ⟨fun k => absurd rfl k, fun _ => hx.1 (by unfold o_take; rw [if_pos e])⟩
  refine is_thr (fun hb => ⟨fun _ => hbad (Or.inl hb), fun e => absurd rfl e⟩) fun hT => ⟨fun e => nx1 e, fun _ => is_chn (fun hb => ⟨fun _ => hbad (Or.inr (Or.inl hb)), fun e => absurd rfl e⟩) fun hC => ⟨fun e => nx1 e, fun _ => is_lim hl (fun hb => ⟨fun _ => hbad (Or.inr (Or.inr hb)), fun e => absurd rfl e⟩) fun hL => ⟨fun e => nx1 e, fun _ => ?_⟩⟩⟩
  unfold o_take at hp hx
  rw [if_neg (fun e => e.elim hT (fun e => e.elim hC hL))] at hp hx
  obtain ⟨t, ht, rfl, et⟩ := i_T hT
  obtain ⟨c, hc, rfl, ec⟩ := i_C hC
  rw [et, ec] at hp hx
  unfold bL at hL
  exact H_take_26 hG g hi ht hc hl (by omega) (by omega) hp hx
/-- give -/
theorem H_give_45 (hG : ∀ i j, i < 3 → j < 3 → G i = G j → i = j) (g : RC G ca h wa ka wk ch li kf M σ) (hi : IV σ N) {t c : Nat} (ht : t < 6) (hc : c < 8) {v : Int32} {x l : Int} {xx lx : UInt64} (hxx : q8 xx x) (hx2 : x ≤ 8000) (hl : q8 lx l) (hl1 : -8 ≤ l) (hl2 : l ≤ 8000) {post : Int32 → hM → Prop} {xp : String → hM → Prop}
    (hp : (g_give σ t c v x l).1 = 0 → ∀ kf' M', RC G ca h wa ka wk ch li kf' M' (g_give σ t c v x l).2.2 → post (g_give σ t c v x l).2.1 M') (hx : x4 (g_give σ t c v x l) σ M xp) : wp_Ha_give_45 G ca post xp M h (Int32.ofNat t) (Int32.ofNat c) v xx lx 1 := by
  have thr : ∀ k, o_ck σ t c 0 4 = k → k ≠ 0 → g_give σ t c v x l = (k, 0, σ) := fun k e hk => by unfold g_give; rw [e, if_pos hk]
  refine ⟨fun _ => pre_c g ht hc (fun hm => hx.2.1 (thr 2 (ck_2 hm) (by decide))) (fun hm hpl => hx.2.2.1 (thr 3 (ck_3 hm hpl) (by decide))) (fun hm hpl => nn_s (rc_c g hc hm (ck_g g hc hm ⟨fun h4 => ⟨Or.inl rfl, ⟨fun e => absurd rfl e, fun _ => hx.2.2.2 (thr 4 (ck_4 hm hpl (Or.inr h4)) (by decide))⟩⟩, fun h4 => ⟨Or.inr rfl, ⟨fun _ => nn_s ?_, fun e => nx1 e⟩⟩⟩))), fun e => nx1 e⟩
  have hk : o_ck σ t c 0 4 = 0 := ck_k hm hpl (fun e => e.elim hm h4)
  have h56 := ck_56 h4
  have h6 : x_v σ 13 c ≠ 6 := fun e => h56 (Or.inr e)
  have hn1 : x_v σ 13 c ≠ -1 := fun e => hm (by rw [e]; decide)
  unfold g_give at hp
  rw [if_neg (fun e => e hk)] at hp
  refine wo_lf g hi ht (fun hf M1 g1 => ⟨fun _ => ?_, fun e => absurd rfl e⟩) (fun hf M1 g1 => ⟨fun e => nx1 e, fun _ => wo_end g1 ht fun M2 g2 => ?_⟩)
  · rw [if_neg (fun e => e hf)] at hp
    refine hn_c g1 fun nx hn => ch_key g1 hi hc hm hxx hx2 hn fun kx hkx => ch_acc hG g1 hi hc hm h6 ⟨fun hc1 => ⟨fun e => absurd rfl e, fun _ => ?_⟩, fun hc1 => ⟨fun _ => hn_c g1 fun nx2 hn2 => ?_, fun e => nx1 e⟩⟩
    · rw [if_pos hc1] at hp
      refine wo_off g1 ht hpl fun M2 g2 => ?_
      have g3 := rc_e (rc_e g2 (t := t) hpl 9 x) (t := t) hpl 10 (x_n σ + if x < 0 then 0 else x)
      have hi3 : IV (s_e (s_e (s_v σ 8 t v) 9 t x) 10 t (x_n σ + if x < 0 then 0 else x)) N := IV_e (IV_e (IV_v hi (by decide) _ _) _ _ _) _ _ _
      refine ha_wait g3 hi3 ht hc hm (r := 0) (by decide) hpl (fun _ => ?_) hl hl1 hl2 fun M3 g4 => hp rfl _ M3 g4
      have e9 : x_e (s_e (s_e (s_v σ 8 t v) 9 t x) 10 t (x_n σ + if x < 0 then 0 else x)) 9 t = x := (congrFun (xe_n (s_e (s_v σ 8 t v) 9 t x) t _ (by decide : (9 : Nat) ≠ 10)) t).trans (xe_s (s_v σ 8 t v) 9 t x)
      have e10 : x_e (s_e (s_e (s_v σ 8 t v) 9 t x) 10 t (x_n σ + if x < 0 then 0 else x)) 10 t = x_n σ + if x < 0 then 0 else x := xe_s _ _ _ _
      rw [e9, e10, va_up_self]
      exact hkx
    · rw [if_neg hc1] at hp
      by_cases h2 : x_v σ 13 c = 2
      · rw [if_pos h2] at hp hc1
        cases hg : fw σ c 1 with
        | none => exact absurd (Or.inr (by rw [hg]; rfl)) hc1
        | some k =>
          rw [hg] at hp
          refine ch_acc2 hG g1 hi hc hm h2 hg fun M2 g2 => hn_c g2 fun nx3 hn3 => ch_serve hG g2 (IV_free (IV_obt hi k hc _ (by decide) (by decide)) hc (fw_some hg).1 1) hc hm hn3 fun M3 g3 => wo_end g3 ht fun M4 g4 => hp rfl kf M4 g4
      · rw [if_neg h2] at hp hc1
        have hfit : o_fits σ c = true := by
          cases hq : o_fits σ c with
          | true => rfl
          | false => exact absurd (Or.inr hq) hc1
        have hl6 := fits_lt hi hc h6 hn1 hfit
        have hlen : (x_i σ c).length < 16 := by rcases hl6 with ⟨_, e, _⟩ | ⟨kn, R, e⟩ <;> omega
        refine ch_accn hG g1 hi hc hm h2 hlen hkx hn2 fun M2 g2 => hn_c g2 fun nx3 hn3 => ch_serve hG g2 (IV_lay hi hc h6 hn1 hfit _ _ _) hc hm hn3 fun M3 g3 => wo_end g3 ht fun M4 g4 => hp rfl kf M4 g4
  · rw [if_pos hf] at hp
    exact hp rfl kf M2 g2
theorem H_give (hG : ∀ i j, i < 3 → j < 3 → G i = G j → i = j) (g : RC G ca h wa ka wk ch li kf M σ) (hi : IV σ N) {T C V X L : Int32} {xx lx : UInt64} (hxx : q8 xx X.toInt) (hl : q8 lx L.toInt) {post : Int32 → hM → Prop} {xp : String → hM → Prop}
    (hp : (o_give σ T C V X L).1 = 0 → ∀ kf' M', RC G ca h wa ka wk ch li kf' M' (o_give σ T C V X L).2.2 → post (o_give σ T C V X L).2.1 M') (hx : x4 (o_give σ T C V X L) σ M xp) : wp_Ha_give G ca post xp M h T C V xx lx := by
  have hbad : (bT T ∨ bC C ∨ X.toInt < -8000 ∨ 8000 < X.toInt ∨ bL L) → wp_Ha_give_44 G ca post xp M h T C V xx lx := fun e => ⟨fun k => absurd rfl k, fun _ => hx.1 (by unfold o_give; rw [if_pos e])⟩
  refine is_thr (fun hb => ⟨fun _ => hbad (Or.inl hb), fun e => absurd rfl e⟩) fun hT => ⟨fun e => nx1 e, fun _ => is_chn (fun hb => ⟨fun _ => hbad (Or.inr (Or.inl hb)), fun e => absurd rfl e⟩) fun hC => ⟨fun e => nx1 e, fun _ => ⟨fun h1 => hbad (Or.inr (Or.inr (Or.inl ?_))), fun h1 => ⟨fun h2 => hbad (Or.inr (Or.inr (Or.inr (Or.inl ?_)))), fun h2 => is_lim hl (fun hb => ⟨fun _ => hbad (Or.inr (Or.inr (Or.inr (Or.inr hb)))), fun e => absurd rfl e⟩) fun hL => ⟨fun e => nx1 e, fun _ => ?_⟩⟩⟩⟩⟩
  · rw [e_lt hxx.1 e8_m1000] at h1; exact h1
  · rw [e_gt hxx.1 e8_1000] at h2; exact h2
  · rw [e_lt hxx.1 e8_m1000] at h1
    rw [e_gt hxx.1 e8_1000] at h2
    unfold o_give at hp hx
    rw [if_neg (fun e => e.elim hT (fun e => e.elim hC (fun e => e.elim h1 (fun e => e.elim h2 hL))))] at hp hx
    obtain ⟨t, ht, rfl, et⟩ := i_T hT
    obtain ⟨c, hc, rfl, ec⟩ := i_C hC
    rw [et, ec] at hp hx
    unfold bL at hL
    exact H_give_45 hG g hi ht hc hxx (by omega) hl (by omega) (by omega) hp hx
end

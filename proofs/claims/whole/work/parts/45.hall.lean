/-! THE HALL'S TICK. -/
def lst (g b : Int) : Int := if b < 0 ∨ g ≤ b then g else b
theorem lst_mb {g b v : Int} : lst g (mb b v) = if 0 ≤ v ∧ v < lst g b then v else lst g b := by
  unfold lst mb
  split <;> split <;> (try split) <;> (try split) <;> omega
theorem q8_1 : q8 FP.dconst1 8 := ⟨e8_1, fun _ => by decide +kernel⟩
section
variable {G ca : Nat → Nat} {h wa ka : Nat} {wk ch li : Nat → Nat} {kf : Nat → UInt64} {M : hM} {σ : St} {N : Int}
theorem IV_mk {c t : Nat} (hi : IV σ N) (hc : c < 8) (ht : t ∈ x_w σ c) : ¬ x_v σ 13 c < 0 := by
  rcases hi.2.2.1 c hc with ⟨_, _, e⟩ | ⟨kn, R, e, hk, _⟩
  · rw [List.length_eq_zero_iff] at e
    rw [e] at ht; cases ht
  · rw [e]; exact i_nn (by omega)
theorem IV_mp {t : Nat} (hi : IV σ N) (ht : t < 6) : ∀ c, x_p σ t = some c → ¬ x_v σ 13 c < 0 := fun c hp => IV_mk hi ((hi.1 t ht).2 c hp).1 ((hi.1 t ht).2 c hp).2
theorem ha_nx_84 (hG : ∀ i j, i < 3 → j < 3 → G i = G j → i = j) (g : RC G ca h wa ka wk ch li kf M σ) (hi : IV σ N) {gl : Int} {post : UInt64 → hM → Prop} (hp : ∀ b, q8 b (lst gl (com σ 14)) → post b M) : ∀ (d j : Nat), j + d = 8 → ∀ lx, q8 lx (lst gl (com σ (6 + j))) → wp_Ha_nextMoment_84 G ca post (d + 1) M h lx ka 8 (Int32.ofNat j)
  | 0, j, e, lx, hl => by
    have : j = 8 := by omega
    subst this
    exact ⟨fun _ => hp lx hl, fun k => absurd (show (8 : Int32) ≤ Int32.ofNat 8 by decide) k⟩
  | d + 1, j, e, lx, hl => by
    have hj : j < 8 := by omega
    have ih := ha_nx_84 hG g hi hp d (j + 1) (by omega)
    rw [show com σ (6 + (j + 1)) = mb (com σ (6 + j)) (dm σ j) by rw [← cand_c]; rfl, lst_mb, ← i_succ] at ih
    refine ⟨fun k => absurd ((i_le (a := 8) (b := j) (by decide) (by omega)).mp k) (by omega), fun _ => hc_a g hj ?_⟩
    by_cases hm : x_v σ 13 j < 0
    · rw [if_pos hm]
      refine ⟨fun _ => ih lx ?_, fun b e => by cases e⟩
      have : dm σ j < 0 := by
        unfold dm
        split
        · decide
        · rw [if_neg (fun e => by rw [e.1] at hm; exact absurd hm (by decide))]; decide
      rw [if_neg (by omega)]; exact hl
    · rw [if_neg hm]
      refine ⟨fun e => (by cases e), fun b e => ?_⟩
      cases e
      exact hn_c g fun nx hn => ch_due hG g hi hj hm hn hl fun b hb => ih b hb
theorem ha_nx_18 (g : RC G ca h wa ka wk ch li kf M σ) {gl : Int} {post : UInt64 → hM → Prop} (hp : ∀ lx, q8 lx (lst gl (com σ 6)) → ∃ n, wp_Ha_nextMoment_84 G ca post n M h lx ka 8 0) : ∀ (d j : Nat), j + d = 6 → ∀ lx, q8 lx (lst gl (com σ j)) → wp_Ha_nextMoment_18 G ca post (d + 1) M h lx wa 6 (Int32.ofNat j)
  | 0, j, e, lx, hl => by
    have : j = 6 := by omega
    subst this
    exact ⟨fun _ => hc_l g (hp lx hl), fun k => absurd (show (6 : Int32) ≤ Int32.ofNat 6 by decide) k⟩
  | d + 1, j, e, lx, hl => by
    have hj : j < 6 := by omega
    have ih := ha_nx_18 g hp d (j + 1) (by omega)
    rw [show com σ (j + 1) = mb (com σ j) (cand σ j) from rfl, lst_mb, ← i_succ] at ih
    have skip : (0 ≤ cand σ j → ¬ cand σ j < lst gl (com σ j)) → wp_Ha_nextMoment_64 G ca post (wp_Ha_nextMoment_18 G ca post (d + 1)) M h lx wa 6 (Int32.ofNat j) := fun hn => ih lx (by rw [if_neg (fun k => hn k.1 k.2)]; exact hl)
    refine ⟨fun k => absurd ((i_le (a := 6) (b := j) (by decide) (by omega)).mp k) (by omega), fun _ => hw_a g hj (nn_s (wp_c g hj ?_))⟩
    rw [cand_t hj] at skip ih
    cases hpl : x_p σ j with
    | none =>
      rw [hpl, if_pos rfl] at skip
      exact ⟨fun _ => skip (by omega), fun b e => by cases e⟩
    | some c =>
      have hcn : ¬ ((some c : Option Nat) = none) := by simp
      simp only [hpl, if_neg hcn] at skip ih
      obtain ⟨rl, he, ex, h1, h2⟩ := w_cell g hj
      have h3 := (h2 c hpl).2.1
      refine ⟨fun e => (by cases e), fun b _ => ⟨_, _, h1, rfl, fun hz => skip ?_, fun hz => ⟨_, _, h1, rfl, fun hge => skip ?_, fun hge => ⟨_, _, h1, rfl, ih ex ?_⟩⟩⟩⟩
      · rcases h3 with ⟨_, e, _⟩ | ⟨e, _⟩
        · rw [e] at hz; exact absurd hz (by decide)
        · omega
      · rcases h3 with ⟨e0, e, hq⟩ | ⟨_, e⟩
        · rw [e_ge hq.1 hl.1] at hge; omega
        · exact absurd e hz
      · rcases h3 with ⟨e0, e, hq⟩ | ⟨_, e⟩
        · rw [e_ge hq.1 hl.1] at hge
          rw [if_pos (by omega)]; exact hq
        · exact absurd e hz
theorem ha_next (hG : ∀ i j, i < 3 → j < 3 → G i = G j → i = j) (g : RC G ca h wa ka wk ch li kf M σ) (hi : IV σ N) {gx : UInt64} {gl : Int} (hg : q8 gx gl) (hg0 : 0 ≤ gl) (hg1 : gl ≤ 4200000) {post : UInt64 → hM → Prop} (hp : ∀ b, q8 b (lst (gl + 8) (com σ 14)) → post b M) : rC M h 3 (wp_Ha_nextMoment G ca post M h gx) := by
  have hs : q8 (FP.dadd gx FP.dconst1) (gl + 8) := q8_add hg q8_1 hg0 (by decide) (by omega)
  refine rc_h g ⟨e8_nn hs.1, hw_l g ⟨7, ha_nx_18 g (gl := gl + 8) (fun lx hl => ⟨9, ha_nx_84 hG g hi hp 8 0 rfl lx hl⟩) 6 0 rfl _ ?_⟩⟩
  show q8 _ (lst (gl + 8) (-8))
  rw [show lst (gl + 8) (-8) = gl + 8 from if_pos (Or.inl (by decide))]; exact hs
theorem ha_sd_10 (hG : ∀ i j, i < 3 → j < 3 → G i = G j → i = j) (hi : IV σ N) {post : hM → Prop} (hp : ∀ M', RC G ca h wa ka wk ch li kf M' (o_sd 8 σ) → post M') : ∀ (d j : Nat) (M : hM), j + d = 8 → RC G ca h wa ka wk ch li kf M (o_sd j σ) → wp_Ha_serveDelayed_10 G ca post (d + 1) M h ka 8 (Int32.ofNat j) := by
  intro d
  induction d with
  | zero =>
    intro j M e g
    have : j = 8 := by omega
    subst this
    exact ⟨fun _ => hp M g, fun k => absurd (show (8 : Int32) ≤ Int32.ofNat 8 by decide) k⟩
  | succ d ih =>
    intro j M e g
    have hj : j < 8 := by omega
    have hi1 := IV_sd hi j (by omega)
    have skip : x_v (o_sd j σ) 13 j ≠ 4 → wp_Ha_serveDelayed_43 G ca post (wp_Ha_serveDelayed_10 G ca post (d + 1)) M h ka 8 (Int32.ofNat j) := fun hn => by
      have := ih (j + 1) M (by omega)
      rw [o_sd, if_neg hn, ← i_succ] at this
      exact this g
    refine ⟨fun k => absurd ((i_le (a := 8) (b := j) (by decide) (by omega)).mp k) (by omega), fun _ => ⟨by omega, hc_a g hj ?_⟩⟩
    by_cases hm : x_v (o_sd j σ) 13 j < 0
    · rw [if_pos hm]
      exact ⟨fun _ => skip (fun e => by rw [e] at hm; exact absurd hm (by decide)), fun b e => by cases e⟩
    · rw [if_neg hm]
      refine ⟨fun e => (by cases e), fun b e => ?_⟩
      cases e
      refine ck_g g hj hm ⟨fun h4 => skip h4, fun h4 => hn_c g fun nx hn => ch_serve hG g hi1 hj hm hn fun M1 g1 => ?_⟩
      have := ih (j + 1) M1 (by omega)
      rw [o_sd, if_pos h4, ← i_succ] at this
      exact this g1
theorem ha_sd (hG : ∀ i j, i < 3 → j < 3 → G i = G j → i = j) (g : RC G ca h wa ka wk ch li kf M σ) (hi : IV σ N) {post : hM → Prop} (hp : ∀ M', RC G ca h wa ka wk ch li kf M' (o_sd 8 σ) → post M') : rC M h 3 (wp_Ha_serveDelayed G ca post M h) :=
  rc_h g (hc_l g ⟨9, by decide, ha_sd_10 hG hi hp 8 0 M rfl g⟩)
theorem ha_el_13 (hG : ∀ i j, i < 3 → j < 3 → G i = G j → i = j) (hi : IV σ N) {post : Int32 → hM → Prop} (hp : ∀ M', RC G ca h wa ka wk ch li kf M' (o_el 6 σ).1 → post (o_el 6 σ).2 M') : ∀ (d j : Nat) (M : hM), j + d = 6 → RC G ca h wa ka wk ch li kf M (o_el j σ).1 → wp_Ha_endLateWaits_13 G ca post (d + 1) M h (o_el j σ).2 wa 6 (Int32.ofNat j) := by
  intro d
  induction d with
  | zero =>
    intro j M e g
    have : j = 6 := by omega
    subst this
    exact ⟨fun _ => hp M g, fun k => absurd (show (6 : Int32) ≤ Int32.ofNat 6 by decide) k⟩
  | succ d ih =>
    intro j M e g
    have hj : j < 6 := by omega
    have hi1 := IV_el hi j (by omega)
    have skip : ¬ o_lt (o_el j σ).1 j → wp_Ha_endLateWaits_64 G ca post (wp_Ha_endLateWaits_13 G ca post (d + 1)) M h (o_el j σ).2 wa 6 (Int32.ofNat j) := fun hn => by
      have := ih (j + 1) M (by omega)
      rw [o_el, if_neg hn, ← i_succ] at this
      exact this g
    refine ⟨fun k => absurd ((i_le (a := 6) (b := j) (by decide) (by omega)).mp k) (by omega), fun _ => ⟨by omega, hw_a g hj (nn_s (wp_c g hj ?_))⟩⟩
    cases hpl : x_p (o_el j σ).1 j with
    | none => exact ⟨fun _ => skip (fun e => e.1 hpl), fun b e => by cases e⟩
    | some c =>
      obtain ⟨rl, he, ex, h1, h2⟩ := w_cell g hj
      have h3 := (h2 c hpl).2.1
      refine ⟨fun e => (by cases e), fun b _ => ⟨_, _, h1, rfl, fun hz => skip fun e => ?_, fun hz => ⟨_, _, h1, rfl, hn_c g fun nx hn => ⟨fun hgt => skip fun e => ?_, fun hgt => ?_⟩⟩⟩⟩
      · rcases h3 with ⟨_, e, _⟩ | ⟨e2, _⟩
        · rw [e] at hz; exact absurd hz (by decide)
        · have := e.2.1; omega
      · rcases h3 with ⟨e0, e1, hq⟩ | ⟨_, e⟩
        · rw [e_gt hq.1 hn.1] at hgt
          have := e.2.2; omega
        · exact absurd e hz
      · rcases h3 with ⟨e0, e1, hq⟩ | ⟨_, e⟩
        · rw [e_gt hq.1 hn.1] at hgt
          have hl : o_lt (o_el j σ).1 j := ⟨by rw [hpl]; simp, e0, by omega⟩
          refine ha_up hG g hi1 hj (IV_mp hi1 hj) fun M1 g1 => ?_
          have := ih (j + 1) M1 (by omega)
          rw [o_el, if_pos hl, ← i_succ] at this
          exact this g1
        · exact absurd e hz
theorem ha_el (hG : ∀ i j, i < 3 → j < 3 → G i = G j → i = j) (g : RC G ca h wa ka wk ch li kf M σ) (hi : IV σ N) {post : Int32 → hM → Prop} (hp : ∀ M', RC G ca h wa ka wk ch li kf M' (o_el 6 σ).1 → post (o_el 6 σ).2 M') : rC M h 3 (wp_Ha_endLateWaits G ca post M h) :=
  rc_h g (hw_l g ⟨7, by decide, ha_el_13 hG hi hp 6 0 M rfl g⟩)
theorem ha_tk_35 (hG : ∀ i j, i < 3 → j < 3 → G i = G j → i = j) {gx : UInt64} {gl : Int} (hg : q8 gx gl) (hg0 : 0 ≤ gl) (hgN : gl ≤ N) {post : Int32 → hM → Prop} {xp : String → hM → Prop} : ∀ (d i : Nat) (σ : St) (k : Int32) (M : hM), i + d = 6 → RC G ca h wa ka wk ch li kf M σ → IV σ N →
    (∀ M', RC G ca h wa ka wk ch li kf M' (s_n (o_tk d gl σ k).1 gl) → post (o_tk d gl σ k).2 M') → wp_Ha_tick_35 G ca post xp (d + 1) M h gx k (Int32.ofNat i) := by
  intro d
  induction d with
  | zero =>
    intro i σ k M e g hi hp
    have : i = 6 := by omega
    subst this
    exact ⟨fun _ => hn_w g hg hp, fun k => absurd (show (6 : Int32) ≤ Int32.ofNat 6 by decide) k⟩
  | succ d ih =>
    intro i σ k M e g hi hp
    have h6 := hi.2.2.2.2.2
    have go : ∀ s0, q8 s0 (if com σ 14 ≤ x_n σ then x_n σ else com σ 14) → ¬ (com σ 14 < 0 ∨ gl < com σ 14) → wp_Ha_tick_79 G ca post xp (wp_Ha_tick_35 G ca post xp (d + 1)) M h gx k (Int32.ofNat i) s0 h := fun s0 hs hd => by
      rw [o_tk, if_neg hd, rd_u] at hp
      have hi1 : IV (s_n σ (if com σ 14 ≤ x_n σ then x_n σ else com σ 14)) N := IV_n hi (by split <;> omega) (by split <;> omega) h6.2.2
      refine hn_w g hs fun M1 g1 => ?_
      generalize s_n σ (if com σ 14 ≤ x_n σ then x_n σ else com σ 14) = σ1 at g1 hi1 hp
      refine ha_sd hG g1 hi1 fun M2 g2 => ?_
      have hi2 := IV_sd hi1 8 (by decide)
      generalize o_sd 8 σ1 = σ2 at g2 hi2 hp
      refine ha_el hG g2 hi2 fun M3 g3 => ?_
      rw [i_succ]
      exact ih (i + 1) _ _ M3 (by omega) g3 (IV_el hi2 6 (by decide)) hp
    refine ⟨fun q => absurd ((i_le (a := 6) (b := i) (by decide) (by omega)).mp q) (by omega), fun _ => ⟨by omega, ha_next hG g hi hg hg0 (by omega) fun b hb => ⟨fun hle => ?_, fun hle => ?_⟩⟩⟩
    · rw [e_le hb.1 hg.1] at hle
      have hd : ¬ (com σ 14 < 0 ∨ gl < com σ 14) := by unfold lst at hle; split at hle <;> omega
      have hl : lst (gl + 8) (com σ 14) = com σ 14 := by unfold lst; rw [if_neg (by omega)]
      rw [hl] at hb
      refine hn_c g fun nx hn => ⟨fun h1 => hn_c g fun nx2 hn2 => go nx2 ?_ hd, fun h1 => go b ?_ hd⟩
      · rw [e_le hb.1 hn.1] at h1
        rw [if_pos h1]; exact hn2
      · rw [e_le hb.1 hn.1] at h1
        rw [if_neg h1]; exact hb
    · rw [e_le hb.1 hg.1] at hle
      have hd : com σ 14 < 0 ∨ gl < com σ 14 := by unfold lst at hle; split at hle <;> omega
      rw [o_tk, if_pos hd] at hp
      exact hn_w g hg hp
end

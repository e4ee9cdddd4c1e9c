/-! THE REFERENCE'S CALLS: check, give, take, swap, arrive, reset, interrupt, channel. -/
theorem oi_lt {r : Option Nat} (h : ∀ t, r = some t → t < 6) : oi r < 0 ↔ r.isSome = false := by
  cases r with
  | none => exact ⟨fun _ => rfl, fun _ => by decide⟩
  | some t => exact ⟨fun e => absurd e (i_nn (by have := h t rfl; omega)), fun e => by cases e⟩
theorem oi_ge {r : Option Nat} (h : ∀ t, r = some t → t < 6) : 0 ≤ oi r ↔ r.isSome = true := by
  rw [← Int32.not_lt, oi_lt h]; cases r <;> simp
theorem fw_6 {σ : St} {N : Int} (hi : IV σ N) {c : Nat} (hc : c < 8) {r : Int32} : ∀ t, fw σ c r = some t → t < 6 := fun t e => ((hi.2.1 c hc).2 t (fw_some e).1).1
theorem ck_le {σ : St} {t c : Nat} {lo hi : Int32} (h : o_ck σ t c lo hi ≤ 0) : o_ck σ t c lo hi = 0 := by
  unfold o_ck at h ⊢
  split
  · rename_i g; rw [if_pos g] at h; exact absurd h (by decide)
  · rename_i g; rw [if_neg g] at h
    split
    · rename_i g; rw [if_pos g] at h; exact absurd h (by decide)
    · rename_i g; rw [if_neg g] at h
      split
      · rename_i g; rw [if_pos g] at h; exact absurd h (by decide)
      · rfl
theorem ck_0 {σ : St} {t c : Nat} {lo hi : Int32} (h : o_ck σ t c lo hi = 0) : ¬ x_v σ 13 c < 0 ∧ x_p σ t = none ∧ ¬ x_v σ 13 c < lo ∧ ¬ hi < x_v σ 13 c := by
  unfold o_ck at h
  split at h
  · exact nx2 h
  · rename_i g
    split at h
    · exact nx3 h
    · rename_i g1
      split at h
      · exact nx4 h
      · rename_i g2
        exact ⟨g, Classical.byContradiction g1, fun e => g2 (Or.inl e), fun e => g2 (Or.inr e)⟩
theorem ck_n {σ : St} {t c : Nat} {lo hi : Int32} (h0 : ¬ x_v σ 13 c < 0) : x_v σ 13 c ≠ -1 := fun e => h0 (by rw [e]; decide)
theorem ck_56 {σ : St} {c : Nat} (h : ¬ 4 < x_v σ 13 c) : ¬ (x_v σ 13 c = 5 ∨ x_v σ 13 c = 6) := by
  rintro (e | e) <;> rw [e] at h <;> exact h (by decide)
theorem i_anti {x y : Int32} (h1 : ¬ x < y) (h2 : ¬ y < x) : x = y := Int32.le_antisymm (Int32.not_lt.mp h2) (Int32.not_lt.mp h1)
section
variable {G ca ma : Nat → Nat} {mo : Nat} {fl : Int32} {σ : St} {N : Int}
theorem mrow {k : Nat} (hk : k ∈ [2, 3, 4, 5, 7, 8, 13, 14, 15, 16, 25]) : mA k = true ∧ mD k = false := by
  have : ∀ k, k ∈ [2, 3, 4, 5, 7, 8, 13, 14, 15, 16, 25] → mA k = true ∧ mD k = false := by decide
  exact this k hk
/-- a row is read -/
theorem rv_r {M : hM} {k j n cA : Nat} {K : Int32 → Prop} (h : RR ca ma mo M σ fl) (hk : k ∈ [2, 3, 4, 5, 7, 8, 13, 14, 15, 16, 25]) (hb : (if mB k = true then ca 6 else ca 5) = cA) (hn : mN k = n) (hj : j < n) (hK : K (x_v σ k j)) :
    gR M mo 5 k fun v => nN v fun b => aI M b cA (Int32.ofNat j) K := by
  obtain ⟨fI, fD, tx, h, hs⟩ := h
  refine gr_m h (mrow hk).1 (nn_s (ai_m h (mrow hk).1 (mrow hk).2 hb hn hj ?_))
  rw [hs.1 k hk]; exact hK
/-- a row is written -/
theorem wv_r {M : hM} {k j n cA : Nat} {x : Int32} {K : hM → Prop} (h : RR ca ma mo M σ fl) (hk : k ∈ [2, 3, 4, 5, 7, 8, 13, 14, 15, 16, 25]) (hb : (if mB k = true then ca 6 else ca 5) = cA) (hn : mN k = n) (hj : j < n) (hK : ∀ M', RR ca ma mo M' (s_v σ k j x) fl → K M') :
    gR M mo 5 k fun v => nN v fun b => sI M b cA (Int32.ofNat j) x K := by
  obtain ⟨fI, fD, tx, h, hs⟩ := h
  exact gr_m h (mrow hk).1 (nn_s (si_m h (mrow hk).1 (mrow hk).2 hb hn hj fun M' h' => hK M' ⟨_, _, _, h', RS_v hs hk j x⟩))
theorem wb_r {M : hM} {k j n cA : Nat} {x : Int32} {K : hM → Prop} (h : RR ca ma mo M σ fl) (hx : x = 0 ∨ x = 1) (hk : k ∈ [2, 3, 4, 5, 7, 8, 13, 14, 15, 16, 25]) (hb : (if mB k = true then ca 6 else ca 5) = cA) (hn : mN k = n) (hj : j < n) (hK : ∀ M', RR ca ma mo M' (s_v σ k j x) fl → K M') :
    gR M mo 5 k fun v => nN v fun b => bZ x (sI M b cA (Int32.ofNat j) x K) := by
  obtain ⟨fI, fD, tx, h, hs⟩ := h
  exact gr_m h (mrow hk).1 (nn_s ⟨hx, si_m h (mrow hk).1 (mrow hk).2 hb hn hj fun M' h' => hK M' ⟨_, _, _, h', RS_v hs hk j x⟩⟩)
theorem we_r {M : hM} {k j : Nat} {x : UInt64} {v : Int} {K : hM → Prop} (h : RR ca ma mo M σ fl) (hk : k ∈ [9, 10, 11]) (hj : j < 6) (hx : q8 x v) (hK : ∀ M', RR ca ma mo M' (s_e σ k j v) fl → K M') :
    gR M mo 5 k fun v => nN v fun b => sD M b (ca 4) (Int32.ofNat j) x K := by
  obtain ⟨fI, fD, tx, h, hs⟩ := h
  have hm : ∀ k, k ∈ [9, 10, 11] → mA k = true ∧ mD k = true ∧ mN k = 6 := by decide
  exact gr_m h (hm k hk).1 (nn_s (sd_m h (hm k hk).1 (hm k hk).2.1 (hm k hk).2.2 hj fun M' h' => hK M' ⟨_, _, _, h', RS_e hs hk j hx⟩))
theorem pl_r {M : hM} {t : Nat} {K : Int32 → Prop} (h : RR ca ma mo M σ fl) (ht : t < 6) (hK : K (ob (x_p σ t))) : gR M mo 5 1 fun v => nN v fun b => aI M b (ca 6) (Int32.ofNat t) K := by
  obtain ⟨fI, fD, tx, h, hs⟩ := h
  refine gr_m h rfl (nn_s (ai_m h rfl rfl rfl rfl ht ?_))
  rw [(hs.2.2.1 t ht).2]; exact hK
theorem wl_r {M : hM} {c : Nat} {K : Int32 → Prop} (h : RR ca ma mo M σ fl) (hc : c < 8) (hK : K (Int32.ofNat (x_w σ c).length)) : gR M mo 5 18 fun v => nN v fun b => aI M b (ca 5) (Int32.ofNat c) K := by
  obtain ⟨fI, fD, tx, h, hs⟩ := h
  refine gr_m h rfl (nn_s (ai_m h rfl rfl rfl rfl hc ?_))
  rw [(hs.2.2.2.1 c hc).1]; exact hK
theorem wt_r {M : hM} {c i t : Nat} {x : Int32} {K : Int32 → Prop} (h : RR ca ma mo M σ fl) (hc : c < 8) (hi : i < 6) (hx : x = Int32.ofNat (6 * c + i)) (ht : (x_w σ c)[i]? = some t) (hK : K (Int32.ofNat t)) : gR M mo 5 17 fun v => nN v fun b => aI M b (ca 5) x K := by
  obtain ⟨fI, fD, tx, h, hs⟩ := h
  subst hx
  refine gr_m h rfl (nn_s (ai_m h rfl rfl rfl rfl (by dsimp [mN]; omega) ?_))
  rw [(hs.2.2.2.1 c hc).2 i t ht]; exact hK
theorem il_r {M : hM} {c : Nat} {K : Int32 → Prop} (h : RR ca ma mo M σ fl) (hc : c < 8) (hK : K (Int32.ofNat (x_i σ c).length)) : gR M mo 5 23 fun v => nN v fun b => aI M b (ca 5) (Int32.ofNat c) K := by
  obtain ⟨fI, fD, tx, h, hs⟩ := h
  refine gr_m h rfl (nn_s (ai_m h rfl rfl rfl rfl hc ?_))
  rw [(hs.2.2.2.2.1 c hc).1]; exact hK
theorem tm_r {M : hM} {K : UInt64 → Prop} (h : RR ca ma mo M σ fl) (hK : ∀ b, q8 b (x_n σ) → K b) : gD M mo 5 12 K := by
  obtain ⟨fI, fD, tx, h, hs⟩ := h
  exact gd_m h (hK _ hs.2.2.2.2.2.2)
theorem first_r {M : hM} (h : RR ca ma mo M σ fl) (hi : IV σ N) {c : Nat} (hc : c < 8) {r : Int32} {post : Int32 → hM → Prop} (hp : post (oi (fw σ c r)) M) : rC M mo 5 (wp_Mo_first G ca post M mo (Int32.ofNat c) r) := by
  have h0 := h
  obtain ⟨fI, fD, tx, h, hs⟩ := h
  exact rc_r h0 (m_first h hs hi hc hp)
theorem settle_r {M : hM} (h : RR ca ma mo M σ fl) {t : Nat} (ht : t < 6) {w : Int32} {post : Int32 → hM → Prop} (hp : ∀ M', RR ca ma mo M' (s_v σ 3 t w) fl → post w M') : rC M mo 5 (wp_Mo_settle G ca post M mo (Int32.ofNat t) w) := by
  have h0 := h
  obtain ⟨fI, fD, tx, h, hs⟩ := h
  exact rc_r h0 (m_settle h ht fun M' h' => hp M' ⟨_, _, _, h', RS_v hs (by decide) t w⟩)
theorem wait_r {M : hM} (h : RR ca ma mo M σ fl) (hi : IV σ N) {t c : Nat} (ht : t < 6) (hc : c < 8) (hpl : x_p σ t = none) {r : Int32} {lx : UInt64} {lim : Int} (hlx : q8 lx lim) (hlim : lim ≤ 8000) {post : Int32 → hM → Prop}
    (hp : ∀ M', RR ca ma mo M' (o_wait σ t c r lim).2 fl → post (o_wait σ t c r lim).1 M') : rC M mo 5 (wp_Mo_waitAt G ca post M mo (Int32.ofNat t) (Int32.ofNat c) r lx) := by
  have h0 := h
  obtain ⟨fI, fD, tx, h, hs⟩ := h
  exact rc_r h0 (m_waitAt h hs hi ht hc hpl hlx hlim hp)
theorem m_check {M : hM} (h : RR ca ma mo M σ fl) {t c : Nat} (ht : t < 6) (hc : c < 8) {lo hi : Int32} {post : Int32 → hM → Prop} (hp : post (o_ck σ t c lo hi) M) : rC M mo 5 (wp_Mo_check G ca post M mo (Int32.ofNat t) (Int32.ofNat c) lo hi) := by
  unfold o_ck at hp
  refine rc_r h (rv_r h (by decide) rfl rfl hc ⟨fun h0 => pl_r h ht ?_, fun h0 => ?_⟩)
  · rw [if_neg (Int32.not_lt.mpr h0)] at hp
    cases hpl : x_p σ t with
    | none =>
      rw [if_neg (fun e => e hpl)] at hp
      refine ⟨fun _ => rv_r h (by decide) rfl rfl hc ⟨fun h1 => ?_, fun h1 => rv_r h (by decide) rfl rfl hc ⟨fun h2 => ?_, fun h2 => ?_⟩⟩, fun e => absurd rfl e⟩
      · rw [if_pos (Or.inl h1)] at hp; exact hp
      · rw [if_neg (fun e => e.elim h1 (Int32.not_lt.mpr h2))] at hp; exact hp
      · rw [if_pos (Or.inr (Int32.not_le.mp h2))] at hp; exact hp
    | some d =>
      rw [if_pos (fun e => by rw [hpl] at e; cases e)] at hp
      exact ⟨fun e => nx1 e, fun _ => hp⟩
  · rw [if_pos (Int32.not_le.mp h0)] at hp; exact hp
theorem m_flagged {M : hM} (h : RR ca ma mo M σ fl) {t : Nat} (ht : t < 6) {post : Int32 → hM → Prop} (hp : x_v σ 2 t ≠ 0 → ∀ M', RR ca ma mo M' (o_fl σ t) fl → post 1 M') (hq : x_v σ 2 t = 0 → post 0 M) : rC M mo 5 (wp_Mo_flagged G ca post M mo (Int32.ofNat t)) :=
  rc_r h (rv_r h (by decide) rfl rfl ht ⟨fun h0 => wb_r h (Or.inl rfl) (by decide) rfl rfl ht fun M1 h1 => wv_r h1 (by decide) rfl rfl ht fun M2 h2 => hp h0 M2 h2, hq⟩)
/-- take -/
theorem m_take_175 {M : hM} (h : RR ca ma mo M σ fl) (hi : IV σ N) {t c : Nat} (ht : t < 6) (hc : c < 8) {post : Int32 → hM → Prop} (hp : ∀ M', RR ca ma mo M' (s_v (o_sv σ c) 3 t 1) fl → post 1 M') : wp_Mo_take_175 G ca post M mo (Int32.ofNat t) (Int32.ofNat c) :=
  rc_r h (m_serve hc h hi fun M1 h1 => settle_r h1 ht hp)
theorem m_give_265 {M : hM} (h : RR ca ma mo M σ fl) (hi : IV σ N) {t c : Nat} (ht : t < 6) (hc : c < 8) {post : Int32 → hM → Prop} (hp : ∀ M', RR ca ma mo M' (s_v (o_sv σ c) 3 t 1) fl → post 1 M') : wp_Mo_give_265 G ca post M mo (Int32.ofNat t) (Int32.ofNat c) :=
  rc_r h (m_serve hc h hi fun M1 h1 => settle_r h1 ht hp)
theorem m_take_105 {M : hM} (h : RR ca ma mo M σ 0) (hi : IV σ N) {t c : Nat} (ht : t < 6) (hc : c < 8) {l : Int} {lx : UInt64} (hl : q8 lx l) (hl2 : l ≤ 8000) (hk : o_ck σ t c 0 4 = 0) (hf : x_v σ 2 t = 0) {post : Int32 → hM → Prop}
    (hp : ∀ b M', RR ca ma mo M' (g_take σ t c l).2.2 (g_take σ t c l).1 → ((g_take σ t c l).1 = 0 → b = (g_take σ t c l).2.1) → post b M') :
    wp_Mo_take_105 G ca post M mo (Int32.ofNat t) lx (Int32.ofNat c) (oi (fw σ c 0)) (bi (if x_v σ 13 c = 2 then (fw σ c 0).isSome else rdy σ c)) := by
  obtain ⟨k0, k1, k2, k3⟩ := ck_0 hk
  unfold g_take at hp
  rw [if_neg (fun e => e hk), if_neg (fun e => e hf)] at hp
  have hw : ((fw σ c 1).isSome = true ∨ (if x_v σ 13 c = 2 then (fw σ c 0).isSome else rdy σ c) = false) → wp_Mo_take_122 G ca post M mo (Int32.ofNat t) lx (Int32.ofNat c) := fun e => by
    rw [if_pos e] at hp
    exact wait_r h hi ht hc k1 hl hl2 fun M' h' => hp _ M' h' (fun _ => rfl)
  refine first_r h hi hc ⟨fun h1 => hw (Or.inl ((oi_ge (fw_6 hi hc)).mp h1)), fun h1 => ⟨fun h2 => rv_r h (by decide) rfl rfl hc ⟨fun h3 => ?_, fun h3 => ?_⟩, fun h2 => hw (Or.inr (bi_0.mp h2))⟩⟩
  · have h1 : ¬ (fw σ c 1).isSome = true := fun e => h1 ((oi_ge (fw_6 hi hc)).mpr e)
    rw [if_neg (fun e => e.elim h1 (fun g => h2 (bi_0.mpr g))), if_neg h3] at hp
    rw [if_neg h3] at h2
    have hx : ∃ e l, x_i σ c = e :: l := by
      cases hx : x_i σ c with
      | nil => exact absurd (bi_0.mpr (by unfold rdy; rw [hx])) h2
      | cons e l => exact ⟨e, l, rfl⟩
    obtain ⟨e, l, hx⟩ := hx
    exact rc_r h (m_takeFirst ht hc h hi hx fun M1 h1 => m_take_175 h1 (IV_tf hi t hc) ht hc fun M2 h2 => hp 1 M2 h2 (fun _ => rfl))
  · have h1 : ¬ (fw σ c 1).isSome = true := fun e => h1 ((oi_ge (fw_6 hi hc)).mpr e)
    rw [if_neg (fun e => e.elim h1 (fun g => h2 (bi_0.mpr g))), if_pos h3] at hp
    rw [if_pos h3] at h2
    cases hg : fw σ c 0 with
    | none => rw [hg] at h2; exact absurd rfl h2
    | some g =>
      rw [hg] at hp
      have hgm := (fw_some hg).1
      refine rv_r h (by decide) rfl rfl (fw_6 hi hc g hg) (rc_r h (m_obtain h hi ht hc q8_0 (by decide) (by decide) fun M1 h1 => ?_))
      have hi1 := IV_obt hi t hc (x_v σ 8 g) (d := 0) (by decide) (by decide)
      exact rc_r h1 (m_free hc h1 hi1 hgm fun M2 h2 => m_take_175 h2 (IV_free hi1 hc hgm 1) ht hc fun M3 h3 => hp 1 M3 h3 (fun _ => rfl))
theorem m_take_41 {M : hM} (h : RR ca ma mo M σ fl) (hi : IV σ N) {t c : Nat} (ht : t < 6) (hc : c < 8) {l : Int} {lx : UInt64} (hl : q8 lx l) (hl2 : l ≤ 8000) {post : Int32 → hM → Prop}
    (hp : ∀ b M', RR ca ma mo M' (g_take σ t c l).2.2 (g_take σ t c l).1 → ((g_take σ t c l).1 = 0 → b = (g_take σ t c l).2.1) → post b M') :
    wp_Mo_take_41 G ca post M mo (Int32.ofNat t) (Int32.ofNat c) lx (o_ck σ t c 0 4) mo := by
  refine pf_r h fun M0 h0 => gi_r h0 ⟨fun hk => ?_, fun hk => ?_⟩
  · have hk := ck_le hk
    rw [hk] at h0
    refine m_flagged h0 ht (fun hf M1 h1 => ⟨fun e => nx1 e, fun _ => hp 3 M1 ?_ ?_⟩) (fun hf => ⟨fun _ => ?_, fun e => absurd rfl e⟩)
    · unfold g_take; rw [if_neg (fun e => e hk), if_pos hf]; exact h1
    · unfold g_take; rw [if_neg (fun e => e hk), if_pos hf]; exact fun _ => rfl
    · refine first_r h0 hi hc (rv_r h0 (by decide) rfl rfl hc ⟨fun hd => rc_r h0 (m_ready h0 hi hc ?_), fun hd => ⟨fun hg => ?_, fun hg => ?_⟩⟩)
      · have := m_take_105 (G := G) h0 hi ht hc hl hl2 hk hf hp
        rw [if_neg hd] at this; exact this
      · have := m_take_105 (G := G) h0 hi ht hc hl hl2 hk hf hp
        rw [if_pos hd, (oi_lt (fw_6 hi hc)).mp hg] at this; exact this
      · have := m_take_105 (G := G) h0 hi ht hc hl hl2 hk hf hp
        rw [if_pos hd, (oi_ge (fw_6 hi hc)).mp (Int32.not_lt.mp hg)] at this; exact this
  · have hk : o_ck σ t c 0 4 ≠ 0 := fun e => hk (by rw [e]; decide)
    unfold g_take at hp; rw [if_pos hk] at hp
    exact hp 0 M0 h0 (fun e => absurd e hk)
theorem m_take {M : hM} (h : RR ca ma mo M σ fl) (hi : IV σ N) {T C L : Int32} {lx : UInt64} (hl : q8 lx L.toInt) {post : Int32 → hM → Prop}
    (hp : ∀ b M', RR ca ma mo M' (o_take σ T C L).2.2 (o_take σ T C L).1 → ((o_take σ T C L).1 = 0 → b = (o_take σ T C L).2.1) → post b M') : wp_Mo_take G ca post M mo T C lx := by
  have hbad : (bT T ∨ bC C ∨ bL L) → wp_Mo_take_29 G ca post M mo T C lx mo := fun e => by
    unfold o_take at hp; rw [if_pos e] at hp
    show wp_Mo_take_41 G ca post M mo T C lx 1 mo
    exact pf_r h fun M0 h0 => gi_r h0 ⟨fun e => absurd e (by decide), fun _ => hp 0 M0 h0 (fun e => nx1 e)⟩
  refine m_out h (fun hb => ⟨fun _ => hbad (Or.inl hb), fun e => nx1 e⟩) fun hT => ⟨fun e => absurd rfl e, fun _ => m_out h (fun hb => ⟨fun _ => hbad (Or.inr (Or.inl hb)), fun e => nx1 e⟩) fun hC => ⟨fun e => absurd rfl e, fun _ => m_badLimit h hl (fun hb => ⟨fun e => nx1 e, fun _ => hbad (Or.inr (Or.inr hb))⟩) fun hL => ⟨fun _ => ?_, fun e => absurd rfl e⟩⟩⟩
  unfold o_take at hp
  rw [if_neg (fun e => e.elim hT (fun e => e.elim hC hL))] at hp
  obtain ⟨t, ht, rfl, et⟩ := i_T hT
  obtain ⟨c, hc, rfl, ec⟩ := i_C hC
  rw [et, ec] at hp
  exact m_check h ht hc (m_take_41 h hi ht hc hl (by unfold bL at hL; omega) hp)
/-- give -/
theorem m_give_172 {M : hM} (h : RR ca ma mo M σ 0) (hi : IV σ N) {t c : Nat} (ht : t < 6) (hc : c < 8) {v : Int32} {x l : Int} {xx lx dx : UInt64} (hx : q8 xx x) (hl : q8 lx l) (hl2 : l ≤ 8000) (hd : q8 dx (x_n σ + if x < 0 then 0 else x)) (hk : o_ck σ t c 0 4 = 0) (hf : x_v σ 2 t = 0) {post : Int32 → hM → Prop}
    (hp : ∀ b M', RR ca ma mo M' (g_give σ t c v x l).2.2 (g_give σ t c v x l).1 → ((g_give σ t c v x l).1 = 0 → b = (g_give σ t c v x l).2.1) → post b M') :
    wp_Mo_give_172 G ca post M mo (Int32.ofNat t) v xx lx (Int32.ofNat c) dx (oi (fw σ c 1)) (bi (if x_v σ 13 c = 2 then (fw σ c 1).isSome else o_fits σ c)) := by
  obtain ⟨k0, k1, k2, k3⟩ := ck_0 hk
  unfold g_give at hp
  rw [if_neg (fun e => e hk), if_neg (fun e => e hf)] at hp
  have hw : ((fw σ c 0).isSome = true ∨ (if x_v σ 13 c = 2 then (fw σ c 1).isSome else o_fits σ c) = false) → wp_Mo_give_189 G ca post M mo (Int32.ofNat t) v xx lx (Int32.ofNat c) dx := fun e => by
    rw [if_pos e] at hp
    exact wv_r h (by decide) rfl rfl ht fun M1 h1 => we_r h1 (by decide) ht hx fun M2 h2 => we_r h2 (by decide) ht hd fun M3 h3 => wait_r h3 (IV_e (IV_e (IV_v hi (by decide) _ _) _ _ _) _ _ _) ht hc k1 hl hl2 fun M' h' => hp _ M' h' (fun _ => rfl)
  refine first_r h hi hc ⟨fun h1 => hw (Or.inl ((oi_ge (fw_6 hi hc)).mp h1)), fun h1 => ⟨fun h2 => rv_r h (by decide) rfl rfl hc ⟨fun h3 => ?_, fun h3 => ?_⟩, fun h2 => hw (Or.inr (bi_0.mp h2))⟩⟩
  · have h1 : ¬ (fw σ c 0).isSome = true := fun e => h1 ((oi_ge (fw_6 hi hc)).mpr e)
    rw [if_neg (fun e => e.elim h1 (fun g => h2 (bi_0.mpr g))), if_neg h3] at hp
    rw [if_neg h3] at h2
    have hfit : o_fits σ c = true := by
      cases hq : o_fits σ c with
      | false => exact absurd (bi_0.mpr hq) h2
      | true => rfl
    have hk6 := ck_56 k3
    have hl6 := fits_lt hi hc (fun e => hk6 (Or.inr e)) (ck_n (t := t) (lo := 0) (hi := 0) k0) hfit
    have hlen : (x_i σ c).length < 16 := by
      rcases hl6 with ⟨_, e, _⟩ | ⟨kn, R, e⟩ <;> omega
    exact rc_r h (m_lay hc hx hd h hi hlen fun M1 h1 => m_give_265 h1 (IV_lay hi hc (fun e => hk6 (Or.inr e)) (ck_n (t := t) (lo := 0) (hi := 0) k0) hfit v x _) ht hc fun M2 h2 => hp 1 M2 h2 (fun _ => rfl))
  · have h1 : ¬ (fw σ c 0).isSome = true := fun e => h1 ((oi_ge (fw_6 hi hc)).mpr e)
    rw [if_neg (fun e => e.elim h1 (fun g => h2 (bi_0.mpr g))), if_pos h3] at hp
    rw [if_pos h3] at h2
    cases hg : fw σ c 1 with
    | none => rw [hg] at h2; exact absurd rfl h2
    | some g =>
      rw [hg] at hp
      have hgm := (fw_some hg).1
      refine rc_r h (m_obtain h hi (fw_6 hi hc g hg) hc q8_0 (by decide) (by decide) fun M1 h1 => ?_)
      have hi1 := IV_obt hi g hc v (d := 0) (by decide) (by decide)
      exact rc_r h1 (m_free hc h1 hi1 hgm fun M2 h2 => m_give_265 h2 (IV_free hi1 hc hgm 1) ht hc fun M3 h3 => hp 1 M3 h3 (fun _ => rfl))
theorem m_give_114 {M : hM} (h : RR ca ma mo M σ 0) (hi : IV σ N) {t c : Nat} (ht : t < 6) (hc : c < 8) {v : Int32} {x l : Int} {xx lx rx nx : UInt64} (hx : q8 xx x) (hx2 : x ≤ 8000) (hl : q8 lx l) (hl2 : l ≤ 8000) (hr : q8 rx (if x < 0 then 0 else x)) (hn : q8 nx (x_n σ)) (hk : o_ck σ t c 0 4 = 0) (hf : x_v σ 2 t = 0) {post : Int32 → hM → Prop}
    (hp : ∀ b M', RR ca ma mo M' (g_give σ t c v x l).2.2 (g_give σ t c v x l).1 → ((g_give σ t c v x l).1 = 0 → b = (g_give σ t c v x l).2.1) → post b M') :
    wp_Mo_give_114 G ca post M mo (Int32.ofNat t) v xx lx (Int32.ofNat c) rx nx := by
  have h6 := hi.2.2.2.2.2
  have hd : q8 (FP.dadd nx rx) (x_n σ + if x < 0 then 0 else x) := q8_add hn hr h6.1 (by split <;> omega) (by split <;> omega)
  refine ⟨e8_nn hd.1, first_r h hi hc (rv_r h (by decide) rfl rfl hc ⟨fun hd2 => il_r h hc (rv_r h (by decide) rfl rfl hc ⟨fun hg => ?_, fun hg => ?_⟩), fun hd2 => ⟨fun hg => ?_, fun hg => ?_⟩⟩)⟩
  · have := m_give_172 (G := G) h hi ht hc hx hl hl2 hd hk hf hp
    rw [if_neg hd2, show o_fits σ c = false by unfold o_fits; exact decide_eq_false (Int32.not_lt.mpr hg)] at this; exact this
  · have := m_give_172 (G := G) h hi ht hc hx hl hl2 hd hk hf hp
    rw [if_neg hd2, show o_fits σ c = true by unfold o_fits; exact decide_eq_true (Int32.not_le.mp hg)] at this; exact this
  · have := m_give_172 (G := G) h hi ht hc hx hl hl2 hd hk hf hp
    rw [if_pos hd2, (oi_lt (fw_6 hi hc)).mp hg] at this; exact this
  · have := m_give_172 (G := G) h hi ht hc hx hl hl2 hd hk hf hp
    rw [if_pos hd2, (oi_ge (fw_6 hi hc)).mp (Int32.not_lt.mp hg)] at this; exact this
theorem m_give_72 {M : hM} (h : RR ca ma mo M σ fl) (hi : IV σ N) {t c : Nat} (ht : t < 6) (hc : c < 8) {v : Int32} {x l : Int} {xx lx : UInt64} (hx : q8 xx x) (hx2 : x ≤ 8000) (hl : q8 lx l) (hl2 : l ≤ 8000) {post : Int32 → hM → Prop}
    (hp : ∀ b M', RR ca ma mo M' (g_give σ t c v x l).2.2 (g_give σ t c v x l).1 → ((g_give σ t c v x l).1 = 0 → b = (g_give σ t c v x l).2.1) → post b M') :
    wp_Mo_give_72 G ca post M mo (Int32.ofNat t) (Int32.ofNat c) v xx lx (o_ck σ t c 0 4) mo := by
  refine pf_r h fun M0 h0 => gi_r h0 ⟨fun hk => ?_, fun hk => ?_⟩
  · have hk := ck_le hk
    rw [hk] at h0
    refine m_flagged h0 ht (fun hf M1 h1 => ⟨fun e => nx1 e, fun _ => hp 3 M1 ?_ ?_⟩) (fun hf => ⟨fun _ => tm_r h0 fun nx hn => ⟨fun hg => ?_, fun hg => ?_⟩, fun e => absurd rfl e⟩)
    · unfold g_give; rw [if_neg (fun e => e hk), if_pos hf]; exact h1
    · unfold g_give; rw [if_neg (fun e => e hk), if_pos hf]; exact fun _ => rfl
    · rw [e_ge hx.1 q8_0.1] at hg
      exact m_give_114 h0 hi ht hc hx hx2 hl hl2 (by rw [if_neg (by omega)]; exact hx) hn hk hf hp
    · rw [e_ge hx.1 q8_0.1] at hg
      exact m_give_114 h0 hi ht hc hx hx2 hl hl2 (by rw [if_pos (by omega)]; exact q8_0) hn hk hf hp
  · have hk : o_ck σ t c 0 4 ≠ 0 := fun e => hk (by rw [e]; decide)
    unfold g_give at hp; rw [if_pos hk] at hp
    exact hp 0 M0 h0 (fun e => absurd e hk)
theorem m_give {M : hM} (h : RR ca ma mo M σ fl) (hi : IV σ N) {T C V X L : Int32} {xx lx : UInt64} (hx : q8 xx X.toInt) (hl : q8 lx L.toInt) {post : Int32 → hM → Prop}
    (hp : ∀ b M', RR ca ma mo M' (o_give σ T C V X L).2.2 (o_give σ T C V X L).1 → ((o_give σ T C V X L).1 = 0 → b = (o_give σ T C V X L).2.1) → post b M') : wp_Mo_give G ca post M mo T C V xx lx := by
  have hbad : (bT T ∨ bC C ∨ X.toInt < -8000 ∨ 8000 < X.toInt ∨ bL L) → wp_Mo_give_60 G ca post M mo T C V xx lx mo := fun e => by
    unfold o_give at hp; rw [if_pos e] at hp
    show wp_Mo_give_72 G ca post M mo T C V xx lx 1 mo
    exact pf_r h fun M0 h0 => gi_r h0 ⟨fun e => absurd e (by decide), fun _ => hp 0 M0 h0 (fun e => nx1 e)⟩
  have h27 : (X.toInt < -8000 ∨ 8000 < X.toInt ∨ bL L) → wp_Mo_give_27 G ca post M mo T C V xx lx := fun e =>
    m_out h (fun hb => ⟨fun _ => hbad (Or.inl hb), fun e => nx1 e⟩) fun hT => ⟨fun e => absurd rfl e, fun _ => m_out h (fun hb => ⟨fun _ => hbad (Or.inr (Or.inl hb)), fun e => nx1 e⟩) fun hC => ⟨fun e => absurd rfl e, fun _ => ⟨fun e => nx1 e, fun _ => hbad (Or.inr (Or.inr e))⟩⟩⟩
  refine ⟨fun h1 => h27 (Or.inl ?_), fun h1 => ⟨fun h2 => h27 (Or.inr (Or.inl ?_)), fun h2 => m_badLimit h hl (fun hb => ⟨fun e => nx1 e, fun _ => h27 (Or.inr (Or.inr hb))⟩) fun hL => ⟨fun _ => ?_, fun e => absurd rfl e⟩⟩⟩
  · rw [e_lt hx.1 e8_m1000] at h1; exact h1
  · rw [e_gt hx.1 e8_1000] at h2; exact h2
  · rw [e_lt hx.1 e8_m1000] at h1
    rw [e_gt hx.1 e8_1000] at h2
    refine m_out h (fun hb => ⟨fun _ => hbad (Or.inl hb), fun e => nx1 e⟩) fun hT => ⟨fun e => absurd rfl e, fun _ => m_out h (fun hb => ⟨fun _ => hbad (Or.inr (Or.inl hb)), fun e => nx1 e⟩) fun hC => ⟨fun e => absurd rfl e, fun _ => ⟨fun _ => ?_, fun e => absurd rfl e⟩⟩⟩
    unfold o_give at hp
    rw [if_neg (fun e => e.elim hT (fun e => e.elim hC (fun e => e.elim h1 (fun e => e.elim h2 hL))))] at hp
    obtain ⟨t, ht, rfl, et⟩ := i_T hT
    obtain ⟨c, hc, rfl, ec⟩ := i_C hC
    rw [et, ec] at hp
    exact m_check h ht hc (m_give_72 h hi ht hc hx (by omega) hl (by unfold bL at hL; omega) hp)
end

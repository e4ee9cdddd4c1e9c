/-! SERVING AND WAITING in the class. -/
section
variable {G ca : Nat → Nat} {h wa ka : Nat} {wk ch li : Nat → Nat} {kf : Nat → UInt64} {M : hM} {σ : St} {N : Int}
theorem IV_w {c : Nat} (hi : IV σ N) (hc : c < 8) : ∀ t, t ∈ x_w σ c → t < 6 := fun t ht => ((hi.2.1 c hc).2 t ht).1
theorem ch_acc2 (hG : ∀ i j, i < 3 → j < 3 → G i = G j → i = j) (g : RC G ca h wa ka wk ch li kf M σ) (hi : IV σ N) {c k : Nat} (hc : c < 8) (hm : ¬ x_v σ 13 c < 0) (h2 : x_v σ 13 c = 2) (hk : fw σ c 1 = some k) {v : Int32} {kx nx : UInt64} {post : hM → Prop}
    (hp : ∀ M', RC G ca h wa ka wk ch li kf M' (o_free (o_obt σ k c v 0) c k 1) → post M') : rC M (ch c) 0 (wp_Ch_accept G ca post M (ch c) v kx nx) := by
  refine rc_c g hc hm (ch_fw hG g hi hc hm (r := 1) (by decide) (ck_g g hc hm ⟨fun _ => ⟨fun e => ?_, fun b e => ?_⟩, fun e => absurd h2 e⟩))
  · rw [show (Int32.ofNat 1) = 1 from rfl, hk] at e; cases e
  · rw [show (Int32.ofNat 1) = 1 from rfl, hk] at e
    cases e
    exact ch_hand g hc hm (hi.2.2.2.2.1 c hc) (fw_6 hi hc k hk) fun M1 g1 => ch_rel g1 hc hm (IV_w (σ := σ) hi hc) (IV_len (σ := σ) hi hc) (fw_some hk).1 hp
theorem ch_accn (hG : ∀ i j, i < 3 → j < 3 → G i = G j → i = j) (g : RC G ca h wa ka wk ch li kf M σ) (hi : IV σ N) {c : Nat} (hc : c < 8) (hm : ¬ x_v σ 13 c < 0) (h2 : x_v σ 13 c ≠ 2) (hl : (x_i σ c).length < 16) {v : Int32} {r d : Int} {kx nx : UInt64} (hk : kO (x_v σ 13 c) r d kx) (hn : q8 nx (x_n σ)) {post : hM → Prop}
    (hp : ∀ M', RC G ca h wa ka wk ch li kf M' (o_lay σ c v r d) → post M') : rC M (ch c) 0 (wp_Ch_accept G ca post M (ch c) v kx nx) :=
  rc_c g hc hm (ch_fw hG g hi hc hm (r := 1) (by decide) (ck_g g hc hm ⟨fun e => absurd e h2, fun _ => ch_put g hi hc hm hl hk hn hp⟩))
theorem ch_yie2 (hG : ∀ i j, i < 3 → j < 3 → G i = G j → i = j) (g : RC G ca h wa ka wk ch li kf M σ) (hi : IV σ N) {c t k : Nat} (hc : c < 8) (hm : ¬ x_v σ 13 c < 0) (h2 : x_v σ 13 c = 2) (ht : t < 6) (hk : fw σ c 0 = some k) {nx : UInt64} {post : hM → Prop}
    (hp : ∀ M', RC G ca h wa ka wk ch li kf M' (o_free (o_obt σ t c (x_v σ 8 k) 0) c k 1) → post M') : rC M (ch c) 0 (wp_Ch_yieldTo G ca post M (ch c) (some (wk t)) nx) := by
  refine rc_c g hc hm (ch_fw hG g hi hc hm (r := 0) (by decide) (ck_g g hc hm ⟨fun _ => ⟨fun e => ?_, fun b e => ?_⟩, fun e => absurd h2 e⟩))
  · rw [show (Int32.ofNat 0) = 0 from rfl, hk] at e; cases e
  · rw [show (Int32.ofNat 0) = 0 from rfl, hk] at e
    cases e
    exact wg_c (k := 8) g (by decide) (fw_6 hi hc k hk) (ch_hand g hc hm (hi.2.2.2.2.1 c hc) ht fun M1 g1 => ch_rel g1 hc hm (IV_w (σ := σ) hi hc) (IV_len (σ := σ) hi hc) (fw_some hk).1 hp)
theorem ch_yien (hG : ∀ i j, i < 3 → j < 3 → G i = G j → i = j) (g : RC G ca h wa ka wk ch li kf M σ) (hi : IV σ N) {c t : Nat} (hc : c < 8) (hm : ¬ x_v σ 13 c < 0) (h2 : x_v σ 13 c ≠ 2) (ht : t < 6) {nx : UInt64} (hn : q8 nx (x_n σ)) {post : hM → Prop}
    (hp : ∀ M', RC G ca h wa ka wk ch li kf M' (o_tf σ t c) → post M') : rC M (ch c) 0 (wp_Ch_yieldTo G ca post M (ch c) (some (wk t)) nx) :=
  rc_c g hc hm (ch_fw hG g hi hc hm (r := 0) (by decide) (ck_g g hc hm ⟨fun e => absurd e h2, fun _ => ch_hf g hi hc hm ht hn hp⟩))
theorem step_t {c t : Nat} (ht : fw σ c 1 = some t) (hr : rdy σ c = true) : o_step σ c = some (o_free (o_tf σ t c) c t 1) := by
  unfold o_step; rw [ht]; dsimp only; rw [if_pos hr]
theorem step_g {c k : Nat} (hn : fw σ c 1 = none ∨ rdy σ c = false) (hk : fw σ c 0 = some k) (hf : o_fits σ c = true) : o_step σ c = some (o_free (o_lay σ c (x_v σ 8 k) (x_e σ 9 k) (x_e σ 10 k)) c k 1) := by
  unfold o_step
  cases ht : fw σ c 1 with
  | none => rw [hk]; dsimp only; rw [if_pos hf]
  | some t =>
    have hr : ¬ rdy σ c = true := by
      rcases hn with e | e
      · rw [ht] at e; cases e
      · rw [e]; decide
    rw [hk]; dsimp only; rw [if_neg hr, if_pos hf]
theorem step_d {c t k : Nat} (ht : fw σ c 1 = some t) (hr : rdy σ c = false) (hk : fw σ c 0 = some k) (hf : o_fits σ c = false) (h2 : x_v σ 13 c = 2) : o_step σ c = some (o_free (o_free (o_obt σ t c (x_v σ 8 k) 0) c t 1) c k 1) := by
  unfold o_step
  rw [ht, hk]; dsimp only; rw [if_neg (by rw [hr]; decide), if_neg (by rw [hf]; decide), if_pos h2]
theorem step_n {c : Nat} (hn : fw σ c 1 = none ∨ rdy σ c = false) (hk : fw σ c 0 = none ∨ (o_fits σ c = false ∧ (x_v σ 13 c ≠ 2 ∨ fw σ c 1 = none))) : o_step σ c = none := by
  unfold o_step
  cases ht : fw σ c 1 with
  | none =>
    cases hg : fw σ c 0 with
    | none => rfl
    | some k =>
      dsimp only
      rcases hk with e | e
      · rw [hg] at e; cases e
      · rw [if_neg (by rw [e.1]; decide)]
  | some t =>
    have hr : ¬ rdy σ c = true := by
      rcases hn with e | e
      · rw [ht] at e; cases e
      · rw [e]; decide
    dsimp only
    rw [if_neg hr]
    cases hg : fw σ c 0 with
    | none => rfl
    | some k =>
      dsimp only
      rcases hk with e | e
      · rw [hg] at e; cases e
      · rw [if_neg (by rw [e.1]; decide)]
        rcases e.2 with e2 | e2
        · rw [if_neg e2]
        · rw [ht] at e2; cases e2
theorem ch_once_86 (g : RC G ca h wa ka wk ch li kf M σ) (hi : IV σ N) {c : Nat} (hc : c < 8) (hm : ¬ x_v σ 13 c < 0) (hn : fw σ c 1 = none ∨ rdy σ c = false) (hf : ∀ k, fw σ c 0 = some k → o_fits σ c = false) {post : Int32 → hM → Prop}
    (hp1 : ∀ σ', o_step σ c = some σ' → ∀ M', RC G ca h wa ka wk ch li kf M' σ' → post 1 M') (hp0 : o_step σ c = none → post 0 M) : wp_Ch_serveOnce_86 G ca post M (ch c) ((fw σ c 1).map wk) ((fw σ c 0).map wk) := by
  refine ck_g g hc hm ⟨fun h2 => hp0 ?_, fun h2 => ⟨fun e => hp0 ?_, fun b e => ⟨fun e2 => hp0 ?_, fun b2 e2 => ?_⟩⟩⟩
  · cases hk : fw σ c 0 with
    | none => exact step_n hn (Or.inl hk)
    | some k => exact step_n hn (Or.inr ⟨hf k hk, Or.inl h2⟩)
  · refine step_n hn (Or.inl ?_)
    cases hk : fw σ c 0 with
    | none => rfl
    | some k => rw [hk] at e; cases e
  · cases hk : fw σ c 0 with
    | none => exact step_n hn (Or.inl hk)
    | some k =>
      refine step_n hn (Or.inr ⟨hf k hk, Or.inr ?_⟩)
      cases ht : fw σ c 1 with
      | none => rfl
      | some t => rw [ht] at e2; cases e2
  · cases hk : fw σ c 0 with
    | none => rw [hk] at e; cases e
    | some k =>
      cases ht : fw σ c 1 with
      | none => rw [ht] at e2; cases e2
      | some t =>
        rw [hk] at e; rw [ht] at e2
        cases e; cases e2
        have hr : rdy σ c = false := by
          rcases hn with e | e
          · rw [ht] at e; cases e
          · exact e
        have hs := step_d ht hr hk (hf k hk) h2
        have hne := fw_ne ht hk
        rw [free_comm _ c hne] at hs
        have hpp := hp1 _ hs
        refine wg_c (k := 8) g (by decide) (fw_6 hi hc k hk) (ch_hand g hc hm (hi.2.2.2.2.1 c hc) (fw_6 hi hc t ht) fun M1 g1 => ch_rel g1 hc hm (IV_w (σ := σ) hi hc) (IV_len (σ := σ) hi hc) (fw_some hk).1 fun M2 g2 => ?_)
        have hi1 : IV (o_obt σ t c (x_v σ 8 k) 0) N := IV_obt hi t hc _ (by decide) (by decide)
        have hi2 := IV_free hi1 hc (fw_some hk).1 1
        refine ch_rel g2 hc hm (IV_w hi2 hc) (IV_len hi2 hc) ?_ hpp
        rw [w_free]
        exact (List.Nodup.mem_erase_iff (hi.2.1 c hc).1).mpr ⟨hne, (fw_some ht).1⟩
theorem ch_once_43 (g : RC G ca h wa ka wk ch li kf M σ) (hi : IV σ N) {c : Nat} (hc : c < 8) (hm : ¬ x_v σ 13 c < 0) (hn : fw σ c 1 = none ∨ rdy σ c = false) {nx : UInt64} (hnx : q8 nx (x_n σ)) {post : Int32 → hM → Prop}
    (hp1 : ∀ σ', o_step σ c = some σ' → ∀ M', RC G ca h wa ka wk ch li kf M' σ' → post 1 M') (hp0 : o_step σ c = none → post 0 M) : wp_Ch_serveOnce_43 G ca post M (ch c) nx ((fw σ c 1).map wk) ((fw σ c 0).map wk) := by
  refine ⟨fun e => ?_, fun b e => ?_⟩
  · have h0 : fw σ c 0 = none := by
      cases hk : fw σ c 0 with
      | none => rfl
      | some k => rw [hk] at e; cases e
    have := ch_once_86 g hi hc hm hn (fun k hk => by rw [h0] at hk; cases hk) hp1 hp0
    rw [e] at this; exact this
  · cases hk : fw σ c 0 with
    | none => rw [hk] at e; cases e
    | some k =>
      rw [hk] at e
      cases e
      have rk := role_kind hi hc hk (by decide)
      obtain ⟨hkm, hk7⟩ := fw_some hk
      have hkg := (hi.2.1 c hc).2 k hkm
      refine it_size g hc hm ⟨_, _, c_cell g hc hm, rfl, fun hle => ?_, fun hle => ?_⟩
      · rw [if_neg rk.2.1] at hle
        have := ch_once_86 g hi hc hm hn (fun k hk => by unfold o_fits; exact decide_eq_false (Int32.not_lt.mpr hle)) hp1 hp0
        rw [hk] at this; exact this
      · rw [if_neg rk.2.1] at hle
        have hf : o_fits σ c = true := by unfold o_fits; exact decide_eq_true (Int32.not_le.mp hle)
        have hl6 := fits_lt hi hc rk.2.1 rk.2.2 hf
        have hlen : (x_i σ c).length < 16 := by rcases hl6 with ⟨_, e, _⟩ | ⟨kn, R, e⟩ <;> omega
        obtain ⟨rl, he, ex, h1, h2⟩ := w_cell g hkg.1
        refine wg_c (k := 8) g (by decide) hkg.1 ⟨_, _, h1, rfl, ch_put g hi hc hm hlen ((h2 c hkg.2.1).2.2 hk7) hnx fun M1 g1 => ?_⟩
        have hi1 := IV_lay hi hc rk.2.1 rk.2.2 hf (x_v σ 8 k) (x_e σ 9 k) (x_e σ 10 k)
        exact ch_rel g1 hc hm (IV_w hi1 hc) (IV_len hi1 hc) hkm (hp1 _ (step_g hn hk hf))
theorem ch_once (hG : ∀ i j, i < 3 → j < 3 → G i = G j → i = j) (g : RC G ca h wa ka wk ch li kf M σ) (hi : IV σ N) {c : Nat} (hc : c < 8) (hm : ¬ x_v σ 13 c < 0) {nx : UInt64} (hnx : q8 nx (x_n σ)) {post : Int32 → hM → Prop}
    (hp1 : ∀ σ', o_step σ c = some σ' → ∀ M', RC G ca h wa ka wk ch li kf M' σ' → post 1 M') (hp0 : o_step σ c = none → post 0 M) : rC M (ch c) 0 (wp_Ch_serveOnce G ca post M (ch c) nx) := by
  refine rc_c g hc hm (ch_fw hG g hi hc hm (r := 1) (by decide) (ch_fw hG g hi hc hm (r := 0) (by decide) ?_))
  rw [show (Int32.ofNat 1) = 1 from rfl, show (Int32.ofNat 0) = 0 from rfl]
  cases ht : fw σ c 1 with
  | none =>
    refine ⟨fun _ => ?_, fun b e => by cases e⟩
    have := ch_once_43 g hi hc hm (Or.inl ht) hnx hp1 hp0
    rw [ht] at this; exact this
  | some t =>
    refine ⟨fun e => (by cases e), fun b e => ?_⟩
    cases e
    refine ch_rdy g hi hc hm hnx ⟨fun hr => ?_, fun hr => ?_⟩
    · have := ch_once_43 g hi hc hm (Or.inr (bi_0.mp hr)) hnx hp1 hp0
      rw [ht] at this; exact this
    · have hr : rdy σ c = true := by
        cases hq : rdy σ c with
        | true => rfl
        | false => exact absurd (bi_0.mpr hq) hr
      have hi1 := IV_tf hi t hc
      exact ch_hf g hi hc hm (fw_6 hi hc t ht) hnx fun M1 g1 => ch_rel g1 hc (by rw [(kF_tf σ t c).1.2.1]; exact hm) (IV_w hi1 hc) (IV_len hi1 hc) (by rw [w_tf]; exact (fw_some ht).1) (hp1 _ (step_t ht hr))
theorem ch_serve_2 (hG : ∀ i j, i < 3 → j < 3 → G i = G j → i = j) {c : Nat} (hc : c < 8) {nx : UInt64} {post : hM → Prop} : ∀ (d i : Nat) (σ : St) (M : hM), i + d = 6 → RC G ca h wa ka wk ch li kf M σ → IV σ N → ¬ x_v σ 13 c < 0 → q8 nx (x_n σ) →
    (∀ M', RC G ca h wa ka wk ch li kf M' (o_serve d σ c) → post M') → wp_Ch_serve_2 G ca post (d + 1) M (ch c) nx (Int32.ofNat i) := by
  intro d
  induction d with
  | zero =>
    intro i σ M e g hi hm hn hp
    have : i = 6 := by omega
    subst this
    exact ⟨fun _ => hp M g, fun k => absurd (show (6 : Int32) ≤ Int32.ofNat 6 by decide) k⟩
  | succ d ih =>
    intro i σ M e g hi hm hn hp
    refine ⟨fun k => absurd ((i_le (a := 6) (b := i) (by decide) (by omega)).mp k) (by omega), fun _ => ⟨by omega, ch_once hG g hi hc hm hn (fun σ' hs M' g' => ⟨fun _ => ?_, fun k => nx1 k⟩) (fun hs => ⟨fun k => absurd rfl k, fun _ => ?_⟩)⟩⟩
    · have k := kF_step hs
      rw [o_serve, hs] at hp
      rw [i_succ]
      exact ih (i + 1) σ' M' (by omega) g' (IV_step hi hc hs).1 (by rw [k.1.2.1]; exact hm) (by rw [k.1.1]; exact hn) hp
    · rw [o_serve, hs] at hp
      exact hp M g
theorem ch_serve (hG : ∀ i j, i < 3 → j < 3 → G i = G j → i = j) (g : RC G ca h wa ka wk ch li kf M σ) (hi : IV σ N) {c : Nat} (hc : c < 8) (hm : ¬ x_v σ 13 c < 0) {nx : UInt64} (hnx : q8 nx (x_n σ)) {post : hM → Prop} (hp : ∀ M', RC G ca h wa ka wk ch li kf M' (o_sv σ c) → post M') : rC M (ch c) 0 (wp_Ch_serve G ca post M (ch c) nx) :=
  rc_c g hc hm ⟨7, by decide, ch_serve_2 hG hc 6 0 σ M rfl g hi hm hnx hp⟩
/-- a thread begins to wait -/
theorem ha_wait (g : RC G ca h wa ka wk ch li kf M σ) (hi : IV σ N) {t c r : Nat} (ht : t < 6) (hc : c < 8) (hm : ¬ x_v σ 13 c < 0) (hr : r < 3) (hpl : x_p σ t = none) (hkey : r = 0 → kO (x_v σ 13 c) (x_e σ 9 t) (x_e σ 10 t) (kf t)) {lx : UInt64} {l : Int} (hl : q8 lx l) (hl1 : -8 ≤ l) (hl2 : l ≤ 8000) {post : Int32 → hM → Prop}
    (hp : ∀ M', RC G ca h wa ka wk ch li kf M' (o_wait σ t c (Int32.ofNat r) l).2 → post (o_wait σ t c (Int32.ofNat r) l).1 M') : rC M h 3 (wp_Ha_startWait G ca post M h (some (wk t)) (some (ch c)) (some (G r)) lx) := by
  refine rc_h g ⟨fun hz => nn_s ?_, fun hz => nn_s (wo_end g ht fun M' g' => ?_)⟩
  · rw [e_eq hl.1 q8_0.1] at hz
    unfold o_wait at hp
    rw [if_neg hz] at hp
    obtain ⟨rl, he, ex, h1, h2⟩ := w_cell g ht
    obtain ⟨O, g⟩ := g
    obtain ⟨_, _, _, ⟨tx, ht1, ht2⟩, _⟩ := g.1
    have hht : h ≠ wk t := fun e => by rw [e, h1] at ht1; cases ht1
    have h6 := hi.2.2.2.2.2
    have hlw := IV_len hi hc
    have eu : ∀ e1 e2 e3 e4 : va_E, va_up (va_up (va_up (va_up M (wk t) (some e1)) (wk t) (some e2)) (wk t) (some e3)) (wk t) (some e4) = va_up M (wk t) (some e4) := fun e1 e2 e3 e4 => by
      funext j
      by_cases hj : j = wk t
      · rw [hj, va_up_self, va_up_self]
      · rw [va_up_ne _ _ hj, va_up_ne _ _ hj, va_up_ne _ _ hj, va_up_ne _ _ hj, va_up_ne _ _ hj]
    have hsum : e8 (FP.dadd tx lx) (x_n σ + l) := e8_add ht2.1 hl.1 (by omega)
    have key : ∀ s0 : Int32, (0 < l → s0 = 1) → (¬ 0 < l → s0 = 0) → wp_Ha_startWait_36 G ca post (va_up (va_up M (wk t) (some (.inr (2, (wL t (x_v σ 2 t) (x_v σ 3 t) (x_v σ 4 t) (x_v σ 5 t) ((x_p σ t).map ch) rl (x_v σ 8 t) (kf t) he ex).set 5 (va_rf (some (ch c))))))) (wk t) (some (.inr (2, ((wL t (x_v σ 2 t) (x_v σ 3 t) (x_v σ 4 t) (x_v σ 5 t) ((x_p σ t).map ch) rl (x_v σ 8 t) (kf t) he ex).set 5 (va_rf (some (ch c)))).set 6 (va_rf (some (G r))))))) h (wk t) (some (ch c)) lx s0 (wk t) := fun s0 hs1 hs0 => by
      refine ⟨?_, _, va_up_self _ _ _, by simp [wL], [.ref wa, .ref ka, .int (cn (x_v σ 13) 8), .double tx], tx, ?_, rfl, e8_nn hsum, _, va_up_self _ _ _, by simp [wL], nn_s ?_⟩
      · by_cases hp0 : 0 < l
        · exact Or.inr (hs1 hp0)
        · exact Or.inl (hs0 hp0)
      · rw [va_up_ne _ _ hht, va_up_ne _ _ hht, va_up_ne _ _ hht]; exact ht1
      · rw [eu]
        let σ1 : St := s_e (s_v (s_p σ t (some c)) 7 t (Int32.ofNat r)) 11 t (if 0 < l then x_n σ + l else -8)
        have ep : x_p σ1 t = some c := xp_s σ t (some c)
        have e7 : x_v σ1 7 t = Int32.ofNat r := xv_s (s_p σ t (some c)) 7 t (Int32.ofNat r)
        have e11 : x_e σ1 11 t = if 0 < l then x_n σ + l else -8 := xe_s (s_v (s_p σ t (some c)) 7 t (Int32.ofNat r)) 11 t _
        have hK : wK G σ1 t (some (G r)) (kf t) s0 (FP.dadd tx lx) := by
          intro c' hc'
          rw [ep] at hc'
          cases hc'
          rw [e7, e11]
          refine ⟨⟨r, hr, rfl, rfl⟩, ?_, fun e => hkey ((i_eq (a := r) (b := 0) (by omega) (by decide)).mp e)⟩
          by_cases hp0 : 0 < l
          · rw [if_pos hp0]
            exact Or.inl ⟨by omega, hs1 hp0, q8_add ht2 hl h6.1 (by omega) (by omega)⟩
          · rw [if_neg hp0]
            exact Or.inr ⟨by decide, hs0 hp0⟩
        have g1 := RO_w (σ' := σ1) (kf' := kf) g ht hK (fun u hu => ⟨sW_t (sW_t (sW_p σ (some c) hu) (sW_v _ 7 (Int32.ofNat r) hu)) (sW_e _ 11 _ hu), rfl⟩) (fun d => sC_t (sC_t (sC_p σ t (some c) d) (sC_v _ (k := 7) (by decide) t (Int32.ofNat r) d)) (sC_e _ 11 t _ d)) ⟨rfl, rfl⟩
        rw [ep] at g1
        refine wt_add (σ := σ1) ⟨O, g1⟩ hc hm (IV_w (σ := σ) hi hc) (by show (x_w σ c).length < 16; omega) ht fun M2 g2 => wo_end g2 ht fun M3 g3 => hp M3 g3
    refine ⟨_, h1, by simp [wL], _, va_up_self _ _ _, by simp [wL], fun hle => key 0 (fun k => ?_) (fun _ => rfl), fun hle => key 1 (fun _ => rfl) (fun k => ?_)⟩
    · rw [e_le hl.1 q8_0.1] at hle; omega
    · rw [e_le hl.1 q8_0.1] at hle; omega
  · rw [e_eq hl.1 q8_0.1] at hz
    unfold o_wait at hp
    rw [if_pos hz] at hp
    exact hp M' g'
/-- a thread gives up -/
theorem ha_up (hG : ∀ i j, i < 3 → j < 3 → G i = G j → i = j) (g : RC G ca h wa ka wk ch li kf M σ) (hi : IV σ N) {t : Nat} (ht : t < 6) {w : Int32} {post : hM → Prop} (hm : ∀ c, x_p σ t = some c → ¬ x_v σ 13 c < 0) (hp : ∀ M', RC G ca h wa ka wk ch li kf M' (o_leave σ t w) → post M') : rC M h 3 (wp_Ha_giveUp G ca post M h (some (wk t)) w) := by
  refine rc_h g (nn_s (wp_c g ht ?_))
  unfold o_leave at hp
  cases hpl : x_p σ t with
  | none =>
    rw [hpl] at hp
    exact ⟨fun _ => hp M g, fun b e => by cases e⟩
  | some c =>
    rw [hpl] at hp
    dsimp only at hp
    obtain ⟨hc, htm⟩ := (hi.1 t ht).2 c hpl
    have hm := hm c hpl
    refine ⟨fun e => (by cases e), fun b e => ?_⟩
    cases e
    refine ch_rel g hc hm (IV_w hi hc) (IV_len hi hc) htm fun M1 g1 => ck_g g1 hc hm ?_
    have hi1 := IV_free hi hc htm w
    have hk1 : x_v (o_free σ c t w) 13 c = x_v σ 13 c := rfl
    refine ⟨fun h6 => hn_c g1 fun nx hn => ch_serve hG g1 hi1 hc hm hn ?_, fun h6 => ch_brk g1 hc hm (IV_w hi1 hc) (IV_len hi1 hc) fun M2 g2 => hn_c g2 fun nx hn => ch_serve hG g2 (IV_brk hi1 hc) hc hm hn ?_⟩
    · rw [hk1] at h6; rw [if_neg h6] at hp; exact hp
    · rw [hk1] at h6; rw [if_pos h6] at hp; exact hp
end

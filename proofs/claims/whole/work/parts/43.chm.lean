/-! THE CHANNEL'S METHODS. -/
section
variable {G ca : Nat → Nat} {h wa ka : Nat} {wk ch li : Nat → Nat} {kf : Nat → UInt64} {M : hM} {σ : St} {N : Int}
theorem wk_inj (g : RC G ca h wa ka wk ch li kf M σ) {t u : Nat} (ht : t < 6) (hu : u < 6) (e : wk t = wk u) : t = u := by
  obtain ⟨O, g⟩ := g
  have h1 := (g.2.1 t ht).1
  have h2 := (g.2.1 u hu).1
  rw [e, h2] at h1; omega
theorem ch_fw_2 (hG : ∀ i j, i < 3 → j < 3 → G i = G j → i = j) (g : RC G ca h wa ka wk ch li kf M σ) (hi : IV σ N) {c r : Nat} (hc : c < 8) (hm : ¬ x_v σ 13 c < 0) (hr : r < 3) {post : Option Nat → hM → Prop} :
    ∀ (d i : Nat), i + d = (x_w σ c).length → post ((((x_w σ c).drop i).find? fun t => decide (x_v σ 7 t = Int32.ofNat r)).map wk) M → wp_Ch_firstWaiter_2 G ca post (d + 1) M (ch c) (some (G r)) (Int32.ofNat i)
  | 0, i, e, hp => by
    have hl := IV_len hi hc
    rw [List.drop_of_length_le (by omega)] at hp
    exact wt_size g hc hm ⟨fun _ => hp, fun k => absurd ((i_le (by omega) (by omega)).mpr (by omega)) k⟩
  | d + 1, i, e, hp => by
    have hl := IV_len hi hc
    have hil : i < (x_w σ c).length := by omega
    have hg := (hi.2.1 c hc).2 _ (List.getElem_mem hil)
    obtain ⟨rl, he, ex, h1, h2⟩ := w_cell g hg.1
    obtain ⟨⟨r', hr', e7, erl⟩, _⟩ := h2 c hg.2.1
    rw [List.drop_eq_getElem_cons hil, List.find?_cons] at hp
    refine wt_size g hc hm ⟨fun k => absurd ((i_le (by omega) (by omega)).mp k) (by omega), fun _ => wt_get g hc hm (List.getElem?_eq_getElem hil) ⟨_, _, rfl, h1, _, rl, h1, rfl, fun hn => ?_, fun hn => wt_get g hc hm (List.getElem?_eq_getElem hil) ⟨_, _, rfl, h1, ?_⟩⟩⟩
    · have : ¬ x_v σ 7 (x_w σ c)[i] = Int32.ofNat r := fun k => hn (by
        rw [e7, i_eq (by omega) (by omega)] at k
        rw [erl, k])
      rw [decide_eq_false this] at hp
      rw [i_succ]
      exact ch_fw_2 hG g hi hc hm hr d (i + 1) (by omega) hp
    · rw [erl] at hn
      have := hG _ _ hr' hr (Option.some.inj hn)
      rw [this] at e7
      rw [decide_eq_true e7] at hp
      exact hp
theorem ch_fw (hG : ∀ i j, i < 3 → j < 3 → G i = G j → i = j) (g : RC G ca h wa ka wk ch li kf M σ) (hi : IV σ N) {c r : Nat} (hc : c < 8) (hm : ¬ x_v σ 13 c < 0) (hr : r < 3) {post : Option Nat → hM → Prop} (hp : post ((fw σ c (Int32.ofNat r)).map wk) M) : rC M (ch c) 0 (wp_Ch_firstWaiter G ca post M (ch c) (some (G r))) :=
  rc_c g hc hm ⟨_, ch_fw_2 hG g hi hc hm hr _ 0 (Nat.zero_add _) hp⟩
theorem ck_g (g : RC G ca h wa ka wk ch li kf M σ) {c : Nat} (hc : c < 8) (hm : ¬ x_v σ 13 c < 0) {K : Int32 → Prop} (hK : K (x_v σ 13 c)) : gI M (ch c) 0 1 K := ⟨_, _, c_cell g hc hm, rfl, hK⟩
theorem ch_rdy (g : RC G ca h wa ka wk ch li kf M σ) (hi : IV σ N) {c : Nat} (hc : c < 8) (hm : ¬ x_v σ 13 c < 0) {nx : UInt64} (hn : q8 nx (x_n σ)) {post : Int32 → hM → Prop} (hp : post (bi (rdy σ c)) M) : rC M (ch c) 0 (wp_Ch_isReady G ca post M (ch c) nx) := by
  refine rc_c g hc hm (it_empty g hc hm (IV_it hi hc) ?_)
  unfold rdy at hp
  cases hx : x_i σ c with
  | nil =>
    rw [hx] at hp
    rw [if_pos rfl]
    exact ⟨fun e => nx1 e, fun _ => hp⟩
  | cons e l =>
    rw [hx] at hp
    rw [if_neg (by simp)]
    refine ⟨fun _ => ck_g g hc hm ⟨fun h4 => ⟨Or.inr rfl, ?_⟩, fun h4 => it_get (i := 0) (e := e) g hc hm (by rw [hx]; rfl) fun q ⟨kx, sx, h1, h2, h3⟩ => ⟨_, _, rfl, h1, _, _, h1, rfl, fun hlt => ⟨Or.inl rfl, ?_⟩, fun hlt => ⟨Or.inr rfl, ?_⟩⟩⟩, fun e => absurd rfl e⟩
    · dsimp only at hp; rw [decide_eq_true (Or.inl h4)] at hp; exact hp
    · rw [e_gt (h2.2.1 h4).1 hn.1] at hlt
      dsimp only at hp; rw [decide_eq_false (by rintro (k | k); exact k h4; omega)] at hp; exact hp
    · rw [e_gt (h2.2.1 h4).1 hn.1] at hlt
      dsimp only at hp; rw [decide_eq_true (Or.inr (by omega))] at hp; exact hp
theorem ch_open (g : RC G ca h wa ka wk ch li kf M σ) (hi : IV σ N) {c : Nat} (hc : c < 8) (hm : ¬ x_v σ 13 c < 0) {nx : UInt64} (hn : q8 nx (x_n σ)) {post : Int32 → hM → Prop} (hp : post (if x_v σ 13 c = 6 then (if x_v σ 15 c = 0 then 1 else 0) else bi (rdy σ c)) M) : rC M (ch c) 0 (wp_Ch_isOpen G ca post M (ch c) nx) := by
  refine rc_c g hc hm (ck_g g hc hm ⟨fun h6 => ch_rdy g hi hc hm hn ⟨bi_z _, ?_⟩, fun h6 => ⟨_, _, c_cell g hc hm, rfl, fun hb => ⟨Or.inl rfl, ?_⟩, fun hb => ⟨Or.inr rfl, ?_⟩⟩⟩)
  · rw [if_neg h6] at hp; exact hp
  · rw [if_pos h6, if_neg hb] at hp; exact hp
  · rw [if_pos h6, if_pos hb] at hp; exact hp
theorem ch_due (hG : ∀ i j, i < 3 → j < 3 → G i = G j → i = j) (g : RC G ca h wa ka wk ch li kf M σ) (hi : IV σ N) {c : Nat} (hc : c < 8) (hm : ¬ x_v σ 13 c < 0) {nx lx : UInt64} {l : Int} (hn : q8 nx (x_n σ)) (hl : q8 lx l) {post : UInt64 → hM → Prop}
    (hp : ∀ b, q8 b (if 0 ≤ dm σ c ∧ dm σ c < l then dm σ c else l) → post b M) : rC M (ch c) 0 (wp_Ch_earlierDue G ca post M (ch c) nx lx) := by
  have skip : dm σ c < 0 → post lx M := fun hd => hp lx (by rw [if_neg (by omega)]; exact hl)
  refine rc_c g hc hm (ck_g g hc hm ⟨fun h4 => skip ?_, fun h4 => it_empty g hc hm (IV_it hi hc) ?_⟩)
  · unfold dm
    split
    · decide
    · rw [if_neg (fun e => h4 e.1)]; decide
  · cases hx : x_i σ c with
    | nil =>
      rw [if_pos rfl]
      exact ⟨fun _ => skip (by unfold dm; rw [hx]; show (-8 : Int) < 0; decide), fun e => nx1 e⟩
    | cons e es =>
      rw [if_neg (by simp)]
      refine ⟨fun k => absurd rfl k, fun _ => ch_fw hG g hi hc hm (r := 1) (by decide) ⟨fun hf => skip ?_, fun b hf => it_get (i := 0) (e := e) g hc hm (by rw [hx]; rfl) fun q ⟨kx, sx, h1, h2, h3⟩ => ⟨_, _, rfl, h1, _, _, h1, rfl, fun hle => ?_, fun hle => ⟨fun hge => ?_, fun hge => ?_⟩⟩⟩⟩
      · have hf : fw σ c 1 = none := by
          cases hq : fw σ c 1 with
          | none => rfl
          | some t => rw [show (Int32.ofNat 1) = 1 from rfl, hq] at hf; cases hf
        unfold dm; rw [hx]; dsimp only
        rw [if_neg (fun e => by rw [hf] at e; exact absurd e.2.1 (by decide))]; decide
      · rw [e_le (h2.2.1 h4).1 hn.1] at hle
        refine skip ?_
        unfold dm; rw [hx]; dsimp only
        rw [if_neg (fun e => by omega)]; decide
      · have hf2 : (fw σ c 1).isSome = true := by
          cases hq : fw σ c 1 with
          | none => rw [show (Int32.ofNat 1) = 1 from rfl, hq] at hf; cases hf
          | some t => rfl
        rw [e_le (h2.2.1 h4).1 hn.1] at hle
        rw [e_ge (h2.2.1 h4).1 hl.1] at hge
        have hd : dm σ c = e.2.2.1 := by unfold dm; rw [hx]; dsimp only; rw [if_pos ⟨h4, hf2, by omega⟩]
        exact hp lx (by rw [if_neg (by omega)]; exact hl)
      · have hf2 : (fw σ c 1).isSome = true := by
          cases hq : fw σ c 1 with
          | none => rw [show (Int32.ofNat 1) = 1 from rfl, hq] at hf; cases hf
          | some t => rfl
        rw [e_le (h2.2.1 h4).1 hn.1] at hle
        rw [e_ge (h2.2.1 h4).1 hl.1] at hge
        have hd : dm σ c = e.2.2.1 := by unfold dm; rw [hx]; dsimp only; rw [if_pos ⟨h4, hf2, by omega⟩]
        have := hi.2.2.2.2.2.1
        exact hp kx (by rw [if_pos (by omega), hd]; exact h2.2.1 h4)
theorem ch_num (g : RC G ca h wa ka wk ch li kf M σ) (hi : IV σ N) {c : Nat} (hc : c < 8) (hm : ¬ x_v σ 13 c < 0) {i : Nat} (hi6 : i < 6) {post : Int32 → hM → Prop} (hp : post (oi ((x_w σ c)[i]?)) M) : rC M (ch c) 0 (wp_Ch_waiterNumber G ca post M (ch c) (Int32.ofNat i)) := by
  have hl := IV_len hi hc
  refine rc_c g hc hm ⟨fun e => absurd e (i_nn (by omega)), fun _ => wt_size g hc hm ⟨fun hn => ?_, fun hn => ?_⟩⟩
  · rw [i_le (by omega) (by omega)] at hn
    rw [List.getElem?_eq_none hn] at hp; exact hp
  · rw [i_le (by omega) (by omega)] at hn
    have hil : i < (x_w σ c).length := by omega
    have hg := (hi.2.1 c hc).2 _ (List.getElem_mem hil)
    obtain ⟨rl, he, ex, h1, h2⟩ := w_cell g hg.1
    rw [List.getElem?_eq_getElem hil] at hp
    exact wt_get g hc hm (List.getElem?_eq_getElem hil) ⟨_, _, rfl, h1, _, _, h1, rfl, hp⟩
theorem ch_acc (hG : ∀ i j, i < 3 → j < 3 → G i = G j → i = j) (g : RC G ca h wa ka wk ch li kf M σ) (hi : IV σ N) {c : Nat} (hc : c < 8) (hm : ¬ x_v σ 13 c < 0) (h6 : x_v σ 13 c ≠ 6) {post : Int32 → hM → Prop}
    (hp : ((fw σ c 0).isSome = true ∨ (if x_v σ 13 c = 2 then (fw σ c 1).isSome else o_fits σ c) = false → post 0 M) ∧ (¬ ((fw σ c 0).isSome = true ∨ (if x_v σ 13 c = 2 then (fw σ c 1).isSome else o_fits σ c) = false) → post 1 M)) : rC M (ch c) 0 (wp_Ch_acceptsAtOnce G ca post M (ch c)) := by
  refine rc_c g hc hm (ch_fw hG g hi hc hm (r := 0) (by decide) ⟨fun hf => ?_, fun b hf => ?_⟩)
  · have hf : ¬ (fw σ c 0).isSome = true := by
      cases hq : fw σ c 0 with
      | none => decide
      | some t => rw [show (Int32.ofNat 0) = 0 from rfl, hq] at hf; cases hf
    refine ck_g g hc hm ⟨fun h2 => it_size g hc hm ⟨_, _, c_cell g hc hm, rfl, fun hle => ⟨Or.inl rfl, ?_⟩, fun hle => ⟨Or.inr rfl, ?_⟩⟩, fun h2 => ch_fw hG g hi hc hm (r := 1) (by decide) ⟨fun hf1 => ⟨Or.inl rfl, ?_⟩, fun b hf1 => ⟨Or.inr rfl, ?_⟩⟩⟩
    · rw [if_neg h2, if_neg h6] at *
      exact hp.1 (Or.inr (decide_eq_false (Int32.not_lt.mpr hle)))
    · rw [if_neg h2, if_neg h6] at *
      exact hp.2 (fun e => e.elim hf (fun k => by unfold o_fits at k; rw [decide_eq_true (Int32.not_le.mp hle)] at k; cases k))
    · rw [if_pos h2] at *
      refine hp.1 (Or.inr ?_)
      cases hq : fw σ c 1 with
      | none => rfl
      | some t => rw [show (Int32.ofNat 1) = 1 from rfl, hq] at hf1; cases hf1
    · rw [if_pos h2] at *
      refine hp.2 (fun e => e.elim hf (fun k => ?_))
      cases hq : fw σ c 1 with
      | none => rw [show (Int32.ofNat 1) = 1 from rfl, hq] at hf1; cases hf1
      | some t => rw [hq] at k; cases k
  · refine hp.1 (Or.inl ?_)
    cases hq : fw σ c 0 with
    | none => rw [show (Int32.ofNat 0) = 0 from rfl, hq] at hf; cases hf
    | some t => rfl
theorem ch_yld (hG : ∀ i j, i < 3 → j < 3 → G i = G j → i = j) (g : RC G ca h wa ka wk ch li kf M σ) (hi : IV σ N) {c : Nat} (hc : c < 8) (hm : ¬ x_v σ 13 c < 0) {nx : UInt64} (hn : q8 nx (x_n σ)) {post : Int32 → hM → Prop}
    (hp : ((fw σ c 1).isSome = true ∨ (if x_v σ 13 c = 2 then (fw σ c 0).isSome else rdy σ c) = false → post 0 M) ∧ (¬ ((fw σ c 1).isSome = true ∨ (if x_v σ 13 c = 2 then (fw σ c 0).isSome else rdy σ c) = false) → post 1 M)) : rC M (ch c) 0 (wp_Ch_yieldsAtOnce G ca post M (ch c) nx) := by
  refine rc_c g hc hm (ch_fw hG g hi hc hm (r := 1) (by decide) ⟨fun hf => ?_, fun b hf => ?_⟩)
  · have hf : ¬ (fw σ c 1).isSome = true := by
      cases hq : fw σ c 1 with
      | none => decide
      | some t => rw [show (Int32.ofNat 1) = 1 from rfl, hq] at hf; cases hf
    refine ck_g g hc hm ⟨fun h2 => ch_rdy g hi hc hm hn ⟨bi_z _, ?_⟩, fun h2 => ch_fw hG g hi hc hm (r := 0) (by decide) ⟨fun hf1 => ⟨Or.inl rfl, ?_⟩, fun b hf1 => ⟨Or.inr rfl, ?_⟩⟩⟩
    · rw [if_neg h2] at *
      cases hr : rdy σ c with
      | false => exact hp.1 (Or.inr hr)
      | true => exact hp.2 (fun e => e.elim hf (fun k => by rw [hr] at k; cases k))
    · rw [if_pos h2] at *
      refine hp.1 (Or.inr ?_)
      cases hq : fw σ c 0 with
      | none => rfl
      | some t => rw [show (Int32.ofNat 0) = 0 from rfl, hq] at hf1; cases hf1
    · rw [if_pos h2] at *
      refine hp.2 (fun e => e.elim hf (fun k => ?_))
      cases hq : fw σ c 0 with
      | none => rw [show (Int32.ofNat 0) = 0 from rfl, hq] at hf1; cases hf1
      | some t => rw [hq] at k; cases k
  · refine hp.1 (Or.inl ?_)
    cases hq : fw σ c 1 with
    | none => rw [show (Int32.ofNat 1) = 1 from rfl, hq] at hf; cases hf
    | some t => rfl
/-- a waiter is released -/
theorem ch_rel_2 (g : RC G ca h wa ka wk ch li kf M σ) {c t i0 : Nat} (hc : c < 8) (hm : ¬ x_v σ 13 c < 0) (hw : ∀ t, t ∈ x_w σ c → t < 6) (hl : (x_w σ c).length ≤ 6) (ht : t < 6) (h0 : (x_w σ c)[i0]? = some t) (hlt : ∀ i, i < i0 → ∀ u, (x_w σ c)[i]? = some u → u ≠ t) {w : Int32} {post : hM → Prop}
    (hp : ∀ M', RC G ca h wa ka wk ch li kf M' (s_v (s_e (s_p (s_w σ c ((x_w σ c).eraseIdx i0)) t none) 11 t (-8)) 3 t w) → post M') : ∀ (d i : Nat), i + d = i0 → wp_Ch_release_2 G ca post (d + 1) M (ch c) (some (wk t)) w (Int32.ofNat i)
  | 0, i, e => by
    have hi0 := get_lt h0
    have e2 : i = i0 := by omega
    subst e2
    refine wt_size g hc hm ⟨fun k => absurd ((i_le (by omega) (by omega)).mp k) (by omega), fun _ => wt_get g hc hm h0 ⟨fun k => absurd rfl k, fun _ => wt_remove g hc hm hw h0 fun M1 g1 => nn_s (wn_c g1 ht fun M2 g2 => wv_c g2 (by decide) ht hp)⟩⟩
  | d + 1, i, e => by
    have hi0 := get_lt h0
    have hil : i < (x_w σ c).length := by omega
    have hne := hlt i (by omega) _ (List.getElem?_eq_getElem hil)
    have hu := hw _ (List.getElem_mem hil)
    refine wt_size g hc hm ⟨fun k => absurd ((i_le (by omega) (by omega)).mp k) (by omega), fun _ => wt_get g hc hm (List.getElem?_eq_getElem hil) ⟨fun _ => ?_, fun k => absurd (wk_inj g hu ht (Option.some.inj k)) hne⟩⟩
    rw [i_succ]
    exact ch_rel_2 g hc hm hw hl ht h0 hlt hp d (i + 1) (by omega)
theorem ch_rel (g : RC G ca h wa ka wk ch li kf M σ) {c t : Nat} (hc : c < 8) (hm : ¬ x_v σ 13 c < 0) (hw : ∀ t, t ∈ x_w σ c → t < 6) (hl : (x_w σ c).length ≤ 6) (ht : t ∈ x_w σ c) {w : Int32} {post : hM → Prop}
    (hp : ∀ M', RC G ca h wa ka wk ch li kf M' (o_free σ c t w) → post M') : rC M (ch c) 0 (wp_Ch_release G ca post M (ch c) (some (wk t)) w) := by
  obtain ⟨i0, h1, h2, h3, h4⟩ := er_idx _ t ht
  unfold o_free at hp
  rw [h4] at hp
  exact rc_c g hc hm ⟨i0 + 1, ch_rel_2 g hc hm hw hl (hw t ht) h2 h3 hp i0 0 (Nat.zero_add _)⟩
/-- all waiters are released -/
def ag (w : Int32) : St → List Nat → St
  | σ, [] => σ
  | σ, t :: l => ag w (s_v (s_e (s_p σ t none) 11 t (-8)) 3 t w) l
theorem ag_eq (w : Int32) : ∀ (l : List Nat) (σ : St), ag w σ l = (fun k => if k = 3 then (fun t => if t ∈ l then w else σ.1 3 t) else σ.1 k, fun t => if t ∈ l then none else x_p σ t,
    fun k => if k = 11 then (fun t => if t ∈ l then -8 else x_e σ 11 t) else x_e σ k, x_s σ, x_i σ, x_w σ, x_n σ)
  | [], σ => by
    unfold ag
    refine Prod.ext (funext fun k => ?_) (Prod.ext (funext fun t => ?_) (Prod.ext (funext fun k => ?_) rfl))
    · by_cases e : k = 3
      · subst e; simp
      · simp [e]
    · simp
    · by_cases e : k = 11
      · subst e; simp
      · simp [e]
  | a :: l, σ => by
    unfold ag
    rw [ag_eq w l]
    refine Prod.ext (funext fun k => ?_) (Prod.ext (funext fun t => ?_) (Prod.ext (funext fun k => ?_) rfl))
    · by_cases e : k = 3
      · subst e
        simp only [if_true]
        funext t
        by_cases h1 : t ∈ l
        · simp [h1]
        · by_cases h2 : t = a
          · subst h2; simp [s_v, u2, h1]
          · simp [s_v, u2, s_e, s_p, h1, h2]
      · simp [e, s_v, u2, s_e, s_p]
    · by_cases h1 : t ∈ l
      · simp [h1]
      · by_cases h2 : t = a
        · subst h2; simp [s_v, s_e, s_p, va_up, x_p, h1]
        · simp [s_v, s_e, s_p, va_up, x_p, h1, h2]
    · by_cases e : k = 11
      · subst e
        simp only [if_true]
        funext t
        by_cases h1 : t ∈ l
        · simp [h1]
        · by_cases h2 : t = a
          · subst h2; simp [s_v, u2, s_e, s_p, x_e, h1]
          · simp [s_v, u2, s_e, s_p, x_e, h1, h2]
      · simp [e, s_v, u2, s_e, s_p, x_e]
theorem ag_n (w : Int32) (σ : St) : ag w σ [] = σ := rfl
theorem ag_c (w : Int32) (σ : St) (t : Nat) (l : List Nat) : ag w σ (t :: l) = ag w (s_v (s_e (s_p σ t none) 11 t (-8)) 3 t w) l := rfl
theorem ag_all (w : Int32) (σ : St) (c : Nat) : s_w (ag w σ (x_w σ c)) c [] = o_all σ c w := by rw [ag_eq]; rfl
theorem ch_all_2 {c : Nat} (hc : c < 8) {w : Int32} {post : hM → Prop} : ∀ (d i : Nat) (σ : St) (M : hM), RC G ca h wa ka wk ch li kf M σ → ¬ x_v σ 13 c < 0 → (∀ t, t ∈ x_w σ c → t < 6) → (x_w σ c).length ≤ 6 → i + d = (x_w σ c).length →
    (∀ M', RC G ca h wa ka wk ch li kf M' (s_w (ag w σ ((x_w σ c).drop i)) c []) → post M') → wp_Ch_releaseAll_2 G ca post (d + 1) M (ch c) w (Int32.ofNat i) := by
  intro d
  induction d with
  | zero =>
    intro i σ M g hm hw hl e hp
    rw [List.drop_of_length_le (by omega), ag_n] at hp
    exact wt_size g hc hm ⟨fun _ => wt_clear g hc hm hp, fun k => absurd ((i_le (by omega) (by omega)).mpr (by omega)) k⟩
  | succ d ih =>
    intro i σ M g hm hw hl e hp
    have hil : i < (x_w σ c).length := by omega
    have hu := hw _ (List.getElem_mem hil)
    have hget := List.getElem?_eq_getElem hil
    rw [List.drop_eq_getElem_cons hil] at hp
    generalize (x_w σ c)[i] = u at hu hget hp
    rw [ag_c] at hp
    obtain ⟨rl, he, ex, h1, h2⟩ := w_cell g hu
    refine wt_size g hc hm ⟨fun k => absurd ((i_le (by omega) (by omega)).mp k) (by omega), fun _ => wt_get g hc hm hget ⟨_, _, rfl, h1, wn_c g hu fun M1 g1 => ?_⟩⟩
    obtain ⟨rl1, he1, ex1, h11, h21⟩ := w_cell g1 hu
    refine wt_get g1 hc hm hget ⟨_, _, rfl, h11, wv_c (k := 3) g1 (by decide) hu fun M2 g2 => ?_⟩
    rw [i_succ]
    exact ih (i + 1) _ M2 g2 hm hw hl (by show i + 1 + d = (x_w σ c).length; omega) hp
theorem ch_all (g : RC G ca h wa ka wk ch li kf M σ) {c : Nat} (hc : c < 8) (hm : ¬ x_v σ 13 c < 0) (hw : ∀ t, t ∈ x_w σ c → t < 6) (hl : (x_w σ c).length ≤ 6) {w : Int32} {post : hM → Prop} (hp : ∀ M', RC G ca h wa ka wk ch li kf M' (o_all σ c w) → post M') : rC M (ch c) 0 (wp_Ch_releaseAll G ca post M (ch c) w) := by
  rw [← ag_all] at hp
  exact rc_c g hc hm ⟨_, ch_all_2 hc _ 0 σ M g hm hw hl (Nat.zero_add _) hp⟩
theorem ch_brk (g : RC G ca h wa ka wk ch li kf M σ) {c : Nat} (hc : c < 8) (hm : ¬ x_v σ 13 c < 0) (hw : ∀ t, t ∈ x_w σ c → t < 6) (hl : (x_w σ c).length ≤ 6) {post : hM → Prop} (hp : ∀ M', RC G ca h wa ka wk ch li kf M' (o_brk σ c) → post M') : rC M (ch c) 0 (wp_Ch_breakUp G ca post M (ch c)) :=
  rc_c g hc hm (cv_c (k := 15) g (by decide) hc hm fun M1 g1 => ch_all g1 hc hm hw hl hp)
/-- values -/
theorem wo_rcv (g : RC G ca h wa ka wk ch li kf M σ) {t : Nat} (ht : t < 6) {v : Int32} {post : hM → Prop} (hp : ∀ M', RC G ca h wa ka wk ch li kf M' (s_v (s_v σ 4 t 1) 5 t v) → post M') : rC M (wk t) 2 (wp_Wo_receive G ca post M (wk t) v) :=
  rc_w g ht (wv_c (k := 4) g (by decide) ht fun M1 g1 => wv_c (k := 5) g1 (by decide) ht hp)
theorem wo_end (g : RC G ca h wa ka wk ch li kf M σ) {t : Nat} (ht : t < 6) {v : Int32} {post : Int32 → hM → Prop} (hp : ∀ M', RC G ca h wa ka wk ch li kf M' (s_v σ 3 t v) → post v M') : rC M (wk t) 2 (wp_Wo_endWith G ca post M (wk t) v) :=
  rc_w g ht (wv_c (k := 3) g (by decide) ht hp)
theorem ch_stay (g : RC G ca h wa ka wk ch li kf M σ) {c : Nat} (hc : c < 8) (hm : ¬ x_v σ 13 c < 0) (hs : FP.Core.dIsNaN (x_s σ c) = false) {dx : UInt64} {d : Int} (hd : e8 dx d) {post : hM → Prop} (hp : ∀ M', RC G ca h wa ka wk ch li kf M' (s_v (s_s σ c (FP.dadd (x_s σ c) dx)) 25 c (x_v σ 25 c + 1)) → post M') : rC M (ch c) 0 (wp_Ch_addStay G ca post M (ch c) dx) :=
  rc_c g hc hm ⟨_, _, c_cell g hc hm, rfl, nan_n (nan_add hs hd), cs_c g hc hm fun M1 g1 => ⟨_, _, c_cell g1 hc hm, rfl, cv_c (k := 25) g1 (by decide) hc hm hp⟩⟩
theorem ch_hand (g : RC G ca h wa ka wk ch li kf M σ) {c t : Nat} (hc : c < 8) (hm : ¬ x_v σ 13 c < 0) (hs : FP.Core.dIsNaN (x_s σ c) = false) (ht : t < 6) {v : Int32} {post : hM → Prop} (hp : ∀ M', RC G ca h wa ka wk ch li kf M' (o_obt σ t c v 0) → post M') : rC M (ch c) 0 (wp_Ch_handOver G ca post M (ch c) v (some (wk t))) := by
  unfold o_obt at hp
  rw [bt_0] at hp
  exact rc_c g hc hm (nn_s (wo_rcv g ht fun M1 g1 => ch_stay g1 hc hm hs q8_0.1 hp))
theorem obt_i (σ : St) (t c : Nat) (v : Int32) (d : Int) (l : List It) : o_obt (s_i σ c l) t c v d = s_i (o_obt σ t c v d) c l := rfl
theorem ch_hf (g : RC G ca h wa ka wk ch li kf M σ) (hi : IV σ N) {c t : Nat} (hc : c < 8) (hm : ¬ x_v σ 13 c < 0) (ht : t < 6) {nx : UInt64} (hn : q8 nx (x_n σ)) {post : hM → Prop} (hp : ∀ M', RC G ca h wa ka wk ch li kf M' (o_tf σ t c) → post M') : rC M (ch c) 0 (wp_Ch_handFirst G ca post M (ch c) (some (wk t)) nx) := by
  refine rc_c g hc hm (it_empty g hc hm (IV_it hi hc) ?_)
  cases hx : x_i σ c with
  | nil =>
    rw [if_pos rfl]
    rw [tf_nil hx] at hp
    exact ⟨fun e => nx1 e, fun _ => hp M g⟩
  | cons e l =>
    rw [if_neg (by simp)]
    rw [tf_cons hx, ← obt_i] at hp
    have h4 := hi.2.2.2.1 c hc e (by rw [hx]; simp)
    have h6 := hi.2.2.2.2.2
    refine ⟨fun _ => it_remove g hc hm hx fun q M1 g1 ⟨kx, sx, h1, h2, h3⟩ => ⟨_, _, rfl, h1, _, _, h1, rfl, nn_s (rc_w g1 ht ?_)⟩, fun k => absurd rfl k⟩
    obtain ⟨rl, he, ex, hw1, _⟩ := w_cell g1 ht
    have hqw : q ≠ wk t := fun e => by rw [e, hw1] at h1; cases h1
    have hd : q8 (FP.dsub nx sx) (x_n σ - e.2.2.2) := q8_sub hn h3 h4.1 h4.2 (by omega)
    have eb : FP.dsub nx sx = bt (x_n σ - e.2.2.2) := q8_inj hd (bt_q (by omega) (by omega)) (by omega)
    have keep : ∀ M' : hM, (∀ p, p ≠ wk t → M' p = M1 p) → M' q = some (.inr (1, [.int e.1, .double kx, .double sx])) := fun M' hM' => by rw [hM' q hqw]; exact h1
    obtain ⟨fs, hfs, hlen, _⟩ := wv_c (k := 4) (fld := 3) (x := 1) (K := fun _ => True) g1 (by decide) ht (fun _ _ => trivial)
    unfold wp_Wo_receive
    have g2 : ∀ M2, M2 = va_up M1 (wk t) (some (.inr (2, fs.set 3 (.int 1)))) → RC G ca h wa ka wk ch li kf M2 (s_v (s_i σ c l) 4 t 1) := fun M2 e2 => by
      obtain ⟨fs', hfs', _, hk⟩ := wv_c (k := 4) (fld := 3) (x := 1) (K := fun M' => RC G ca h wa ka wk ch li kf M' (s_v (s_i σ c l) 4 t 1)) g1 (by decide) ht (fun _ k => k)
      rw [hfs] at hfs'
      cases hfs'
      rw [e2]; exact hk
    have g2 := g2 _ rfl
    refine ⟨fs, hfs, hlen, ?_⟩
    obtain ⟨fs3, hfs3, hlen3, g3⟩ := wv_c (k := 5) (fld := 4) (x := e.1) (K := fun M' => RC G ca h wa ka wk ch li kf M' (s_v (s_v (s_i σ c l) 4 t 1) 5 t e.1)) g2 (by decide) ht (fun _ k => k)
    refine ⟨fs3, hfs3, hlen3, ?_⟩
    have hq3 := keep (va_up (va_up M1 (wk t) (some (.inr (2, fs.set 3 (.int 1))))) (wk t) (some (.inr (2, fs3.set 4 (.int e.1))))) (fun p hp => by rw [va_up_ne _ _ hp, va_up_ne _ _ hp])
    refine ⟨_, _, hq3, rfl, e8_nn hd.1, ?_⟩
    rw [eb]
    exact ch_stay g3 hc hm (hi.2.2.2.2.1 c hc) (bt_q (by omega) (by omega) : q8 (bt (x_n σ - e.2.2.2)) (x_n σ - e.2.2.2)).1 hp
/-- an item is laid -/
theorem ch_put_9 (g : RC G ca h wa ka wk ch li kf M σ) (hi : IV σ N) {c : Nat} (hc : c < 8) (hm : ¬ x_v σ 13 c < 0) (hl : (x_i σ c).length < 16) {v : Int32} {r d : Int} {kx nx : UInt64} (hk : kO (x_v σ 13 c) r d kx) (hn : q8 nx (x_n σ)) {post : hM → Prop} : ∀ (n : Nat), n ≤ (x_i σ c).length →
    (∀ M', RC G ca h wa ka wk ch li kf M' (s_i σ c ((x_i σ c).take (pos (kp (x_v σ 13 c) r d) (x_i σ c) n) ++ (v, r, d, x_n σ) :: (x_i σ c).drop (pos (kp (x_v σ 13 c) r d) (x_i σ c) n))) → post M') → wp_Ch_put_9 G ca post (n + 1) M (ch c) v kx nx (Int32.ofNat n)
  | 0, _, hp => ⟨fun _ => it_add g hc hm hl (Nat.zero_le _) hk hn hp, fun e => absurd (by decide) e⟩
  | n + 1, hle, hp => by
    have hnl : n < (x_i σ c).length := by omega
    have hget := List.getElem?_eq_getElem hnl
    rw [pos, hget] at hp
    dsimp only at hp
    generalize (x_i σ c)[n] = e at hget hp
    refine ⟨fun k => absurd ((i_le (a := n + 1) (b := 0) (by omega) (by decide)).mp k) (by omega), fun _ => ?_⟩
    rw [i_pred (by omega), Nat.add_sub_cancel]
    refine it_get g hc hm hget fun q ⟨ex, sx, h1, h2, h3⟩ => ⟨_, _, rfl, h1, _, _, h1, rfl, fun hcp => ?_, fun hcp => ?_⟩
    · rw [kO_cmp h2 hk] at hcp
      rw [if_neg hcp] at hp
      exact it_add g hc hm hl hle hk hn hp
    · rw [kO_cmp h2 hk] at hcp
      rw [if_pos (Classical.byContradiction hcp)] at hp
      rw [i_down (by omega), Nat.add_sub_cancel]
      exact ch_put_9 g hi hc hm hl hk hn n (by omega) hp
theorem ch_put (g : RC G ca h wa ka wk ch li kf M σ) (hi : IV σ N) {c : Nat} (hc : c < 8) (hm : ¬ x_v σ 13 c < 0) (hl : (x_i σ c).length < 16) {v : Int32} {r d : Int} {kx nx : UInt64} (hk : kO (x_v σ 13 c) r d kx) (hn : q8 nx (x_n σ)) {post : hM → Prop} (hp : ∀ M', RC G ca h wa ka wk ch li kf M' (o_lay σ c v r d) → post M') : rC M (ch c) 0 (wp_Ch_put G ca post M (ch c) v kx nx) :=
  rc_c g hc hm (it_size g hc hm ⟨_, ch_put_9 g hi hc hm hl hk hn _ (Nat.le_refl _) hp⟩)
end

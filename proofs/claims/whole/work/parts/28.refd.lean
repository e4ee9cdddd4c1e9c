/-! THE REFERENCE'S METHODS: takeFirst, serve, leave. -/
section
variable {G ca ma : Nat → Nat} {mo : Nat} {fl : Int32} {σ : St} {N : Int}
theorem m_tf_41 {c : Nat} (hc : c < 8) {tx : UInt64} {post : hM → Prop} : ∀ (d j : Nat) (M : hM) (fI : Nat → Nat → Int32) (fD : Nat → Nat → UInt64), RM ca ma mo M fI fD fl tx → fI 23 c = Int32.ofNat (j + d) → j + d < 16 →
    (∀ M' fI' fD', mvI (fun f => shD f (16 * c + j) d) fI fI' → mvD (fun f => shD f (16 * c + j) d) fD fD' → RM ca ma mo M' fI' fD' fl tx → post M') →
    wp_Mo_takeFirst_41 G ca post (d + 1) M mo (Int32.ofNat c) (Int32.ofNat j) := by
  intro d
  induction d with
  | zero =>
    intro j M fI fD h h23 hd hp
    unfold wp_Mo_takeFirst_41
    refine gr_m h rfl (nn_s (ai_m h rfl rfl rfl rfl hc ?_))
    rw [h23]
    refine ⟨fun _ => ?_, fun hn => absurd ((i_le (by omega) (by omega)).mpr (by omega)) hn⟩
    exact hp M fI fD ⟨fun _ _ => rfl, (shD_0 _ _).symm⟩ ⟨fun _ _ _ _ => rfl, (shD_0 _ _).symm, (shD_0 _ _).symm, (shD_0 _ _).symm⟩ h
  | succ d ih =>
    intro j M fI fD h h23 hd hp
    unfold wp_Mo_takeFirst_41
    refine gr_m h rfl (nn_s (ai_m h rfl rfl rfl rfl hc ?_))
    rw [h23]
    refine ⟨fun hn => absurd ((i_le (by omega) (by omega)).mp hn) (by omega), fun _ => rc_m h ?_⟩
    rw [i_xvi, i_add, i_succ, i_succ]
    refine m_move h (by omega) (by omega) fun M1 h1 => ?_
    refine ih (j + 1) M1 _ _ h1 (by rw [u2_n _ _ _ (by decide), h23]; congr 1; omega) (by omega) fun M' fI' fD' m1 m2 hr => hp M' fI' fD' ?_ ?_ hr
    · exact mvI_1 _ fI _ _ _ (shD_s fI 19 (16 * c + j) d) m1
    · exact mvD_1 _ fD _ _ _ (fun k => shD_s fD k (16 * c + j) d) m2
theorem m_takeFirst {t c : Nat} (ht : t < 6) (hc : c < 8) {M : hM} (h : RR ca ma mo M σ fl) (hi : IV σ N) {e : It} {l : List It} (hx : x_i σ c = e :: l) {post : hM → Prop}
    (hp : ∀ M', RR ca ma mo M' (o_tf σ t c) fl → post M') : wp_Mo_takeFirst G ca post M mo (Int32.ofNat t) (Int32.ofNat c) := by
  rw [tf_cons hx] at hp
  have hrr := h
  obtain ⟨fI, fD, tx, h, hs⟩ := h
  have hl := IV_it hi hc
  have s5 := hs.2.2.2.2.1 c hc
  have g := s5.2 0 e (by rw [hx]; rfl)
  rw [Nat.add_zero] at g
  have h4 := hi.2.2.2.1 c hc e (by rw [hx]; simp)
  have h6 := hi.2.2.2.2.2
  have hd := q8_sub hs.2.2.2.2.2.2 g.2.2.2 h4.1 h4.2 (by omega)
  unfold wp_Mo_takeFirst
  rw [i_xvi]
  refine gr_m h rfl (nn_s (ai_m h rfl rfl rfl rfl (by dsimp [mN]; omega) (gd_m h (gr_m h rfl (nn_s (ad_m h rfl rfl rfl (by dsimp [mN]; omega) ⟨e8_nn hd.1, rc_m h ?_⟩))))))
  rw [g.1]
  refine m_obtain hrr hi ht hc hd (by omega) (by omega) fun M1 hr1 => ?_
  obtain ⟨fI, fD, tx, h, hs⟩ := hr1
  have s5 := hs.2.2.2.2.1 c hc
  refine gr_m h rfl (nn_s (ai_m h rfl rfl rfl rfl hc ?_))
  rw [s5.1]
  have hlen : (x_i (o_obt σ t c e.1 (x_n σ - e.2.2.2)) c).length = l.length + 1 := by
    show (x_i σ c).length = _
    rw [hx]; rfl
  rw [hlen, i_pred (by omega)]
  rw [hx] at hl
  simp at hl
  refine si_m h rfl rfl rfl rfl hc fun M2 h2 => ⟨_, m_tf_41 hc l.length 0 M2 _ _ h2 (by rw [u2_s]; congr 1; omega) (by omega) fun M' fI' fD' m1 m2 hr => hp M' ⟨_, _, _, hr, ?_⟩⟩
  rw [Nat.add_zero] at m1 m2
  obtain ⟨s1, s2, s3, s4, s5, s6, s7⟩ := hs
  have a : ∀ k, k ≠ 19 → k ≠ 23 → fI' k = fI k := fun k h1 h2 => by rw [m1.1 k h1, u2_n _ _ _ h2]
  refine ⟨?_, ?_, ?_, ?_, ?_, ?_, s7⟩
  · intro j hj
    rw [a j (by intro e; subst e; exact absurd hj (by decide)) (by intro e; subst e; exact absurd hj (by decide))]
    exact s1 j hj
  · intro j hj
    rw [m2.1 j (by intro e; subst e; exact absurd hj (by decide)) (by intro e; subst e; exact absurd hj (by decide)) (by intro e; subst e; exact absurd hj (by decide))]
    exact s2 j hj
  · intro t ht
    rw [a 6 (by decide) (by decide), a 1 (by decide) (by decide)]; exact s3 t ht
  · intro e he
    rw [a 17 (by decide) (by decide), a 18 (by decide) (by decide)]; exact s4 e he
  · intro k hk
    have hle : (x_i σ k).length ≤ 16 := IV_it hi hk
    have q := s5 k hk
    show _ = Int32.ofNat (va_up σ.2.2.2.2.1 c l k).length ∧ ∀ i u, (va_up σ.2.2.2.2.1 c l k)[i]? = some u → _
    rw [va_up_at, m1.1 23 (by decide), m1.2, m2.2.1, m2.2.2.1, m2.2.2.2, u2_n _ _ _ (by decide : (19 : Nat) ≠ 23)]
    by_cases ec : k = c
    · subst ec
      rw [if_pos rfl, u2_s]
      refine ⟨rfl, fun i u hiu => ?_⟩
      have hil := get_lt hiu
      have n2 : 16 * k ≤ 16 * k + i ∧ 16 * k + i < 16 * k + l.length := by omega
      unfold shD
      dsimp only
      rw [if_pos n2, if_pos n2, if_pos n2, if_pos n2]
      exact q.2 (i + 1) u (by show (x_i σ k)[i + 1]? = some u; rw [hx]; exact hiu)
    · rw [if_neg ec, u2_i _ _ _ ec]
      refine ⟨q.1, fun i u hiu => ?_⟩
      have hil : i < (x_i σ k).length := get_lt hiu
      have n2 : ¬ (16 * c ≤ 16 * k + i ∧ 16 * k + i < 16 * c + l.length) := by omega
      unfold shD
      dsimp only
      rw [if_neg n2, if_neg n2, if_neg n2, if_neg n2]
      exact q.2 i u hiu
  · rw [m2.1 24 (by decide) (by decide) (by decide)]; exact s6
/-- serving, as long as there is a step -/
theorem m_serve_25 {c : Nat} (hc : c < 8) {post : hM → Prop} : ∀ (n : Nat) (σ : St) (M : hM), RR ca ma mo M σ fl → IV σ N → (x_w σ c).length ≤ n → (∀ M', RR ca ma mo M' (o_serve n σ c) fl → post M') →
    wp_Mo_serve_25 G ca post (n + 2) M mo (Int32.ofNat c) 1 := by
  intro n
  induction n with
  | zero =>
    intro σ M hr hi hn hp
    have hw : x_w σ c = [] := List.length_eq_zero_iff.mp (by omega)
    have f0 : ∀ r, fw σ c r = none := fun r => by unfold fw; rw [hw]; rfl
    have hrr := hr
    obtain ⟨fI, fD, tx, h, hs⟩ := hr
    have s13 := hs.1 13 (by decide)
    unfold wp_Mo_serve_25
    refine ⟨fun e => absurd e (by decide), fun _ => rc_m h (m_first h hs hi hc (rc_m h (m_first h hs hi hc ?_)))⟩
    rw [f0, f0]
    have h174 : wp_Mo_serve_174 G ca post (wp_Mo_serve_25 G ca post 1) M mo (Int32.ofNat c) := by
      unfold wp_Mo_serve_174 wp_Mo_serve_176 wp_Mo_serve_25
      exact ⟨fun _ => hp M hrr, fun e => absurd rfl e⟩
    have h74 : wp_Mo_serve_74 G ca post (wp_Mo_serve_25 G ca post 1) M mo (Int32.ofNat c) 1 (oi none) (oi none) := by
      unfold wp_Mo_serve_74
      refine ⟨fun _ => ?_, fun e => absurd (by decide) e⟩
      unfold wp_Mo_serve_125
      refine gr_m h rfl (nn_s (ai_m h rfl rfl rfl rfl hc ⟨fun _ => h174, fun _ => ⟨fun _ => h174, fun e => absurd (by decide) e⟩⟩))
    exact ⟨fun _ => h74, fun e => absurd (by decide) e⟩
  | succ n ih =>
    intro σ M hr hi hn hp
    have hrr := hr
    obtain ⟨fI, fD, tx, h, hs⟩ := hr
    have s13 := hs.1 13 (by decide)
    have s14 := hs.1 14 (by decide)
    have s8 := hs.1 8 (by decide)
    have hl := IV_it hi hc
    unfold wp_Mo_serve_25
    refine ⟨fun e => absurd e (by decide), fun _ => rc_m h (m_first h hs hi hc (rc_m h (m_first h hs hi hc ?_)))⟩
    have hgo : ∀ σ' M', o_step σ c = some σ' → RR ca ma mo M' σ' fl → wp_Mo_serve_176 G ca post (wp_Mo_serve_25 G ca post (n + 2)) M' mo (Int32.ofNat c) 1 := by
      intro σ' M' hst hr'
      have g := IV_step hi hc hst
      refine ih σ' M' hr' g.1 (by omega) ?_
      unfold o_serve at hp
      rw [hst] at hp
      exact hp
    have hstop : o_step σ c = none → wp_Mo_serve_174 G ca post (wp_Mo_serve_25 G ca post (n + 2)) M mo (Int32.ofNat c) := by
      intro hst
      unfold o_serve at hp
      rw [hst] at hp
      unfold wp_Mo_serve_174 wp_Mo_serve_176 wp_Mo_serve_25
      exact ⟨fun _ => hp M hrr, fun e => absurd rfl e⟩
    have h125 : (∀ t, fw σ c 1 = some t → rdy σ c = false) → (∀ g, fw σ c 0 = some g → o_fits σ c = false) → wp_Mo_serve_125 G ca post (wp_Mo_serve_25 G ca post (n + 2)) M mo (Int32.ofNat c) 1 (oi (fw σ c 0)) (oi (fw σ c 1)) := by
      intro hr hf
      unfold wp_Mo_serve_125
      refine gr_m h rfl (nn_s (ai_m h rfl rfl rfl rfl hc ?_))
      rw [s13]
      cases hg : fw σ c 0 with
      | none =>
        have hst : o_step σ c = none := by
          unfold o_step; rw [hg]
          cases ht : fw σ c 1 with
          | none => rfl
          | some t => dsimp only; rw [hr t ht]; rfl
        exact ⟨fun _ => hstop hst, fun _ => ⟨fun _ => hstop hst, fun e => absurd (by decide) e⟩⟩
      | some g =>
        have gm := fw_some hg
        have g6 := ((hi.2.1 c hc).2 g gm.1).1
        have hfg := hf g hg
        cases ht : fw σ c 1 with
        | none =>
          have hst : o_step σ c = none := by unfold o_step; rw [hg, ht]; dsimp only; rw [hfg]; rfl
          exact ⟨fun _ => hstop hst, fun _ => ⟨fun _ => hstop hst, fun _ => ⟨fun _ => hstop hst, fun e => absurd (by decide) e⟩⟩⟩
        | some t =>
          have tm := fw_some ht
          have t6 := ((hi.2.1 c hc).2 t tm.1).1
          have hrt := hr t ht
          refine ⟨fun hk => hstop ?_, fun hk => ⟨fun e => absurd e (i_nn (by omega)), fun _ => ⟨fun e => absurd e (i_nn (by omega)), fun _ => ?_⟩⟩⟩
          · unfold o_step; rw [hg, ht]; dsimp only; rw [hfg, hrt]; simp [hk]
          · have hst : o_step σ c = some (o_free (o_free (o_obt σ t c (x_v σ 8 g) 0) c t 1) c g 1) := by
              unfold o_step; rw [hg, ht]; dsimp only; rw [hfg, hrt]; simp [hk]
            refine gr_m h rfl (nn_s (ai_m h rfl rfl rfl rfl g6 (rc_m h ?_)))
            rw [s8]
            have i1 := IV_obt hi t hc (x_v σ 8 g) (d := 0) (by decide) (by decide)
            have i2 := IV_free i1 hc (t := t) tm.1 1
            have hne := fw_ne ht hg
            refine m_obtain hrr hi t6 hc q8_0 (by decide) (by decide) fun M1 r1 => ?_
            have r1c := r1
            obtain ⟨_, _, _, r1h, _⟩ := r1
            refine rc_m r1h (m_free hc r1c i1 tm.1 fun M2 r2 => ?_)
            have r2c := r2
            obtain ⟨_, _, _, r2h, _⟩ := r2
            refine rc_m r2h (m_free hc r2c i2 ?_ fun M3 r3 => hgo _ M3 hst r3)
            rw [w_free, w_obt]
            exact (List.Nodup.mem_erase_iff (hi.2.1 c hc).1).mpr ⟨fun e => hne e.symm, gm.1⟩
    have h74 : (∀ t, fw σ c 1 = some t → rdy σ c = false) → wp_Mo_serve_74 G ca post (wp_Mo_serve_25 G ca post (n + 2)) M mo (Int32.ofNat c) 1 (oi (fw σ c 0)) (oi (fw σ c 1)) := by
      intro hr
      unfold wp_Mo_serve_74
      cases hg : fw σ c 0 with
      | none =>
        refine ⟨fun _ => ?_, fun e => absurd (by decide) e⟩
        have := h125 hr (fun g hg2 => by rw [hg] at hg2; cases hg2)
        rw [hg] at this; exact this
      | some g =>
        have gm := fw_some hg
        have g6 := ((hi.2.1 c hc).2 g gm.1).1
        refine ⟨fun e => absurd e (i_nn (by omega)), fun _ => ?_⟩
        refine gr_m h rfl (nn_s (ai_m h rfl rfl rfl rfl hc (gr_m h rfl (nn_s (ai_m h rfl rfl rfl rfl hc ?_)))))
        rw [(hs.2.2.2.2.1 c hc).1, s14]
        refine ⟨fun hle => ?_, fun hgt => ?_⟩
        · have := h125 hr (fun g' _ => by unfold o_fits; exact decide_eq_false (Int32.not_lt.mpr hle))
          rw [hg] at this; exact this
        · have hft : o_fits σ c = true := by unfold o_fits; exact decide_eq_true (Int32.not_le.mp hgt)
          have k := role_kind hi hc hg (by decide)
          have hfl := fits_lt hi hc k.2.1 k.2.2 hft
          have hl16 : (x_i σ c).length < 16 := by
            rcases hfl with ⟨_, b, _⟩ | ⟨kn, R, _, _, _, d, _, _, e⟩ <;> omega
          refine gr_m h rfl (nn_s (ai_m h rfl rfl rfl rfl g6 (gr_m h rfl (nn_s (ad_m h rfl rfl rfl g6 (gr_m h rfl (nn_s (ad_m h rfl rfl rfl g6 (rc_m h ?_)))))))))
          rw [s8]
          have hst : o_step σ c = some (o_free (o_lay σ c (x_v σ 8 g) (x_e σ 9 g) (x_e σ 10 g)) c g 1) := by
            unfold o_step; rw [hg]
            cases ht : fw σ c 1 with
            | none => dsimp only; rw [hft]; rfl
            | some t => dsimp only; rw [hr t ht, hft]; rfl
          refine m_lay hc (hs.2.1 9 (by decide) g g6) (hs.2.1 10 (by decide) g g6) hrr hi hl16 fun M1 r1 => ?_
          have r1c := r1
          obtain ⟨_, _, _, r1h, _⟩ := r1
          exact rc_m r1h (m_free hc r1c (IV_lay hi hc k.2.1 k.2.2 hft _ _ _) gm.1 fun M3 r3 => hgo _ M3 hst r3)
    cases ht : fw σ c 1 with
    | none =>
      refine ⟨fun _ => ?_, fun e => absurd (by decide) e⟩
      have := h74 (fun t ht2 => by rw [ht] at ht2; cases ht2)
      rw [ht] at this; exact this
    | some t =>
      have tm := fw_some ht
      have t6 := ((hi.2.1 c hc).2 t tm.1).1
      refine ⟨fun e => absurd e (i_nn (by omega)), fun _ => rc_m h (m_ready hrr hi hc ?_)⟩
      rw [bi_0]
      refine ⟨fun hr => ?_, fun hr => ?_⟩
      · have := h74 (fun t _ => hr)
        rw [ht] at this; exact this
      · have hr : rdy σ c = true := by simpa using hr
        cases hx : x_i σ c with
        | nil => unfold rdy at hr; rw [hx] at hr; cases hr
        | cons e l =>
          have hst : o_step σ c = some (o_free (o_tf σ t c) c t 1) := by unfold o_step; rw [ht]; dsimp only; rw [hr]; rfl
          refine rc_m h (m_takeFirst t6 hc hrr hi hx fun M1 r1 => ?_)
          have r1c := r1
          obtain ⟨_, _, _, r1h, _⟩ := r1
          exact rc_m r1h (m_free hc r1c (IV_tf hi t hc) (by rw [w_tf]; exact tm.1) fun M3 r3 => hgo _ M3 hst r3)
theorem kd_c {σ : St} {N : Int} (hi : IV σ N) {c : Nat} (hc : c < 8) : x_v σ 13 c = -1 ∨ ∃ kn, kn ≤ 6 ∧ x_v σ 13 c = Int32.ofNat kn := by
  rcases hi.2.2.1 c hc with ⟨a, _⟩ | ⟨kn, R, a, b, _⟩
  · exact Or.inl a
  · exact Or.inr ⟨kn, b, a⟩
theorem m_serve {c : Nat} (hc : c < 8) {M : hM} (hr : RR ca ma mo M σ fl) (hi : IV σ N) {post : hM → Prop} (hp : ∀ M', RR ca ma mo M' (o_sv σ c) fl → post M') : wp_Mo_serve G ca post M mo (Int32.ofNat c) := by
  have hrr := hr
  obtain ⟨fI, fD, tx, h, hs⟩ := hr
  have s13 := hs.1 13 (by decide)
  have h23 : o_sv σ c = σ → wp_Mo_serve_23 G ca post M mo (Int32.ofNat c) := fun e => by
    rw [e] at hp
    refine ⟨1, ?_⟩
    unfold wp_Mo_serve_25
    exact ⟨fun _ => hp M hrr, fun e => absurd rfl e⟩
  have h24 : wp_Mo_serve_24 G ca post M mo (Int32.ofNat c) 1 := ⟨_, m_serve_25 hc 6 σ M hrr hi (IV_len hi hc) hp⟩
  refine gr_m h rfl (nn_s (ai_m h rfl rfl rfl rfl hc ?_))
  rw [s13]
  refine ⟨fun hk => h23 (sv_56 hi hc (Or.inr (Or.inr ?_))), fun _ => gr_m h rfl (nn_s (ai_m h rfl rfl rfl rfl hc ?_))⟩
  · rcases kd_c hi hc with e | ⟨kn, k6, e⟩
    · exact e
    · rw [e] at hk; exact absurd hk (i_nn (by omega))
  · rw [s13]
    refine ⟨fun hk => h23 (sv_56 hi hc ?_), fun _ => h24⟩
    rcases kd_c hi hc with e | ⟨kn, k6, e⟩
    · exact Or.inr (Or.inr e)
    · rw [e] at hk ⊢
      have := (i_le (a := 5) (by omega) (by omega)).mp hk
      have : kn = 5 ∨ kn = 6 := by omega
      rcases this with rfl | rfl
      · exact Or.inl rfl
      · exact Or.inr (Or.inl rfl)
theorem v_free (σ : St) (c t : Nat) (w : Int32) {k : Nat} (hk : k ≠ 3) : x_v (o_free σ c t w) k = x_v σ k := by
  show u2 σ.1 3 t w k = σ.1 k
  exact u2_n _ _ _ hk
theorem m_leave {t : Nat} (ht : t < 6) {w : Int32} {M : hM} (hr : RR ca ma mo M σ fl) (hi : IV σ N) (hb : x_p σ t ≠ none) {post : hM → Prop} (hp : ∀ M', RR ca ma mo M' (o_leave σ t w) fl → post M') : wp_Mo_leave G ca post M mo (Int32.ofNat t) w := by
  cases hpl : x_p σ t with
  | none => exact absurd hpl hb
  | some c =>
    have g := (hi.1 t ht).2 c hpl
    unfold o_leave at hp
    rw [hpl] at hp
    dsimp only at hp
    have hrr := hr
    obtain ⟨fI, fD, tx, h, hs⟩ := hr
    refine gr_m h rfl (nn_s (ai_m h rfl rfl rfl rfl ht (rc_m h ?_)))
    rw [(hs.2.2.1 t ht).1, hpl, oi_s]
    refine m_free g.1 hrr hi g.2 fun M1 r1 => ?_
    have i1 := IV_free hi g.1 g.2 w
    have r1c := r1
    obtain ⟨fI, fD, tx, h, hs⟩ := r1
    have s13 := hs.1 13 (by decide)
    refine gr_m h rfl (nn_s (ai_m h rfl rfl rfl rfl g.1 ?_))
    rw [s13, v_free _ _ _ _ (by decide)]
    refine ⟨fun hk => rc_m h (m_serve g.1 r1c i1 ?_), fun hk => gr_m h rfl (nn_s ⟨Or.inr rfl, si_m h rfl rfl rfl rfl g.1 fun M2 h2 => rc_m h2 ?_⟩)⟩
    · rw [if_neg hk] at hp; exact hp
    · rw [if_pos hk] at hp
      have i2 := IV_v i1 (k := 15) (by decide) c 1
      refine m_freeAll g.1 ⟨_, _, _, h2, RS_v hs (k := 15) (by decide) c 1⟩ i2 fun M3 r3 => ?_
      have r3c := r3
      obtain ⟨_, _, _, r3h, _⟩ := r3
      exact rc_m r3h (m_serve g.1 r3c (IV_all i2 g.1 4) hp)
end

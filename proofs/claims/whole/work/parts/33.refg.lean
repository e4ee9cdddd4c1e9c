/-! THE REFERENCE'S tick. -/
theorem mb_s {b v : Int} (h : v < 0) : mb b v = b := by unfold mb; rw [if_pos h]
theorem mb_t {b v : Int} (h : ¬ v < 0) (g : b < 0 ∨ v < b) : mb b v = v := by unfold mb; rw [if_neg h, if_pos g]
theorem mb_k {b v : Int} (h : ¬ b < 0) (g : ¬ v < b) : mb b v = b := by
  unfold mb
  split
  · rfl
  · rw [if_neg (fun e => e.elim h g)]
theorem cand_t {σ : St} {t : Nat} (ht : t < 6) : cand σ t = if x_p σ t = none then -8 else x_e σ 11 t := by unfold cand; rw [if_pos ht]
theorem cand_c {σ : St} {c : Nat} : cand σ (6 + c) = dm σ c := by unfold cand; rw [if_neg (by omega), Nat.add_sub_cancel_left]
section
variable {G ca ma : Nat → Nat} {mo : Nat} {fl : Int32} {σ : St} {N : Int}
theorem du_r {M : hM} {c : Nat} {K : UInt64 → Prop} (h : RR ca ma mo M σ fl) (hc : c < 8) {e : It} {l : List It} (hx : x_i σ c = e :: l) (hK : ∀ x, q8 x e.2.2.1 → K x) : gR M mo 5 21 fun v => nN v fun b => aD M b (ca 4) (16 * Int32.ofNat c) K := by
  obtain ⟨fI, fD, tx, h, hs⟩ := h
  rw [i_xvi]
  refine gr_m h rfl (nn_s (ad_m h rfl rfl rfl (by dsimp [mN]; omega) (hK _ ?_)))
  have := ((hs.2.2.2.2.1 c hc).2 0 e (by rw [hx]; rfl)).2.2.1
  exact this
theorem en_r {M : hM} {t : Nat} {K : UInt64 → Prop} (h : RR ca ma mo M σ fl) (ht : t < 6) (hK : ∀ x, q8 x (x_e σ 11 t) → K x) : gR M mo 5 11 fun v => nN v fun b => aD M b (ca 4) (Int32.ofNat t) K := by
  obtain ⟨fI, fD, tx, h, hs⟩ := h
  exact gr_m h rfl (nn_s (ad_m h rfl rfl rfl ht (hK _ (hs.2.1 11 (by decide) t ht))))
theorem m_cm_64 {M : hM} (h : RR ca ma mo M σ fl) (hi : IV σ N) {post : UInt64 → hM → Prop} (hp : ∀ b, q8 b (com σ 14) → post b M) : ∀ (d j : Nat), j + d = 8 → ∀ bx, q8 bx (com σ (6 + j)) → wp_Mo_coming_64 G ca post (d + 1) M mo bx (Int32.ofNat j)
  | 0, j, e, bx, hb => by
    have : j = 8 := by omega
    subst this
    exact ⟨fun _ => hp bx hb, fun e => absurd (show (8 : Int32) ≤ Int32.ofNat 8 by decide) e⟩
  | d + 1, j, e, bx, hb => by
    have hj : j < 8 := by omega
    have hl := IV_it hi hj
    have ec : com σ (6 + (j + 1)) = mb (com σ (6 + j)) (dm σ j) := by rw [← cand_c]; rfl
    have ih := m_cm_64 h hi hp d (j + 1) (by omega)
    rw [ec, ← i_succ] at ih
    have skip : dm σ j < 0 → wp_Mo_coming_119 G ca post (wp_Mo_coming_64 G ca post (d + 1)) M mo bx (Int32.ofNat j) := fun hd => by
      refine ⟨fun _ => ih bx ?_, fun e => absurd rfl e⟩
      rw [mb_s hd]; exact hb
    refine ⟨fun g => absurd ((i_le (a := 8) (b := j) (by decide) (by omega)).mp g) (by omega), fun _ => rv_r h (by decide) rfl rfl hj ⟨fun hk => skip ?_, fun hk => il_r h hj ⟨fun hn => skip ?_, fun hn => ?_⟩⟩⟩
    · unfold dm
      split
      · decide
      · rw [if_neg (fun e => hk e.1)]; decide
    · have hn := (i_le (a := (x_i σ j).length) (b := 0) (by omega) (by decide)).mp hn
      have hx : x_i σ j = [] := List.length_eq_zero_iff.mp (by omega)
      unfold dm; rw [hx]; show (-8 : Int) < 0; decide
    · cases hx : x_i σ j with
      | nil => rw [hx] at hn; exact absurd (by decide) hn
      | cons it l =>
        refine first_r h hi hj ⟨fun hf => skip ?_, fun hf => du_r h hj hx fun dx hdx => tm_r h fun nx hnx => ⟨fun hle => skip ?_, fun hle => ?_⟩⟩
        · have := (oi_lt (fw_6 hi hj)).mp hf
          unfold dm; rw [hx]; dsimp only
          rw [if_neg (fun e => by rw [this] at e; exact absurd e.2.1 (by decide))]; decide
        · rw [e_le hdx.1 hnx.1] at hle
          unfold dm; rw [hx]; dsimp only
          rw [if_neg (fun e => by omega)]; decide
        · rw [e_le hdx.1 hnx.1] at hle
          have hsome := (oi_ge (fw_6 hi hj)).mp (Int32.not_lt.mp hf)
          have hdm : dm σ j = it.2.2.1 := by
            unfold dm; rw [hx]; dsimp only
            rw [if_pos ⟨hk, hsome, by omega⟩]
          have h0 := hi.2.2.2.2.2.1
          have hnn : ¬ dm σ j < 0 := by rw [hdm]; omega
          have take : (com σ (6 + j) < 0 ∨ dm σ j < com σ (6 + j)) → wp_Mo_coming_147 G ca post (wp_Mo_coming_64 G ca post (d + 1)) M mo (Int32.ofNat j) := fun hlt =>
            du_r h hj hx fun dx hdx => ih dx (by rw [mb_t hnn hlt, hdm]; exact hdx)
          refine ⟨fun e => nx1 e, fun _ => ⟨fun hb0 => take (Or.inl ?_), fun hb0 => du_r h hj hx fun dx hdx => ⟨fun hge => ih bx ?_, fun hge => take (Or.inr ?_)⟩⟩⟩
          · rw [e_lt hb.1 q8_0.1] at hb0; exact hb0
          · rw [e_ge hdx.1 hb.1] at hge
            rw [e_lt hb.1 q8_0.1] at hb0
            rw [mb_k hb0 (by rw [hdm]; omega)]; exact hb
          · rw [e_ge hdx.1 hb.1] at hge
            rw [hdm]; omega
theorem m_cm_6 {M : hM} (h : RR ca ma mo M σ fl) {post : UInt64 → hM → Prop} (hp : ∀ bx, q8 bx (com σ 6) → ∃ n, wp_Mo_coming_64 G ca post n M mo bx 0) : ∀ (d j : Nat), j + d = 6 → ∀ bx, q8 bx (com σ j) → wp_Mo_coming_6 G ca post (d + 1) M mo bx (Int32.ofNat j)
  | 0, j, e, bx, hb => by
    have : j = 6 := by omega
    subst this
    exact ⟨fun _ => hp bx hb, fun e => absurd (show (6 : Int32) ≤ Int32.ofNat 6 by decide) e⟩
  | d + 1, j, e, bx, hb => by
    have hj : j < 6 := by omega
    have ec : com σ (j + 1) = mb (com σ j) (cand σ j) := rfl
    have ih := m_cm_6 h hp d (j + 1) (by omega)
    rw [ec, ← i_succ] at ih
    have skip : cand σ j < 0 → wp_Mo_coming_56 G ca post (wp_Mo_coming_6 G ca post (d + 1)) M mo bx (Int32.ofNat j) := fun hd => ih bx (by rw [mb_s hd]; exact hb)
    refine ⟨fun g => absurd ((i_le (a := 6) (b := j) (by decide) (by omega)).mp g) (by omega), fun _ => pl_r h hj ⟨fun hk => skip ?_, fun hk => en_r h hj fun x hx => ⟨fun hn => skip ?_, fun hn => ?_⟩⟩⟩
    · rw [cand_t hj]
      cases hq : x_p σ j with
      | none => rw [if_pos rfl]; decide
      | some q => rw [hq] at hk; exact nx1 hk
    · rw [e_lt hx.1 q8_0.1] at hn
      rw [cand_t hj]
      split <;> omega
    · rw [e_lt hx.1 q8_0.1] at hn
      have hc : cand σ j = x_e σ 11 j := by
        rw [cand_t hj, if_neg]
        intro e; rw [e] at hk; exact hk rfl
      have take : (com σ j < 0 ∨ cand σ j < com σ j) → wp_Mo_coming_49 G ca post (wp_Mo_coming_6 G ca post (d + 1)) M mo (Int32.ofNat j) := fun hlt =>
        en_r h hj fun x hx => ih x (by rw [mb_t (by rw [hc]; exact hn) hlt, hc]; exact hx)
      refine ⟨fun hb0 => take (Or.inl ?_), fun hb0 => en_r h hj fun x hx => ⟨fun hge => ih bx ?_, fun hge => take (Or.inr ?_)⟩⟩
      · rw [e_lt hb.1 q8_0.1] at hb0; exact hb0
      · rw [e_ge hx.1 hb.1] at hge
        rw [e_lt hb.1 q8_0.1] at hb0
        rw [mb_k hb0 (by rw [hc]; omega)]; exact hb
      · rw [e_ge hx.1 hb.1] at hge
        rw [hc]; omega
theorem m_coming {M : hM} (h : RR ca ma mo M σ fl) (hi : IV σ N) {post : UInt64 → hM → Prop} (hp : ∀ b, q8 b (com σ 14) → post b M) : rC M mo 5 (wp_Mo_coming G ca post M mo) :=
  rc_r h ⟨7, m_cm_6 h (fun bx hb => ⟨9, m_cm_64 h hi hp 8 0 rfl bx hb⟩) 6 0 rfl _ q8_m1⟩
theorem m_tk_107 {gx : UInt64} {k0 : Int32} {post : Int32 → hM → Prop} {k25 : hM → Nat → UInt64 → Int32 → UInt64 → Prop} (hi : IV σ N) (hp : ∀ M' b, RR ca ma mo M' (o_el 6 σ).1 fl → q8 b (com (o_el 6 σ).1 14) → k25 M' mo gx (k0 + (o_el 6 σ).2) b) :
    ∀ (d j : Nat) (M : hM), j + d = 6 → RR ca ma mo M (o_el j σ).1 fl → wp_Mo_tick_107 G ca post k25 (d + 1) M mo gx (k0 + (o_el j σ).2) (Int32.ofNat j)
  | 0, j, M, e, h => by
    have : j = 6 := by omega
    subst this
    exact ⟨fun _ => m_coming h (IV_el hi 6 (by decide)) fun b hb => hp M b h hb, fun e => absurd (show (6 : Int32) ≤ Int32.ofNat 6 by decide) e⟩
  | d + 1, j, M, e, h => by
    have hj : j < 6 := by omega
    have hi1 := IV_el hi j (by omega)
    have ih := m_tk_107 (k0 := k0) (gx := gx) (post := post) hi hp d (j + 1)
    have skip : ¬ o_lt (o_el j σ).1 j → wp_Mo_tick_161 G ca post k25 (wp_Mo_tick_107 G ca post k25 (d + 1)) M mo gx (k0 + (o_el j σ).2) (Int32.ofNat j) := fun hn => by
      have := ih M (by omega)
      rw [o_el, if_neg hn, ← i_succ] at this
      exact this h
    refine ⟨fun g => absurd ((i_le (a := 6) (b := j) (by decide) (by omega)).mp g) (by omega), fun _ => pl_r h hj ⟨fun hk => skip fun e => ?_, fun hk => en_r h hj fun x hx => ⟨fun hn => skip fun e => ?_, fun hn => en_r h hj fun x2 hx2 => tm_r h fun nx hnx => ⟨fun hg => skip fun e => ?_, fun hg => ?_⟩⟩⟩⟩
    · cases hq : x_p (o_el j σ).1 j with
      | none => exact e.1 hq
      | some q => rw [hq] at hk; exact nx1 hk
    · rw [e_lt hx.1 q8_0.1] at hn
      have := e.2.1; omega
    · rw [e_gt hx2.1 hnx.1] at hg
      have := e.2.2; omega
    · rw [e_lt hx.1 q8_0.1] at hn
      rw [e_gt hx2.1 hnx.1] at hg
      have hb : x_p (o_el j σ).1 j ≠ none := fun e => by rw [e] at hk; exact hk rfl
      have hl : o_lt (o_el j σ).1 j := ⟨hb, by omega, by omega⟩
      refine rc_r h (m_leave hj h hi1 hb fun M1 h1 => ?_)
      have := ih M1 (by omega)
      rw [o_el, if_pos hl, ← i_succ] at this
      dsimp only at this
      rw [← Int32.add_assoc] at this
      exact this h1
theorem m_tk_74 {gx : UInt64} {k0 : Int32} {post : Int32 → hM → Prop} {k25 : hM → Nat → UInt64 → Int32 → UInt64 → Prop} (hi : IV σ N) (hp : ∀ M', RR ca ma mo M' (o_sd 8 σ) fl → ∃ n, wp_Mo_tick_107 G ca post k25 n M' mo gx k0 0) :
    ∀ (d j : Nat) (M : hM), j + d = 8 → RR ca ma mo M (o_sd j σ) fl → wp_Mo_tick_74 G ca post k25 (d + 1) M mo gx k0 (Int32.ofNat j)
  | 0, j, M, e, h => by
    have : j = 8 := by omega
    subst this
    exact ⟨fun _ => hp M h, fun e => absurd (show (8 : Int32) ≤ Int32.ofNat 8 by decide) e⟩
  | d + 1, j, M, e, h => by
    have hj : j < 8 := by omega
    have hi1 := IV_sd hi j (by omega)
    have ih := m_tk_74 (k0 := k0) (gx := gx) (post := post) hi hp d (j + 1)
    refine ⟨fun g => absurd ((i_le (a := 8) (b := j) (by decide) (by omega)).mp g) (by omega), fun _ => rv_r h (by decide) rfl rfl hj ⟨fun hk => ?_, fun hk => rc_r h (m_serve hj h hi1 fun M1 h1 => ?_)⟩⟩
    · have := ih M (by omega)
      rw [o_sd, if_neg hk, ← i_succ] at this
      exact this h
    · have := ih M1 (by omega)
      rw [o_sd, if_pos hk, ← i_succ] at this
      exact this h1
theorem m_tk_s {gx : UInt64} {g : Int} (hg : q8 gx g) (hgN : g ≤ N) {post : Int32 → hM → Prop} (n : Nat)
    (ih : ∀ m, n = m + 1 → ∀ (σ : St) (k : Int32) (M : hM) (bx : UInt64), RR ca ma mo M σ fl → IV σ N → bl (x_p σ) 6 ≤ m → q8 bx (com σ 14) → (∀ M', RR ca ma mo M' (s_n (o_tk m g σ k).1 g) fl → post (o_tk m g σ k).2 M') → wp_Mo_tick_41 G ca post (m + 1) M mo gx k bx) (σ : St) (k : Int32) (M : hM) (bx : UInt64) (h : RR ca ma mo M σ fl) (hi : IV σ N) (hb : bl (x_p σ) 6 ≤ n) (hbx : q8 bx (com σ 14)) (hp : ∀ M', RR ca ma mo M' (s_n (o_tk n g σ k).1 g) fl → post (o_tk n g σ k).2 M') :
      wp_Mo_tick_41 G ca post (n + 1) M mo gx k bx := by
    have done : (com σ 14 < 0 ∨ g < com σ 14) → wp_Mo_tick_176 G ca post M mo gx k := fun hd => by
      have e : o_tk n g σ k = (σ, k) := by
        cases n with
        | zero => rfl
        | succ n => rw [o_tk, if_pos hd]
      rw [e] at hp
      obtain ⟨fI, fD, tx, h, hs⟩ := h
      exact pt_m h fun M' h' => hp M' ⟨_, _, _, h', hs.1, hs.2.1, hs.2.2.1, hs.2.2.2.1, hs.2.2.2.2.1, hs.2.2.2.2.2.1, hg⟩
    have go : ¬ (com σ 14 < 0 ∨ g < com σ 14) → ∀ M1, RR ca ma mo M1 (s_n σ (if com σ 14 ≤ x_n σ then x_n σ else com σ 14)) fl → wp_Mo_tick_71 G ca post (wp_Mo_tick_41 G ca post n) M1 mo gx k := fun hd M1 h1 => by
      have hlt := rd_lt hi (by omega)
      cases n with
      | zero => omega
      | succ n =>
        rw [o_tk, if_neg hd, rd_u] at hp
        rw [rd_u] at hlt
        have hi1 : IV (s_n σ (if com σ 14 ≤ x_n σ then x_n σ else com σ 14)) N := IV_n hi (by split <;> omega) (by have := hi.2.2.2.2.2; split <;> omega) hi.2.2.2.2.2.2.2
        generalize s_n σ (if com σ 14 ≤ x_n σ then x_n σ else com σ 14) = σ1 at h1 hi1 hp hlt
        refine ⟨9, m_tk_74 (k0 := k) hi1 (fun M2 h2 => ⟨7, ?_⟩) 8 0 M1 rfl h1⟩
        have hi2 := IV_sd hi1 8 (by decide)
        generalize o_sd 8 σ1 = σ2 at h2 hi2 hp hlt
        have hi3 := IV_el hi2 6 (by decide)
        have hk : k + (o_el 0 σ2).2 = k := Int32.add_zero k
        have h4 := m_tk_107 (G := G) (k0 := k) (gx := gx) (post := post) (k25 := wp_Mo_tick_41 G ca post (n + 1)) hi2 (fun M3 b h3 hb3 => ih n rfl (o_el 6 σ2).1 (k + (o_el 6 σ2).2) M3 b h3 hi3 (by omega) hb3 hp) 6 0 M2 rfl h2
        rw [hk] at h4
        exact h4
    refine ⟨fun h0 => done (Or.inl ?_), fun h0 => ⟨fun h1 => done (Or.inr ?_), fun h1 => ?_⟩⟩
    · rw [e_lt hbx.1 q8_0.1] at h0; exact h0
    · rw [e_gt hbx.1 hg.1] at h1; exact h1
    · rw [e_lt hbx.1 q8_0.1] at h0
      rw [e_gt hbx.1 hg.1] at h1
      have hd : ¬ (com σ 14 < 0 ∨ g < com σ 14) := by omega
      refine tm_r h fun nx hnx => ⟨fun hle => go hd M ?_, fun hle => ?_⟩
      · rw [e_le hbx.1 hnx.1] at hle
        rw [if_pos hle]; exact h
      · rw [e_le hbx.1 hnx.1] at hle
        obtain ⟨fI, fD, tx, h, hs⟩ := h
        refine pt_m h fun M' h' => go hd M' ⟨_, _, _, h', hs.1, hs.2.1, hs.2.2.1, hs.2.2.2.1, hs.2.2.2.2.1, hs.2.2.2.2.2.1, ?_⟩
        rw [if_neg hle]; exact hbx
theorem m_tk_41 {gx : UInt64} {g : Int} (hg : q8 gx g) (hgN : g ≤ N) {post : Int32 → hM → Prop} : ∀ (n : Nat), ∀ (σ : St) (k : Int32) (M : hM) (bx : UInt64), RR ca ma mo M σ fl → IV σ N → bl (x_p σ) 6 ≤ n → q8 bx (com σ 14) → (∀ M', RR ca ma mo M' (s_n (o_tk n g σ k).1 g) fl → post (o_tk n g σ k).2 M') → wp_Mo_tick_41 G ca post (n + 1) M mo gx k bx
  | 0 => m_tk_s hg hgN 0 (fun m e => absurd e (by omega))
  | n + 1 => m_tk_s hg hgN (n + 1) (fun m e => by
    have : n = m := by omega
    subst this
    exact m_tk_41 hg hgN n)
theorem m_tick {M : hM} (h : RR ca ma mo M σ fl) (hi : IV σ N) (hN : N + 8000 ≤ 4104000) {D : Int32} {dx : UInt64} (hdx : q8 dx D.toInt) {post : Int32 → hM → Prop}
    (hp : ∀ b M', RR ca ma mo M' (o_tick σ D).2.2 (o_tick σ D).1 → ((o_tick σ D).1 = 0 → b = (o_tick σ D).2.1) → post b M') : wp_Mo_tick G ca post M mo dx := by
  have hbad : (D.toInt < 0 ∨ 8000 < D.toInt) → ∀ M0, RR ca ma mo M0 σ 0 → wp_Mo_tick_19 G ca post M0 mo := fun e M0 h0 => by
    unfold o_tick at hp; rw [if_pos e] at hp
    exact m_fail h0 fun M' h' => hp 0 M' h' (fun e => nx1 e)
  refine pf_r h fun M0 h0 => ⟨fun h1 => hbad (Or.inl ?_) M0 h0, fun h1 => ⟨fun h2 => tm_r h0 fun nx hnx => ?_, fun h2 => hbad (Or.inr ?_) M0 h0⟩⟩
  · rw [e_lt hdx.1 q8_0.1] at h1; exact h1
  · rw [e_lt hdx.1 q8_0.1] at h1
    rw [e_le hdx.1 e8_1000] at h2
    unfold o_tick at hp; rw [if_neg (by omega)] at hp
    have h6 := hi.2.2.2.2.2
    have hgx : q8 (FP.dadd nx dx) (x_n σ + D.toInt) := q8_add hnx hdx h6.1 (by omega) (by omega)
    have hi2 : IV σ (N + 8000) := IV_N hi (by omega) hN
    exact ⟨e8_nn hgx.1, m_coming h0 hi2 fun b hb => ⟨7, m_tk_41 hgx (N := N + 8000) (by omega) 6 σ 0 M0 b h0 hi2 (bl_b _ 6) hb fun M' h' => hp _ M' h' (fun _ => rfl)⟩⟩
  · rw [e_le hdx.1 e8_1000] at h2; omega
end
/-! THE REFERENCE'S BEGINNING -/
def z3 (a b : Nat) : Nat → Nat → Int32 := fun k => if k = 3 ∨ k = 6 then (fun t => if t < a then -1 else 0) else if k = 13 then (fun c => if c < b then -1 else 0) else fun _ => 0
def d3 (a : Nat) : Nat → Nat → UInt64 := fun k => if k = 11 then (fun t => if t < a then 0xBFF0000000000000 else FP.dconst0) else fun _ => FP.dconst0
theorem z3_0 : (fun _ _ => 0 : Nat → Nat → Int32) = z3 0 0 := by
  funext k i
  unfold z3
  split
  · exact (if_neg (Nat.not_lt_zero i)).symm
  · split
    · exact (if_neg (Nat.not_lt_zero i)).symm
    · rfl
theorem d3_0 : (fun _ _ => FP.dconst0 : Nat → Nat → UInt64) = d3 0 := by
  funext k i
  unfold d3
  split
  · exact (if_neg (Nat.not_lt_zero i)).symm
  · rfl
theorem lts_ {α : Type} (j : Nat) (x y : α) (f : Nat → α) (hf : ∀ i, f i = if i < j then x else y) (i : Nat) : (if i = j then x else f i) = if i < j + 1 then x else y := by
  rw [hf i]
  by_cases h : i = j
  · rw [if_pos h, if_pos (by omega)]
  · rw [if_neg h]
    by_cases h2 : i < j
    · rw [if_pos h2, if_pos (by omega)]
    · rw [if_neg h2, if_neg (by omega)]
theorem z3_a (j b : Nat) : u2 (u2 (z3 j b) 3 j (-1)) 6 j (-1) = z3 (j + 1) b := by
  funext k i
  by_cases h6 : k = 6
  · subst h6
    rw [u2_k, u2_n _ _ _ (by decide : (6 : Nat) ≠ 3)]
    exact lts_ j (-1) 0 (z3 j b 6) (fun i => rfl) i
  · rw [u2_n _ _ _ h6]
    by_cases h3 : k = 3
    · subst h3
      rw [u2_k]
      exact lts_ j (-1) 0 (z3 j b 3) (fun i => rfl) i
    · rw [u2_n _ _ _ h3]
      unfold z3
      have hn : ¬ (k = 3 ∨ k = 6) := fun e => e.elim h3 h6
      rw [if_neg hn, if_neg hn]
theorem z3_b (a j : Nat) : u2 (z3 a j) 13 j (-1) = z3 a (j + 1) := by
  funext k i
  by_cases h : k = 13
  · subst h
    rw [u2_k]
    exact lts_ j (-1) 0 (z3 a j 13) (fun i => rfl) i
  · rw [u2_n _ _ _ h]
    unfold z3
    split
    · rfl
    · first | rfl | rw [if_neg h, if_neg h]
theorem d3_a (j : Nat) : u2 (d3 j) 11 j 0xBFF0000000000000 = d3 (j + 1) := by
  funext k i
  by_cases h : k = 11
  · subst h
    rw [u2_k]
    exact lts_ j 0xBFF0000000000000 FP.dconst0 (d3 j 11) (fun i => rfl) i
  · rw [u2_n _ _ _ h]
    unfold d3
    rw [if_neg h, if_neg h]
/-- the beginning -/
def o_0 : St := (z3 6 8, fun _ => none, fun k => if k = 11 then (fun _ => -8) else fun _ => 0, fun _ => FP.dconst0, fun _ => [], fun _ => [], 0)
theorem IV_0 : IV o_0 0 := by
  refine ⟨fun t ht => ⟨Or.inl rfl, fun c hc => by cases hc⟩, fun c hc => ⟨List.nodup_nil, fun t ht => by cases ht⟩, fun c hc => Or.inl ⟨?_, rfl, rfl⟩, fun c hc e he => (by cases he), fun c hc => ?_, Int.le_refl _, Int.le_refl _, by decide⟩
  · show (if c < 8 then (-1 : Int32) else 0) = -1
    rw [if_pos hc]
  · show FP.Core.dIsNaN FP.dconst0 = false
    decide +kernel
section
variable {G ca : Nat → Nat} {mo : Nat}
/-- the reference while it is built: the arrays of ks stand -/
def RB (ca ma : Nat → Nat) (mo : Nat) (M : hM) (ks : List Nat) (fs : List Value) : Prop :=
  M mo = some (.inr (5, fs)) ∧ fs.length = 26 ∧ fs[0]? = some (.int 0) ∧ fs[12]? = some (.double FP.dconst0) ∧ (∀ k, k ∈ ks → fs[k]? = some (.ref (ma k)) ∧ M (ma k) = some (mC ca (fun _ _ => 0) (fun _ _ => FP.dconst0) k)) ∧ ∀ k j, k ∈ ks → j ∈ ks → ma k = ma j → k = j
theorem rb_s {ma : Nat → Nat} {M : hM} {ks : List Nat} {fs : List Value} (h : RB ca ma mo M ks fs) {k : Nat} (hk : k < 26 ∧ k ≠ 0 ∧ k ≠ 12 ∧ k ∉ ks) {n : Int32} {B : Nat} {e : Nat → va_E} (hn : ¬ n < 0) (hB : n.toNatClampNeg ≤ B) (he : e n.toNatClampNeg = mC ca (fun _ _ => 0) (fun _ _ => FP.dconst0) k) {K : hM → Prop}
    (hK : ∀ ma' M' fs', RB ca ma' mo M' (k :: ks) fs' → K M') : nA M n B e fun q M' => pF M' mo 5 k (.ref q) K := by
  refine ⟨hn, hB, fun q hq => ?_⟩
  obtain ⟨h1, h2, h3, h4, h5, h6⟩ := h
  have hmq : mo ≠ q := fun e => by rw [e, hq] at h1; cases h1
  have hf : ∀ j, j ∈ ks → ma j ≠ q := fun j hj e => by have := (h5 j hj).2; rw [e, hq] at this; cases this
  have hjk : ∀ j, j ∈ ks → j ≠ k := fun j hj e => hk.2.2.2 (by rw [← e]; exact hj)
  have hfm : ∀ j, j ∈ ks → ma j ≠ mo := fun j hj e => by
    have := (h5 j hj).2
    rw [e, h1] at this
    unfold mC at this
    split at this <;> cases this
  refine ⟨fs, by rw [va_up_at, if_neg hmq]; exact h1, by omega, hK (va_up ma k q) _ (fs.set k (.ref q)) ⟨by rw [va_up_self], by rw [List.length_set]; exact h2, ?_, ?_, fun j hj => ?_, fun i j hi hj e => ?_⟩⟩
  · rw [List.getElem?_set_ne (by omega)]; exact h3
  · rw [List.getElem?_set_ne (by omega)]; exact h4
  · rcases List.mem_cons.mp hj with rfl | hj
    · refine ⟨by rw [va_up_self, List.getElem?_set_self (by omega)], ?_⟩
      rw [va_up_self, va_up_at, if_neg (fun e => hmq e.symm), va_up_self, he]
    · refine ⟨?_, ?_⟩
      · rw [va_up_at, if_neg (hjk j hj), List.getElem?_set_ne (fun e => hjk j hj e.symm)]; exact (h5 j hj).1
      · rw [va_up_at ma, if_neg (hjk j hj), va_up_at, if_neg (hfm j hj), va_up_at, if_neg (hf j hj)]; exact (h5 j hj).2
  · rw [va_up_at, va_up_at] at e
    rcases List.mem_cons.mp hi with ei | hi2 <;> rcases List.mem_cons.mp hj with ej | hj2
    · rw [ei, ej]
    · rw [if_pos ei, if_neg (hjk j hj2)] at e; exact absurd e.symm (hf j hj2)
    · rw [if_pos ej, if_neg (hjk i hi2)] at e; exact absurd e (hf i hi2)
    · rw [if_neg (hjk i hi2), if_neg (hjk j hj2)] at e; exact h6 i j hi2 hj2 e
theorem rb_e {ma : Nat → Nat} {M : hM} {fs : List Value} (h : RB ca ma mo M [25, 24, 23, 22, 21, 20, 19, 18, 17, 16, 15, 14, 13, 11, 10, 9, 8, 7, 6, 5, 4, 3, 2, 1] fs) : RM ca ma mo M (fun _ _ => 0) (fun _ _ => FP.dconst0) 0 FP.dconst0 := by
  obtain ⟨h1, h2, h3, h4, h5, h6⟩ := h
  have hin : ∀ k, mA k = true → k ∈ [25, 24, 23, 22, 21, 20, 19, 18, 17, 16, 15, 14, 13, 11, 10, 9, 8, 7, 6, 5, 4, 3, 2, 1] := fun k hk => by
    have h26 : k < 26 := by unfold mA at hk; simp at hk; omega
    have : ∀ k, k < 26 → mA k = true → k ∈ [25, 24, 23, 22, 21, 20, 19, 18, 17, 16, 15, 14, 13, 11, 10, 9, 8, 7, 6, 5, 4, 3, 2, 1] := by decide
    exact this k h26 hk
  refine ⟨?_, fun k hk => (h5 k (hin k hk)).2, fun k j hk hj => h6 k j (hin k hk) (hin j hj)⟩
  rw [h1]
  congr 3
  apply List.ext_getElem?
  intro i
  by_cases hi : i < 26
  · by_cases hm : mA i = true
    · rw [(h5 i (hin i hm)).1, mL_at ma 0 FP.dconst0 hm]; rfl
    · have : ∀ i, i < 26 → mA i ≠ true → i = 0 ∨ i = 12 := by decide
      rcases this i hi hm with rfl | rfl
      · rw [h3]; rfl
      · rw [h4]; rfl
  · rw [List.getElem?_eq_none (by omega), List.getElem?_eq_none (by show 26 ≤ i; omega)]
theorem m_in_239 {ma : Nat → Nat} {a : Nat} {fD : Nat → Nat → UInt64} {post : hM → Prop} (hp : ∀ M', RM ca ma mo M' (z3 a 8) fD 0 FP.dconst0 → post M') : ∀ (d j : Nat) (M : hM), j + d = 8 → RM ca ma mo M (z3 a j) fD 0 FP.dconst0 → wp_Mo_init_239 G ca post (d + 1) M mo (Int32.ofNat j)
  | 0, j, M, e, h => by
    have : j = 8 := by omega
    subst this
    exact ⟨fun _ => hp M h, fun e => absurd (show (8 : Int32) ≤ Int32.ofNat 8 by decide) e⟩
  | d + 1, j, M, e, h => by
    refine ⟨fun g => absurd ((i_le (a := 8) (b := j) (by decide) (by omega)).mp g) (by omega), fun _ => gr_m h rfl (nn_s (si_m h rfl rfl rfl rfl (by omega : j < 8) fun M1 h1 => ?_))⟩
    rw [z3_b] at h1
    rw [i_succ]
    exact m_in_239 hp d (j + 1) M1 (by omega) h1
theorem m_in_202 {ma : Nat → Nat} {post : hM → Prop} (hp : ∀ M', RM ca ma mo M' (z3 6 0) (d3 6) 0 FP.dconst0 → ∃ n, wp_Mo_init_239 G ca post n M' mo 0) : ∀ (d j : Nat) (M : hM), j + d = 6 → RM ca ma mo M (z3 j 0) (d3 j) 0 FP.dconst0 → wp_Mo_init_202 G ca post (d + 1) M mo (Int32.ofNat j)
  | 0, j, M, e, h => by
    have : j = 6 := by omega
    subst this
    exact ⟨fun _ => hp M h, fun e => absurd (show (6 : Int32) ≤ Int32.ofNat 6 by decide) e⟩
  | d + 1, j, M, e, h => by
    have hj : j < 6 := by omega
    refine ⟨fun g => absurd ((i_le (a := 6) (b := j) (by decide) (by omega)).mp g) (by omega), fun _ => gr_m h rfl (nn_s (si_m h rfl rfl rfl rfl hj fun M1 h1 => gr_m h1 rfl (nn_s (si_m h1 rfl rfl rfl rfl hj fun M2 h2 => gr_m h2 rfl (nn_s (sd_m h2 rfl rfl rfl hj fun M3 h3 => ?_))))))⟩
    rw [z3_a, d3_a] at h3
    rw [i_succ]
    exact m_in_202 hp d (j + 1) M3 (by omega) h3
theorem m_init {M : hM} {fs : List Value} (h : M mo = some (.inr (5, fs))) (h2 : fs.length = 26) (h3 : fs[0]? = some (.int 0)) (h4 : fs[12]? = some (.double FP.dconst0)) {post : hM → Prop} (hp : ∀ ma M', RR ca ma mo M' o_0 0 → post M') : wp_Mo_init G ca post M mo := by
  have h0 : RB ca (fun _ => 0) mo M [] fs := ⟨h, h2, h3, h4, fun k hk => (by cases hk), fun k j hk => (by cases hk)⟩
  unfold wp_Mo_init
  refine rb_s h0 (by decide) (by decide) (by decide) (by rfl) fun ma1 M1 fs1 h1 => rb_s h1 (by decide) (by decide) (by decide) (by rfl) fun ma2 M2 fs2 h2 => rb_s h2 (by decide) (by decide) (by decide) (by rfl) fun ma3 M3 fs3 h3 => rb_s h3 (by decide) (by decide) (by decide) (by rfl) fun ma4 M4 fs4 h4 => ?_
  refine rb_s h4 (by decide) (by decide) (by decide) (by rfl) fun ma1 M1 fs1 h1 => rb_s h1 (by decide) (by decide) (by decide) (by rfl) fun ma2 M2 fs2 h2 => rb_s h2 (by decide) (by decide) (by decide) (by rfl) fun ma3 M3 fs3 h3 => rb_s h3 (by decide) (by decide) (by decide) (by rfl) fun ma4 M4 fs4 h4 => ?_
  refine rb_s h4 (by decide) (by decide) (by decide) (by rfl) fun ma1 M1 fs1 h1 => rb_s h1 (by decide) (by decide) (by decide) (by rfl) fun ma2 M2 fs2 h2 => rb_s h2 (by decide) (by decide) (by decide) (by rfl) fun ma3 M3 fs3 h3 => rb_s h3 (by decide) (by decide) (by decide) (by rfl) fun ma4 M4 fs4 h4 => ?_
  refine rb_s h4 (by decide) (by decide) (by decide) (by rfl) fun ma1 M1 fs1 h1 => rb_s h1 (by decide) (by decide) (by decide) (by rfl) fun ma2 M2 fs2 h2 => rb_s h2 (by decide) (by decide) (by decide) (by rfl) fun ma3 M3 fs3 h3 => rb_s h3 (by decide) (by decide) (by decide) (by rfl) fun ma4 M4 fs4 h4 => ?_
  refine rb_s h4 (by decide) (by decide) (by decide) (by rfl) fun ma1 M1 fs1 h1 => rb_s h1 (by decide) (by decide) (by decide) (by rfl) fun ma2 M2 fs2 h2 => rb_s h2 (by decide) (by decide) (by decide) (by rfl) fun ma3 M3 fs3 h3 => rb_s h3 (by decide) (by decide) (by decide) (by rfl) fun ma4 M4 fs4 h4 => ?_
  refine rb_s h4 (by decide) (by decide) (by decide) (by rfl) fun ma1 M1 fs1 h1 => rb_s h1 (by decide) (by decide) (by decide) (by rfl) fun ma2 M2 fs2 h2 => rb_s h2 (by decide) (by decide) (by decide) (by rfl) fun ma3 M3 fs3 h3 => rb_s h3 (by decide) (by decide) (by decide) (by rfl) fun ma M4 fs4 h4 => ?_
  have hr := rb_e h4
  rw [z3_0, d3_0] at hr
  refine ⟨7, m_in_202 (fun M5 h5 => ⟨9, m_in_239 (fun M6 h6 => hp ma M6 ⟨_, _, _, h6, ?_⟩) 8 0 M5 rfl h5⟩) 6 0 M4 rfl hr⟩
  refine ⟨fun k hk => rfl, fun k hk t ht => ?_, fun t ht => ⟨?_, rfl⟩, fun c hc => ⟨rfl, fun i t e => (by cases e)⟩, fun c hc => ⟨rfl, fun i e e' => (by cases e')⟩, rfl, q8_0⟩
  · by_cases h11 : k = 11
    · subst h11
      show q8 (if t < 6 then 0xBFF0000000000000 else FP.dconst0) (-8)
      rw [if_pos ht]; exact q8_m1
    · show q8 ((d3 6) k t) ((if k = 11 then (fun _ => -8) else fun _ => 0) t)
      unfold d3
      rw [if_neg h11, if_neg h11]; exact q8_0
  · show (if t < 6 then (-1 : Int32) else 0) = -1
    rw [if_pos ht]
end

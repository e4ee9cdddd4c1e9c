/-! THE REFERENCE'S METHODS: free, freeAll, obtain, ready. -/
theorem er_idx : ∀ (l : List Nat) (t : Nat), t ∈ l → ∃ i0, i0 < l.length ∧ l[i0]? = some t ∧ (∀ i, i < i0 → ∀ u, l[i]? = some u → u ≠ t) ∧ l.erase t = l.eraseIdx i0
  | [], t, h => by cases h
  | a :: l, t, h => by
    by_cases e : a = t
    · subst e
      exact ⟨0, by simp, by simp, fun i hi => by omega, by simp⟩
    · have hm : t ∈ l := by
        rcases List.mem_cons.mp h with g | g
        · exact absurd g.symm e
        · exact g
      obtain ⟨i0, h1, h2, h3, h4⟩ := er_idx l t hm
      refine ⟨i0 + 1, by simp; exact h1, by simpa using h2, fun i hi u hu => ?_, ?_⟩
      · cases i with
        | zero => simp at hu; rw [← hu]; exact e
        | succ i => simp at hu; exact h3 i (by omega) u hu
      · rw [List.erase_cons_tail (by simpa using e), List.eraseIdx_cons_succ, h4]
theorem get_lt {α : Type} {l : List α} {i : Nat} {x : α} (h : l[i]? = some x) : i < l.length := by
  rcases Nat.lt_or_ge i l.length with g | g
  · exact g
  · rw [List.getElem?_eq_none g] at h; cases h
theorem get_mem {α : Type} {l : List α} {i : Nat} {x : α} (h : l[i]? = some x) : x ∈ l := List.mem_of_getElem? h
section
variable {G ca ma : Nat → Nat} {mo : Nat} {fD : Nat → Nat → UInt64} {fl : Int32} {tx : UInt64} {σ : St} {N : Int}
theorem m_free_46 {t c : Nat} (ht : t < 6) (hc : c < 8) {w : Int32} {post : hM → Prop} : ∀ (d j : Nat) (M : hM) (fI : Nat → Nat → Int32), RM ca ma mo M fI fD fl tx → fI 18 c = Int32.ofNat (j + d) → j + d + 1 ≤ 6 →
    (∀ M' fI', (∀ k, k ≠ 17 → fI' k = fI k) → (∀ q, fI' 17 q = if 6 * c + j ≤ q ∧ q < 6 * c + j + d then fI 17 (q + 1) else fI 17 q) → RM ca ma mo M' (u2 (u2 (u2 fI' 6 t (-1)) 1 t 0) 3 t w) (u2 fD 11 t 0xBFF0000000000000) fl tx → post M') →
    wp_Mo_free_46 G ca post (d + 1) M mo (Int32.ofNat t) w (Int32.ofNat c) (Int32.ofNat j) := by
  intro d
  induction d with
  | zero =>
    intro j M fI h h18 hj hp
    unfold wp_Mo_free_46
    refine gr_m h rfl (nn_s (ai_m h rfl rfl rfl rfl (by dsimp [mN]; omega) ?_))
    rw [h18]
    refine ⟨fun _ => ?_, fun hn => absurd ((i_le (by omega) (by omega)).mpr (by omega)) hn⟩
    refine gr_m h rfl (nn_s (si_m h rfl rfl rfl rfl ht fun M1 h1 => ?_))
    refine gr_m h1 rfl (nn_s (sd_m h1 rfl rfl rfl ht fun M2 h2 => ?_))
    refine gr_m h2 rfl (nn_s ⟨Or.inl rfl, si_m h2 rfl rfl rfl rfl ht fun M3 h3 => ?_⟩)
    refine gr_m h3 rfl (nn_s (si_m h3 rfl rfl rfl rfl ht fun M4 h4 => ?_))
    exact hp M4 fI (fun _ _ => rfl) (fun q => by rw [if_neg (by omega)]) h4
  | succ d ih =>
    intro j M fI h h18 hj hp
    unfold wp_Mo_free_46
    refine gr_m h rfl (nn_s (ai_m h rfl rfl rfl rfl (by dsimp [mN]; omega) ?_))
    rw [h18]
    refine ⟨fun hn => absurd ((i_le (by omega) (by omega)).mp hn) (by omega), fun _ => ?_⟩
    rw [i_six, i_add, i_succ, i_succ]
    refine gr_m h rfl (gr_m h rfl (nn_s (ai_m h rfl rfl rfl rfl (by dsimp [mN]; omega) (nn_s (si_m h rfl rfl rfl rfl (by dsimp [mN]; omega) fun M1 h1 => ?_)))))
    refine ih (j + 1) M1 _ h1 (by rw [u2_n _ _ _ (by decide), h18]; congr 1; omega) (by omega) (fun M' fI' hk hq hr => hp M' fI' (fun k hk1 => by rw [hk k hk1, u2_n _ _ _ hk1]) (fun q => ?_) hr)
    rw [hq, u2_k]
    dsimp only
    by_cases g1 : q = 6 * c + j
    · subst g1
      rw [if_neg (by omega), if_pos rfl, if_pos (by omega)]
    · by_cases g2 : 6 * c + (j + 1) ≤ q ∧ q < 6 * c + (j + 1) + d
      · rw [if_pos g2, if_neg (by omega), if_pos (by omega)]
      · rw [if_neg g2, if_neg g1, if_neg (by omega)]
theorem m_free_10 {t c : Nat} (ht : t < 6) (hc : c < 8) {w : Int32} {post : hM → Prop} {M : hM} {fI : Nat → Nat → Int32} (h : RM ca ma mo M fI fD fl tx) (hs : RS fI fD tx σ) (hi : IV σ N) :
    ∀ (d i : Nat), (x_w σ c)[i + d]? = some t → (∀ i', i' < i + d → ∀ u, (x_w σ c)[i']? = some u → u ≠ t) →
    (∀ M' fI', (∀ k, k ≠ 17 → fI' k = u2 fI 18 c (Int32.ofNat ((x_w σ c).length - 1)) k) → (∀ q, fI' 17 q = if 6 * c + (i + d) ≤ q ∧ q < 6 * c + ((x_w σ c).length - 1) then fI 17 (q + 1) else fI 17 q) →
      RM ca ma mo M' (u2 (u2 (u2 fI' 6 t (-1)) 1 t 0) 3 t w) (u2 fD 11 t 0xBFF0000000000000) fl tx → post M') →
    wp_Mo_free_10 G ca post (d + 1) M mo (Int32.ofNat t) w (Int32.ofNat c) (Int32.ofNat i) := by
  have hl := IV_len hi hc
  have h18 := (hs.2.2.2.1 c hc).1
  have h17 := (hs.2.2.2.1 c hc).2
  intro d
  induction d with
  | zero =>
    intro i h0 hb hp
    rw [Nat.add_zero] at h0 hb hp
    have hil := get_lt h0
    unfold wp_Mo_free_10
    rw [i_six, i_add]
    refine gr_m h rfl (nn_s (ai_m h rfl rfl rfl rfl (by dsimp [mN]; omega) ?_))
    rw [h17 i t h0]
    refine ⟨fun _ => gr_m h rfl (nn_s (ai_m h rfl rfl rfl rfl (by dsimp [mN]; omega) ?_)), fun hn => absurd rfl hn⟩
    rw [h18, i_pred (by omega)]
    refine si_m h rfl rfl rfl rfl (by dsimp [mN]; omega) fun M1 h1 => ⟨_, m_free_46 ht hc ((x_w σ c).length - 1 - i) i M1 _ h1 (by rw [u2_s]; congr 1; omega) (by omega) fun M' fI' hk hq hr => hp M' fI' hk (fun q => ?_) hr⟩
    rw [hq, u2_n _ _ _ (by decide)]
    by_cases g : 6 * c + i ≤ q ∧ q < 6 * c + ((x_w σ c).length - 1)
    · rw [if_pos g, if_pos (by omega)]
    · rw [if_neg g, if_neg (by omega)]
  | succ d ih =>
    intro i h0 hb hp
    have hil := get_lt h0
    unfold wp_Mo_free_10
    rw [i_six, i_add, i_succ]
    refine gr_m h rfl (nn_s (ai_m h rfl rfl rfl rfl (by dsimp [mN]; omega) ?_))
    have hi2 : i < (x_w σ c).length := by omega
    have hu := List.getElem?_eq_getElem hi2
    have ht2 := ((hi.2.1 c hc).2 _ (get_mem hu)).1
    rw [h17 i _ hu]
    refine ⟨fun e => absurd ((i_eq (by omega) (by omega)).mp e) (hb i (by omega) _ hu), fun _ => ?_⟩
    have e : i + 1 + d = i + (d + 1) := by omega
    exact ih (i + 1) (by rw [e]; exact h0) (by rw [e]; exact hb) (by rw [e]; exact hp)
theorem m_free {t c : Nat} (hc : c < 8) {w : Int32} {post : hM → Prop} {M : hM} {fl : Int32} (h : RR ca ma mo M σ fl) (hi : IV σ N) (ht : t ∈ x_w σ c) (hp : ∀ M', RR ca ma mo M' (o_free σ c t w) fl → post M') :
    wp_Mo_free G ca post M mo (Int32.ofNat t) w := by
  obtain ⟨fI, fD, tx, h, hs⟩ := h
  have g := (hi.2.1 c hc).2 t ht
  have hl := IV_len hi hc
  refine gr_m h rfl (nn_s (ai_m h rfl rfl rfl rfl g.1 ?_))
  rw [(hs.2.2.1 t g.1).1, g.2.1, oi_s]
  obtain ⟨i0, a1, a2, a3, a4⟩ := er_idx _ _ ht
  refine ⟨_, m_free_10 g.1 hc h hs hi i0 0 (by rw [Nat.zero_add]; exact a2) (by rw [Nat.zero_add]; exact a3) fun M' fI' hk hq hr => hp M' ⟨_, _, _, hr, ?_⟩⟩
  rw [Nat.zero_add] at hq
  obtain ⟨s1, s2, s3, s4, s5, s6, s7⟩ := hs
  have k1 : RSv fI' σ := fun j hj => by
    rw [hk j (by intro e; subst e; exact absurd hj (by decide)), u2_n _ _ _ (by intro e; subst e; exact absurd hj (by decide))]
    exact s1 j hj
  refine ⟨RSv_u (RSv_o (RSv_o k1 (by decide) _ _) (by decide) _ _) 3 t w, RSe_u (σ := σ) s2 11 t q8_m1, ?_, ?_, ?_, ?_, s7⟩
  · intro u hu
    have := s3 u hu
    show u2 (u2 (u2 fI' 6 _ _) 1 _ _) 3 _ _ 6 u = oi (va_up σ.2.1 t none u) ∧ u2 (u2 (u2 fI' 6 _ _) 1 _ _) 3 _ _ 1 u = ob (va_up σ.2.1 t none u)
    rw [va_up_at]
    by_cases e : u = t
    · simp [u2, e, oi, ob]
    · simp [u2, e]
      rw [hk 6 (by decide), hk 1 (by decide), u2_n _ _ _ (by decide), u2_n _ _ _ (by decide)]; exact this
  · intro d hd
    have := s4 d hd
    have hld := IV_len hi hd
    show u2 (u2 (u2 fI' 6 _ _) 1 _ _) 3 _ _ 18 d = Int32.ofNat (va_up σ.2.2.2.2.2.1 c ((x_w σ c).erase t) d).length ∧ ∀ i u, (va_up σ.2.2.2.2.2.1 c ((x_w σ c).erase t) d)[i]? = some u → u2 (u2 (u2 fI' 6 _ _) 1 _ _) 3 _ _ 17 (6 * d + i) = Int32.ofNat u
    rw [va_up_at]
    have e18 : ∀ d, u2 (u2 (u2 fI' 6 t (-1)) 1 t 0) 3 t w 18 d = u2 fI 18 c (Int32.ofNat ((x_w σ c).length - 1)) 18 d := fun d => by simp only [u2]; simp; rw [hk 18 (by decide)]; simp [u2]
    have e17 : ∀ q, u2 (u2 (u2 fI' 6 t (-1)) 1 t 0) 3 t w 17 q = fI' 17 q := fun q => by simp [u2]
    rw [e18]
    by_cases e : d = c
    · subst e
      rw [if_pos rfl, u2_s, a4]
      refine ⟨by rw [List.length_eraseIdx_of_lt a1], fun i u hiu => ?_⟩
      rw [e17, hq]
      rw [List.getElem?_eraseIdx] at hiu
      split at hiu
      · rw [if_neg (by omega)]; exact this.2 i u hiu
      · have := get_lt hiu
        rw [if_pos (by omega), show 6 * d + i + 1 = 6 * d + (i + 1) by omega]; exact (s4 d hd).2 _ _ hiu
    · rw [if_neg e, u2_i _ _ _ e]
      refine ⟨this.1, fun i u hiu => ?_⟩
      have : i < (x_w σ d).length := get_lt hiu
      rw [e17, hq, if_neg (by omega)]
      exact (s4 d hd).2 i u hiu
  · refine RSi_o (RSi_o (RSi_o (RSi_d ?_ (by decide) _ _) (by decide) _ _) (by decide) _ _) (by decide) _ _
    intro d hd
    rw [hk 23 (by decide), hk 19 (by decide), u2_n _ _ _ (by decide), u2_n _ _ _ (by decide)]
    exact s5 d hd
  · rw [u2_n _ _ _ (by decide)]; exact s6
theorem all_nil {σ : St} {c : Nat} (h : x_w σ c = []) (w : Int32) : o_all σ c w = σ := by
  unfold o_all
  rw [h]
  refine Prod.ext ?_ (Prod.ext ?_ (Prod.ext ?_ (Prod.ext rfl (Prod.ext rfl (Prod.ext ?_ rfl)))))
  · funext k
    dsimp only
    split
    · rename_i e; subst e; funext t; simp
    · rfl
  · funext t; simp
  · funext k
    dsimp only
    split
    · rename_i e; subst e; funext t; simp
    · rfl
  · funext d
    dsimp only
    rw [va_up_at]
    split
    · rename_i e; subst e; exact h.symm
    · rfl
theorem all_cons {σ : St} {c t : Nat} {l : List Nat} (h : x_w σ c = t :: l) (w : Int32) : o_all (o_free σ c t w) c w = o_all σ c w := by
  have hw : x_w (o_free σ c t w) c = l := by rw [w_free, h]; simp
  unfold o_all
  rw [hw, h]
  refine Prod.ext ?_ (Prod.ext ?_ (Prod.ext ?_ (Prod.ext rfl (Prod.ext rfl (Prod.ext ?_ rfl)))))
  · funext k
    show (if k = 3 then (fun u => if u ∈ l then w else u2 σ.1 3 t w 3 u) else u2 σ.1 3 t w k) = (if k = 3 then (fun u => if u ∈ t :: l then w else σ.1 3 u) else σ.1 k)
    split
    · funext u
      rw [u2_k]
      by_cases e : u = t
      · simp [e]
      · simp [e]
    · rename_i e; rw [u2_n _ _ _ e]
  · funext u
    show (if u ∈ l then none else va_up σ.2.1 t none u) = (if u ∈ t :: l then none else σ.2.1 u)
    rw [va_up_at]
    by_cases e : u = t
    · simp [e]
    · simp [e]
  · funext k
    show (if k = 11 then (fun u => if u ∈ l then -8 else u2 σ.2.2.1 11 t (-8) 11 u) else u2 σ.2.2.1 11 t (-8) k) = (if k = 11 then (fun u => if u ∈ t :: l then -8 else σ.2.2.1 11 u) else σ.2.2.1 k)
    split
    · funext u
      rw [u2_k]
      by_cases e : u = t
      · simp [e]
      · simp [e]
    · rename_i e; rw [u2_n _ _ _ e]
  · funext d
    show va_up (va_up σ.2.2.2.2.2.1 c _) c [] d = va_up σ.2.2.2.2.2.1 c [] d
    rw [va_up_at, va_up_at, va_up_at]
    by_cases e : d = c <;> simp [e]
theorem m_freeAll_0 {c : Nat} (hc : c < 8) {w : Int32} {post : hM → Prop} {fl : Int32} : ∀ (n : Nat) (σ : St) (M : hM), RR ca ma mo M σ fl → IV σ N → (x_w σ c).length = n → (∀ M', RR ca ma mo M' (o_all σ c w) fl → post M') →
    wp_Mo_freeAll_0 G ca post (n + 1) M mo (Int32.ofNat c) w := by
  intro n
  induction n with
  | zero =>
    intro σ M hr hi hn hp
    rw [all_nil (List.length_eq_zero_iff.mp hn)] at hp
    have hr2 := hr
    obtain ⟨fI, fD, tx, h, hs⟩ := hr
    unfold wp_Mo_freeAll_0
    refine gr_m h rfl (nn_s (ai_m h rfl rfl rfl rfl (by dsimp [mN]; omega) ?_))
    rw [(hs.2.2.2.1 c hc).1, hn]
    exact ⟨fun _ => hp M hr2, fun e => absurd (by decide) e⟩
  | succ n ih =>
    intro σ M hr hi hn hp
    have hr2 := hr
    have hl := IV_len hi hc
    obtain ⟨fI, fD, tx, h, hs⟩ := hr
    cases hw : x_w σ c with
    | nil => rw [hw] at hn; cases hn
    | cons t l =>
      have ht : t ∈ x_w σ c := by rw [hw]; simp
      have e17 := (hs.2.2.2.1 c hc).2 0 t (by rw [hw]; rfl)
      unfold wp_Mo_freeAll_0
      refine gr_m h rfl (nn_s (ai_m h rfl rfl rfl rfl (by dsimp [mN]; omega) ?_))
      rw [(hs.2.2.2.1 c hc).1, hn]
      refine ⟨fun e => absurd ((i_le (b := 0) (by omega) (by omega)).mp e) (by omega), fun _ => ?_⟩
      rw [i_six]
      refine gr_m h rfl (nn_s (ai_m h rfl rfl rfl rfl (by dsimp [mN]; omega) (rc_m h ?_)))
      rw [Nat.add_zero] at e17
      rw [e17]
      refine m_free hc hr2 hi ht fun M' hr' => ih _ M' hr' (IV_free hi hc ht w) ?_ ?_
      · rw [w_free, hw]; rw [hw] at hn; simp at hn ⊢; exact hn
      · rw [all_cons hw]; exact hp
theorem m_freeAll {c : Nat} (hc : c < 8) {w : Int32} {post : hM → Prop} {fl : Int32} {M : hM} (hr : RR ca ma mo M σ fl) (hi : IV σ N) (hp : ∀ M', RR ca ma mo M' (o_all σ c w) fl → post M') :
    wp_Mo_freeAll G ca post M mo (Int32.ofNat c) w := by
  have hr2 := hr
  have hl := IV_len hi hc
  obtain ⟨fI, fD, tx, h, hs⟩ := hr
  unfold wp_Mo_freeAll
  refine gr_m h rfl (nn_s (ai_m h rfl rfl rfl rfl (by dsimp [mN]; omega) ?_))
  rw [(hs.2.2.2.1 c hc).1]
  cases hw : x_w σ c with
  | nil =>
    rw [all_nil hw] at hp
    exact ⟨fun _ => hp M hr2, fun e => absurd (by decide) e⟩
  | cons t l =>
    have ht : t ∈ x_w σ c := by rw [hw]; simp
    have e17 := (hs.2.2.2.1 c hc).2 0 t (by rw [hw]; rfl)
    rw [← hw]
    have hpos : 0 < (x_w σ c).length := List.length_pos_of_mem ht
    refine ⟨fun e => absurd ((i_le (b := 0) (by omega) (by omega)).mp e) (by omega), fun _ => ?_⟩
    rw [i_six]
    refine gr_m h rfl (nn_s (ai_m h rfl rfl rfl rfl (by dsimp [mN]; omega) (rc_m h ?_)))
    rw [Nat.add_zero] at e17
    rw [e17]
    exact m_free hc hr2 hi ht fun M' hr' => ⟨_, m_freeAll_0 hc _ _ M' hr' (IV_free hi hc ht w) rfl (by rw [all_cons hw]; exact hp)⟩
/-- yes or no -/
def bi (b : Bool) : Int32 := if b = true then 1 else 0
theorem bi_t : bi true = 1 := rfl
theorem bi_f : bi false = 0 := rfl
theorem bi_z (b : Bool) : bi b = 0 ∨ bi b = 1 := by cases b <;> simp [bi]
theorem bi_0 {b : Bool} : bi b = 0 ↔ b = false := by cases b <;> simp [bi]
theorem m_obtain {M : hM} (h : RR ca ma mo M σ fl) (hi : IV σ N) {t c : Nat} (ht : t < 6) (hc : c < 8) {v : Int32} {dx : UInt64} {d : Int} (hdx : q8 dx d) (h0 : 0 ≤ d) (h1 : d < 2147483648) {post : hM → Prop}
    (hp : ∀ M', RR ca ma mo M' (o_obt σ t c v d) fl → post M') : wp_Mo_obtain G ca post M mo (Int32.ofNat t) (Int32.ofNat c) v dx := by
  have e : dx = bt d := q8_inj hdx (bt_q h0 h1) h0
  subst e
  obtain ⟨fI, fD, tx, h, hs⟩ := h
  have s25 := hs.1 25 (by decide)
  have s24 := hs.2.2.2.2.2.1
  refine gr_m h rfl (nn_s ⟨Or.inr rfl, si_m h rfl rfl rfl rfl ht fun M1 h1 => ?_⟩)
  refine gr_m h1 rfl (nn_s (si_m h1 rfl rfl rfl rfl ht fun M2 h2 => ?_))
  refine gr_m h2 rfl (nn_s (ad_m h2 rfl rfl rfl hc ⟨?_, ?_⟩))
  · rw [s24]
    exact nan_n (nan_add (hi.2.2.2.2.1 c hc) hdx.1)
  refine sd_m h2 rfl rfl rfl hc fun M3 h3 => ?_
  refine gr_m h3 rfl (nn_s (ai_m h3 rfl rfl rfl rfl hc (si_m h3 rfl rfl rfl rfl hc fun M4 h4 => ?_)))
  refine hp M4 ⟨_, _, _, h4, ?_⟩
  rw [u2_n _ _ _ (by decide), u2_n _ _ _ (by decide), s25]
  have r1 := RS_v (RS_v hs (k := 4) (by decide) t 1) (k := 5) (by decide) t v
  have r2 : RS (u2 (u2 fI 4 t 1) 5 t v) (u2 fD 24 c (FP.dadd (fD 24 c) (bt d))) tx (s_s (s_v (s_v σ 4 t 1) 5 t v) c (FP.dadd (x_s σ c) (bt d))) := by
    obtain ⟨a1, a2, a3, a4, a5, a6, a7⟩ := r1
    refine ⟨a1, RSe_o a2 (by decide) _ _, a3, a4, RSi_d a5 (by decide) _ _, ?_, a7⟩
    rw [u2_k, s24]; rfl
  exact RS_v r2 (k := 25) (by decide) c (x_v σ 25 c + 1)
theorem m_ready {M : hM} (h : RR ca ma mo M σ fl) (hi : IV σ N) {c : Nat} (hc : c < 8) {post : Int32 → hM → Prop} (hp : post (bi (rdy σ c)) M) : wp_Mo_ready G ca post M mo (Int32.ofNat c) := by
  obtain ⟨fI, fD, tx, h, hs⟩ := h
  have hl := IV_it hi hc
  have s5 := hs.2.2.2.2.1 c hc
  have s13 := hs.1 13 (by decide)
  refine gr_m h rfl (nn_s (ai_m h rfl rfl rfl rfl hc ?_))
  rw [s5.1]
  unfold rdy at hp
  cases hx : x_i σ c with
  | nil =>
    rw [hx] at hp
    exact ⟨fun _ => ⟨Or.inl rfl, hp⟩, fun e => absurd (by decide) e⟩
  | cons e l =>
    rw [← hx]
    have hpos : 0 < (x_i σ c).length := by rw [hx]; simp
    refine ⟨fun e => absurd ((i_le (b := 0) (by omega) (by omega)).mp e) (by omega), fun _ => ?_⟩
    refine gr_m h rfl (nn_s (ai_m h rfl rfl rfl rfl hc ?_))
    rw [s13]
    rw [hx] at hp
    dsimp only at hp
    refine ⟨fun hk => ⟨Or.inr rfl, ?_⟩, fun hk => ?_⟩
    · rw [decide_eq_true (Or.inl hk)] at hp; exact hp
    · rw [i_xvi]
      refine gr_m h rfl (nn_s (ad_m h rfl rfl rfl (by dsimp [mN]; omega) (gd_m h ?_)))
      have g := s5.2 0 e (by rw [hx]; rfl)
      rw [Nat.add_zero] at g
      rw [e_gt g.2.2.1.1 hs.2.2.2.2.2.2.1]
      refine ⟨fun hlt => ⟨Or.inl rfl, ?_⟩, fun hnl => ⟨Or.inr rfl, ?_⟩⟩
      · rw [decide_eq_false (by rintro (g | g); exact g hk; omega)] at hp; exact hp
      · rw [decide_eq_true (Or.inr (by omega))] at hp; exact hp
end

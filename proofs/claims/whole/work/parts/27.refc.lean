/-! THE REFERENCE'S METHODS: lay, takeFirst, serve, leave. -/
def shU {α : Type} (f : Nat → α) (a d : Nat) : Nat → α := fun q => if a < q ∧ q ≤ a + d then f (q - 1) else f q
def shD {α : Type} (f : Nat → α) (a d : Nat) : Nat → α := fun q => if a ≤ q ∧ q < a + d then f (q + 1) else f q
theorem shU_0 {α : Type} (f : Nat → α) (a : Nat) : shU f a 0 = f := by
  funext q; unfold shU; rw [if_neg (by omega)]
theorem shD_0 {α : Type} (f : Nat → α) (a : Nat) : shD f a 0 = f := by
  funext q; unfold shD; rw [if_neg (by omega)]
theorem shU_s {α : Type} (f : Nat → Nat → α) (k a d : Nat) : shU (u2 f k (a + (d + 1)) (f k (a + d)) k) a d = shU (f k) a (d + 1) := by
  funext q
  unfold shU
  rw [u2_k]
  dsimp only
  by_cases h1 : q = a + (d + 1)
  · subst h1
    rw [if_neg (by omega), if_pos rfl, if_pos (by omega)]
    congr 1
  · by_cases h2 : a < q ∧ q ≤ a + d
    · rw [if_pos h2, if_neg (by omega), if_pos (by omega)]
    · rw [if_neg h2, if_neg h1, if_neg (by omega)]
theorem shD_s {α : Type} (f : Nat → Nat → α) (k a d : Nat) : shD (u2 f k a (f k (a + 1)) k) (a + 1) d = shD (f k) a (d + 1) := by
  funext q
  unfold shD
  rw [u2_k]
  dsimp only
  by_cases h1 : q = a
  · subst h1
    rw [if_neg (by omega), if_pos rfl, if_pos (by omega)]
  · by_cases h2 : a + 1 ≤ q ∧ q < a + 1 + d
    · rw [if_pos h2, if_neg (by omega), if_pos (by omega)]
    · rw [if_neg h2, if_neg h1, if_neg (by omega)]
/-- the rows of items are moved, the others stay -/
def mvI (s : (Nat → Int32) → Nat → Int32) (fI fI' : Nat → Nat → Int32) : Prop := (∀ k, k ≠ 19 → fI' k = fI k) ∧ fI' 19 = s (fI 19)
def mvD (s : (Nat → UInt64) → Nat → UInt64) (fD fD' : Nat → Nat → UInt64) : Prop := (∀ k, k ≠ 20 → k ≠ 21 → k ≠ 22 → fD' k = fD k) ∧ fD' 20 = s (fD 20) ∧ fD' 21 = s (fD 21) ∧ fD' 22 = s (fD 22)
theorem ins_get {α : Type} {l : List α} {a : Nat} (ha : a ≤ l.length) (x : α) (i : Nat) : (l.take a ++ x :: l.drop a)[i]? = if i < a then l[i]? else if i = a then some x else l[i - 1]? := by
  rw [List.getElem?_append, List.length_take, Nat.min_eq_left ha]
  split
  · rename_i h; rw [List.getElem?_take, if_pos h]
  · split
    · rename_i h; subst h; simp
    · rw [List.getElem?_cons, if_neg (by omega), List.getElem?_drop]; congr 1; omega
theorem pos_le (p : It → Bool) (l : List It) : ∀ n, pos p l n ≤ n
  | 0 => Nat.le_refl 0
  | n + 1 => by
    unfold pos
    split
    · exact Nat.le_refl _
    · split
      · exact Nat.le_succ_of_le (pos_le p l n)
      · exact Nat.le_refl _
section
variable {G ca ma : Nat → Nat} {mo : Nat} {fl : Int32} {tx : UInt64} {σ : St} {N : Int}
theorem m_move {M : hM} {fI : Nat → Nat → Int32} {fD : Nat → Nat → UInt64} (h : RM ca ma mo M fI fD fl tx) {a b : Nat} (ha : a < 128) (hb : b < 128) {post : hM → Prop}
    (hp : ∀ M', RM ca ma mo M' (u2 fI 19 b (fI 19 a)) (u2 (u2 (u2 fD 20 b (fD 20 a)) 21 b (fD 21 a)) 22 b (fD 22 a)) fl tx → post M') : wp_Mo_move G ca post M mo (Int32.ofNat a) (Int32.ofNat b) := by
  refine gr_m h rfl (gr_m h rfl (nn_s (ai_m h rfl rfl rfl rfl ha (nn_s (si_m h rfl rfl rfl rfl hb fun M1 h1 => ?_)))))
  refine gr_m h1 rfl (gr_m h1 rfl (nn_s (ad_m h1 rfl rfl rfl ha (nn_s (sd_m h1 rfl rfl rfl hb fun M2 h2 => ?_)))))
  refine gr_m h2 rfl (gr_m h2 rfl (nn_s (ad_m h2 rfl rfl rfl ha (nn_s (sd_m h2 rfl rfl rfl hb fun M3 h3 => ?_)))))
  refine gr_m h3 rfl (gr_m h3 rfl (nn_s (ad_m h3 rfl rfl rfl ha (nn_s (sd_m h3 rfl rfl rfl hb fun M4 h4 => ?_)))))
  rw [u2_n _ _ _ (by decide), u2_n _ _ _ (by decide), u2_n _ _ _ (by decide)] at h4
  exact hp M4 h4
theorem mvD_1 (s : (Nat → UInt64) → Nat → UInt64) (fD : Nat → Nat → UInt64) (a b : Nat) (s' : (Nat → UInt64) → Nat → UInt64) (hs : ∀ k, s (u2 fD k b (fD k a) k) = s' (fD k)) {fD' : Nat → Nat → UInt64}
    (h : mvD s (u2 (u2 (u2 fD 20 b (fD 20 a)) 21 b (fD 21 a)) 22 b (fD 22 a)) fD') : mvD s' fD fD' := by
  obtain ⟨h1, h2, h3, h4⟩ := h
  refine ⟨fun k a1 a2 a3 => by rw [h1 k a1 a2 a3, u2_n _ _ _ a3, u2_n _ _ _ a2, u2_n _ _ _ a1], ?_, ?_, ?_⟩
  · rw [h2, u2_n _ _ _ (by decide), u2_n _ _ _ (by decide), hs]
  · rw [h3, u2_n _ _ _ (by decide), u2_k, u2_n _ _ _ (by decide), ← u2_k, hs]
  · rw [h4, u2_k, u2_n _ _ _ (by decide), u2_n _ _ _ (by decide), ← u2_k, hs]
theorem mvI_1 (s : (Nat → Int32) → Nat → Int32) (fI : Nat → Nat → Int32) (a b : Nat) (s' : (Nat → Int32) → Nat → Int32) (hs : s (u2 fI 19 b (fI 19 a) 19) = s' (fI 19)) {fI' : Nat → Nat → Int32}
    (h : mvI s (u2 fI 19 b (fI 19 a)) fI') : mvI s' fI fI' :=
  ⟨fun k hk => by rw [h.1 k hk, u2_n _ _ _ hk], by rw [h.2, hs]⟩
theorem m_lay_86 {c at_ : Nat} (hc : c < 8) {v : Int32} {rx dx : UInt64} {post : hM → Prop} : ∀ (d : Nat) (M : hM) (fI : Nat → Nat → Int32) (fD : Nat → Nat → UInt64), RM ca ma mo M fI fD fl tx → at_ + d < 16 →
    (∀ M' fI' fD', mvI (fun f => shU f (16 * c + at_) d) fI fI' → mvD (fun f => shU f (16 * c + at_) d) fD fD' →
      RM ca ma mo M' (u2 (u2 fI' 19 (16 * c + at_) v) 23 c (fI 23 c + 1)) (u2 (u2 (u2 fD' 20 (16 * c + at_) rx) 21 (16 * c + at_) dx) 22 (16 * c + at_) tx) fl tx → post M') →
    wp_Mo_lay_86 G ca post (d + 1) M mo (Int32.ofNat c) v rx dx (Int32.ofNat at_) (Int32.ofNat (at_ + d)) := by
  intro d
  induction d with
  | zero =>
    intro M fI fD h hd hp
    unfold wp_Mo_lay_86
    rw [i_xvi, i_add]
    refine ⟨fun _ => ?_, fun hn => absurd ((i_le (by omega) (by omega)).mpr (by omega)) hn⟩
    refine gr_m h rfl (nn_s (si_m h rfl rfl rfl rfl (by dsimp [mN]; omega) fun M1 h1 => ?_))
    refine gr_m h1 rfl (nn_s (sd_m h1 rfl rfl rfl (by dsimp [mN]; omega) fun M2 h2 => ?_))
    refine gr_m h2 rfl (nn_s (sd_m h2 rfl rfl rfl (by dsimp [mN]; omega) fun M3 h3 => ?_))
    refine gr_m h3 rfl (gd_m h3 (nn_s (sd_m h3 rfl rfl rfl (by dsimp [mN]; omega) fun M4 h4 => ?_)))
    refine gr_m h4 rfl (nn_s (ai_m h4 rfl rfl rfl rfl hc (si_m h4 rfl rfl rfl rfl hc fun M5 h5 => ?_)))
    rw [u2_n _ _ _ (by decide)] at h5
    exact hp M5 fI fD ⟨fun _ _ => rfl, (shU_0 _ _).symm⟩ ⟨fun _ _ _ _ => rfl, (shU_0 _ _).symm, (shU_0 _ _).symm, (shU_0 _ _).symm⟩ h5
  | succ d ih =>
    intro M fI fD h hd hp
    unfold wp_Mo_lay_86
    refine ⟨fun hn => absurd ((i_le (by omega) (by omega)).mp hn) (by omega), fun _ => rc_m h ?_⟩
    rw [i_xvi, i_add, i_pred (by omega), i_down (by omega)]
    refine m_move h (by omega) (by omega) fun M1 h1 => ?_
    have e1 : 16 * c + (at_ + (d + 1)) - 1 = 16 * c + at_ + d := by omega
    have e2 : 16 * c + (at_ + (d + 1)) = 16 * c + at_ + (d + 1) := by omega
    have e3 : at_ + (d + 1) - 1 = at_ + d := by omega
    rw [e1, e2] at h1
    rw [e3]
    refine ih M1 _ _ h1 (by omega) fun M' fI' fD' m1 m2 hr => hp M' fI' fD' ?_ ?_ ?_
    · exact mvI_1 _ fI _ _ _ (shU_s fI 19 _ d) m1
    · exact mvD_1 _ fD _ _ _ (fun k => shU_s fD k _ d) m2
    · rw [u2_n _ _ _ (by decide)] at hr; exact hr
theorem m_lay_8 {c : Nat} (hc : c < 8) {v : Int32} {rx dx : UInt64} {r d : Int} (hrx : q8 rx r) (hdx : q8 dx d) {M : hM} {fI : Nat → Nat → Int32} {fD : Nat → Nat → UInt64} (h : RM ca ma mo M fI fD fl tx) (hs : RS fI fD tx σ) (hi : IV σ N) {post : hM → Prop} : ∀ (n : Nat), n ≤ (x_i σ c).length →
    wp_Mo_lay_78 G ca post M mo (Int32.ofNat c) v rx dx (Int32.ofNat (pos (kp (x_v σ 13 c) r d) (x_i σ c) n)) →
    wp_Mo_lay_8 G ca post (n + 1) M mo (Int32.ofNat c) v rx dx (Int32.ofNat n) := by
  have hl := IV_it hi hc
  have s13 := hs.1 13 (by decide)
  have s5 := hs.2.2.2.2.1 c hc
  intro n
  induction n with
  | zero =>
    intro hn hp
    unfold wp_Mo_lay_8
    exact ⟨fun _ => hp, fun e => absurd (by decide) e⟩
  | succ n ih =>
    intro hn hp
    unfold wp_Mo_lay_8
    have hget := List.getElem?_eq_getElem (show n < (x_i σ c).length by omega)
    have g := s5.2 n _ hget
    have hpos : pos (kp (x_v σ 13 c) r d) (x_i σ c) (n + 1) = if kp (x_v σ 13 c) r d (x_i σ c)[n] = true then pos (kp (x_v σ 13 c) r d) (x_i σ c) n else n + 1 := by
      rw [pos, hget]
    rw [hpos] at hp
    have e1 : 16 * Int32.ofNat c + Int32.ofNat (n + 1) - 1 = Int32.ofNat (16 * c + n) := by rw [i_xvi, i_add, i_pred (by omega)]; congr 1
    refine ⟨fun e => absurd ((i_le (b := 0) (by omega) (by omega)).mp e) (by omega), fun _ => ?_⟩
    refine gr_m h rfl (nn_s (ai_m h rfl rfl rfl rfl hc ?_))
    rw [s13]
    have hdown : kp (x_v σ 13 c) r d (x_i σ c)[n] = true → wp_Mo_lay_72 G ca post (wp_Mo_lay_8 G ca post (n + 1)) M mo (Int32.ofNat c) v rx dx (Int32.ofNat (n + 1)) := by
      intro hk
      unfold wp_Mo_lay_72
      rw [i_down (by omega)]
      rw [if_pos hk] at hp
      exact ih (by omega) hp
    have h42 : ¬ (x_v σ 13 c = 3 ∧ (x_i σ c)[n].2.1 < r) → wp_Mo_lay_42 G ca post (wp_Mo_lay_8 G ca post (n + 1)) M mo (Int32.ofNat c) v rx dx (Int32.ofNat (n + 1)) := by
      intro h3
      unfold wp_Mo_lay_42
      refine gr_m h rfl (nn_s (ai_m h rfl rfl rfl rfl hc ?_))
      rw [s13]
      refine ⟨fun h4 => ?_, fun h4 => ?_⟩
      · rw [if_neg] at hp
        · exact hp
        · unfold kp; rw [decide_eq_true_eq]; rintro (a | a); exact h3 a; exact h4 a.1
      · rw [e1]
        refine gr_m h rfl (nn_s (ad_m h rfl rfl rfl (by dsimp [mN]; omega) ?_))
        rw [e_le g.2.2.1.1 hdx.1]
        refine ⟨fun hle => ?_, fun hgt => hdown ?_⟩
        · rw [if_neg] at hp
          · exact hp
          · unfold kp; rw [decide_eq_true_eq]; rintro (a | a); exact h3 a; have := a.2; omega
        · unfold kp; rw [decide_eq_true_eq]; exact Or.inr ⟨h4, by omega⟩
    refine ⟨fun h3 => h42 (fun a => h3 a.1), fun h3 => ?_⟩
    rw [e1]
    refine gr_m h rfl (nn_s (ad_m h rfl rfl rfl (by dsimp [mN]; omega) ?_))
    rw [e_lt g.2.1.1 hrx.1]
    refine ⟨fun hlt => hdown ?_, fun hge => h42 (fun a => hge a.2)⟩
    unfold kp; rw [decide_eq_true_eq]; exact Or.inl ⟨h3, hlt⟩
theorem m_lay {c : Nat} (hc : c < 8) {v : Int32} {rx dx : UInt64} {r d : Int} (hrx : q8 rx r) (hdx : q8 dx d) {M : hM} (h : RR ca ma mo M σ fl) (hi : IV σ N) (hf : (x_i σ c).length < 16) {post : hM → Prop}
    (hp : ∀ M', RR ca ma mo M' (o_lay σ c v r d) fl → post M') : wp_Mo_lay G ca post M mo (Int32.ofNat c) v rx dx := by
  obtain ⟨fI, fD, tx, h, hs⟩ := h
  have s5 := hs.2.2.2.2.1 c hc
  refine gr_m h rfl (nn_s (ai_m h rfl rfl rfl rfl hc ?_))
  rw [s5.1]
  refine ⟨_, m_lay_8 hc hrx hdx h hs hi _ (Nat.le_refl _) ?_⟩
  have ple := pos_le (kp (x_v σ 13 c) r d) (x_i σ c) (x_i σ c).length
  unfold o_lay at hp
  revert hp
  generalize pos (kp (x_v σ 13 c) r d) (x_i σ c) (x_i σ c).length = at_ at ple
  intro hp
  unfold wp_Mo_lay_78
  refine gr_m h rfl (nn_s (ai_m h rfl rfl rfl rfl hc ?_))
  rw [s5.1]
  have e0 : (x_i σ c).length = at_ + ((x_i σ c).length - at_) := by omega
  rw [e0]
  refine ⟨_, m_lay_86 hc _ M fI fD h (by omega) fun M' fI' fD' m1 m2 hr => hp M' ⟨_, _, _, hr, ?_⟩⟩
  obtain ⟨s1, s2, s3, s4, s5, s6, s7⟩ := hs
  have a : ∀ k, k ≠ 19 → k ≠ 23 → u2 (u2 fI' 19 (16 * c + at_) v) 23 c (fI 23 c + 1) k = fI k := fun k h1 h2 => by rw [u2_n _ _ _ h2, u2_n _ _ _ h1, m1.1 k h1]
  have b : ∀ k, k ≠ 20 → k ≠ 21 → k ≠ 22 → u2 (u2 (u2 fD' 20 (16 * c + at_) rx) 21 (16 * c + at_) dx) 22 (16 * c + at_) tx k = fD k := fun k h1 h2 h3 => by rw [u2_n _ _ _ h3, u2_n _ _ _ h2, u2_n _ _ _ h1, m2.1 k h1 h2 h3]
  refine ⟨?_, ?_, ?_, ?_, ?_, ?_, s7⟩
  · intro j hj
    rw [a j (by intro e; subst e; exact absurd hj (by decide)) (by intro e; subst e; exact absurd hj (by decide))]
    exact s1 j hj
  · intro j hj
    rw [b j (by intro e; subst e; exact absurd hj (by decide)) (by intro e; subst e; exact absurd hj (by decide)) (by intro e; subst e; exact absurd hj (by decide))]
    exact s2 j hj
  · intro t ht
    rw [a 6 (by decide) (by decide), a 1 (by decide) (by decide)]; exact s3 t ht
  · intro e he
    rw [a 17 (by decide) (by decide), a 18 (by decide) (by decide)]; exact s4 e he
  · intro e he
    have hle := IV_it hi he
    have q := s5 e he
    show _ = Int32.ofNat (va_up σ.2.2.2.2.1 c ((x_i σ c).take at_ ++ (v, r, d, x_n σ) :: (x_i σ c).drop at_) e).length ∧ ∀ i u, (va_up σ.2.2.2.2.1 c ((x_i σ c).take at_ ++ (v, r, d, x_n σ) :: (x_i σ c).drop at_) e)[i]? = some u → _
    rw [va_up_at]
    have c19 : ∀ q, u2 (u2 fI' 19 (16 * c + at_) v) 23 c (fI 23 c + 1) 19 q = if q = 16 * c + at_ then v else shU (fI 19) (16 * c + at_) ((x_i σ c).length - at_) q := fun q => by
      rw [u2_n _ _ _ (by decide), u2_k, m1.2]
    have c20 : ∀ q, u2 (u2 (u2 fD' 20 (16 * c + at_) rx) 21 (16 * c + at_) dx) 22 (16 * c + at_) tx 20 q = if q = 16 * c + at_ then rx else shU (fD 20) (16 * c + at_) ((x_i σ c).length - at_) q := fun q => by
      rw [u2_n _ _ _ (by decide), u2_n _ _ _ (by decide), u2_k, m2.2.1]
    have c21 : ∀ q, u2 (u2 (u2 fD' 20 (16 * c + at_) rx) 21 (16 * c + at_) dx) 22 (16 * c + at_) tx 21 q = if q = 16 * c + at_ then dx else shU (fD 21) (16 * c + at_) ((x_i σ c).length - at_) q := fun q => by
      rw [u2_n _ _ _ (by decide), u2_k]; dsimp only; rw [u2_n _ _ _ (by decide), m2.2.2.1]
    have c22 : ∀ q, u2 (u2 (u2 fD' 20 (16 * c + at_) rx) 21 (16 * c + at_) dx) 22 (16 * c + at_) tx 22 q = if q = 16 * c + at_ then tx else shU (fD 22) (16 * c + at_) ((x_i σ c).length - at_) q := fun q => by
      rw [u2_k]; dsimp only; rw [u2_n _ _ _ (by decide), u2_n _ _ _ (by decide), m2.2.2.2]
    by_cases ec : e = c
    · subst ec
      rw [if_pos rfl, u2_s]
      refine ⟨by rw [q.1, i_succ]; congr 1; rw [List.length_append, List.length_cons, List.length_take, List.length_drop]; omega, fun i u hiu => ?_⟩
      rw [ins_get ple] at hiu
      rw [c19, c20, c21, c22]
      by_cases h1 : i < at_
      · rw [if_pos h1] at hiu
        have n1 : ¬ 16 * e + i = 16 * e + at_ := by omega
        have n2 : ¬ (16 * e + at_ < 16 * e + i ∧ 16 * e + i ≤ 16 * e + at_ + ((x_i σ e).length - at_)) := by omega
        unfold shU
        rw [if_neg n1, if_neg n1, if_neg n1, if_neg n1, if_neg n2, if_neg n2, if_neg n2, if_neg n2]
        exact q.2 i u hiu
      · rw [if_neg h1] at hiu
        by_cases h2 : i = at_
        · subst h2
          rw [if_pos rfl] at hiu
          have hiu := Option.some.inj hiu
          subst hiu
          rw [if_pos rfl, if_pos rfl, if_pos rfl, if_pos rfl]
          exact ⟨rfl, hrx, hdx, s7⟩
        · rw [if_neg h2] at hiu
          have hil := get_lt hiu
          have n1 : ¬ 16 * e + i = 16 * e + at_ := by omega
          have n2 : 16 * e + at_ < 16 * e + i ∧ 16 * e + i ≤ 16 * e + at_ + ((x_i σ e).length - at_) := by
            have : i - 1 < (x_i σ e).length := hil
            omega
          unfold shU
          rw [if_neg n1, if_neg n1, if_neg n1, if_neg n1, if_pos n2, if_pos n2, if_pos n2, if_pos n2]
          have e3 : 16 * e + i - 1 = 16 * e + (i - 1) := by omega
          rw [e3]
          exact q.2 (i - 1) u hiu
    · rw [if_neg ec, u2_i _ _ _ ec, u2_n _ _ _ (by decide), m1.1 23 (by decide)]
      refine ⟨q.1, fun i u hiu => ?_⟩
      have hil : i < (x_i σ e).length := get_lt hiu
      have n1 : ¬ 16 * e + i = 16 * c + at_ := by omega
      have n2 : ¬ (16 * c + at_ < 16 * e + i ∧ 16 * e + i ≤ 16 * c + at_ + ((x_i σ c).length - at_)) := by omega
      rw [c19, c20, c21, c22]
      unfold shU
      rw [if_neg n1, if_neg n1, if_neg n1, if_neg n1, if_neg n2, if_neg n2, if_neg n2, if_neg n2]
      exact q.2 i u hiu
  · rw [b 24 (by decide) (by decide) (by decide)]; exact s6
end

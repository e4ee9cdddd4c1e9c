/-! THE LAW'S WORLD: the class's part, the reference's part, the two cells of answers. -/
theorem uni_n {M1 M2 : hM} {q : Nat} (h : M1 q = none) : uni M1 M2 q = M2 q := by unfold uni; rw [h]
theorem uni_s {M1 M2 : hM} {q : Nat} {e : va_E} (h : M1 q = some e) : uni M1 M2 q = some e := by unfold uni; rw [h]
theorem dis_s {M1 M2 : hM} (h : dis M1 M2) : dis M2 M1 := fun q => (h q).symm
theorem uni_c {M1 M2 : hM} (h : dis M1 M2) : uni M1 M2 = uni M2 M1 := by
  funext q
  rcases h q with e | e
  · rw [uni_n e]
    cases e2 : M2 q with
    | none => rw [uni_n e2, e]
    | some x => rw [uni_s e2]
  · rw [uni_n (M1 := M2) e]
    cases e2 : M1 q with
    | none => rw [uni_n e2, e]
    | some x => rw [uni_s e2]
theorem uni_a (M1 M2 M3 : hM) : uni (uni M1 M2) M3 = uni M1 (uni M2 M3) := by
  funext q
  cases e1 : M1 q with
  | none =>
    rw [uni_n (M1 := M1) e1]
    cases e2 : M2 q with
    | none => rw [uni_n (by rw [uni_n e1]; exact e2), uni_n e2]
    | some x => rw [uni_s (by rw [uni_n e1]; exact e2), uni_s e2]
  | some x => rw [uni_s (M2 := M3) (uni_s e1), uni_s e1]
theorem dis_l {M1 M2 M3 : hM} (h : dis (uni M1 M2) M3) : dis M1 M3 := fun q => by
  rcases h q with e | e
  · cases e1 : M1 q with
    | none => exact Or.inl rfl
    | some x => rw [uni_s e1] at e; cases e
  · exact Or.inr e
theorem dis_r {M1 M2 M3 : hM} (h : dis (uni M1 M2) M3) (h2 : dis M1 M2) : dis M2 M3 := fun q => by
  rcases h q with e | e
  · cases e1 : M1 q with
    | none => rw [uni_n e1] at e; exact Or.inl e
    | some x =>
      rcases h2 q with k | k
      · rw [e1] at k; cases k
      · exact Or.inl k
  · exact Or.inr e
theorem dis_u {M1 M2 M3 : hM} (h : dis M1 M3) (g : dis M2 M3) : dis (uni M1 M2) M3 := fun q => by
  rcases h q with e | e
  · rcases g q with k | k
    · exact Or.inl (by rw [uni_n e]; exact k)
    · exact Or.inr k
  · exact Or.inr e
/-- the two cells of answers -/
def XO (ca : Nat → Nat) (l3 l4 : Nat) (Mx : hM) : Prop := (∃ f : Nat → Int64, Mx l3 = some (.inl (ca 3, 1, .inr (.inl f)))) ∧ ∃ g : Nat → UInt64, Mx l4 = some (.inl (ca 4, 1, .inr (.inr (.inr (.inl g)))))
theorem XO_ne {ca : Nat → Nat} {l3 l4 : Nat} {Mx : hM} (h : XO ca l3 l4 Mx) : l3 ≠ l4 := fun e => by
  obtain ⟨⟨f, h1⟩, g, h2⟩ := h
  rw [e, h2] at h1; simp at h1
/-- the world after the class's call with the outcome r -/
def LM (G ca : Nat → Nat) (h l3 l4 : Nat) (M : hM) (r : Rs) : Prop := ∃ Mc Mx : hM, dis Mc Mx ∧ M = uni Mc Mx ∧ (∃ wa ka wk ch li kf, RC G ca h wa ka wk ch li kf Mc r.2.2) ∧ XO ca l3 l4 Mx ∧ (r.1 = 0 → ∃ f : Nat → Int64, Mx l3 = some (.inl (ca 3, 1, .inr (.inl f))) ∧ f 0 = r.2.1.toInt64)
def LW (G ca : Nat → Nat) (h mo l3 l4 : Nat) (M : hM) (σ : St) : Prop := ∃ Mc Mr Mx : hM, dis Mc Mx ∧ dis (uni Mc Mx) Mr ∧ M = uni (uni Mc Mx) Mr ∧ (∃ wa ka wk ch li kf, RC G ca h wa ka wk ch li kf Mc σ) ∧ (∃ ma fl, RR ca ma mo Mr σ fl) ∧ XO ca l3 l4 Mx
section
variable {G ca : Nat → Nat} {h mo l3 l4 : Nat} {σ : St} {N : Int}
theorem L_ok {Mc Mx : hM} {r : Rs} {post : Int32 → hM → Prop} {wa ka : Nat} {wk ch li : Nat → Nat} {kf : Nat → UInt64} (g : RC G ca h wa ka wk ch li kf Mc r.2.2) (hX : XO ca l3 l4 Mx) (h0 : r.1 = 0) (hp : ∀ M16, LM G ca h l3 l4 M16 r → post r.1 M16) :
    dis Mc Mx → ∀ M11 : hM, M11 = uni Mc Mx → nN (some l3) fun b15 => sJ M11 b15 (ca 3) 0 r.2.1.toInt64 fun M16 => post 0 M16 := by
  intro hd M11 e
  subst e
  have hne := XO_ne hX
  obtain ⟨⟨f, h1⟩, g4, h2⟩ := hX
  have hc3 : Mc l3 = none := by
    rcases hd l3 with e | e
    · exact e
    · rw [h1] at e; cases e
  refine nn_s ⟨1, f, by rw [uni_n hc3]; exact h1, i_in (n := 0) (N := 1) (by decide) (by decide), ?_⟩
  rw [h0] at hp
  refine hp _ ⟨Mc, va_up Mx l3 (some (.inl (ca 3, 1, .inr (.inl (vp_updL f 0 r.2.1.toInt64))))), fun q => ?_, ?_, ⟨_, _, _, _, _, _, g⟩, ⟨⟨_, va_up_self _ _ _⟩, g4, (va_up_ne _ _ (fun e => hne e.symm)).trans h2⟩, fun _ => ⟨_, va_up_self _ _ _, by simp [vp_updL]⟩⟩
  · by_cases e : q = l3
    · rw [e]; exact Or.inl hc3
    · rw [va_up_ne _ _ e]; exact hd q
  · funext q
    by_cases e : q = l3
    · rw [e, va_up_self, uni_n hc3, va_up_self]; rfl
    · rw [va_up_ne _ _ e]
      cases e1 : Mc q with
      | none => rw [uni_n e1, uni_n e1, va_up_ne _ _ e]
      | some x => rw [uni_s e1, uni_s e1]
theorem L_ex {Mc Mx : hM} {r : Rs} {k : Int32} {wa ka : Nat} {wk ch li : Nat → Nat} {kf : Nat → UInt64} {post : Int32 → hM → Prop} (g : RC G ca h wa ka wk ch li kf Mc σ) (hd : dis Mc Mx) (hX : XO ca l3 l4 Mx) (hp : ∀ M16, LM G ca h l3 l4 M16 r → post r.1 M16) (hk : k ≠ 0) (e : r = (k, 0, σ)) : post k (uni Mc Mx) := by
  subst e
  exact hp _ ⟨Mc, Mx, hd, rfl, ⟨_, _, _, _, _, _, g⟩, hX, fun e => absurd e hk⟩
theorem L_take (hG : ∀ i j, i < 3 → j < 3 → G i = G j → i = j) {Mc Mx : hM} {wa ka : Nat} {wk ch li : Nat → Nat} {kf : Nat → UInt64} (g : RC G ca h wa ka wk ch li kf Mc σ) (hi : IV σ N) (hd : dis Mc Mx) (hX : XO ca l3 l4 Mx) {T C L : Int32} {lx : UInt64} (hl : q8 lx L.toInt) {post : Int32 → hM → Prop}
    (hp : ∀ M16, LM G ca h l3 l4 M16 (o_take σ T C L) → post (o_take σ T C L).1 M16) : wp_La_take G ca post (uni Mc Mx) (some h) T C lx (some l3) :=
  nn_s ⟨Mc, Mx, hd, rfl, rc_h g (H_take hG g hi hl (fun h0 kf' M' g' => L_ok g' hX h0 hp) ⟨fun e _ M11 e2 => by subst e2; exact Or.inl ⟨rfl, L_ex g hd hX hp (by decide) e⟩, fun e _ M11 e2 => by subst e2; exact Or.inr (Or.inl ⟨rfl, L_ex g hd hX hp (by decide) e⟩), fun e _ M11 e2 => by subst e2; exact Or.inr (Or.inr (Or.inl ⟨rfl, L_ex g hd hX hp (by decide) e⟩)), fun e _ M11 e2 => by subst e2; exact Or.inr (Or.inr (Or.inr ⟨rfl, L_ex g hd hX hp (by decide) e⟩))⟩)⟩
theorem L_give (hG : ∀ i j, i < 3 → j < 3 → G i = G j → i = j) {Mc Mx : hM} {wa ka : Nat} {wk ch li : Nat → Nat} {kf : Nat → UInt64} (g : RC G ca h wa ka wk ch li kf Mc σ) (hi : IV σ N) (hd : dis Mc Mx) (hX : XO ca l3 l4 Mx) {T C V X L : Int32} {xx lx : UInt64} (hx : q8 xx X.toInt) (hl : q8 lx L.toInt) {post : Int32 → hM → Prop}
    (hp : ∀ M16, LM G ca h l3 l4 M16 (o_give σ T C V X L) → post (o_give σ T C V X L).1 M16) : wp_La_give G ca post (uni Mc Mx) (some h) T C V xx lx (some l3) :=
  nn_s ⟨Mc, Mx, hd, rfl, rc_h g (H_give hG g hi hx hl (fun h0 kf' M' g' => L_ok g' hX h0 hp) ⟨fun e _ M11 e2 => by subst e2; exact Or.inl ⟨rfl, L_ex g hd hX hp (by decide) e⟩, fun e _ M11 e2 => by subst e2; exact Or.inr (Or.inl ⟨rfl, L_ex g hd hX hp (by decide) e⟩), fun e _ M11 e2 => by subst e2; exact Or.inr (Or.inr (Or.inl ⟨rfl, L_ex g hd hX hp (by decide) e⟩)), fun e _ M11 e2 => by subst e2; exact Or.inr (Or.inr (Or.inr ⟨rfl, L_ex g hd hX hp (by decide) e⟩))⟩)⟩
theorem L_swap (hG : ∀ i j, i < 3 → j < 3 → G i = G j → i = j) {Mc Mx : hM} {wa ka : Nat} {wk ch li : Nat → Nat} {kf : Nat → UInt64} (g : RC G ca h wa ka wk ch li kf Mc σ) (hi : IV σ N) (hd : dis Mc Mx) (hX : XO ca l3 l4 Mx) {T C V L : Int32} {lx : UInt64} (hl : q8 lx L.toInt) {post : Int32 → hM → Prop}
    (hp : ∀ M16, LM G ca h l3 l4 M16 (o_swap σ T C V L) → post (o_swap σ T C V L).1 M16) : wp_La_swap G ca post (uni Mc Mx) (some h) T C V lx (some l3) :=
  nn_s ⟨Mc, Mx, hd, rfl, rc_h g (H_swap hG g hi hl (fun h0 kf' M' g' => L_ok g' hX h0 hp) ⟨fun e _ M11 e2 => by subst e2; exact Or.inl ⟨rfl, L_ex g hd hX hp (by decide) e⟩, fun e _ M11 e2 => by subst e2; exact Or.inr (Or.inl ⟨rfl, L_ex g hd hX hp (by decide) e⟩), fun e _ M11 e2 => by subst e2; exact Or.inr (Or.inr (Or.inl ⟨rfl, L_ex g hd hX hp (by decide) e⟩)), fun e _ M11 e2 => by subst e2; exact Or.inr (Or.inr (Or.inr ⟨rfl, L_ex g hd hX hp (by decide) e⟩))⟩)⟩
theorem L_arrive {Mc Mx : hM} {wa ka : Nat} {wk ch li : Nat → Nat} {kf : Nat → UInt64} (g : RC G ca h wa ka wk ch li kf Mc σ) (hi : IV σ N) (hd : dis Mc Mx) (hX : XO ca l3 l4 Mx) {T C L : Int32} {lx : UInt64} (hl : q8 lx L.toInt) {post : Int32 → hM → Prop}
    (hp : ∀ M16, LM G ca h l3 l4 M16 (o_arrive σ T C L) → post (o_arrive σ T C L).1 M16) : wp_La_arrive G ca post (uni Mc Mx) (some h) T C lx (some l3) :=
  nn_s ⟨Mc, Mx, hd, rfl, rc_h g (H_arrive g hi hl (fun h0 kf' M' g' => L_ok g' hX h0 hp) ⟨fun e _ M11 e2 => by subst e2; exact Or.inl ⟨rfl, L_ex g hd hX hp (by decide) e⟩, fun e _ M11 e2 => by subst e2; exact Or.inr (Or.inl ⟨rfl, L_ex g hd hX hp (by decide) e⟩), fun e _ M11 e2 => by subst e2; exact Or.inr (Or.inr (Or.inl ⟨rfl, L_ex g hd hX hp (by decide) e⟩)), fun e _ M11 e2 => by subst e2; exact Or.inr (Or.inr (Or.inr (Or.inl ⟨rfl, L_ex g hd hX hp (by decide) e⟩))), fun e _ M11 e2 => by subst e2; exact Or.inr (Or.inr (Or.inr (Or.inr ⟨rfl, L_ex g hd hX hp (by decide) e⟩)))⟩)⟩
theorem L_reset {Mc Mx : hM} {wa ka : Nat} {wk ch li : Nat → Nat} {kf : Nat → UInt64} (g : RC G ca h wa ka wk ch li kf Mc σ) (hi : IV σ N) (hd : dis Mc Mx) (hX : XO ca l3 l4 Mx) {C : Int32} {post : Int32 → hM → Prop}
    (hp : ∀ M16, LM G ca h l3 l4 M16 (o_reset σ C) → post (o_reset σ C).1 M16) : wp_La_reset G ca post (uni Mc Mx) (some h) C (some l3) :=
  nn_s ⟨Mc, Mx, hd, rfl, rc_h g (H_reset g hi (fun h0 kf' M' g' => L_ok g' hX h0 hp) (fun e _ M11 e2 => by subst e2; exact Or.inl ⟨rfl, L_ex g hd hX hp (by decide) e⟩) (fun e _ M11 e2 => by subst e2; exact Or.inr (Or.inl ⟨rfl, L_ex g hd hX hp (by decide) e⟩)) (fun e _ M11 e2 => by subst e2; exact Or.inr (Or.inr ⟨rfl, L_ex g hd hX hp (by decide) e⟩)))⟩
theorem L_intr (hG : ∀ i j, i < 3 → j < 3 → G i = G j → i = j) {Mc Mx : hM} {wa ka : Nat} {wk ch li : Nat → Nat} {kf : Nat → UInt64} (g : RC G ca h wa ka wk ch li kf Mc σ) (hi : IV σ N) (hd : dis Mc Mx) (hX : XO ca l3 l4 Mx) {T : Int32} {post : Int32 → hM → Prop}
    (hp : ∀ M16, LM G ca h l3 l4 M16 (o_intr σ T) → post (o_intr σ T).1 M16) : wp_La_interrupt G ca post (uni Mc Mx) (some h) T (some l3) :=
  nn_s ⟨Mc, Mx, hd, rfl, rc_h g (H_intr hG g hi (fun h0 kf' M' g' => L_ok g' hX h0 hp) (fun e _ M11 e2 => by subst e2; exact ⟨rfl, L_ex g hd hX hp (by decide) e⟩))⟩
theorem L_tick (hG : ∀ i j, i < 3 → j < 3 → G i = G j → i = j) {Mc Mx : hM} {wa ka : Nat} {wk ch li : Nat → Nat} {kf : Nat → UInt64} (g : RC G ca h wa ka wk ch li kf Mc σ) (hi : IV σ N) (hN : N + 8000 ≤ 4104000) (hd : dis Mc Mx) (hX : XO ca l3 l4 Mx) {D : Int32} {dx : UInt64} (hdx : q8 dx D.toInt) {post : Int32 → hM → Prop}
    (hp : ∀ M16, LM G ca h l3 l4 M16 (o_tick σ D) → post (o_tick σ D).1 M16) : wp_La_tick G ca post (uni Mc Mx) (some h) dx (some l3) :=
  nn_s ⟨Mc, Mx, hd, rfl, rc_h g (H_tick hG g hi hN hdx (fun h0 kf' M' g' => L_ok g' hX h0 hp) (fun e _ M11 e2 => by subst e2; exact ⟨rfl, L_ex g hd hX hp (by decide) e⟩))⟩
theorem L_got {Mc Mx : hM} {wa ka : Nat} {wk ch li : Nat → Nat} {kf : Nat → UInt64} (g : RC G ca h wa ka wk ch li kf Mc σ) (hd : dis Mc Mx) (hX : XO ca l3 l4 Mx) {T : Int32} {post : Int32 → hM → Prop}
    (hp : ∀ M16, LM G ca h l3 l4 M16 (o_got σ T) → post (o_got σ T).1 M16) : wp_La_got G ca post (uni Mc Mx) (some h) T (some l3) :=
  nn_s ⟨Mc, Mx, hd, rfl, rc_h g (H_got g (fun h0 kf' M' g' => L_ok g' hX h0 hp) (fun e _ M11 e2 => by subst e2; exact Or.inl ⟨rfl, L_ex g hd hX hp (by decide) e⟩) (fun e _ M11 e2 => by subst e2; exact Or.inr ⟨rfl, L_ex g hd hX hp (by decide) e⟩))⟩
theorem L_thread {Mc Mx : hM} {wa ka : Nat} {wk ch li : Nat → Nat} {kf : Nat → UInt64} (g : RC G ca h wa ka wk ch li kf Mc σ) (hi : IV σ N) (hd : dis Mc Mx) (hX : XO ca l3 l4 Mx) {T W : Int32} {post : Int32 → hM → Prop}
    (hp : ∀ M16, LM G ca h l3 l4 M16 (o_thread σ T W) → post (o_thread σ T W).1 M16) : wp_La_thread G ca post (uni Mc Mx) (some h) T W (some l3) :=
  nn_s ⟨Mc, Mx, hd, rfl, rc_h g (H_thread g hi (fun h0 kf' M' g' => L_ok g' hX h0 hp) (fun e _ M11 e2 => by subst e2; exact ⟨rfl, L_ex g hd hX hp (by decide) e⟩))⟩
theorem L_channel {Mc Mx : hM} {wa ka : Nat} {wk ch li : Nat → Nat} {kf : Nat → UInt64} (g : RC G ca h wa ka wk ch li kf Mc σ) (hi : IV σ N) (hd : dis Mc Mx) (hX : XO ca l3 l4 Mx) {C W : Int32} {post : Int32 → hM → Prop}
    (hp : ∀ M16, LM G ca h l3 l4 M16 (o_channel σ C W) → post (o_channel σ C W).1 M16) : wp_La_channel G ca post (uni Mc Mx) (some h) C W (some l3) :=
  nn_s ⟨Mc, Mx, hd, rfl, rc_h g (H_channel g hi (fun h0 kf' M' g' => L_ok g' hX h0 hp) (fun e _ M11 e2 => by subst e2; exact Or.inl ⟨rfl, L_ex g hd hX hp (by decide) e⟩) (fun e _ M11 e2 => by subst e2; exact Or.inr ⟨rfl, L_ex g hd hX hp (by decide) e⟩))⟩
theorem L_item {Mc Mx : hM} {wa ka : Nat} {wk ch li : Nat → Nat} {kf : Nat → UInt64} (g : RC G ca h wa ka wk ch li kf Mc σ) (hi : IV σ N) (hd : dis Mc Mx) (hX : XO ca l3 l4 Mx) {C I : Int32} {post : Int32 → hM → Prop}
    (hp : ∀ M16, LM G ca h l3 l4 M16 (o_item σ C I) → post (o_item σ C I).1 M16) : wp_La_item G ca post (uni Mc Mx) (some h) C I (some l3) :=
  nn_s ⟨Mc, Mx, hd, rfl, rc_h g (H_item g hi (fun h0 kf' M' g' => L_ok g' hX h0 hp) (fun e _ M11 e2 => by subst e2; exact Or.inl ⟨rfl, L_ex g hd hX hp (by decide) e⟩) (fun e _ M11 e2 => by subst e2; exact Or.inr (Or.inl ⟨rfl, L_ex g hd hX hp (by decide) e⟩)) (fun e _ M11 e2 => by subst e2; exact Or.inr (Or.inr ⟨rfl, L_ex g hd hX hp (by decide) e⟩)))⟩
theorem L_make {Mc Mx : hM} {wa ka : Nat} {wk ch li : Nat → Nat} {kf : Nat → UInt64} (g : RC G ca h wa ka wk ch li kf Mc σ) (hi : IV σ N) (hd : dis Mc Mx) (hX : XO ca l3 l4 Mx) {C K A : Int32} {post : Int32 → hM → Prop}
    (hp : ∀ M16, LM G ca h l3 l4 M16 (o_make σ C K A) → post (o_make σ C K A).1 M16) : wp_La_make G ca post (uni Mc Mx) (some h) C K A (some l3) :=
  nn_s ⟨Mc, Mx, hd, rfl, rc_h g (H_make g hi (fun h0 ch' li' kf' M' g' => L_ok g' hX h0 hp) (fun e _ M11 e2 => by subst e2; exact Or.inl ⟨rfl, L_ex g hd hX hp (by decide) e⟩) (fun e _ M11 e2 => by subst e2; exact Or.inr ⟨rfl, L_ex g hd hX hp (by decide) e⟩))⟩
theorem cmp_s (x : Int64) : lg_cmp x x = 0 := by
  unfold lg_cmp
  rw [if_neg (Int64.lt_irrefl), if_pos rfl]
/-- the reference's call after it, and the comparison -/
theorem L_fin {M16 Mr : hM} {r : Rs} {fl : Int32} {ma : Nat → Nat} (hMM : LM G ca h l3 l4 M16 r) (hr : RR ca ma mo Mr σ fl) (hd : dis M16 Mr) {M347 : hM} (e347 : M347 = uni M16 Mr) {WP : (Int32 → hM → Prop) → hM → Prop} {NEXT : hM → Prop}
    (hw : ∀ post : Int32 → hM → Prop, (∀ b M', RR ca ma mo M' r.2.2 r.1 → (r.1 = 0 → b = r.2.1) → post b M') → WP post Mr) (hn : ∀ M', LW G ca h mo l3 l4 M' r.2.2 → NEXT M') :
    spl M347 fun Ma Mb => rC Ma mo 5 (WP (fun r354 Mc358 => dis Mc358 Mb → ∀ M355 : hM, M355 = uni Mc358 Mb → spl M355 fun Ma361 Mb362 => rC Ma361 mo 5 (wp_Mo_thrown G ca (fun r359 Mc363 => dis Mc363 Mb362 → ∀ M360 : hM, M360 = uni Mc363 Mb362 → (r359 = r.1 → (¬ r.1 = 0 → NEXT M360) ∧ (r.1 = 0 → aJ M360 l3 (ca 3) 0 fun v366 => ((lg_cmp v366 r354.toInt64) = 0 → NEXT M360) ∧ (¬ (lg_cmp v366 r354.toInt64) = 0 → False))) ∧ (¬ r359 = r.1 → False)) Ma361 mo)) Ma) := by
  subst e347
  refine ⟨Mr, M16, dis_s hd, uni_c hd, rc_r hr (hw _ fun b Mr' hr' hb hd2 M355 e355 => ⟨Mr', M16, hd2, e355, rc_r hr' (gi_r hr' fun _ M360 e360 => ?_)⟩)⟩
  subst e360
  obtain ⟨Mc, Mx, hdx, rfl, g, hX, hf⟩ := hMM
  have hlw : LW G ca h mo l3 l4 (uni Mr' (uni Mc Mx)) r.2.2 := ⟨Mc, Mr', Mx, hdx, dis_s hd2, uni_c hd2, g, ⟨ma, r.1, hr'⟩, hX⟩
  refine ⟨fun _ => ⟨fun _ => hn _ hlw, fun h0 => ?_⟩, fun e => absurd rfl e⟩
  obtain ⟨f, h1, h2⟩ := hf h0
  have hc3 : Mc l3 = none := by
    rcases hdx l3 with e | e
    · exact e
    · rw [h1] at e; cases e
  have hr3 : Mr' l3 = none := by
    rcases hd2 l3 with e | e
    · exact e
    · rw [uni_n hc3, h1] at e; cases e
  refine ⟨1, f, by rw [uni_n hr3, uni_n hc3]; exact h1, i_in (n := 0) (N := 1) (by decide) (by decide), ?_⟩
  rw [hb h0, show f (0 : Int32).toNatClampNeg = r.2.1.toInt64 from h2]
  dsimp only
  rw [cmp_s]
  exact ⟨fun _ => hn _ hlw, fun e => absurd rfl e⟩
end

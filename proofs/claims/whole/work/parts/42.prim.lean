/-! THE CLASS'S STEPS, one cell at a time. -/
theorem xv_n (σ : St) {k k' : Nat} (i : Nat) (v : Int32) (h : k' ≠ k) : x_v (s_v σ k i v) k' = x_v σ k' := u2_n _ _ _ h
theorem xv_i (σ : St) (k k' : Nat) {i j : Nat} (v : Int32) (h : j ≠ i) : x_v (s_v σ k i v) k' j = x_v σ k' j := by
  by_cases e : k' = k
  · subst e; exact u2_i _ _ _ h
  · rw [xv_n σ i v e]
theorem xv_s (σ : St) (k i : Nat) (v : Int32) : x_v (s_v σ k i v) k i = v := u2_s _ _ _ _
theorem xe_n (σ : St) {k k' : Nat} (i : Nat) (v : Int) (h : k' ≠ k) : x_e (s_e σ k i v) k' = x_e σ k' := u2_n _ _ _ h
theorem xe_i (σ : St) (k k' : Nat) {i j : Nat} (v : Int) (h : j ≠ i) : x_e (s_e σ k i v) k' j = x_e σ k' j := by
  by_cases e : k' = k
  · subst e; exact u2_i _ _ _ h
  · rw [xe_n σ i v e]
theorem xe_s (σ : St) (k i : Nat) (v : Int) : x_e (s_e σ k i v) k i = v := u2_s _ _ _ _
theorem xp_s (σ : St) (t : Nat) (r : Option Nat) : x_p (s_p σ t r) t = r := va_up_self _ _ _
theorem xp_i (σ : St) {t u : Nat} (r : Option Nat) (h : u ≠ t) : x_p (s_p σ t r) u = x_p σ u := va_up_ne _ _ h
theorem sW_v (σ : St) (k : Nat) {t u : Nat} (v : Int32) (h : u ≠ t) : sW σ (s_v σ k t v) u := ⟨fun k' _ => xv_i σ k k' v h, rfl, fun _ _ => rfl⟩
theorem sW_e (σ : St) (k : Nat) {t u : Nat} (v : Int) (h : u ≠ t) : sW σ (s_e σ k t v) u := ⟨fun _ _ => rfl, rfl, fun k' _ => xe_i σ k k' v h⟩
theorem sW_p (σ : St) {t u : Nat} (r : Option Nat) (h : u ≠ t) : sW σ (s_p σ t r) u := ⟨fun _ _ => rfl, xp_i σ r h, fun _ _ => rfl⟩
theorem sW_t {a b c : St} {t : Nat} (h : sW a b t) (g : sW b c t) : sW a c t := ⟨fun k hk => (g.1 k hk).trans (h.1 k hk), g.2.1.trans h.2.1, fun k hk => (g.2.2 k hk).trans (h.2.2 k hk)⟩
theorem sC_v (σ : St) {k : Nat} (hk : ∀ j, j ∈ [14, 15, 16, 25] → j ≠ k) (t : Nat) (v : Int32) (c : Nat) : sC σ (s_v σ k t v) c := ⟨fun j hj => by rw [xv_n σ t v (hk j hj)], rfl, rfl, rfl⟩
theorem sC_w (σ : St) (k : Nat) {c d : Nat} (v : Int32) (h : d ≠ c) : sC σ (s_v σ k c v) d := ⟨fun j _ => xv_i σ k j v h, rfl, rfl, rfl⟩
theorem sC_e (σ : St) (k t : Nat) (v : Int) (c : Nat) : sC σ (s_e σ k t v) c := ⟨fun _ _ => rfl, rfl, rfl, rfl⟩
theorem sC_p (σ : St) (t : Nat) (r : Option Nat) (c : Nat) : sC σ (s_p σ t r) c := ⟨fun _ _ => rfl, rfl, rfl, rfl⟩
theorem sC_t {a b c : St} {t : Nat} (h : sC a b t) (g : sC b c t) : sC a c t := ⟨fun k hk => (g.1 k hk).trans (h.1 k hk), g.2.1.trans h.2.1, g.2.2.1.trans h.2.2.1, g.2.2.2.trans h.2.2.2⟩
theorem sH_v (σ : St) {k : Nat} (hk : k ≠ 13) (t : Nat) (v : Int32) : sH σ (s_v σ k t v) := ⟨xv_n σ t v (fun e => hk e.symm), rfl⟩
theorem wK_v {G : Nat → Nat} {σ : St} {t : Nat} {rl : Option Nat} {kx : UInt64} {he : Int32} {ex : UInt64} (k : Nat) (hk : k ≠ 7 ∧ k ≠ 13) (v : Int32) (g : wK G σ t rl kx he ex) : wK G (s_v σ k t v) t rl kx he ex := by
  intro c hc
  rw [xv_n σ t v (fun e => hk.1 e.symm), xv_n σ t v (fun e => hk.2 e.symm)]
  exact g c hc
section
variable {G ca : Nat → Nat} {h wa ka : Nat} {wk ch li : Nat → Nat} {kf : Nat → UInt64} {M : hM} {σ : St} {N : Int}
theorem w_cell (g : RC G ca h wa ka wk ch li kf M σ) {t : Nat} (ht : t < 6) : ∃ rl he ex, M (wk t) = some (.inr (2, wL t (x_v σ 2 t) (x_v σ 3 t) (x_v σ 4 t) (x_v σ 5 t) ((x_p σ t).map ch) rl (x_v σ 8 t) (kf t) he ex)) ∧ wK G σ t rl (kf t) he ex := by
  obtain ⟨O, g⟩ := g
  exact (g.2.1 t ht).2
theorem c_cell (g : RC G ca h wa ka wk ch li kf M σ) {c : Nat} (hc : c < 8) (hk : ¬ x_v σ 13 c < 0) : M (ch c) = some (.inr (0, cL σ li c)) := by
  obtain ⟨O, g⟩ := g
  exact ((g.2.2 c hc).2 hk).2.1
theorem rc_w {K : Prop} (g : RC G ca h wa ka wk ch li kf M σ) {t : Nat} (ht : t < 6) (hK : K) : rC M (wk t) 2 K := by
  obtain ⟨rl, he, ex, h1, _⟩ := w_cell g ht
  exact ⟨⟨_, h1⟩, hK⟩
theorem rc_c {K : Prop} (g : RC G ca h wa ka wk ch li kf M σ) {c : Nat} (hc : c < 8) (hk : ¬ x_v σ 13 c < 0) (hK : K) : rC M (ch c) 0 K := ⟨⟨_, c_cell g hc hk⟩, hK⟩
theorem rc_h {K : Prop} (g : RC G ca h wa ka wk ch li kf M σ) (hK : K) : rC M h 3 K := by
  obtain ⟨O, g⟩ := g
  obtain ⟨_, _, _, ⟨tx, h1, _⟩, _⟩ := g.1
  exact ⟨⟨_, h1⟩, hK⟩
/-- an int field of a thread is written -/
theorem wv_c {k fld t : Nat} {x : Int32} {K : hM → Prop} (g : RC G ca h wa ka wk ch li kf M σ) (hk : (k = 2 ∧ fld = 1) ∨ (k = 3 ∧ fld = 2) ∨ (k = 4 ∧ fld = 3) ∨ (k = 5 ∧ fld = 4) ∨ (k = 8 ∧ fld = 7)) (ht : t < 6) (hK : ∀ M', RC G ca h wa ka wk ch li kf M' (s_v σ k t x) → K M') : pF M (wk t) 2 fld (.int x) K := by
  obtain ⟨rl, he, ex, h1, h2⟩ := w_cell g ht
  obtain ⟨O, g⟩ := g
  have key := RO_w (σ' := s_v σ k t x) (kf' := kf) g ht (wK_v k (by omega) x h2) (fun u hu => ⟨sW_v σ k x hu, rfl⟩) (fun c => sC_v σ (fun j hj => by rcases hk with e | e | e | e | e <;> (rw [e.1]; revert j; decide)) t x c) (sH_v σ (by omega) t x)
  refine ⟨_, h1, by simp only [wL, List.length]; omega, hK _ ⟨O, ?_⟩⟩
  have e : (wL t (x_v σ 2 t) (x_v σ 3 t) (x_v σ 4 t) (x_v σ 5 t) ((x_p σ t).map ch) rl (x_v σ 8 t) (kf t) he ex).set fld (.int x) = wL t (x_v (s_v σ k t x) 2 t) (x_v (s_v σ k t x) 3 t) (x_v (s_v σ k t x) 4 t) (x_v (s_v σ k t x) 5 t) ((x_p (s_v σ k t x) t).map ch) rl (x_v (s_v σ k t x) 8 t) (kf t) he ex := by
    rcases hk with ⟨rfl, rfl⟩ | ⟨rfl, rfl⟩ | ⟨rfl, rfl⟩ | ⟨rfl, rfl⟩ | ⟨rfl, rfl⟩ <;> rw [xv_s] <;> rfl
  rw [e]; exact key
theorem wg_c {k fld t : Nat} {K : Int32 → Prop} (g : RC G ca h wa ka wk ch li kf M σ) (hk : (k = 2 ∧ fld = 1) ∨ (k = 3 ∧ fld = 2) ∨ (k = 4 ∧ fld = 3) ∨ (k = 5 ∧ fld = 4) ∨ (k = 8 ∧ fld = 7)) (ht : t < 6) (hK : K (x_v σ k t)) : gI M (wk t) 2 fld K := by
  obtain ⟨rl, he, ex, h1, h2⟩ := w_cell g ht
  refine ⟨_, _, h1, ?_, hK⟩
  rcases hk with ⟨rfl, rfl⟩ | ⟨rfl, rfl⟩ | ⟨rfl, rfl⟩ | ⟨rfl, rfl⟩ | ⟨rfl, rfl⟩ <;> rfl
theorem wp_c {t : Nat} {K : Option Nat → Prop} (g : RC G ca h wa ka wk ch li kf M σ) (ht : t < 6) (hK : K ((x_p σ t).map ch)) : gR M (wk t) 2 5 K := by
  obtain ⟨rl, he, ex, h1, h2⟩ := w_cell g ht
  exact ⟨_, _, h1, rfl, hK⟩
/-- a freed thread -/
theorem wn_c {t : Nat} {K : hM → Prop} (g : RC G ca h wa ka wk ch li kf M σ) (ht : t < 6) (hK : ∀ M', RC G ca h wa ka wk ch li kf M' (s_e (s_p σ t none) 11 t (-8)) → K M') : pF M (wk t) 2 5 .null K := by
  obtain ⟨rl, he, ex, h1, h2⟩ := w_cell g ht
  obtain ⟨O, g⟩ := g
  have key := RO_w (σ' := s_e (s_p σ t none) 11 t (-8)) (kf' := kf) (rl := rl) (he := he) (ex := ex) g ht (fun c hc => by rw [show x_p (s_e (s_p σ t none) 11 t (-8)) t = none from xp_s σ t none] at hc; cases hc)
    (fun u hu => ⟨sW_t (sW_p σ none hu) (sW_e _ 11 (-8) hu), rfl⟩) (fun c => ⟨fun _ _ => rfl, rfl, rfl, rfl⟩) ⟨rfl, rfl⟩
  refine ⟨_, h1, by simp only [wL, List.length]; omega, hK _ ⟨O, ?_⟩⟩
  rw [show x_p (s_e (s_p σ t none) 11 t (-8)) t = none from xp_s σ t none] at key
  exact key
/-- an int field of a channel -/
theorem cv_c {k fld c : Nat} {x : Int32} {K : hM → Prop} (g : RC G ca h wa ka wk ch li kf M σ) (hk : (k = 15 ∧ fld = 6) ∨ (k = 16 ∧ fld = 7) ∨ (k = 25 ∧ fld = 9)) (hc : c < 8) (hm : ¬ x_v σ 13 c < 0) (hK : ∀ M', RC G ca h wa ka wk ch li kf M' (s_v σ k c x) → K M') : pF M (ch c) 0 fld (.int x) K := by
  have h1 := c_cell g hc hm
  obtain ⟨O, g⟩ := g
  have key := RO_c (σ' := s_v σ k c x) g hc hm rfl rfl (fun u => ⟨fun j hj => by rw [xv_n σ c x]; rcases hk with e | e | e <;> (rw [e.1]; revert j; decide), rfl, fun _ _ => rfl⟩) (fun d hd => sC_w σ k x hd) (sH_v σ (by omega) c x)
  refine ⟨_, h1, by simp only [cL, List.length]; omega, hK _ ⟨O, ?_⟩⟩
  have e : (cL σ li c).set fld (.int x) = cL (s_v σ k c x) li c := by
    unfold cL
    rcases hk with ⟨rfl, rfl⟩ | ⟨rfl, rfl⟩ | ⟨rfl, rfl⟩ <;> rw [xv_s] <;> rfl
  rw [e]; exact key
theorem cs_c {c : Nat} {x : UInt64} {K : hM → Prop} (g : RC G ca h wa ka wk ch li kf M σ) (hc : c < 8) (hm : ¬ x_v σ 13 c < 0) (hK : ∀ M', RC G ca h wa ka wk ch li kf M' (s_s σ c x) → K M') : pF M (ch c) 0 8 (.double x) K := by
  have h1 := c_cell g hc hm
  obtain ⟨O, g⟩ := g
  have es : x_s (s_s σ c x) c = x := va_up_self _ _ _
  have key := RO_c (σ' := s_s σ c x) g hc hm rfl rfl (fun u => ⟨fun j hj => rfl, rfl, fun _ _ => rfl⟩) (fun d hd => ⟨fun _ _ => rfl, va_up_ne _ _ hd, rfl, rfl⟩) ⟨rfl, rfl⟩
  refine ⟨_, h1, by simp only [cL, List.length]; omega, hK _ ⟨O, ?_⟩⟩
  have e : (cL σ li c).set 8 (.double x) = cL (s_s σ c x) li c := by
    unfold cL
    rw [es]; rfl
  rw [e]; exact key
/-- the hall -/
theorem hn_c {K : UInt64 → Prop} (g : RC G ca h wa ka wk ch li kf M σ) (hK : ∀ x, q8 x (x_n σ) → K x) : gD M h 3 3 K := by
  obtain ⟨O, g⟩ := g
  obtain ⟨_, _, _, ⟨tx, h1, h2⟩, _⟩ := g.1
  exact ⟨_, _, h1, rfl, hK tx h2⟩
theorem hn_w {n : Int} {x : UInt64} {K : hM → Prop} (g : RC G ca h wa ka wk ch li kf M σ) (hx : q8 x n) (hK : ∀ M', RC G ca h wa ka wk ch li kf M' (s_n σ n) → K M') : pF M h 3 3 (.double x) K := by
  obtain ⟨O, g1, g2, g3⟩ := g
  obtain ⟨h1, h2, h3, ⟨tx, h4, h5⟩, ⟨f, h6, h7⟩, k, h8, h9⟩ := g1
  have hf : ∀ e, Fr (fun g => g = 1) M O (va_up M h (some e)) O := fun e => fr_u h1
  refine ⟨_, h4, by simp, hK _ ⟨O, ⟨h1, h2, h3, ⟨x, va_up_self _ _ _, hx⟩, ⟨f, fr_g (hf _) h6 (by omega), h7⟩, k, fr_g (hf _) h8 (by omega), h9⟩, fun u hu => cW_f (hf _) (by omega) rfl rfl ⟨fun _ _ => rfl, rfl, fun _ _ => rfl⟩ (g2 u hu), fun c hc => cC_f (hf _) (by omega) rfl ⟨fun _ _ => rfl, rfl, rfl, rfl⟩ (g3 c hc)⟩⟩
theorem hw_a {t : Nat} {K : Option Nat → Prop} (g : RC G ca h wa ka wk ch li kf M σ) (ht : t < 6) (hK : K (some (wk t))) : aR M wa (ca 0) (Int32.ofNat t) K := by
  obtain ⟨O, g⟩ := g
  obtain ⟨_, _, _, ⟨tx, h1, _⟩, ⟨f, h6, h7⟩, _⟩ := g.1
  refine ⟨6, f, h6, i_in ht (by decide), ?_⟩
  rw [i_of (by omega), h7 t ht]; exact hK
theorem hw_c {t : Nat} {K : Option Nat → Prop} (g : RC G ca h wa ka wk ch li kf M σ) (ht : t < 6) (hK : K (some (wk t))) : gR M h 3 0 fun v => nN v fun b => aR M b (ca 0) (Int32.ofNat t) K := by
  have g0 := g
  obtain ⟨O, g⟩ := g
  obtain ⟨_, _, _, ⟨tx, h1, _⟩, _⟩ := g.1
  exact ⟨_, some wa, h1, rfl, nn_s (hw_a g0 ht hK)⟩
theorem hc_a {c : Nat} {K : Option Nat → Prop} (g : RC G ca h wa ka wk ch li kf M σ) (hc : c < 8) (hK : K (if x_v σ 13 c < 0 then none else some (ch c))) : aR M ka (ca 1) (Int32.ofNat c) K := by
  obtain ⟨O, g⟩ := g
  obtain ⟨_, _, _, ⟨tx, h1, _⟩, _, f, h6, h7⟩ := g.1
  refine ⟨8, f, h6, i_in hc (by decide), ?_⟩
  rw [i_of (by omega), h7 c hc]; exact hK
theorem hc_c {c : Nat} {K : Option Nat → Prop} (g : RC G ca h wa ka wk ch li kf M σ) (hc : c < 8) (hK : K (if x_v σ 13 c < 0 then none else some (ch c))) : gR M h 3 1 fun v => nN v fun b => aR M b (ca 1) (Int32.ofNat c) K := by
  have g0 := g
  obtain ⟨O, g⟩ := g
  obtain ⟨_, _, _, ⟨tx, h1, _⟩, _⟩ := g.1
  exact ⟨_, some ka, h1, rfl, nn_s (hc_a g0 hc hK)⟩
theorem hw_l {K : Nat → Int32 → Prop} (g : RC G ca h wa ka wk ch li kf M σ) (hK : K wa 6) : gR M h 3 0 fun v => nN v fun b => aL M b (ca 0) fun n => K b n := by
  obtain ⟨O, g⟩ := g
  obtain ⟨_, _, _, ⟨tx, h1, _⟩, ⟨f, h6, h7⟩, _⟩ := g.1
  exact ⟨_, some wa, h1, rfl, nn_s ⟨_, h6, hK⟩⟩
theorem hc_l {K : Nat → Int32 → Prop} (g : RC G ca h wa ka wk ch li kf M σ) (hK : K ka 8) : gR M h 3 1 fun v => nN v fun b => aL M b (ca 1) fun n => K b n := by
  obtain ⟨O, g⟩ := g
  obtain ⟨_, _, _, ⟨tx, h1, _⟩, _, f, h6, h7⟩ := g.1
  exact ⟨_, some ka, h1, rfl, nn_s ⟨_, h6, hK⟩⟩
/-! the lists of a channel -/
theorem wt_o {c : Nat} {K : Nat → Prop} (g : RC G ca h wa ka wk ch li kf M σ) (hc : c < 8) (hm : ¬ x_v σ 13 c < 0) (hK : K (li (2 * c + 1))) : gR M (ch c) 0 5 fun v => nN v fun b => K b := ⟨_, some (li (2 * c + 1)), c_cell g hc hm, rfl, nn_s hK⟩
theorem it_o {c : Nat} {K : Nat → Prop} (g : RC G ca h wa ka wk ch li kf M σ) (hc : c < 8) (hm : ¬ x_v σ 13 c < 0) (hK : K (li (2 * c))) : gR M (ch c) 0 4 fun v => nN v fun b => K b := ⟨_, some (li (2 * c)), c_cell g hc hm, rfl, nn_s hK⟩
theorem wt_size {c : Nat} {post : Int32 → hM → Prop} (g : RC G ca h wa ka wk ch li kf M σ) (hc : c < 8) (hm : ¬ x_v σ 13 c < 0) (hp : post (Int32.ofNat (x_w σ c).length) M) : gR M (ch c) 0 5 fun v => nN v fun b => rC M b 4 (wp_Al_size G ca post M b) := by
  refine wt_o g hc hm ?_
  obtain ⟨O, g⟩ := g
  refine al_size ((g.2.2 c hc).2 hm).2.2.1 ?_
  rw [List.length_map]; exact hp
theorem wt_get {c i t : Nat} {post : Option Nat → hM → Prop} (g : RC G ca h wa ka wk ch li kf M σ) (hc : c < 8) (hm : ¬ x_v σ 13 c < 0) (hi : (x_w σ c)[i]? = some t) (hp : post (some (wk t)) M) : gR M (ch c) 0 5 fun v => nN v fun b => rC M b 4 (wp_Al_get G ca post M b (Int32.ofNat i)) := by
  refine wt_o g hc hm ?_
  obtain ⟨O, g⟩ := g
  exact al_get ((g.2.2 c hc).2 hm).2.2.1 (by rw [List.getElem?_map, hi]; rfl) hp
theorem wt_cls {O : Nat → Nat} (g : RO G ca h wa ka wk ch li kf M O σ) {t : Nat} (ht : t < 6) : cls M O 2 (wk t) := by
  obtain ⟨h1, rl, he, ex, h2, _⟩ := g.2.1 t ht
  exact ⟨by omega, _, h2⟩
theorem wt_all {O : Nat → Nat} (g : RO G ca h wa ka wk ch li kf M O σ) {c : Nat} (hw : ∀ t, t ∈ x_w σ c → t < 6) : ∀ y, y ∈ (x_w σ c).map wk → cls M O 2 y := fun y hy => by
  obtain ⟨t, ht, rfl⟩ := List.mem_map.mp hy
  exact wt_cls g (hw t ht)
theorem map_erase (f : Nat → Nat) : ∀ (l : List Nat) (i : Nat), (l.eraseIdx i).map f = (l.map f).eraseIdx i
  | [], _ => rfl
  | _ :: _, 0 => rfl
  | a :: l, i + 1 => by
    show f a :: (l.eraseIdx i).map f = f a :: (l.map f).eraseIdx i
    rw [map_erase f l i]
theorem wt_remove {c i t : Nat} {post : Option Nat → hM → Prop} (g : RC G ca h wa ka wk ch li kf M σ) (hc : c < 8) (hm : ¬ x_v σ 13 c < 0) (hw : ∀ t, t ∈ x_w σ c → t < 6) (hi : (x_w σ c)[i]? = some t) (hp : ∀ M', RC G ca h wa ka wk ch li kf M' (s_w σ c ((x_w σ c).eraseIdx i)) → post (some (wk t)) M') : gR M (ch c) 0 5 fun v => nN v fun b => rC M b 4 (wp_Al_remove G ca post M b (Int32.ofNat i)) := by
  refine wt_o g hc hm ?_
  obtain ⟨O, g⟩ := g
  refine al_remove (Or.inr rfl) (by omega) ((g.2.2 c hc).2 hm).2.2.1 (wt_all g hw) (by rw [List.getElem?_map, hi]; rfl) fun M' hf ha => hp M' ⟨O, RO_l g hc hm hf ?_⟩
  rw [map_erase]; exact ha
theorem wt_clear {c : Nat} {post : hM → Prop} (g : RC G ca h wa ka wk ch li kf M σ) (hc : c < 8) (hm : ¬ x_v σ 13 c < 0) (hp : ∀ M', RC G ca h wa ka wk ch li kf M' (s_w σ c []) → post M') : gR M (ch c) 0 5 fun v => nN v fun b => rC M b 4 (wp_Al_clear G ca post M b) := by
  refine wt_o g hc hm ?_
  obtain ⟨O, g⟩ := g
  exact al_clear ((g.2.2 c hc).2 hm).2.2.1 fun M' hf ha => hp M' ⟨O, RO_l g hc hm (l := []) hf ha⟩
theorem wt_add {c t : Nat} {post : Int32 → hM → Prop} (g : RC G ca h wa ka wk ch li kf M σ) (hc : c < 8) (hm : ¬ x_v σ 13 c < 0) (hw : ∀ t, t ∈ x_w σ c → t < 6) (hl : (x_w σ c).length < 16) (ht : t < 6) (hp : ∀ M', RC G ca h wa ka wk ch li kf M' (s_w σ c (x_w σ c ++ [t])) → post 1 M') : gR M (ch c) 0 5 fun v => nN v fun b => rC M b 4 (wp_Al_add_Object G ca post M b (some (wk t))) := by
  refine wt_o g hc hm ?_
  obtain ⟨O, g⟩ := g
  refine al_add (Or.inr rfl) (by omega) (by rw [List.length_map]; exact hl) ((g.2.2 c hc).2 hm).2.2.1 (wt_all g hw) (wt_cls g ht) fun M' O' hf ha => hp M' ⟨O', RO_l g hc hm hf ?_⟩
  rw [List.map_append]; exact ha
theorem it_size {c : Nat} {post : Int32 → hM → Prop} (g : RC G ca h wa ka wk ch li kf M σ) (hc : c < 8) (hm : ¬ x_v σ 13 c < 0) (hp : post (Int32.ofNat (x_i σ c).length) M) : gR M (ch c) 0 4 fun v => nN v fun b => rC M b 4 (wp_Al_size G ca post M b) := by
  refine it_o g hc hm ?_
  obtain ⟨O, g⟩ := g
  obtain ⟨qs, h1, h2, h3⟩ := ((g.2.2 c hc).2 hm).2.2.2
  refine al_size h1 ?_
  rw [h2]; exact hp
theorem it_empty {c : Nat} {post : Int32 → hM → Prop} (g : RC G ca h wa ka wk ch li kf M σ) (hc : c < 8) (hm : ¬ x_v σ 13 c < 0) (hl : (x_i σ c).length ≤ 16) (hp : post (if x_i σ c = [] then 1 else 0) M) : gR M (ch c) 0 4 fun v => nN v fun b => rC M b 4 (wp_Al_isEmpty G ca post M b) := by
  refine it_o g hc hm ?_
  obtain ⟨O, g⟩ := g
  obtain ⟨qs, h1, h2, h3⟩ := ((g.2.2 c hc).2 hm).2.2.2
  refine al_empty h1 (by omega) ?_
  have e : (qs = []) ↔ (x_i σ c = []) := by rw [← List.length_eq_zero_iff, h2, List.length_eq_zero_iff]
  by_cases hz : x_i σ c = []
  · rw [if_pos hz] at hp; rw [if_pos (e.mpr hz)]; exact hp
  · rw [if_neg hz] at hp; rw [if_neg (fun k => hz (e.mp k))]; exact hp
/-- an item's cell -/
def IC (M : hM) (kd : Int32) (q : Nat) (e : It) : Prop := ∃ kx sx, M q = some (.inr (1, [.int e.1, .double kx, .double sx])) ∧ kO kd e.2.1 e.2.2.1 kx ∧ q8 sx e.2.2.2
theorem it_get {c i : Nat} {e : It} {post : Option Nat → hM → Prop} (g : RC G ca h wa ka wk ch li kf M σ) (hc : c < 8) (hm : ¬ x_v σ 13 c < 0) (hi : (x_i σ c)[i]? = some e) (hp : ∀ q, IC M (x_v σ 13 c) q e → post (some q) M) : gR M (ch c) 0 4 fun v => nN v fun b => rC M b 4 (wp_Al_get G ca post M b (Int32.ofNat i)) := by
  refine it_o g hc hm ?_
  obtain ⟨O, g⟩ := g
  obtain ⟨qs, h1, h2, h3⟩ := ((g.2.2 c hc).2 hm).2.2.2
  obtain ⟨q, hq, hiq⟩ := h3 i e hi
  exact al_get h1 hq (hp q hiq.2)
theorem it_all {M : hM} {O : Nat → Nat} {kd : Int32} {l : List It} {qs : List Nat} (h2 : qs.length = l.length) (h3 : ∀ (i : Nat) (e : It), l[i]? = some e → ∃ q, qs[i]? = some q ∧ IQ M O kd q e) : ∀ y, y ∈ qs → cls M O 1 y := fun y hy => by
  obtain ⟨i, hi, rfl⟩ := List.getElem_of_mem hy
  obtain ⟨q, hq, h5, kx, sx, h6, _⟩ := h3 i _ (List.getElem?_eq_getElem (by omega : i < l.length))
  rw [List.getElem?_eq_getElem hi] at hq
  cases hq
  exact ⟨by omega, _, h6⟩
theorem it_remove {c : Nat} {e : It} {l : List It} {post : Option Nat → hM → Prop} (g : RC G ca h wa ka wk ch li kf M σ) (hc : c < 8) (hm : ¬ x_v σ 13 c < 0) (hx : x_i σ c = e :: l) (hp : ∀ q M', RC G ca h wa ka wk ch li kf M' (s_i σ c l) → IC M' (x_v σ 13 c) q e → post (some q) M') : gR M (ch c) 0 4 fun v => nN v fun b => rC M b 4 (wp_Al_remove G ca post M b 0) := by
  refine it_o g hc hm ?_
  obtain ⟨O, g⟩ := g
  obtain ⟨qs, h1, h2, h3⟩ := ((g.2.2 c hc).2 hm).2.2.2
  obtain ⟨q, hq, hiq⟩ := h3 0 e (by rw [hx]; rfl)
  refine al_remove (i := 0) (Or.inl rfl) (by omega) h1 (it_all h2 h3) hq fun M' hf ha => ?_
  have h5 : ¬ tg (50 + 2 * c) 5 := by intro e; rcases e with e | e <;> omega
  refine hp q M' ⟨O, RO_i g hc hm hf ⟨_, ha, ?_, fun i e' he => ?_⟩⟩ (IQ_f hf h5 hiq).2
  · rw [List.length_eraseIdx, h2, hx]; simp
  · obtain ⟨q', hq', hiq'⟩ := h3 (i + 1) e' (by rw [hx]; exact he)
    refine ⟨q', ?_, IQ_f hf h5 hiq'⟩
    rw [List.getElem?_eraseIdx, if_neg (by omega)]; exact hq'
theorem it_add {c p : Nat} {v : Int32} {r d s : Int} {kx sx : UInt64} {post : hM → Prop} (g : RC G ca h wa ka wk ch li kf M σ) (hc : c < 8) (hm : ¬ x_v σ 13 c < 0) (hl : (x_i σ c).length < 16) (hpl : p ≤ (x_i σ c).length) (hk : kO (x_v σ 13 c) r d kx) (hs : q8 sx s)
    (hp : ∀ M', RC G ca h wa ka wk ch li kf M' (s_i σ c ((x_i σ c).take p ++ (v, r, d, s) :: (x_i σ c).drop p)) → post M') : wp_Ch_put_42 G ca post M (ch c) v kx sx (Int32.ofNat p) := by
  refine ⟨_, some (li (2 * c)), c_cell g hc hm, rfl, fun q hq => ?_⟩
  obtain ⟨O, g⟩ := g
  refine ⟨_, va_up_self _ _ _, by simp, _, va_up_self _ _ _, by simp, _, va_up_self _ _ _, by simp, nn_s ?_⟩
  have eu : ∀ e0 e1 e2 e3 : va_E, va_up (va_up (va_up (va_up M q (some e0)) q (some e1)) q (some e2)) q (some e3) = va_up M q (some e3) := fun e0 e1 e2 e3 => by
    funext j
    by_cases hj : j = q
    · rw [hj, va_up_self, va_up_self]
    · rw [va_up_ne _ _ hj, va_up_ne _ _ hj, va_up_ne _ _ hj, va_up_ne _ _ hj, va_up_ne _ _ hj]
  rw [eu]
  have g1 := RO_n (n := 5) (e := .inr (1, [.int v, .double kx, .double sx])) g hq
  obtain ⟨qs, h1, h2, h3⟩ := ((g1.2.2 c hc).2 hm).2.2.2
  have hcq : cls (va_up M q (some (.inr (1, [.int v, .double kx, .double sx])))) (va_up O q 5) 1 q := ⟨by rw [va_up_self]; decide, _, va_up_self _ _ _⟩
  refine al_addat (Or.inl rfl) (by omega) (by omega) (by omega) h1 (it_all h2 h3) hcq fun M' O' hf ha => hp M' ⟨O', RO_i g1 hc hm hf ⟨_, ha, ?_, fun i e' he => ?_⟩⟩
  · simp only [List.length_append, List.length_take, List.length_cons, List.length_drop]; omega
  · have h5 : ¬ tg (50 + 2 * c) 5 := by intro e; rcases e with e | e <;> omega
    rw [ins_get hpl] at he
    rw [ins_get (by omega)]
    split at he
    · rw [if_pos (by assumption)]
      obtain ⟨q', hq', hiq'⟩ := h3 i e' he
      exact ⟨q', hq', IQ_f hf h5 hiq'⟩
    · rw [if_neg (by assumption)]
      split at he
      · rw [if_pos (by assumption)]
        cases he
        exact ⟨q, rfl, IQ_f hf h5 ⟨va_up_self _ _ _, kx, sx, va_up_self _ _ _, hk, hs⟩⟩
      · rw [if_neg (by assumption)]
        obtain ⟨q', hq', hiq'⟩ := h3 _ e' he
        exact ⟨q', hq', IQ_f hf h5 hiq'⟩
end

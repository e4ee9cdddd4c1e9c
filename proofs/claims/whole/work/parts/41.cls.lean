/-! THE CLASS'S STATE: its cells and the abstract state. Ghosts: h the hall, wa and ka its arrays, wk and ch the addresses of threads and channels, li the lists (2c items, 2c+1 waiters), kf the offered keys. Tags: 1 hall, 2 and 3 its arrays, 5 items, 10+t threads, 20+c channels, 30+2c waiters, 50+2c items, +100 their tables. -/
def kO (kd : Int32) (r d : Int) (x : UInt64) : Prop := (kd = 3 → e8 x (-r)) ∧ (kd = 4 → q8 x d) ∧ (kd ≠ 3 → kd ≠ 4 → e8 x 0)
theorem kO_cmp {kd : Int32} {r d : Int} {x y : UInt64} {e : It} (hx : kO kd e.2.1 e.2.2.1 x) (hy : kO kd r d y) {o : CmpOp} : Op.cmpValue (FP.dcmp x y) o ≤ 0 ↔ ¬ kp kd r d e = true := by
  unfold kp
  rw [decide_eq_true_iff]
  by_cases h3 : kd = 3
  · rw [e_le (hx.1 h3) (hy.1 h3)]
    have h4 : kd ≠ 4 := fun e => by rw [h3] at e; exact absurd e (by decide)
    exact ⟨fun g k => k.elim (fun k => by omega) (fun k => h4 k.1), fun g => by
      have : ¬ e.2.1 < r := fun k => g (Or.inl ⟨h3, k⟩)
      omega⟩
  · by_cases h4 : kd = 4
    · rw [e_le (hx.2.1 h4).1 (hy.2.1 h4).1]
      exact ⟨fun g k => k.elim (fun k => h3 k.1) (fun k => by omega), fun g => by
        have : ¬ d < e.2.2.1 := fun k => g (Or.inr ⟨h4, k⟩)
        omega⟩
    · rw [e_le (hx.2.2 h3 h4) (hy.2.2 h3 h4)]
      exact ⟨fun _ k => k.elim (fun k => h3 k.1) (fun k => h4 k.1), fun _ => by omega⟩
def wL (t : Nat) (v2 v3 v4 v5 : Int32) (pl rl : Option Nat) (v8 : Int32) (kx : UInt64) (he : Int32) (ex : UInt64) : List Value :=
  [.int (Int32.ofNat t), .int v2, .int v3, .int v4, .int v5, va_rf pl, va_rf rl, .int v8, .double kx, .int he, .double ex]
def wK (G : Nat → Nat) (σ : St) (t : Nat) (rl : Option Nat) (kx : UInt64) (he : Int32) (ex : UInt64) : Prop :=
  ∀ c, x_p σ t = some c → (∃ r : Nat, r < 3 ∧ x_v σ 7 t = Int32.ofNat r ∧ rl = some (G r)) ∧ ((0 ≤ x_e σ 11 t ∧ he = 1 ∧ q8 ex (x_e σ 11 t)) ∨ (x_e σ 11 t < 0 ∧ he = 0)) ∧ (x_v σ 7 t = 0 → kO (x_v σ 13 c) (x_e σ 9 t) (x_e σ 10 t) kx)
def cW (G : Nat → Nat) (wk ch : Nat → Nat) (kf : Nat → UInt64) (M : hM) (O : Nat → Nat) (σ : St) (t : Nat) : Prop :=
  O (wk t) = 10 + t ∧ ∃ rl he ex, M (wk t) = some (.inr (2, wL t (x_v σ 2 t) (x_v σ 3 t) (x_v σ 4 t) (x_v σ 5 t) ((x_p σ t).map ch) rl (x_v σ 8 t) (kf t) he ex)) ∧ wK G σ t rl (kf t) he ex
def cL (σ : St) (li : Nat → Nat) (c : Nat) : List Value :=
  [.int (Int32.ofNat c), .int (x_v σ 13 c), .int (if x_v σ 13 c = 6 then 0 else x_v σ 14 c), .int (if x_v σ 13 c = 6 then x_v σ 14 c else 0), .ref (li (2 * c)), .ref (li (2 * c + 1)), .int (x_v σ 15 c), .int (x_v σ 16 c), .double (x_s σ c), .int (x_v σ 25 c)]
def IQ (M : hM) (O : Nat → Nat) (kd : Int32) (q : Nat) (e : It) : Prop := O q = 5 ∧ ∃ kx sx, M q = some (.inr (1, [.int e.1, .double kx, .double sx])) ∧ kO kd e.2.1 e.2.2.1 kx ∧ q8 sx e.2.2.2
def cI (G ca li : Nat → Nat) (M : hM) (O : Nat → Nat) (kd : Int32) (l : List It) (c : Nat) : Prop :=
  ∃ qs : List Nat, AL G ca O M (50 + 2 * c) (li (2 * c)) qs ∧ qs.length = l.length ∧ ∀ (i : Nat) (e : It), l[i]? = some e → ∃ q, qs[i]? = some q ∧ IQ M O kd q e
def cU (σ : St) (c : Nat) : Prop := x_v σ 15 c = 0 ∧ x_v σ 16 c = 0 ∧ x_v σ 25 c = 0 ∧ x_s σ c = FP.dconst0
def cC (G ca wk ch li : Nat → Nat) (M : hM) (O : Nat → Nat) (σ : St) (c : Nat) : Prop :=
  (x_v σ 13 c < 0 → cU σ c) ∧ (¬ x_v σ 13 c < 0 → O (ch c) = 20 + c ∧ M (ch c) = some (.inr (0, cL σ li c)) ∧ AL G ca O M (30 + 2 * c) (li (2 * c + 1)) ((x_w σ c).map wk) ∧ cI G ca li M O (x_v σ 13 c) (x_i σ c) c)
def cH (ca : Nat → Nat) (h wa ka : Nat) (wk ch : Nat → Nat) (M : hM) (O : Nat → Nat) (σ : St) : Prop :=
  O h = 1 ∧ O wa = 2 ∧ O ka = 3 ∧ (∃ tx, M h = some (.inr (3, [.ref wa, .ref ka, .int (cn (x_v σ 13) 8), .double tx])) ∧ q8 tx (x_n σ)) ∧ (∃ f, M wa = some (aE (ca 0) 6 f) ∧ ∀ t, t < 6 → f t = some (wk t)) ∧
    ∃ g, M ka = some (aE (ca 1) 8 g) ∧ ∀ c, c < 8 → g c = if x_v σ 13 c < 0 then none else some (ch c)
def RO (G ca : Nat → Nat) (h wa ka : Nat) (wk ch li : Nat → Nat) (kf : Nat → UInt64) (M : hM) (O : Nat → Nat) (σ : St) : Prop :=
  cH ca h wa ka wk ch M O σ ∧ (∀ t, t < 6 → cW G wk ch kf M O σ t) ∧ ∀ c, c < 8 → cC G ca wk ch li M O σ c
def RC (G ca : Nat → Nat) (h wa ka : Nat) (wk ch li : Nat → Nat) (kf : Nat → UInt64) (M : hM) (σ : St) : Prop := ∃ O, RO G ca h wa ka wk ch li kf M O σ
def sH (σ σ' : St) : Prop := x_v σ' 13 = x_v σ 13 ∧ x_n σ' = x_n σ
def sW (σ σ' : St) (t : Nat) : Prop := (∀ k, k ∈ [2, 3, 4, 5, 7, 8] → x_v σ' k t = x_v σ k t) ∧ x_p σ' t = x_p σ t ∧ ∀ k, k ∈ [9, 10, 11] → x_e σ' k t = x_e σ k t
def sC (σ σ' : St) (c : Nat) : Prop := (∀ k, k ∈ [14, 15, 16, 25] → x_v σ' k c = x_v σ k c) ∧ x_s σ' c = x_s σ c ∧ x_i σ' c = x_i σ c ∧ x_w σ' c = x_w σ c
section
variable {G ca : Nat → Nat} {h wa ka : Nat} {wk ch li : Nat → Nat} {kf kf' : Nat → UInt64} {M M' : hM} {O O' : Nat → Nat} {σ σ' : St} {S : Nat → Prop} {N : Int}
theorem cH_f (hf : Fr S M O M' O') (hs : ¬ S 1 ∧ ¬ S 2 ∧ ¬ S 3) (e : sH σ σ') (g : cH ca h wa ka wk ch M O σ) : cH ca h wa ka wk ch M' O' σ' := by
  obtain ⟨h1, h2, h3, ⟨tx, h4, h5⟩, ⟨f, h6, h7⟩, k, h8, h9⟩ := g
  refine ⟨(fr_o hf h4).trans h1, (fr_o hf h6).trans h2, (fr_o hf h8).trans h3, ⟨tx, ?_, by rw [e.2]; exact h5⟩, ⟨f, fr_g hf h6 (by rw [h2]; exact hs.2.1), h7⟩, k, fr_g hf h8 (by rw [h3]; exact hs.2.2), fun c hc => by rw [e.1]; exact h9 c hc⟩
  rw [e.1]; exact fr_g hf h4 (by rw [h1]; exact hs.1)
theorem wK_p {t : Nat} {rl : Option Nat} {kx : UInt64} {he : Int32} {ex : UInt64} (h13 : ∀ c, x_p σ t = some c → x_v σ' 13 c = x_v σ 13 c) (e : sW σ σ' t) (g : wK G σ t rl kx he ex) : wK G σ' t rl kx he ex := by
  intro c hc
  rw [e.2.1] at hc
  rw [e.1 7 (by decide), e.2.2 11 (by decide), e.2.2 9 (by decide), e.2.2 10 (by decide), h13 c hc]
  exact g c hc
theorem wK_s {t : Nat} {rl : Option Nat} {kx : UInt64} {he : Int32} {ex : UInt64} (h13 : x_v σ' 13 = x_v σ 13) (e : sW σ σ' t) (g : wK G σ t rl kx he ex) : wK G σ' t rl kx he ex := wK_p (fun c _ => congrFun h13 c) e g
theorem cW_f {t : Nat} (hf : Fr S M O M' O') (hs : ¬ S (10 + t)) (h13 : x_v σ' 13 = x_v σ 13) (hk : kf' t = kf t) (e : sW σ σ' t) (g : cW G wk ch kf M O σ t) : cW G wk ch kf' M' O' σ' t := by
  obtain ⟨h1, rl, he, ex, h2, h3⟩ := g
  refine ⟨(fr_o hf h2).trans h1, rl, he, ex, ?_, by rw [hk]; exact wK_s h13 e h3⟩
  rw [e.1 2 (by decide), e.1 3 (by decide), e.1 4 (by decide), e.1 5 (by decide), e.1 8 (by decide), e.2.1, hk]
  exact fr_g hf h2 (by rw [h1]; exact hs)
theorem IQ_f {kd : Int32} {q : Nat} {e : It} (hf : Fr S M O M' O') (hs : ¬ S 5) (g : IQ M O kd q e) : IQ M' O' kd q e := by
  obtain ⟨h1, kx, sx, h2, h3⟩ := g
  exact ⟨(fr_o hf h2).trans h1, kx, sx, fr_g hf h2 (by rw [h1]; exact hs), h3⟩
theorem cI_f {kd : Int32} {l : List It} {c : Nat} (hf : Fr S M O M' O') (hs : ¬ S 5 ∧ ¬ S (50 + 2 * c) ∧ ¬ S (50 + 2 * c + 100)) (g : cI G ca li M O kd l c) : cI G ca li M' O' kd l c := by
  obtain ⟨qs, h1, h2, h3⟩ := g
  refine ⟨qs, AL_f hf ⟨hs.2.1, hs.2.2⟩ h1, h2, fun i e he => ?_⟩
  obtain ⟨q, hq, hi⟩ := h3 i e he
  exact ⟨q, hq, IQ_f hf hs.1 hi⟩
theorem cL_p {c : Nat} (h13 : x_v σ' 13 c = x_v σ 13 c) (e : sC σ σ' c) : cL σ' li c = cL σ li c := by
  unfold cL
  rw [h13, e.1 14 (by decide), e.1 15 (by decide), e.1 16 (by decide), e.1 25 (by decide), e.2.1]
theorem cC_p {c : Nat} (hf : Fr S M O M' O') (hs : ¬ S 5 ∧ ¬ S (50 + 2 * c) ∧ ¬ S (50 + 2 * c + 100) ∧ ¬ S (30 + 2 * c) ∧ ¬ S (30 + 2 * c + 100) ∧ ¬ S (20 + c)) (h13 : x_v σ' 13 c = x_v σ 13 c) (e : sC σ σ' c) (g : cC G ca wk ch li M O σ c) : cC G ca wk ch li M' O' σ' c := by
  refine ⟨fun hk => ?_, fun hk => ?_⟩
  · rw [h13] at hk
    obtain ⟨h1, h2, h3, h4⟩ := g.1 hk
    exact ⟨by rw [e.1 15 (by decide)]; exact h1, by rw [e.1 16 (by decide)]; exact h2, by rw [e.1 25 (by decide)]; exact h3, by rw [e.2.1]; exact h4⟩
  rw [h13] at hk
  obtain ⟨h1, h2, h3, h4⟩ := g.2 hk
  refine ⟨(fr_o hf h2).trans h1, ?_, ?_, ?_⟩
  · rw [cL_p h13 e]; exact fr_g hf h2 (by rw [h1]; exact hs.2.2.2.2.2)
  · rw [e.2.2.2]; exact AL_f hf ⟨hs.2.2.2.1, hs.2.2.2.2.1⟩ h3
  · rw [h13, e.2.2.1]; exact cI_f hf ⟨hs.1, hs.2.1, hs.2.2.1⟩ h4
theorem cC_f {c : Nat} (hf : Fr S M O M' O') (hs : ¬ S 5 ∧ ¬ S (50 + 2 * c) ∧ ¬ S (50 + 2 * c + 100) ∧ ¬ S (30 + 2 * c) ∧ ¬ S (30 + 2 * c + 100) ∧ ¬ S (20 + c)) (h13 : x_v σ' 13 = x_v σ 13) (e : sC σ σ' c) (g : cC G ca wk ch li M O σ c) : cC G ca wk ch li M' O' σ' c :=
  cC_p hf hs (congrFun h13 c) e g
theorem sH_r (σ : St) : sH σ σ := ⟨rfl, rfl⟩
theorem sW_r (σ : St) (t : Nat) : sW σ σ t := ⟨fun _ _ => rfl, rfl, fun _ _ => rfl⟩
theorem sC_r (σ : St) (c : Nat) : sC σ σ c := ⟨fun _ _ => rfl, rfl, rfl, rfl⟩
/-- a thread's cell is rewritten -/
theorem RO_w {t : Nat} (g : RO G ca h wa ka wk ch li kf M O σ) (ht : t < 6) {rl : Option Nat} {he : Int32} {ex : UInt64} (hK : wK G σ' t rl (kf' t) he ex) (hW : ∀ u, u ≠ t → sW σ σ' u ∧ kf' u = kf u) (hC : ∀ c, sC σ σ' c) (hH : sH σ σ') :
    RO G ca h wa ka wk ch li kf' (va_up M (wk t) (some (.inr (2, wL t (x_v σ' 2 t) (x_v σ' 3 t) (x_v σ' 4 t) (x_v σ' 5 t) ((x_p σ' t).map ch) rl (x_v σ' 8 t) (kf' t) he ex)))) O σ' := by
  obtain ⟨g1, g2, g3⟩ := g
  have hO := (g2 t ht).1
  have hf : ∀ e, Fr (fun g => g = 10 + t) M O (va_up M (wk t) (some e)) O := fun e => fr_u hO
  refine ⟨cH_f (hf _) ⟨by omega, by omega, by omega⟩ hH g1, fun u hu => ?_, fun c hc => cC_f (hf _) (by omega) hH.1 (hC c) (g3 c hc)⟩
  by_cases e : u = t
  · subst e
    exact ⟨hO, rl, he, ex, va_up_self _ _ _, hK⟩
  · exact cW_f (hf _) (by omega) hH.1 (hW u e).2 (hW u e).1 (g2 u hu)
/-- a channel's cell is rewritten -/
theorem RO_c {c : Nat} (g : RO G ca h wa ka wk ch li kf M O σ) (hc : c < 8) (hk : ¬ x_v σ 13 c < 0) (hi : x_i σ' c = x_i σ c) (hw : x_w σ' c = x_w σ c) (hW : ∀ u, sW σ σ' u) (hC : ∀ d, d ≠ c → sC σ σ' d) (hH : sH σ σ') :
    RO G ca h wa ka wk ch li kf (va_up M (ch c) (some (.inr (0, cL σ' li c)))) O σ' := by
  obtain ⟨g1, g2, g3⟩ := g
  obtain ⟨hO, k2, k3, k4⟩ := (g3 c hc).2 hk
  have hf : ∀ e, Fr (fun g => g = 20 + c) M O (va_up M (ch c) (some e)) O := fun e => fr_u hO
  refine ⟨cH_f (hf _) ⟨by omega, by omega, by omega⟩ hH g1, fun u hu => cW_f (hf _) (by omega) hH.1 rfl (hW u) (g2 u hu), fun d hd => ?_⟩
  by_cases e : d = c
  · subst e
    refine ⟨fun k => absurd (by rw [hH.1] at k; exact k) hk, fun _ => ?_⟩
    refine ⟨hO, va_up_self _ _ _, ?_, ?_⟩
    · rw [hw]; exact AL_f (hf _) ⟨by omega, by omega⟩ k3
    · rw [hH.1, hi]; exact cI_f (hf _) ⟨by omega, by omega, by omega⟩ k4
  · exact cC_f (hf _) (by omega) hH.1 (hC d e) (g3 d hd)
/-- a list of waiters has changed -/
theorem RO_l {c : Nat} (g : RO G ca h wa ka wk ch li kf M O σ) (hc : c < 8) (hk : ¬ x_v σ 13 c < 0) {l : List Nat} (hf : Fr (tg (30 + 2 * c)) M O M' O') (ha : AL G ca O' M' (30 + 2 * c) (li (2 * c + 1)) (l.map wk)) :
    RO G ca h wa ka wk ch li kf M' O' (s_w σ c l) := by
  obtain ⟨g1, g2, g3⟩ := g
  refine ⟨cH_f hf (by constructor <;> (try constructor) <;> (intro e; rcases e with e | e <;> omega)) ⟨rfl, rfl⟩ g1, fun u hu => cW_f hf (by intro e; rcases e with e | e <;> omega) rfl rfl ⟨fun _ _ => rfl, rfl, fun _ _ => rfl⟩ (g2 u hu), fun d hd => ?_⟩
  by_cases e : d = c
  · subst e
    refine ⟨fun k => absurd k hk, fun _ => ?_⟩
    obtain ⟨hO, k2, k3, k4⟩ := (g3 d hd).2 hk
    refine ⟨(fr_o hf k2).trans hO, fr_g hf k2 (by rw [hO]; intro e; rcases e with e | e <;> omega), ?_, cI_f hf ⟨by intro e; rcases e with e | e <;> omega, by intro e; rcases e with e | e <;> omega, by intro e; rcases e with e | e <;> omega⟩ k4⟩
    dsimp only [s_w, x_w]
    rw [va_up_self]; exact ha
  · refine cC_f (σ := σ) hf ?_ rfl ⟨fun _ _ => rfl, rfl, rfl, ?_⟩ (g3 d hd)
    · refine ⟨?_, ?_, ?_, ?_, ?_, ?_⟩ <;> (intro e; rcases e with e | e <;> omega)
    · dsimp only [s_w, x_w]
      rw [va_up_at, if_neg e]
/-- a list of items has changed -/
theorem RO_i {c : Nat} (g : RO G ca h wa ka wk ch li kf M O σ) (hc : c < 8) (hk : ¬ x_v σ 13 c < 0) {l : List It} (hf : Fr (tg (50 + 2 * c)) M O M' O') (ha : cI G ca li M' O' (x_v σ 13 c) l c) :
    RO G ca h wa ka wk ch li kf M' O' (s_i σ c l) := by
  obtain ⟨g1, g2, g3⟩ := g
  refine ⟨cH_f hf (by constructor <;> (try constructor) <;> (intro e; rcases e with e | e <;> omega)) ⟨rfl, rfl⟩ g1, fun u hu => cW_f hf (by intro e; rcases e with e | e <;> omega) rfl rfl ⟨fun _ _ => rfl, rfl, fun _ _ => rfl⟩ (g2 u hu), fun d hd => ?_⟩
  by_cases e : d = c
  · subst e
    refine ⟨fun k => absurd k hk, fun _ => ?_⟩
    obtain ⟨hO, k2, k3, k4⟩ := (g3 d hd).2 hk
    refine ⟨(fr_o hf k2).trans hO, fr_g hf k2 (by rw [hO]; intro e; rcases e with e | e <;> omega), AL_f hf ⟨by intro e; rcases e with e | e <;> omega, by intro e; rcases e with e | e <;> omega⟩ k3, ?_⟩
    dsimp only [s_i, x_i]
    rw [va_up_self]; exact ha
  · refine cC_f (σ := σ) hf ?_ rfl ⟨fun _ _ => rfl, rfl, ?_, rfl⟩ (g3 d hd)
    · refine ⟨?_, ?_, ?_, ?_, ?_, ?_⟩ <;> (intro e; rcases e with e | e <;> omega)
    · dsimp only [s_i, x_i]
      rw [va_up_at, if_neg e]
/-- a new cell that nobody knows -/
theorem RO_n {q n : Nat} {e : va_E} (g : RO G ca h wa ka wk ch li kf M O σ) (hq : M q = none) : RO G ca h wa ka wk ch li kf (va_up M q (some e)) (va_up O q n) σ := by
  obtain ⟨g1, g2, g3⟩ := g
  have hf : Fr (fun _ => False) M O (va_up M q (some e)) (va_up O q n) := fr_n _ hq
  exact ⟨cH_f hf ⟨id, id, id⟩ (sH_r σ) g1, fun u hu => cW_f hf id rfl rfl (sW_r σ u) (g2 u hu), fun c hc => cC_f hf ⟨id, id, id, id, id, id⟩ rfl (sC_r σ c) (g3 c hc)⟩
/-- a state that differs where the class keeps nothing -/
theorem RO_e (g : RO G ca h wa ka wk ch li kf M O σ) (hH : sH σ σ') (hC : ∀ c, sC σ σ' c) (hW : ∀ t, (∀ k, k ∈ [2, 3, 4, 5, 8] → x_v σ' k t = x_v σ k t) ∧ x_p σ' t = x_p σ t ∧ (x_p σ t ≠ none → sW σ σ' t)) : RO G ca h wa ka wk ch li kf M O σ' := by
  obtain ⟨g1, g2, g3⟩ := g
  refine ⟨cH_f (fr_r (fun _ => False) M O) ⟨id, id, id⟩ hH g1, fun t ht => ?_, fun c hc => cC_f (fr_r (fun _ => False) M O) ⟨id, id, id, id, id, id⟩ hH.1 (hC c) (g3 c hc)⟩
  obtain ⟨h1, rl, he, ex, h2, h3⟩ := g2 t ht
  have w := hW t
  refine ⟨h1, rl, he, ex, ?_, fun c hc => ?_⟩
  · rw [w.1 2 (by decide), w.1 3 (by decide), w.1 4 (by decide), w.1 5 (by decide), w.1 8 (by decide), w.2.1]; exact h2
  · exact wK_s hH.1 (w.2.2 (by rw [← w.2.1, hc]; simp)) h3 c hc
end

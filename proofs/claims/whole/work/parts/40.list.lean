/-! THE CLASS'S CELLS: every cell of the class's world has a tag (O: address to tag); what a step leaves alone is said by tags. The lists. -/
abbrev aE (cA N : Nat) (f : Nat → Option Nat) : va_E := .inl (cA, N, .inr (.inr (.inr (.inr f))))
/-- only cells whose tags are in S have changed -/
def Fr (S : Nat → Prop) (M : hM) (O : Nat → Nat) (M' : hM) (O' : Nat → Nat) : Prop := ∀ q, M q ≠ none → M' q ≠ none ∧ O' q = O q ∧ (¬ S (O q) → M' q = M q)
theorem fr_r (S : Nat → Prop) (M : hM) (O : Nat → Nat) : Fr S M O M O := fun _ h => ⟨h, rfl, fun _ => rfl⟩
theorem fr_t {S : Nat → Prop} {M M' M'' : hM} {O O' O'' : Nat → Nat} (h : Fr S M O M' O') (g : Fr S M' O' M'' O'') : Fr S M O M'' O'' := fun q hq => by
  have h1 := h q hq
  have g1 := g q h1.1
  exact ⟨g1.1, g1.2.1.trans h1.2.1, fun hs => (g1.2.2 (by rw [h1.2.1]; exact hs)).trans (h1.2.2 hs)⟩
theorem fr_m {S S' : Nat → Prop} {M M' : hM} {O O' : Nat → Nat} (h : Fr S M O M' O') (hs : ∀ g, S g → S' g) : Fr S' M O M' O' := fun q hq => ⟨(h q hq).1, (h q hq).2.1, fun hn => (h q hq).2.2 (fun e => hn (hs _ e))⟩
theorem fr_u {S : Nat → Prop} {M : hM} {O : Nat → Nat} {a : Nat} {e : va_E} (hs : S (O a)) : Fr S M O (va_up M a (some e)) O := fun q hq => by
  rw [va_up_at]
  split
  · rename_i h
    exact ⟨by simp, rfl, fun hn => absurd (by rw [h]; exact hs) hn⟩
  · exact ⟨hq, rfl, fun _ => rfl⟩
theorem fr_n (S : Nat → Prop) {M : hM} {O : Nat → Nat} {q n : Nat} {e : va_E} (h0 : M q = none) : Fr S M O (va_up M q (some e)) (va_up O q n) := fun p hp => by
  have hne : p ≠ q := fun h => hp (by rw [h]; exact h0)
  rw [va_up_at, va_up_at, if_neg hne, if_neg hne]
  exact ⟨hp, rfl, fun _ => rfl⟩
theorem fr_g {S : Nat → Prop} {M M' : hM} {O O' : Nat → Nat} (h : Fr S M O M' O') {a : Nat} {e : va_E} (ha : M a = some e) (hs : ¬ S (O a)) : M' a = some e := by
  rw [(h a (by rw [ha]; simp)).2.2 hs]; exact ha
theorem fr_o {S : Nat → Prop} {M M' : hM} {O O' : Nat → Nat} (h : Fr S M O M' O') {a : Nat} {e : va_E} (ha : M a = some e) : O' a = O a := (h a (by rw [ha]; simp)).2.1
abbrev tg (n : Nat) : Nat → Prop := fun g => g = n ∨ g = n + 100
/-- a list with its table -/
def AL (G ca O : Nat → Nat) (M : hM) (n a : Nat) (xs : List Nat) : Prop :=
  O a = n ∧ ∃ (tbl : Nat) (md : Int32), M a = some (.inr (4, [.ref tbl, .int (Int32.ofNat xs.length), .int md])) ∧
    ((tbl = G 3 ∧ xs = []) ∨ (O tbl = n + 100 ∧ ∃ (N : Nat) (f : Nat → Option Nat), M tbl = some (aE (ca 2) N f) ∧ xs.length ≤ N ∧ (N = 10 ∨ N = 15 ∨ N = 22) ∧ ∀ i x, xs[i]? = some x → f i = some x))
/-- a list at work: its cell, its table, what changed since M0 -/
def A2 (ca : Nat → Nat) (M0 : hM) (O0 : Nat → Nat) (M : hM) (O : Nat → Nat) (n a tbl : Nat) (sz md : Int32) (N : Nat) (f : Nat → Option Nat) : Prop :=
  O a = n ∧ O tbl = n + 100 ∧ M a = some (.inr (4, [.ref tbl, .int sz, .int md])) ∧ M tbl = some (aE (ca 2) N f) ∧ Fr (tg n) M0 O0 M O
/-- objects of a class that the list may hold -/
def cls (M : hM) (O : Nat → Nat) (ci x : Nat) : Prop := O x < 30 ∧ ∃ fs : List Value, M x = some (.inr (ci, fs))
theorem cls_f {S : Nat → Prop} {M M' : hM} {O O' : Nat → Nat} (h : Fr S M O M' O') (hs : ∀ g, S g → 30 ≤ g) {ci x : Nat} (hx : cls M O ci x) : cls M' O' ci x := by
  obtain ⟨h1, fs, h2⟩ := hx
  exact ⟨by rw [fr_o h h2]; exact h1, fs, fr_g h h2 (fun e => by have := hs _ e; omega)⟩
section
variable {G ca : Nat → Nat} {M0 M : hM} {O0 O : Nat → Nat} {n a tbl : Nat} {sz md : Int32} {N : Nat} {f : Nat → Option Nat} {xs : List Nat}
theorem AL_f {S : Nat → Prop} {M' : hM} {O' : Nat → Nat} (h : Fr S M O M' O') (hs : ¬ S n ∧ ¬ S (n + 100)) (g : AL G ca O M n a xs) : AL G ca O' M' n a xs := by
  obtain ⟨h1, tbl, md, h2, h3⟩ := g
  refine ⟨(fr_o h h2).trans h1, tbl, md, fr_g h h2 (by rw [h1]; exact hs.1), ?_⟩
  rcases h3 with h3 | ⟨h4, N, f, h5, h6⟩
  · exact Or.inl h3
  · exact Or.inr ⟨(fr_o h h5).trans h4, N, f, fr_g h h5 (by rw [h4]; exact hs.2), h6⟩
theorem a2_ne (h : A2 ca M0 O0 M O n a tbl sz md N f) : a ≠ tbl := fun e => by
  have h1 := h.2.2.1
  rw [e, h.2.2.2.1] at h1; cases h1
theorem a2_e (h : A2 ca M0 O0 M O n a tbl (Int32.ofNat xs.length) md N f) (h1 : xs.length ≤ N) (h2 : N = 10 ∨ N = 15 ∨ N = 22) (h3 : ∀ i x, xs[i]? = some x → f i = some x) : AL G ca O M n a xs :=
  ⟨h.1, tbl, md, h.2.2.1, Or.inr ⟨h.2.1, N, f, h.2.2.2.1, h1, h2, h3⟩⟩
theorem a2_1 {v : Int32} {K : hM → Prop} (h : A2 ca M0 O0 M O n a tbl sz md N f) (hK : ∀ M', A2 ca M0 O0 M' O n a tbl v md N f → K M') : pF M a 4 1 (.int v) K := by
  refine ⟨_, h.2.2.1, by simp, hK _ ⟨h.1, h.2.1, by rw [va_up_self]; rfl, ?_, fr_t h.2.2.2.2 (fr_u (Or.inl h.1))⟩⟩
  rw [va_up_at, if_neg (fun e => a2_ne h e.symm)]; exact h.2.2.2.1
theorem a2_2 {v : Int32} {K : hM → Prop} (h : A2 ca M0 O0 M O n a tbl sz md N f) (hK : ∀ M', A2 ca M0 O0 M' O n a tbl sz v N f → K M') : pF M a 4 2 (.int v) K := by
  refine ⟨_, h.2.2.1, by simp, hK _ ⟨h.1, h.2.1, by rw [va_up_self]; rfl, ?_, fr_t h.2.2.2.2 (fr_u (Or.inl h.1))⟩⟩
  rw [va_up_at, if_neg (fun e => a2_ne h e.symm)]; exact h.2.2.2.1
theorem a2_s {i : Nat} {r : Option Nat} {C : Nat → Prop} {K : hM → Prop} (h : A2 ca M0 O0 M O n a tbl sz md N f) (hN : N ≤ 22) (hi : i < N) (hr : ∀ q, r = some q → ∃ (ci : Nat) (fs : List Value), M q = some (.inr (ci, fs)) ∧ C ci)
    (hK : ∀ M', A2 ca M0 O0 M' O n a tbl sz md N (va_up f i r) → K M') : sR M tbl (ca 2) (Int32.ofNat i) r C K := by
  refine ⟨N, f, h.2.2.2.1, i_in hi (by omega), hr, hK _ ⟨h.1, h.2.1, ?_, ?_, fr_t h.2.2.2.2 (fr_u (Or.inr h.2.1))⟩⟩
  · rw [va_up_at, if_neg (a2_ne h)]; exact h.2.2.1
  · rw [va_up_self, i_of (by omega)]
theorem a2_c {sp dp k : Nat} {K : hM → Prop} (h : A2 ca M0 O0 M O n a tbl sz md N f) (hN : N ≤ 22) (h1 : sp + k ≤ N) (h2 : dp + k ≤ N) {ci : Nat} (hci : ci = 1 ∨ ci = 2) (hcl : ∀ i, i < k → ∀ y, f (sp + i) = some y → cls M O ci y)
    (hK : ∀ M', A2 ca M0 O0 M' O n a tbl sz md N (va_cpy f f sp dp k) → K M') : cQ M tbl tbl (ca 2) (Int32.ofNat sp) (Int32.ofNat dp) (Int32.ofNat k) K := by
  have es : (Int32.ofNat sp).toNatClampNeg = sp := i_of (by omega)
  have ed : (Int32.ofNat dp).toNatClampNeg = dp := i_of (by omega)
  have ek : (Int32.ofNat k).toNatClampNeg = k := i_of (by omega)
  refine ⟨N, N, f, f, h.2.2.2.1, h.2.2.2.1, i_nn (by omega), i_nn (by omega), i_nn (by omega), by rw [es, ek]; exact h1, by rw [ed, ek]; exact h2, ⟨ci, hci, fun i hi y hy => ?_⟩, hK _ ⟨h.1, h.2.1, ?_, ?_, fr_t h.2.2.2.2 (fr_u (Or.inr h.2.1))⟩⟩
  · rw [ek] at hi; rw [es] at hy
    exact (hcl i hi y hy).2
  · rw [va_up_at, if_neg (a2_ne h)]; exact h.2.2.1
  · rw [va_up_self, es, ed, ek]
theorem rc_l {K : Prop} (h : AL G ca O M n a xs) (hK : K) : rC M a 4 K := by
  obtain ⟨_, _, _, h2, _⟩ := h
  exact ⟨⟨_, h2⟩, hK⟩
theorem al_size {post : Int32 → hM → Prop} (h : AL G ca O M n a xs) (hp : post (Int32.ofNat xs.length) M) : rC M a 4 (wp_Al_size G ca post M a) := by
  refine rc_l h ?_
  obtain ⟨_, _, _, h2, _⟩ := h
  exact ⟨_, _, h2, rfl, hp⟩
theorem al_empty {post : Int32 → hM → Prop} (h : AL G ca O M n a xs) (hl : xs.length ≤ 16) (hp : post (if xs = [] then 1 else 0) M) : rC M a 4 (wp_Al_isEmpty G ca post M a) := by
  refine rc_l h ?_
  obtain ⟨_, _, _, h2, _⟩ := h
  refine ⟨_, _, h2, rfl, fun hz => ⟨Or.inl rfl, ?_⟩, fun hz => ⟨Or.inr rfl, ?_⟩⟩
  · rw [if_neg (fun e => hz (by rw [e]; rfl))] at hp; exact hp
  · have := (i_eq (a := xs.length) (b := 0) (by omega) (by decide)).mp hz
    rw [if_pos (List.length_eq_zero_iff.mp this)] at hp; exact hp
theorem al_get {i x : Nat} {post : Option Nat → hM → Prop} (h : AL G ca O M n a xs) (hx : xs[i]? = some x) (hp : post (some x) M) : rC M a 4 (wp_Al_get G ca post M a (Int32.ofNat i)) := by
  have h0 := h
  obtain ⟨_, tbl, md, h2, h3⟩ := h
  have hi := get_lt hx
  rcases h3 with ⟨_, rfl⟩ | ⟨_, N, f, h5, h6, h7, h8⟩
  · cases hx
  · have h22 : N ≤ 22 := by omega
    refine rc_l h0 ⟨_, _, h2, rfl, ?_⟩
    refine ⟨fun e => absurd e (i_nn (by omega)), fun _ => ⟨fun _ => rc_l h0 ⟨_, some tbl, h2, rfl, nn_s ⟨N, f, h5, i_in (by omega) (by omega), ?_⟩⟩, fun e => absurd ((i_lt (by omega) (by omega)).mpr hi) e⟩⟩
    rw [i_of (by omega), h8 i x hx]; exact hp
theorem al_remove {ci i x : Nat} (hci : ci = 1 ∨ ci = 2) (hn : 30 ≤ n) {post : Option Nat → hM → Prop} (h : AL G ca O M n a xs) (hcl : ∀ y, y ∈ xs → cls M O ci y) (hx : xs[i]? = some x)
    (hp : ∀ M', Fr (tg n) M O M' O → AL G ca O M' n a (xs.eraseIdx i) → post (some x) M') : rC M a 4 (wp_Al_remove G ca post M a (Int32.ofNat i)) := by
  have h0 := h
  obtain ⟨h1, tbl, md, h2, h3⟩ := h
  have hi := get_lt hx
  rcases h3 with ⟨_, rfl⟩ | ⟨h4, N, f, h5, h6, h7, h8⟩
  · cases hx
  · have h22 : N ≤ 22 := by omega
    refine rc_l h0 ⟨_, _, h2, rfl, ?_⟩
    refine ⟨fun e => absurd e (i_nn (by omega)), fun _ => ⟨fun _ => ?_, fun e => absurd ((i_lt (by omega) (by omega)).mpr hi) e⟩⟩
    refine ⟨_, some tbl, h2, rfl, nn_s ⟨N, f, h5, i_in (by omega) (by omega), rc_l h0 ⟨_, _, h2, rfl, ?_⟩⟩⟩
    have ha : A2 ca M O M O n a tbl (Int32.ofNat xs.length) md N f := ⟨h1, h4, h2, h5, fr_r _ _ _⟩
    refine a2_2 ha fun M1 a1 => ⟨_, _, a1.2.2.1, rfl, ?_⟩
    dsimp only
    rw [i_pred (by omega), i_of (by omega), h8 i x hx]
    have len : (xs.eraseIdx i).length = xs.length - 1 := by rw [List.length_eraseIdx, if_pos hi]
    refine ⟨fun hle => ?_, fun hle => ?_⟩
    · rw [i_le (by omega) (by omega)] at hle
      refine a2_1 a1 fun M2 a2 => nn_s (a2_s a2 h22 (by omega) (fun q e => by cases e) fun M3 a3 => hp M3 a3.2.2.2.2 ?_)
      rw [← len] at a3
      refine a2_e a3 (by omega) h7 fun j y hj => ?_
      have hj2 := get_lt hj
      rw [List.getElem?_eraseIdx, if_pos (by omega)] at hj
      rw [va_up_at, if_neg (by omega)]
      exact h8 j y hj
    · rw [i_le (by omega) (by omega)] at hle
      have e2 : Int32.ofNat (xs.length - 1) - Int32.ofNat i = Int32.ofNat (xs.length - 1 - i) := i_sub (by omega)
      rw [e2, i_succ]
      refine nn_s (a2_c a1 h22 (by omega) (by omega) hci (fun k hk y hy => ?_) fun M2 a2 => a2_1 a2 fun M3 a3 => nn_s (a2_s a3 h22 (by omega) (fun q e => by cases e) fun M4 a4 => hp M4 a4.2.2.2.2 ?_))
      · have hlt : i + 1 + k < xs.length := by omega
        have := h8 _ _ (List.getElem?_eq_getElem hlt)
        rw [this] at hy
        cases hy
        exact cls_f a1.2.2.2.2 (fun g hg => by rcases hg with e | e <;> omega) (hcl _ (List.getElem_mem hlt))
      · rw [← len] at a4
        refine a2_e a4 (by omega) h7 fun j y hj => ?_
        have hj2 := get_lt hj
        rw [List.getElem?_eraseIdx] at hj
        rw [va_up_at, if_neg (by omega)]
        unfold va_cpy
        split at hj
        · rw [if_neg (by omega)]; exact h8 j y hj
        · rw [if_pos (by omega)]
          rw [show i + 1 + (j - i) = j + 1 by omega]
          exact h8 _ y hj
theorem al_clr_27 {post : hM → Prop} {L : Nat} (hL : L ≤ N) (hN : N ≤ 22) (hp : ∀ M' f, A2 ca M0 O0 M' O n a tbl sz md N f → post M') : ∀ (d j : Nat) (M : hM) (f : Nat → Option Nat), j + d = L → A2 ca M0 O0 M O n a tbl sz md N f → wp_Al_clear_27 G ca post (d + 1) M (some tbl) (Int32.ofNat L) (Int32.ofNat j)
  | 0, j, M, f, e, h => ⟨fun _ => hp M f h, fun g => absurd ((i_le (by omega) (by omega)).mpr (by omega)) g⟩
  | d + 1, j, M, f, e, h => ⟨fun g => absurd ((i_le (by omega) (by omega)).mp g) (by omega), fun _ => nn_s (a2_s h hN (by omega) (fun q e => by cases e) fun M1 h1 => by
      rw [i_succ]; exact al_clr_27 hL hN hp d (j + 1) M1 _ (by omega) h1)⟩
theorem al_clear {post : hM → Prop} (h : AL G ca O M n a xs) (hp : ∀ M', Fr (tg n) M O M' O → AL G ca O M' n a [] → post M') : rC M a 4 (wp_Al_clear G ca post M a) := by
  have h0 := h
  obtain ⟨h1, tbl, md, h2, h3⟩ := h
  rcases h3 with ⟨rfl, rfl⟩ | ⟨h4, N, f, h5, h6, h7, h8⟩
  · refine rc_l h0 ⟨_, _, h2, rfl, _, h2, by simp, ?_⟩
    refine ⟨_, some (G 3), va_up_self _ _ _, rfl, _, _, va_up_self _ _ _, rfl, _, va_up_self _ _ _, by simp, 1, fun _ => hp _ (fr_t (fr_u (Or.inl h1)) (fr_u (Or.inl h1))) ?_, fun e => absurd (by decide) e⟩
    exact ⟨h1, G 3, _, va_up_self _ _ _, Or.inl ⟨rfl, rfl⟩⟩
  · have h22 : N ≤ 22 := by omega
    have ha : A2 ca M O M O n a tbl (Int32.ofNat xs.length) md N f := ⟨h1, h4, h2, h5, fr_r _ _ _⟩
    refine rc_l h0 ⟨_, _, h2, rfl, a2_2 ha fun M1 a1 => ⟨_, some tbl, a1.2.2.1, rfl, _, _, a1.2.2.1, rfl, a2_1 a1 fun M2 a2 => ⟨xs.length + 1, ?_⟩⟩⟩
    exact al_clr_27 h6 h22 (fun M3 f3 a3 => hp M3 a3.2.2.2.2 (a2_e (xs := []) a3 (by simp) h7 (fun i x hx => by cases hx))) xs.length 0 M2 f (by omega) a2
/-- room for one more -/
def A3 (G ca : Nat → Nat) (M0 : hM) (O0 : Nat → Nat) (M : hM) (O : Nat → Nat) (n a tbl : Nat) (xs : List Nat) (md : Int32) : Prop :=
  ∃ (N : Nat) (f : Nat → Option Nat), A2 ca M0 O0 M O n a tbl (Int32.ofNat xs.length) md N f ∧ xs.length < N ∧ (N = 10 ∨ N = 15 ∨ N = 22) ∧ ∀ i x, xs[i]? = some x → f i = some x
theorem pf_t {q : Nat} {K : hM → Prop} {e : va_E} (hq : M q = some e) (hqa : q ≠ a) (h2 : M a = some (.inr (4, [.ref tbl, .int sz, .int md]))) (hK : (va_up M a (some (.inr (4, [.ref q, .int sz, .int md])))) q = some e → K (va_up M a (some (.inr (4, [.ref q, .int sz, .int md]))))) : pF M a 4 0 (.ref q) K :=
  ⟨_, h2, by simp, hK (by rw [va_up_at, if_neg hqa]; exact hq)⟩
theorem al_grow {ci : Nat} (hci : ci = 1 ∨ ci = 2) (hn : 30 ≤ n) {post : Option Nat → hM → Prop} (hl : xs.length < 16) (h1 : O a = n) (h2 : M a = some (.inr (4, [.ref tbl, .int (Int32.ofNat xs.length), .int md]))) (hcl : ∀ y, y ∈ xs → cls M O ci y)
    (h3 : (tbl = G 3 ∧ xs = []) ∨ (O tbl = n + 100 ∧ ∃ f, M tbl = some (aE (ca 2) xs.length f) ∧ (xs.length = 10 ∨ xs.length = 15 ∨ xs.length = 22) ∧ ∀ i x, xs[i]? = some x → f i = some x))
    (hp : ∀ M' O' q, A3 G ca M O M' O' n a q xs md → post (some q) M') : rC M a 4 (wp_Al_grow_ G ca post M a) := by
  refine ⟨⟨_, h2⟩, _, _, h2, rfl, ⟨⟨_, h2⟩, _, some tbl, h2, rfl, nn_s ?_⟩⟩
  rcases h3 with ⟨rfl, rfl⟩ | ⟨h4, f, h5, h7, h8⟩
  · refine Or.inr ⟨rfl, fun e => absurd e (by decide), fun _ => ⟨_, some (G 3), h2, rfl, fun _ => ⟨by decide, by decide, fun q hq => ?_⟩, fun e => absurd rfl e⟩⟩
    have hqa : q ≠ a := fun e => by rw [e, h2] at hq; cases hq
    have e10 : (if (10 : Int32) < Int32.ofNat ([] : List Nat).length + 1 then Int32.ofNat ([] : List Nat).length + 1 else 10).toNatClampNeg = 10 := by decide
    rw [e10]
    refine pf_t (va_up_self _ _ _) hqa (by rw [va_up_at, if_neg (fun e => hqa e.symm)]; exact h2) fun hq2 => hp _ (va_up O q (n + 100)) q ⟨10, fun _ => none, ⟨?_, by rw [va_up_self], by rw [va_up_self], hq2, ?_⟩, by simp, Or.inl rfl, fun i x hx => by cases hx⟩
    · rw [va_up_at, if_neg (fun e => hqa e.symm)]; exact h1
    · exact fr_t (fr_n _ hq) (fr_u (Or.inl (by rw [va_up_at, if_neg (fun e => hqa e.symm)]; exact h1)))
  · have hat : a ≠ tbl := fun e => by rw [e, h5] at h2; cases h2
    have hpos : 0 < xs.length := by omega
    refine Or.inl ⟨_, h5, fun _ => ?_, fun e => absurd ((i_lt (a := 0) (b := xs.length) (by decide) (by omega)).mpr hpos) e⟩
    have key : ∃ N' : Nat, xs.length < N' ∧ (N' = 15 ∨ N' = 22) ∧ (Int32.ofNat xs.length + (if Int32.ofNat xs.length + 1 - Int32.ofNat xs.length < Int32.ofNat xs.length >>> ((1 : Int32) &&& 31) then Int32.ofNat xs.length >>> ((1 : Int32) &&& 31) else Int32.ofNat xs.length + 1 - Int32.ofNat xs.length)) = Int32.ofNat N' := by
      rcases h7 with e | e | e
      · rw [e]; exact ⟨15, by decide, Or.inl rfl, by decide⟩
      · rw [e]; exact ⟨22, by decide, Or.inr rfl, by decide⟩
      · omega
    obtain ⟨N', hN1, hN2, eN⟩ := key
    have h22 : N' ≤ 22 := by omega
    show wp_As_newLength G ca _ M (Int32.ofNat xs.length) (Int32.ofNat xs.length + 1 - Int32.ofNat xs.length) (Int32.ofNat xs.length >>> ((1 : Int32) &&& 31))
    unfold wp_As_newLength
    rw [eN]
    refine ⟨fun e => absurd ((i_le (a := N') (b := 0) (by omega) (by decide)).mp e) (by omega), fun _ => ⟨fun e => absurd ((i_lt (a := 2147483639) (b := N') (by decide) (by omega)).mp e) (by omega), fun _ => ?_⟩⟩
    refine ⟨_, some tbl, h2, rfl, nn_s ⟨⟨_, h5⟩, fun e => absurd rfl e, fun _ => ⟨i_nn (by omega), by rw [i_of (by omega)]; exact h22, fun q hq => nn_s ?_⟩⟩⟩
    have hqa : q ≠ a := fun e => by rw [e, h2] at hq; cases hq
    have hqt : q ≠ tbl := fun e => by rw [e, h5] at hq; cases hq
    rw [i_of (by omega)]
    have ht : (va_up M q (some (aE (ca 2) N' fun _ => none))) tbl = some (aE (ca 2) xs.length f) := by rw [va_up_at, if_neg (fun e => hqt e.symm)]; exact h5
    have hm : (if Int32.ofNat N' < Int32.ofNat xs.length then Int32.ofNat N' else Int32.ofNat xs.length) = Int32.ofNat xs.length := if_neg (fun e => by rw [i_lt (by omega) (by omega)] at e; omega)
    refine Or.inl ⟨_, ht, ?_⟩
    dsimp only
    rw [hm]
    have el : (Int32.ofNat xs.length).toNatClampNeg = xs.length := i_of (by omega)
    have e0 : (0 : Int32).toNatClampNeg = 0 := by decide
    refine ⟨xs.length, N', f, fun _ => none, ht, va_up_self _ _ _, by decide, by decide, i_nn (by omega), by rw [e0, el]; omega, by rw [e0, el]; omega, ⟨ci, hci, fun i hi y hy => ?_⟩, ?_⟩
    · rw [el] at hi
      rw [e0, Nat.zero_add, h8 i _ (List.getElem?_eq_getElem hi)] at hy
      cases hy
      exact (cls_f (fr_n (fun _ => False) (n := 0) hq) (fun g hg => hg.elim) (hcl _ (List.getElem_mem hi))).2
    · rw [e0, el]
      have hq3 : (va_up (va_up M q (some (aE (ca 2) N' fun _ => none))) q (some (aE (ca 2) N' (va_cpy f (fun _ => none) 0 0 xs.length)))) a = some (.inr (4, [.ref tbl, .int (Int32.ofNat xs.length), .int md])) := by
        rw [va_up_at, if_neg (fun e => hqa e.symm), va_up_at, if_neg (fun e => hqa e.symm)]; exact h2
      refine pf_t (va_up_self _ _ _) hqa hq3 fun hq2 => hp _ (va_up O q (n + 100)) q ⟨N', _, ⟨?_, by rw [va_up_self], by rw [va_up_self], hq2, ?_⟩, hN1, by omega, fun i x hx => ?_⟩
      · rw [va_up_at, if_neg (fun e => hqa e.symm)]; exact h1
      · refine fr_t (fr_t (fr_n _ hq) (fr_u (Or.inr ?_))) (fr_u (Or.inl ?_))
        · rw [va_up_self]
        · rw [va_up_at, if_neg (fun e => hqa e.symm)]; exact h1
      · have := get_lt hx
        unfold va_cpy
        rw [if_pos (by omega), Nat.zero_add, Nat.sub_zero]
        exact h8 i x hx
theorem al_add {ci x : Nat} (hci : ci = 1 ∨ ci = 2) (hn : 30 ≤ n) {post : Int32 → hM → Prop} (hl : xs.length < 16) (h : AL G ca O M n a xs) (hcl : ∀ y, y ∈ xs → cls M O ci y) (hx : cls M O ci x)
    (hp : ∀ M' O', Fr (tg n) M O M' O' → AL G ca O' M' n a (xs ++ [x]) → post 1 M') : rC M a 4 (wp_Al_add_Object G ca post M a (some x)) := by
  have fin : ∀ M1 O1 q md, A3 G ca M O M1 O1 n a q xs md → wp_Al_add_ObjectObjectI_11 G ca (fun M10 => post 1 M10) M1 a (some x) (some q) (Int32.ofNat xs.length) := fun M1 O1 q md h3 => by
    obtain ⟨N, f, a2, hN, h7, h8⟩ := h3
    have hx1 := cls_f a2.2.2.2.2 (fun g hg => by rcases hg with e | e <;> omega) hx
    refine nn_s (a2_s a2 (by omega) hN (fun y e => ?_) fun M2 a3 => ?_)
    · cases e
      obtain ⟨_, fs, e⟩ := hx1
      exact ⟨ci, fs, e, hci⟩
    · rw [i_succ]
      refine a2_1 a3 fun M3 a4 => hp M3 O1 a4.2.2.2.2 ?_
      rw [show xs.length + 1 = (xs ++ [x]).length by simp] at a4
      refine a2_e a4 (by simp; omega) h7 fun i y hy => ?_
      rw [va_up_at]
      rw [List.getElem?_append] at hy
      split at hy
      · rw [if_neg (by omega)]; exact h8 i y hy
      · have := get_lt hy
        simp at this
        have ei : i = xs.length := by omega
        subst ei
        rw [if_pos rfl]
        simp at hy
        rw [hy]
  have h0 := h
  obtain ⟨h1, tbl, md, h2, h3⟩ := h
  have h2' : ∀ v, (va_up M a (some (.inr (4, [.ref tbl, .int (Int32.ofNat xs.length), .int v])))) a = some (.inr (4, [.ref tbl, .int (Int32.ofNat xs.length), .int v])) := fun v => va_up_self _ _ _
  have fr1 : ∀ v, Fr (tg n) M O (va_up M a (some (.inr (4, [.ref tbl, .int (Int32.ofNat xs.length), .int v])))) O := fun v => fr_u (Or.inl h1)
  refine rc_l h0 ⟨_, _, h2, rfl, _, h2, by simp, _, some tbl, h2' _, rfl, _, _, h2' _, rfl, ⟨⟨_, h2' _⟩, nn_s ?_⟩⟩
  have grow : ((tbl = G 3 ∧ xs = []) ∨ (O tbl = n + 100 ∧ ∃ f, (va_up M a (some (.inr (4, [.ref tbl, .int (Int32.ofNat xs.length), .int (md + 1)])))) tbl = some (aE (ca 2) xs.length f) ∧ (xs.length = 10 ∨ xs.length = 15 ∨ xs.length = 22) ∧ ∀ i x, xs[i]? = some x → f i = some x)) →
      rC (va_up M a (some (.inr (4, [.ref tbl, .int (Int32.ofNat xs.length), .int (md + 1)])))) a 4 (wp_Al_grow_ G ca (fun r21 M22 => wp_Al_add_ObjectObjectI_11 G ca (fun M10 => post 1 M10) M22 a (some x) r21 (Int32.ofNat xs.length)) (va_up M a (some (.inr (4, [.ref tbl, .int (Int32.ofNat xs.length), .int (md + 1)])))) a) := fun hg =>
    al_grow hci hn hl h1 (h2' _) (fun y hy => cls_f (fr1 _) (fun g hg => by rcases hg with e | e <;> omega) (hcl y hy)) hg fun M' O' q a3 => fin M' O' q _ (by
      obtain ⟨N, f, b, r⟩ := a3
      exact ⟨N, f, ⟨b.1, b.2.1, b.2.2.1, b.2.2.2.1, fr_t (fr1 _) b.2.2.2.2⟩, r⟩)
  rcases h3 with ⟨e3, e4⟩ | ⟨h4, N, f, h5, h6, h7, h8⟩
  · exact Or.inr ⟨e3, fun e => absurd (by rw [e4]; rfl) e, fun _ => grow (Or.inl ⟨e3, e4⟩)⟩
  · have hat : tbl ≠ a := fun e => by rw [e, h2] at h5; cases h5
    have h5' : ∀ v, (va_up M a (some (.inr (4, [.ref tbl, .int (Int32.ofNat xs.length), .int v])))) tbl = some (aE (ca 2) N f) := fun v => by rw [va_up_at, if_neg hat]; exact h5
    refine Or.inl ⟨_, h5' _, fun hne => ?_, fun he => ?_⟩
    · have hlt : xs.length < N := by
        have : xs.length ≠ N := fun e => hne (by rw [e])
        omega
      exact fin _ O tbl (md + 1) ⟨N, f, ⟨h1, h4, h2' _, h5' _, fr1 _⟩, hlt, h7, h8⟩
    · have e := (i_eq (a := xs.length) (b := N) (by omega) (by omega)).mp he
      refine grow (Or.inr ⟨h4, f, ?_, by omega, h8⟩)
      rw [e]; rw [e] at h5'; exact h5' _
theorem al_addat {ci x p : Nat} (hci : ci = 1 ∨ ci = 2) (hn : 30 ≤ n) {post : hM → Prop} (hl : xs.length < 16) (hpl : p ≤ xs.length) (h : AL G ca O M n a xs) (hcl : ∀ y, y ∈ xs → cls M O ci y) (hx : cls M O ci x)
    (hp : ∀ M' O', Fr (tg n) M O M' O' → AL G ca O' M' n a (xs.take p ++ x :: xs.drop p) → post M') : rC M a 4 (wp_Al_add_IObject G ca post M a (Int32.ofNat p) (some x)) := by
  have fin : ∀ M1 O1 q md, A3 G ca M O M1 O1 n a q xs md → wp_Al_add_IObject_38 G ca post M1 a (Int32.ofNat p) (some x) (Int32.ofNat xs.length) (some q) := fun M1 O1 q md h3 => by
    obtain ⟨N, f, a2, hN, h7, h8⟩ := h3
    have hfr : ∀ g, tg n g → 30 ≤ g := fun g hg => by rcases hg with e | e <;> omega
    have hx1 := cls_f a2.2.2.2.2 hfr hx
    have h22 : N ≤ 22 := by omega
    have e2 : Int32.ofNat xs.length - Int32.ofNat p = Int32.ofNat (xs.length - p) := i_sub hpl
    unfold wp_Al_add_IObject_38
    rw [e2, i_succ, i_succ]
    refine nn_s (a2_c a2 h22 (by omega) (by omega) hci (fun k hk y hy => ?_) fun M2 a3 => a2_s a3 h22 (by omega) (fun y e => ?_) fun M3 a4 => a2_1 a4 fun M4 a5 => hp M4 O1 a5.2.2.2.2 ?_)
    · have hlt : p + k < xs.length := by omega
      rw [h8 _ _ (List.getElem?_eq_getElem hlt)] at hy
      cases hy
      exact cls_f a2.2.2.2.2 hfr (hcl _ (List.getElem_mem hlt))
    · cases e
      obtain ⟨_, fs, e⟩ := cls_f a3.2.2.2.2 hfr hx
      exact ⟨ci, fs, e, hci⟩
    · have len : (xs.take p ++ x :: xs.drop p).length = xs.length + 1 := by simp; omega
      rw [← len] at a5
      refine a2_e a5 (by omega) h7 fun i y hy => ?_
      rw [ins_get hpl] at hy
      rw [va_up_at]
      unfold va_cpy
      split at hy
      · have := get_lt hy
        rw [if_neg (by omega), if_neg (by omega)]
        exact h8 i y hy
      · split at hy
        · rename_i e
          rw [if_pos e]; exact hy
        · have := get_lt hy
          rw [if_neg (by omega), if_pos (by omega), show p + (i - (p + 1)) = i - 1 by omega]
          exact h8 _ y hy
  have h0 := h
  obtain ⟨h1, tbl, md, h2, h3⟩ := h
  have h2' : ∀ v, (va_up M a (some (.inr (4, [.ref tbl, .int (Int32.ofNat xs.length), .int v])))) a = some (.inr (4, [.ref tbl, .int (Int32.ofNat xs.length), .int v])) := fun v => va_up_self _ _ _
  have fr1 : ∀ v, Fr (tg n) M O (va_up M a (some (.inr (4, [.ref tbl, .int (Int32.ofNat xs.length), .int v])))) O := fun v => fr_u (Or.inl h1)
  refine rc_l h0 (rc_l h0 ⟨_, _, h2, rfl, fun e => absurd ((i_lt (by omega) (by omega)).mp e) (by omega), fun _ => ⟨fun _ => ⟨_, _, h2, rfl, _, h2, by simp, _, _, h2' _, rfl, _, some tbl, h2' _, rfl, nn_s ?_⟩, fun e => absurd (Int32.not_lt.mp (i_nn (by omega))) e⟩⟩)
  have grow : ((tbl = G 3 ∧ xs = []) ∨ (O tbl = n + 100 ∧ ∃ f, (va_up M a (some (.inr (4, [.ref tbl, .int (Int32.ofNat xs.length), .int (md + 1)])))) tbl = some (aE (ca 2) xs.length f) ∧ (xs.length = 10 ∨ xs.length = 15 ∨ xs.length = 22) ∧ ∀ i x, xs[i]? = some x → f i = some x)) →
      rC (va_up M a (some (.inr (4, [.ref tbl, .int (Int32.ofNat xs.length), .int (md + 1)])))) a 4 (wp_Al_grow_ G ca (fun r21 M22 => wp_Al_add_IObject_38 G ca post M22 a (Int32.ofNat p) (some x) (Int32.ofNat xs.length) r21) (va_up M a (some (.inr (4, [.ref tbl, .int (Int32.ofNat xs.length), .int (md + 1)])))) a) := fun hg =>
    al_grow hci hn hl h1 (h2' _) (fun y hy => cls_f (fr1 _) (fun g hg => by rcases hg with e | e <;> omega) (hcl y hy)) hg fun M' O' q a3 => fin M' O' q _ (by
      obtain ⟨N, f, b, r⟩ := a3
      exact ⟨N, f, ⟨b.1, b.2.1, b.2.2.1, b.2.2.2.1, fr_t (fr1 _) b.2.2.2.2⟩, r⟩)
  rcases h3 with ⟨e3, e4⟩ | ⟨h4, N, f, h5, h6, h7, h8⟩
  · exact Or.inr ⟨e3, fun e => absurd (by rw [e4]; rfl) e, fun _ => grow (Or.inl ⟨e3, e4⟩)⟩
  · have hat : tbl ≠ a := fun e => by rw [e, h2] at h5; cases h5
    have h5' : ∀ v, (va_up M a (some (.inr (4, [.ref tbl, .int (Int32.ofNat xs.length), .int v])))) tbl = some (aE (ca 2) N f) := fun v => by rw [va_up_at, if_neg hat]; exact h5
    refine Or.inl ⟨_, h5' _, fun hne => ?_, fun he => ?_⟩
    · have hlt : xs.length < N := by
        have : xs.length ≠ N := fun e => hne (by rw [e])
        omega
      exact fin _ O tbl (md + 1) ⟨N, f, ⟨h1, h4, h2' _, h5' _, fr1 _⟩, hlt, h7, h8⟩
    · have e := (i_eq (a := xs.length) (b := N) (by omega) (by omega)).mp he
      refine grow (Or.inr ⟨h4, f, ?_, by omega, h8⟩)
      rw [e]; rw [e] at h5'; exact h5' _
end

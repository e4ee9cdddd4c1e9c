/-! make, and the beginning. -/
theorem new_13 (σ : St) (c : Nat) (K A : Int32) : x_v (o_new σ c K A) 13 = fun i => if i = c then K else x_v σ 13 i := by
  unfold o_new
  rw [xv_n _ _ _ (by decide)]
  exact u2_k σ.1 13 c K
theorem new_c (σ : St) (c : Nat) (K A : Int32) : x_v (o_new σ c K A) 13 c = K := by rw [new_13]; exact if_pos rfl
theorem new_14 (σ : St) (c : Nat) (K A : Int32) : x_v (o_new σ c K A) 14 c = o_rm K A := xv_s _ _ _ _
theorem new_o (σ : St) (c : Nat) (K A : Int32) {k : Nat} (h : k ≠ 13 ∧ k ≠ 14) : x_v (o_new σ c K A) k = x_v σ k := by
  unfold o_new
  rw [xv_n _ _ _ h.2, xv_n _ _ _ h.1]
theorem new_i (σ : St) (c : Nat) (K A : Int32) (k : Nat) {d : Nat} (h : d ≠ c) : x_v (o_new σ c K A) k d = x_v σ k d := by
  unfold o_new
  rw [xv_i _ _ _ _ h, xv_i _ _ _ _ h]
theorem IV_un {σ : St} {N : Int} (hi : IV σ N) {c : Nat} (hc : c < 8) (hm : x_v σ 13 c < 0) : x_i σ c = [] ∧ x_w σ c = [] := by
  rcases hi.2.2.1 c hc with ⟨_, h1, h2⟩ | ⟨kn, R, e, hk, _⟩
  · exact ⟨List.length_eq_zero_iff.mp h1, List.length_eq_zero_iff.mp h2⟩
  · rw [e] at hm; exact absurd hm (i_nn (by omega))
theorem IV_new {σ : St} {N : Int} (hi : IV σ N) {c : Nat} (hc : c < 8) (hm : x_v σ 13 c < 0) {K A : Int32} (hb : ¬ bM K A) : IV (o_new σ c K A) N := by
  obtain ⟨ei, ew⟩ := IV_un hi hc hm
  obtain ⟨h1, h2, h3, h4⟩ := hi
  refine ⟨fun t ht => ⟨?_, (h1 t ht).2⟩, fun d hd => ⟨(h2 d hd).1, fun t ht => ?_⟩, fun d hd => ?_, h4⟩
  · rw [new_o σ c K A (by decide)]; exact (h1 t ht).1
  · have hdc : d ≠ c := fun e => by
      have : t ∈ x_w σ d := ht
      rw [e, ew] at this; cases this
    rw [new_i σ c K A 13 hdc, new_o σ c K A (by decide)]
    exact (h2 d hd).2 t ht
  · by_cases hdc : d = c
    · subst hdc
      rw [new_14, new_c]
      have hK0 : ¬ K < 0 := fun e => hb (Or.inl e)
      have hK7 : K < 7 := Classical.byContradiction fun e => hb (Or.inr (Or.inl e))
      obtain ⟨kn, hkn, rfl⟩ := i_rng (n := 7) (by decide) hK0 hK7
      have li0 : (x_i (o_new σ d (Int32.ofNat kn) A) d).length = 0 := by
        show (x_i σ d).length = 0
        rw [ei]; rfl
      have key : ∃ R : Nat, o_rm (Int32.ofNat kn) A = Int32.ofNat R ∧ R ≤ 16 ∧ (kn = 2 ∨ kn = 5 → R = 0) := by
        have e1 : (A - 1 < 0 ∨ ¬ A - 1 < 4) ↔ (A < 1 ∨ 4 < A) := i_sb 1 (Or.inl rfl)
        have e2 : (A - 2 < 0 ∨ ¬ A - 2 < 4) ↔ (A < 2 ∨ 5 < A) := i_sb 2 (Or.inr rfl)
        have small : ∀ m : Nat, m ≤ 5 → ¬ A < 1 → ¬ Int32.ofNat m < A → ∃ R : Nat, A = Int32.ofNat R ∧ R ≤ 16 := fun m hm ha hb => by
          have h0 : ¬ A < 0 := fun e => ha (Int32.lt_trans e (by decide))
          obtain ⟨R, hR, rfl⟩ := i_nat h0
          rw [i_lt (by omega) hR] at hb
          exact ⟨R, rfl, by omega⟩
        rcases kn with _|_|_|_|_|_|_|kn
        · obtain ⟨R, hR, hR2⟩ := small 4 (by decide) (fun e => hb (Or.inr (Or.inr (by rw [if_pos (show Int32.ofNat 0 = (0 : Int32) from rfl)]; exact e1.mpr (Or.inl e))))) (fun e => hb (Or.inr (Or.inr (by rw [if_pos (show Int32.ofNat 0 = (0 : Int32) from rfl)]; exact e1.mpr (Or.inr e)))))
          exact ⟨R, hR, hR2, by omega⟩
        · exact ⟨16, rfl, by decide, by omega⟩
        · exact ⟨0, rfl, by decide, by omega⟩
        · exact ⟨6, rfl, by decide, by omega⟩
        · exact ⟨6, rfl, by decide, by omega⟩
        · exact ⟨0, rfl, by decide, by omega⟩
        · have hn : ¬ (A < 2 ∨ 5 < A) := fun e => hb (Or.inr (Or.inr (by rw [if_neg (by decide), if_pos (show Int32.ofNat (0 + 1 + 1 + 1 + 1 + 1 + 1) = (6 : Int32) from rfl)]; exact e2.mpr e)))
          obtain ⟨R, hR, hR2⟩ := small 5 (by decide) (fun e => hn (Or.inl (Int32.lt_trans e (by decide)))) (fun e => hn (Or.inr e))
          exact ⟨R, hR, hR2, by omega⟩
        · omega
      obtain ⟨R, r1, r2, r3⟩ := key
      exact Or.inr ⟨kn, R, rfl, by omega, r1, r2, r3, fun _ => li0, by omega⟩
    · rw [new_i σ c K A 13 hdc, new_i σ c K A 14 hdc]
      exact h3 d hd
section
variable {G ca : Nat → Nat} {h wa ka : Nat} {wk ch li ch' li' : Nat → Nat} {kf : Nat → UInt64} {M : hM} {σ : St} {N : Int}
theorem cC_gh {O : Nat → Nat} {d : Nat} (e1 : ch' d = ch d) (e2 : li' (2 * d) = li (2 * d)) (e3 : li' (2 * d + 1) = li (2 * d + 1)) (g : cC G ca wk ch li M O σ d) : cC G ca wk ch' li' M O σ d := by
  unfold cC cL cI at g ⊢
  rw [e1, e2, e3]; exact g
theorem RC_new {q q1 q2 c : Nat} {K A : Int32} {e0 : va_E} (g : RC G ca h wa ka wk ch li kf M σ) (hi : IV σ N) (hc : c < 8) (hm : x_v σ 13 c < 0) (hK : ¬ K < 0) (hq : M q = none) (hq1 : (va_up M q (some e0)) q1 = none) (hq2 : (va_up M q (some e0)) q2 = none) (h12 : q1 ≠ q2) {post : Int32 → hM → Prop}
    (hp : ∀ ch' li' M', RC G ca h wa ka wk ch' li' kf M' (o_new σ c K A) → post (cn (x_v (o_new σ c K A) 13) 8) M') :
    nN (some ka) fun b30 => sR (va_up (va_up (va_up (va_up M q (some e0)) q1 (some (.inr (4, [.ref (G 3), .int 0, .int 0])))) q2 (some (.inr (4, [.ref (G 3), .int 0, .int 0])))) q (some (.inr (0, [.int (Int32.ofNat c), .int K, .int (if K = 6 then 0 else o_rm K A), .int (if K = 6 then A else 0), .ref q1, .ref q2, .int 0, .int 0, .double FP.dconst0, .int 0])))) b30 (ca 1) (Int32.ofNat c) (some q) (fun z => z = 0) fun M31 => gI M31 h 3 2 fun v32 => pF M31 h 3 2 (.int (v32 + 1)) fun M33 => gI M33 h 3 2 fun v34 => post v34 M33 := by
  obtain ⟨O, g1, g2, g3⟩ := g
  obtain ⟨h1, h2, h3, ⟨tx, h4, h5⟩, ⟨f, h6, h7⟩, k, h8, h9⟩ := g1
  have n1 : q1 ≠ q := fun e => by rw [e, va_up_self] at hq1; cases hq1
  have n2 : q2 ≠ q := fun e => by rw [e, va_up_self] at hq2; cases hq2
  rw [va_up_ne _ _ n1] at hq1
  rw [va_up_ne _ _ n2] at hq2
  have old : ∀ p, M p ≠ none → p ≠ q ∧ p ≠ q1 ∧ p ≠ q2 := fun p hp => ⟨fun e => hp (by rw [e]; exact hq), fun e => hp (by rw [e]; exact hq1), fun e => hp (by rw [e]; exact hq2)⟩
  have hka := old ka (by rw [h8]; simp)
  have hh := old h (by rw [h4]; simp)
  have hhk : h ≠ ka := fun e => by rw [e, h8] at h4; cases h4
  generalize hcc : (.inr (0, [.int (Int32.ofNat c), .int K, .int (if K = 6 then 0 else o_rm K A), .int (if K = 6 then A else 0), .ref q1, .ref q2, .int 0, .int 0, .double FP.dconst0, .int 0]) : va_E) = cc
  generalize hll : (.inr (4, [.ref (G 3), .int 0, .int 0]) : va_E) = ll
  have m29 : ∀ p, M p ≠ none → (va_up (va_up (va_up (va_up M q (some e0)) q1 (some ll)) q2 (some ll)) q (some cc)) p = M p := fun p hp => by
    obtain ⟨a, b, c⟩ := old p hp
    rw [va_up_ne _ _ a, va_up_ne _ _ c, va_up_ne _ _ b, va_up_ne _ _ a]
  generalize hM29 : va_up (va_up (va_up (va_up M q (some e0)) q1 (some ll)) q2 (some ll)) q (some cc) = M29 at m29
  have mq : M29 q = some cc := by rw [← hM29]; exact va_up_self _ _ _
  have mq1 : M29 q1 = some ll := by rw [← hM29, va_up_ne _ _ n1, va_up_ne _ _ h12, va_up_self]
  have mq2 : M29 q2 = some ll := by rw [← hM29, va_up_ne _ _ n2, va_up_self]
  refine nn_s ⟨8, k, by rw [m29 ka (by rw [h8]; simp)]; exact h8, i_in hc (by decide), fun p e => by cases e; exact ⟨0, _, by rw [mq, ← hcc], rfl⟩, ?_⟩
  rw [i_of (by omega)]
  have mh : (va_up M29 ka (some (aE (ca 1) 8 (va_up k c (some q))))) h = some (.inr (3, [.ref wa, .ref ka, .int (cn (x_v σ 13) 8), .double tx])) := by rw [va_up_ne _ _ hhk, m29 h (by rw [h4]; simp)]; exact h4
  refine ⟨_, _, mh, rfl, _, mh, by simp, _, _, va_up_self _ _ _, rfl, ?_⟩
  have ecn : cn (x_v (o_new σ c K A) 13) 8 = cn (x_v σ 13) 8 + 1 := by rw [new_13, cn_up hm hK, if_pos hc]
  have key := hp (va_up ch c q) (fun n => if n = 2 * c then q1 else if n = 2 * c + 1 then q2 else li n) (va_up (va_up M29 ka (some (aE (ca 1) 8 (va_up k c (some q))))) h (some (.inr (3, [.ref wa, .ref ka, .int (cn (x_v σ 13) 8 + 1), .double tx]))))
  rw [ecn] at key
  refine key ?_
  clear key
  generalize hM33 : va_up (va_up M29 ka (some (aE (ca 1) 8 (va_up k c (some q))))) h (some (.inr (3, [.ref wa, .ref ka, .int (cn (x_v σ 13) 8 + 1), .double tx]))) = M33
  have new : ∀ p, p ≠ h → p ≠ ka → M33 p = M29 p := fun p a b => by rw [← hM33, va_up_ne _ _ a, va_up_ne _ _ b]
  let O' := va_up (va_up (va_up O q (20 + c)) q1 (50 + 2 * c)) q2 (30 + 2 * c)
  have hO' : ∀ p, M p ≠ none → O' p = O p := fun p hp => by
    obtain ⟨a, b, c⟩ := old p hp
    show va_up (va_up (va_up O q _) q1 _) q2 _ p = O p
    rw [va_up_ne _ _ c, va_up_ne _ _ b, va_up_ne _ _ a]
  have hf : Fr (fun g => g = 1 ∨ g = 3) M O M33 O' := fun p hp => by
    refine ⟨?_, hO' p hp, fun hs => ?_⟩
    · by_cases a : p = h
      · rw [← hM33, a, va_up_self]; simp
      · by_cases b : p = ka
        · rw [← hM33, va_up_ne _ _ a, b, va_up_self]; simp
        · rw [new p a b, m29 p hp]; exact hp
    · have a : p ≠ h := fun e => hs (Or.inl (by rw [e]; exact h1))
      have b : p ≠ ka := fun e => hs (Or.inr (by rw [e]; exact h3))
      rw [new p a b, m29 p hp]
  obtain ⟨ei, ew⟩ := IV_un hi hc hm
  refine ⟨O', ⟨(hO' h (by rw [h4]; simp)).trans h1, (hO' wa (by rw [h6]; simp)).trans h2, (hO' ka (by rw [h8]; simp)).trans h3, ⟨tx, ?_, h5⟩, ⟨f, fr_g hf h6 (by rw [h2]; omega), h7⟩, va_up k c (some q), ?_, fun d hd => ?_⟩, fun t ht => ?_, fun d hd => ?_⟩
  · rw [ecn, ← hM33, va_up_self]
  · rw [← hM33, va_up_ne _ _ (fun e => hhk e.symm), va_up_self]
  · by_cases hdc : d = c
    · subst hdc
      rw [va_up_self, va_up_self, new_c, if_neg hK]
    · rw [va_up_ne _ _ hdc, va_up_ne _ _ hdc, new_i σ c K A 13 hdc]
      exact h9 d hd
  · obtain ⟨w1, rl, he, ex, w2, w3⟩ := g2 t ht
    have hpc : ∀ d, x_p σ t = some d → d ≠ c := fun d hd e => by
      rw [e] at hd
      exact IV_mp hi ht c hd hm
    refine ⟨(hO' _ (by rw [w2]; simp)).trans w1, rl, he, ex, ?_, wK_p (σ := σ) (fun d hd => new_i σ c K A 13 (hpc d hd)) ⟨fun j hj => by rw [new_o σ c K A]; revert j; decide, rfl, fun _ _ => rfl⟩ w3⟩
    have ep : (x_p σ t).map (va_up ch c q) = (x_p σ t).map ch := by
      cases hx : x_p σ t with
      | none => rfl
      | some d => show some (va_up ch c q d) = some (ch d); rw [va_up_ne _ _ (hpc d hx)]
    rw [new_o σ c K A (k := 2) (by decide), new_o σ c K A (k := 3) (by decide), new_o σ c K A (k := 4) (by decide), new_o σ c K A (k := 5) (by decide), new_o σ c K A (k := 8) (by decide)]
    show M33 (wk t) = some (.inr (2, wL t (x_v σ 2 t) (x_v σ 3 t) (x_v σ 4 t) (x_v σ 5 t) ((x_p σ t).map (va_up ch c q)) rl (x_v σ 8 t) (kf t) he ex))
    rw [ep]
    exact fr_g hf w2 (by rw [w1]; omega)
  · by_cases hdc : d = c
    · subst hdc
      refine ⟨fun e => absurd e (by rw [new_c]; exact hK), fun _ => ?_⟩
      obtain ⟨u1, u2, u3, u4⟩ := (g3 d hd).1 hm
      have qne : ∀ p, M p = none → p ≠ h ∧ p ≠ ka := fun p hp => ⟨fun e => (by rw [e, h4] at hp; cases hp), fun e => (by rw [e, h8] at hp; cases hp)⟩
      have tq : O' q = 20 + d := by
        show va_up (va_up (va_up O q _) q1 _) q2 _ q = _
        rw [va_up_ne _ _ (fun e => n2 e.symm), va_up_ne _ _ (fun e => n1 e.symm), va_up_self]
      have tq1 : O' q1 = 50 + 2 * d := by
        show va_up (va_up (va_up O q _) q1 _) q2 _ q1 = _
        rw [va_up_ne _ _ h12, va_up_self]
      have tq2 : O' q2 = 30 + 2 * d := va_up_self _ _ _
      have l0 : (fun n => if n = 2 * d then q1 else if n = 2 * d + 1 then q2 else li n) (2 * d) = q1 := if_pos rfl
      have l1 : (fun n => if n = 2 * d then q1 else if n = 2 * d + 1 then q2 else li n) (2 * d + 1) = q2 := by
        show (if 2 * d + 1 = 2 * d then q1 else if 2 * d + 1 = 2 * d + 1 then q2 else li (2 * d + 1)) = q2
        rw [if_neg (by omega), if_pos rfl]
      refine ⟨by rw [va_up_self]; exact tq, ?_, ?_, ?_⟩
      · rw [va_up_self, new q (qne q hq).1 (qne q hq).2, mq, ← hcc]
        unfold cL
        rw [new_14, l0, l1, new_o σ d K A (k := 15) (by decide), new_o σ d K A (k := 16) (by decide), new_o σ d K A (k := 25) (by decide), u1, u2, u3, new_c]
        rw [show x_s (o_new σ d K A) d = FP.dconst0 from u4]
        by_cases k6 : K = 6
        · subst k6
          rfl
        · rw [if_neg k6, if_neg k6, if_neg k6]
      · show AL G ca O' M33 (30 + 2 * d) _ ((x_w σ d).map wk)
        rw [ew, l1]
        exact ⟨tq2, G 3, 0, by rw [new q2 (qne q2 hq2).1 (qne q2 hq2).2, mq2, ← hll]; rfl, Or.inl ⟨rfl, rfl⟩⟩
      · show cI G ca _ M33 O' _ (x_i σ d) d
        rw [ei]
        refine ⟨[], ?_, rfl, fun i e he => (by cases he)⟩
        rw [l0]
        exact ⟨tq1, G 3, 0, by rw [new q1 (qne q1 hq1).1 (qne q1 hq1).2, mq1, ← hll]; rfl, Or.inl ⟨rfl, rfl⟩⟩
    · refine cC_gh (ch := ch) (li := li) (va_up_ne _ _ hdc) ?_ ?_ (cC_p (σ := σ) hf (by omega) (new_i σ c K A 13 hdc) ⟨fun j _ => new_i σ c K A j hdc, rfl, rfl, rfl⟩ (g3 d hd))
      · show (if 2 * d = 2 * c then q1 else if 2 * d = 2 * c + 1 then q2 else li (2 * d)) = _
        rw [if_neg (by omega), if_neg (by omega)]
      · show (if 2 * d + 1 = 2 * c then q1 else if 2 * d + 1 = 2 * c + 1 then q2 else li (2 * d + 1)) = _
        rw [if_neg (by omega), if_neg (by omega)]
theorem H_make (g : RC G ca h wa ka wk ch li kf M σ) (hi : IV σ N) {C K A : Int32} {post : Int32 → hM → Prop} {xp : String → hM → Prop}
    (hp : (o_make σ C K A).1 = 0 → ∀ ch' li' kf' M', RC G ca h wa ka wk ch' li' kf' M' (o_make σ C K A).2.2 → post (o_make σ C K A).2.1 M') (h1 : o_make σ C K A = (1, 0, σ) → xp "java/lang/IllegalArgumentException" M) (h2 : o_make σ C K A = (2, 0, σ) → xp "java/lang/IllegalStateException" M) : wp_Ha_make G ca post xp M h C K A := by
  have hbad : (bC C ∨ bM K A) → wp_Ha_make_19 G ca post xp M h C K A := fun e => ⟨fun k => absurd rfl k, fun _ => h1 (by unfold o_make; rw [if_pos e])⟩
  refine is_chn (fun hb => ⟨fun _ => hbad (Or.inl hb), fun e => absurd rfl e⟩) fun hC => ⟨fun e => nx1 e, fun _ => is_sz (fun hb => ⟨fun _ => hbad (Or.inr hb), fun e => absurd rfl e⟩) fun hM => ⟨fun e => nx1 e, fun _ => ⟨fun _ => ?_, fun e => nx1 e⟩⟩⟩
  obtain ⟨c, hc, rfl, ec⟩ := i_C hC
  unfold o_make at hp h2
  rw [if_neg (fun e => e.elim hC hM), ec] at hp h2
  refine hc_c g hc ?_
  by_cases hm : x_v σ 13 c < 0
  · rw [if_pos hm]
    rw [if_neg (fun e => e hm)] at hp
    refine ⟨fun _ => ?_, fun b e => by cases e⟩
    obtain ⟨O, g0⟩ := id g
    obtain ⟨_, _, _, ⟨tx, q1, _⟩, _⟩ := g0.1
    refine ⟨_, some ka, q1, rfl, fun q hq => ch_new (va_up_self _ _ _) fun p1 p2 hp1 hp2 h12 => ?_⟩
    exact RC_new g hi hc hm (fun e => hM (Or.inl e)) hq hp1 hp2 h12 fun ch' li' M' g' => hp rfl ch' li' kf M' g'
  · rw [if_neg hm]
    exact ⟨fun e => (by cases e), fun b _ => h2 (by rw [if_pos hm])⟩
end

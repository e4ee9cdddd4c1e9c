/-! THE TICK, on the abstract state: the next moment, a round, six rounds at most. -/
/-- the DUE time that takers of c wait for -/
def dm (σ : St) (c : Nat) : Int := match x_i σ c with
  | [] => -8
  | e :: _ => if x_v σ 13 c = 4 ∧ (fw σ c 1).isSome = true ∧ x_n σ < e.2.2.1 then e.2.2.1 else -8
def cand (σ : St) (i : Nat) : Int := if i < 6 then (if x_p σ i = none then -8 else x_e σ 11 i) else dm σ (i - 6)
def mb (b v : Int) : Int := if v < 0 then b else if b < 0 ∨ v < b then v else b
def com (σ : St) : Nat → Int
  | 0 => -8
  | i + 1 => mb (com σ i) (cand σ i)
def o_sd : Nat → St → St
  | 0, σ => σ
  | c + 1, σ => if x_v (o_sd c σ) 13 c = 4 then o_sv (o_sd c σ) c else o_sd c σ
abbrev o_lt (σ : St) (t : Nat) : Prop := x_p σ t ≠ none ∧ 0 ≤ x_e σ 11 t ∧ x_e σ 11 t ≤ x_n σ
def o_el : Nat → St → St × Int32
  | 0, σ => (σ, 0)
  | t + 1, σ => if o_lt (o_el t σ).1 t then (o_leave (o_el t σ).1 t 2, (o_el t σ).2 + 1) else o_el t σ
def o_rd (σ : St) (m : Int) : St × Int32 := o_el 6 (o_sd 8 (s_n σ (if m ≤ x_n σ then x_n σ else m)))
def o_tk : Nat → Int → St → Int32 → St × Int32
  | 0, _, σ, k => (σ, k)
  | n + 1, g, σ, k => if com σ 14 < 0 ∨ g < com σ 14 then (σ, k) else o_tk n g (o_rd σ (com σ 14)).1 (k + (o_rd σ (com σ 14)).2)
def o_tick (σ : St) (D : Int32) : Rs := if D.toInt < 0 ∨ 8000 < D.toInt then (1, 0, σ) else (0, (o_tk 6 (x_n σ + D.toInt) σ 0).2, s_n (o_tk 6 (x_n σ + D.toInt) σ 0).1 (x_n σ + D.toInt))
theorem com_in (σ : St) : ∀ n, 0 ≤ com σ n → ∃ i, i < n ∧ cand σ i = com σ n
  | 0, h => absurd h (by show ¬ (0 : Int) ≤ -8; decide)
  | n + 1, h => by
    have e : com σ (n + 1) = mb (com σ n) (cand σ n) := rfl
    unfold mb at e
    split at e
    · rw [e] at h ⊢
      obtain ⟨i, hi, g⟩ := com_in σ n h
      exact ⟨i, by omega, g⟩
    · split at e
      · exact ⟨n, by omega, e.symm⟩
      · rw [e] at h ⊢
        obtain ⟨i, hi, g⟩ := com_in σ n h
        exact ⟨i, by omega, g⟩
theorem com_lt (σ : St) : ∀ n, (∀ i, i < n → cand σ i < 0) → com σ n < 0
  | 0, _ => by show (-8 : Int) < 0; decide
  | n + 1, h => by
    have e : com σ (n + 1) = mb (com σ n) (cand σ n) := rfl
    unfold mb at e
    rw [if_pos (h n (by omega))] at e
    rw [e]; exact com_lt σ n fun i hi => h i (by omega)
/-! what serving leaves alone -/
def kF (σ σ' : St) : Prop := x_n σ' = x_n σ ∧ x_v σ' 13 = x_v σ 13 ∧ x_v σ' 7 = x_v σ 7 ∧ ∀ t, (x_p σ' t = x_p σ t ∧ x_e σ' 11 t = x_e σ 11 t) ∨ x_p σ' t = none
def kG (c : Nat) (σ σ' : St) : Prop := ∀ d, d ≠ c → x_i σ' d = x_i σ d ∧ x_w σ' d = x_w σ d
theorem kF_r (σ : St) : kF σ σ := ⟨rfl, rfl, rfl, fun _ => Or.inl ⟨rfl, rfl⟩⟩
theorem kF_t {a b c : St} (h : kF a b) (g : kF b c) : kF a c := by
  refine ⟨g.1.trans h.1, g.2.1.trans h.2.1, g.2.2.1.trans h.2.2.1, fun t => ?_⟩
  rcases g.2.2.2 t with e | e
  · rcases h.2.2.2 t with f | f
    · exact Or.inl ⟨e.1.trans f.1, e.2.trans f.2⟩
    · exact Or.inr (e.1.trans f)
  · exact Or.inr e
theorem kF_n {a b : St} (h : kF a b) {t : Nat} (ht : x_p a t = none) : x_p b t = none := by
  rcases h.2.2.2 t with e | e
  · exact e.1.trans ht
  · exact e
theorem kG_t {c : Nat} {s0 s1 s2 : St} (h : kG c s0 s1) (g : kG c s1 s2) : kG c s0 s2 := fun d hd => ⟨(g d hd).1.trans (h d hd).1, (g d hd).2.trans (h d hd).2⟩
theorem kF_free (σ : St) (c t : Nat) (w : Int32) : kF σ (o_free σ c t w) ∧ kG c σ (o_free σ c t w) := by
  refine ⟨⟨rfl, rfl, rfl, fun u => ?_⟩, fun d hd => ⟨rfl, ?_⟩⟩
  · dsimp only [o_free, s_v, s_e, s_p, s_w, x_p, x_e]
    rw [va_up_at, u2_k]
    split
    · exact Or.inr rfl
    · rename_i hu
      exact Or.inl ⟨rfl, if_neg hu⟩
  · dsimp only [o_free, s_v, s_e, s_p, s_w, x_w]
    rw [va_up_at, if_neg hd]
theorem kF_obt (σ : St) (t c : Nat) (v : Int32) (d : Int) : kF σ (o_obt σ t c v d) ∧ kG c σ (o_obt σ t c v d) := ⟨⟨rfl, rfl, rfl, fun _ => Or.inl ⟨rfl, rfl⟩⟩, fun _ _ => ⟨rfl, rfl⟩⟩
theorem kF_i (σ : St) (c : Nat) (l : List It) : kF σ (s_i σ c l) ∧ kG c σ (s_i σ c l) := by
  refine ⟨⟨rfl, rfl, rfl, fun _ => Or.inl ⟨rfl, rfl⟩⟩, fun d hd => ⟨?_, rfl⟩⟩
  dsimp only [s_i, x_i]
  rw [va_up_at, if_neg hd]
theorem kF_tf (σ : St) (t c : Nat) : kF σ (o_tf σ t c) ∧ kG c σ (o_tf σ t c) := by
  cases hx : x_i σ c with
  | nil => rw [tf_nil hx]; exact ⟨kF_r σ, fun _ _ => ⟨rfl, rfl⟩⟩
  | cons e l =>
    rw [tf_cons hx]
    have h1 := kF_obt σ t c e.1 (x_n σ - e.2.2.2)
    have h2 := kF_i (o_obt σ t c e.1 (x_n σ - e.2.2.2)) c l
    exact ⟨kF_t h1.1 h2.1, kG_t h1.2 h2.2⟩
theorem kF_brk (σ : St) (c : Nat) : kF σ (o_brk σ c) := by
  refine ⟨rfl, rfl, rfl, fun u => ?_⟩
  dsimp only [o_brk, o_all, s_v, x_p, x_e]
  by_cases hu : u ∈ x_w σ c
  · exact Or.inr (if_pos hu)
  · refine Or.inl ⟨if_neg hu, ?_⟩
    rw [if_pos rfl]; exact if_neg hu
theorem kF_step {σ σ' : St} {c : Nat} (h : o_step σ c = some σ') : kF σ σ' ∧ kG c σ σ' := by
  rcases step_cases h with ⟨t, _, _, rfl⟩ | ⟨g, _, _, rfl⟩ | ⟨t, g, _, _, _, rfl⟩
  · exact ⟨kF_t (kF_tf σ t c).1 (kF_free _ c t 1).1, kG_t (kF_tf σ t c).2 (kF_free _ c t 1).2⟩
  · exact ⟨kF_t (kF_i σ c _).1 (kF_free _ c g 1).1, kG_t (kF_i σ c _).2 (kF_free _ c g 1).2⟩
  · exact ⟨kF_t (kF_t (kF_obt σ t c _ 0).1 (kF_free _ c t 1).1) (kF_free _ c g 1).1, kG_t (kG_t (kF_obt σ t c _ 0).2 (kF_free _ c t 1).2) (kF_free _ c g 1).2⟩
theorem kF_serve (c : Nat) : ∀ (n : Nat) (σ : St), kF σ (o_serve n σ c) ∧ kG c σ (o_serve n σ c)
  | 0, σ => ⟨kF_r σ, fun _ _ => ⟨rfl, rfl⟩⟩
  | n + 1, σ => by
    have e : o_serve (n + 1) σ c = match o_step σ c with
      | none => σ
      | some σ' => o_serve n σ' c := rfl
    cases hs : o_step σ c with
    | none => rw [e, hs]; exact ⟨kF_r σ, fun _ _ => ⟨rfl, rfl⟩⟩
    | some σ' =>
      rw [e, hs]
      have h1 := kF_step hs
      have h2 := kF_serve c n σ'
      exact ⟨kF_t h1.1 h2.1, kG_t h1.2 h2.2⟩
theorem kF_leave (σ : St) (t : Nat) (w : Int32) : kF σ (o_leave σ t w) := by
  unfold o_leave
  split
  · exact kF_r σ
  · rename_i c hp
    split
    · exact kF_t (kF_t (kF_free σ c t w).1 (kF_brk _ c)) (kF_serve c 6 _).1
    · exact kF_t (kF_free σ c t w).1 (kF_serve c 6 _).1
theorem free_p (σ : St) (c t : Nat) (w : Int32) : x_p (o_free σ c t w) t = none := by
  dsimp only [o_free, s_v, s_e, s_p, s_w, x_p]
  rw [va_up_self]
theorem leave_p (σ : St) (t : Nat) (w : Int32) : x_p (o_leave σ t w) t = none := by
  unfold o_leave
  split
  · assumption
  · rename_i c hp
    split
    · exact kF_n (kF_t (kF_brk _ c) (kF_serve c 6 _).1) (free_p σ c t w)
    · exact kF_n (kF_serve c 6 _).1 (free_p σ c t w)
theorem kF_sd (σ : St) : ∀ n, kF σ (o_sd n σ)
  | 0 => kF_r σ
  | n + 1 => by
    unfold o_sd
    split
    · exact kF_t (kF_sd σ n) (kF_serve n 6 _).1
    · exact kF_sd σ n
theorem sd_keep (σ : St) : ∀ n c, n ≤ c → x_i (o_sd n σ) c = x_i σ c ∧ x_w (o_sd n σ) c = x_w σ c
  | 0, _, _ => ⟨rfl, rfl⟩
  | n + 1, c, h => by
    have ih := sd_keep σ n c (by omega)
    unfold o_sd
    split
    · have := (kF_serve n 6 (o_sd n σ)).2 c (by omega)
      exact ⟨this.1.trans ih.1, this.2.trans ih.2⟩
    · exact ih
theorem sd_mono (σ : St) (m : Nat) : ∀ d, kF (o_sd m σ) (o_sd (m + d) σ)
  | 0 => kF_r _
  | d + 1 => by
    have ih := sd_mono σ m d
    rw [show m + (d + 1) = (m + d) + 1 from rfl]
    rw [o_sd]
    split
    · exact kF_t ih (kF_serve _ 6 _).1
    · exact ih
theorem el_mono (σ : St) (m : Nat) : ∀ d, kF (o_el m σ).1 (o_el (m + d) σ).1
  | 0 => kF_r _
  | d + 1 => by
    have ih := el_mono σ m d
    rw [show m + (d + 1) = (m + d) + 1 from rfl]
    rw [o_el]
    split
    · exact kF_t ih (kF_leave _ _ _)
    · exact ih
theorem kF_el (σ : St) : ∀ n, kF σ (o_el n σ).1
  | 0 => kF_r σ
  | n + 1 => by
    have ih := kF_el σ n
    rw [o_el]
    split
    · exact kF_t ih (kF_leave _ _ _)
    · exact ih
theorem rd_u (σ : St) (m : Int) : o_rd σ m = o_el 6 (o_sd 8 (s_n σ (if m ≤ x_n σ then x_n σ else m))) := rfl
theorem IV_sd {σ : St} {N : Int} (h : IV σ N) : ∀ n, n ≤ 8 → IV (o_sd n σ) N
  | 0, _ => h
  | n + 1, hn => by
    unfold o_sd
    split
    · exact IV_sv (IV_sd h n (by omega)) (by omega)
    · exact IV_sd h n (by omega)
theorem IV_el {σ : St} {N : Int} (h : IV σ N) : ∀ n, n ≤ 6 → IV (o_el n σ).1 N
  | 0, _ => h
  | n + 1, hn => by
    unfold o_el
    split
    · exact IV_leave (IV_el h n (by omega)) (by omega) 2
    · exact IV_el h n (by omega)
theorem IV_rd {σ : St} {N : Int} (h : IV σ N) {m : Int} (hm : m ≤ N) : IV (o_rd σ m).1 N :=
  IV_el (IV_sd (IV_n h (by split <;> omega) (by have := h.2.2.2.2.2; split <;> omega) h.2.2.2.2.2.2.2) 8 (by decide)) 6 (by decide)
/-! how many are blocked -/
def bl (p : Nat → Option Nat) : Nat → Nat
  | 0 => 0
  | n + 1 => bl p n + (if p n = none then 0 else 1)
theorem bl_le {p q : Nat → Option Nat} (h : ∀ t, p t = none → q t = none) : ∀ n, bl q n ≤ bl p n
  | 0 => Nat.le_refl _
  | n + 1 => by
    have := bl_le h n
    have := h n
    unfold bl
    split <;> split <;> first | omega | (rename_i a b; exact absurd (this b) a)
theorem bl_lt {p q : Nat → Option Nat} (h : ∀ t, p t = none → q t = none) {u : Nat} (hp : p u ≠ none) (hq : q u = none) : ∀ n, u < n → bl q n < bl p n
  | 0, hu => by omega
  | n + 1, hu => by
    have h1 := bl_le h n
    by_cases e : u = n
    · subst e
      unfold bl
      rw [if_neg hp, if_pos hq]; omega
    · have ih := bl_lt h hp hq n (by omega)
      have := h n
      unfold bl
      split <;> split <;> first | omega | (rename_i a b; exact absurd (this b) a)
theorem bl_b (p : Nat → Option Nat) : ∀ n, bl p n ≤ n
  | 0 => Nat.le_refl _
  | n + 1 => by
    have := bl_b p n
    unfold bl
    split <;> omega
theorem bl_0 {p : Nat → Option Nat} : ∀ {n : Nat}, bl p n = 0 → ∀ t, t < n → p t = none
  | 0, _, t, ht => by omega
  | n + 1, h, t, ht => by
    unfold bl at h
    split at h
    · rename_i e
      by_cases g : t = n
      · rw [g]; exact e
      · exact bl_0 (by omega) t (by omega)
    · omega
theorem rd_lt {σ : St} {N : Int} (hi : IV σ N) (hm : 0 ≤ com σ 14) : bl (x_p (o_rd σ (com σ 14)).1) 6 < bl (x_p σ) 6 := by
  obtain ⟨i, hi14, hci⟩ := com_in σ 14 hm
  let σ1 : St := s_n σ (if com σ 14 ≤ x_n σ then x_n σ else com σ 14)
  have hn1 : com σ 14 ≤ x_n σ1 := by
    show com σ 14 ≤ (if com σ 14 ≤ x_n σ then x_n σ else com σ 14)
    split <;> omega
  have k2 : kF σ1 (o_sd 8 σ1) := kF_sd σ1 8
  have er : o_rd σ (com σ 14) = o_el 6 (o_sd 8 σ1) := rd_u σ _
  rw [er]
  have k3 : kF (o_sd 8 σ1) (o_el 6 (o_sd 8 σ1)).1 := kF_el _ 6
  have hno : ∀ t, x_p σ t = none → x_p (o_el 6 (o_sd 8 σ1)).1 t = none := fun t ht => kF_n (kF_t k2 k3) (a := σ1) ht
  have key : ∃ t, t < 6 ∧ x_p σ t ≠ none ∧ x_p (o_el 6 (o_sd 8 σ1)).1 t = none := by
    unfold cand at hci
    split at hci
    · rename_i h6
      have hb : x_p σ i ≠ none := fun e => by rw [if_pos e] at hci; omega
      rw [if_neg hb] at hci
      refine ⟨i, h6, hb, ?_⟩
      have e6 : (i + 1) + (5 - i) = 6 := by omega
      have km := el_mono (o_sd 8 σ1) (i + 1) (5 - i)
      rw [e6] at km
      refine kF_n km ?_
      rw [o_el]
      split
      · exact leave_p _ _ _
      · rename_i hnl
        have kk := kF_t k2 (kF_el (o_sd 8 σ1) i)
        rcases kk.2.2.2 i with f | f
        · refine absurd ⟨?_, ?_, ?_⟩ hnl
          · rw [f.1]; exact hb
          · rw [f.2]; show 0 ≤ x_e σ 11 i; omega
          · rw [f.2, kk.1]; show x_e σ 11 i ≤ _; omega
        · exact f
    · rename_i h6
      unfold dm at hci
      generalize hc : i - 6 = c at hci
      have hc8 : c < 8 := by omega
      cases hx : x_i σ c with
      | nil => rw [hx] at hci; dsimp only at hci; omega
      | cons e l =>
        rw [hx] at hci
        dsimp only at hci
        split at hci
        · rename_i h4
          obtain ⟨k4, hf, hdue⟩ := h4
          cases ht : fw σ c 1 with
          | none => rw [ht] at hf; cases hf
          | some t =>
            have htm := (fw_some ht).1
            have hg := (hi.2.1 c hc8).2 t htm
            refine ⟨t, hg.1, by rw [hg.2.1]; simp, ?_⟩
            refine kF_n k3 ?_
            have km := sd_mono σ1 (c + 1) (7 - c)
            rw [show (c + 1) + (7 - c) = 8 by omega] at km
            refine kF_n km ?_
            have kp := sd_keep σ1 c c (Nat.le_refl _)
            have kq := kF_sd σ1 c
            have kd : x_v (o_sd c σ1) 13 c = 4 := by rw [kq.2.1]; exact k4
            rw [o_sd, if_pos kd]
            have hfw : fw (o_sd c σ1) c 1 = some t := by
              unfold fw at ht ⊢
              rw [kp.2, kq.2.2.1]; exact ht
            have hx1 : x_i (o_sd c σ1) c = e :: l := by rw [kp.1]; exact hx
            have hr : rdy (o_sd c σ1) c = true := by
              unfold rdy
              rw [hx1]
              dsimp only
              refine decide_eq_true (Or.inr ?_)
              rw [kq.1]; omega
            have hs : o_step (o_sd c σ1) c = some (o_free (o_tf (o_sd c σ1) t c) c t 1) := by
              unfold o_step
              rw [hfw]
              dsimp only
              rw [if_pos hr]
            show x_p (o_serve 6 (o_sd c σ1) c) t = none
            rw [o_serve, hs]
            exact kF_n (kF_serve c 5 _).1 (free_p _ c t 1)
        · omega
  obtain ⟨t, ht, h1, h2⟩ := key
  exact bl_lt hno h1 h2 6 ht
theorem com_none {σ : St} {N : Int} (hi : IV σ N) (hb : bl (x_p σ) 6 = 0) : com σ 14 < 0 := by
  refine com_lt σ 14 fun i hi14 => ?_
  unfold cand
  split
  · rename_i h6
    rw [if_pos (bl_0 hb i h6)]; decide
  · unfold dm
    split
    · decide
    · rename_i e l hx
      split
      · rename_i h4
        have hc : i - 6 < 8 := by omega
        cases ht : fw σ (i - 6) 1 with
        | none => rw [ht] at h4; exact absurd h4.2.1 (by decide)
        | some t =>
          have hg := (hi.2.1 _ hc).2 t (fw_some ht).1
          have := bl_0 hb t hg.1
          rw [hg.2.1] at this; cases this
      · decide
theorem IV_tk {N g : Int} (hg : g ≤ N) : ∀ (n : Nat) (σ : St) (k : Int32), IV σ N → IV (o_tk n g σ k).1 N
  | 0, _, _, h => h
  | n + 1, σ, k, h => by
    unfold o_tk
    split
    · exact h
    · exact IV_tk hg n _ _ (IV_rd h (by omega))
theorem x_n_tk {N g : Int} : ∀ (n : Nat) (σ : St) (k : Int32), x_n σ ≤ g → x_n (o_tk n g σ k).1 ≤ g
  | 0, _, _, h => h
  | n + 1, σ, k, h => by
    unfold o_tk
    split
    · exact h
    · refine x_n_tk (N := N) n _ _ ?_
      have k2 := kF_sd (s_n σ (if com σ 14 ≤ x_n σ then x_n σ else com σ 14)) 8
      have k3 := kF_el (o_sd 8 (s_n σ (if com σ 14 ≤ x_n σ then x_n σ else com σ 14))) 6
      have := (kF_t k2 k3).1
      rw [rd_u, this]
      show (if com σ 14 ≤ x_n σ then x_n σ else com σ 14) ≤ g
      split <;> omega
theorem IV_tick {σ : St} {N : Int} (h : IV σ N) (hN : N + 8000 ≤ 4104000) (D : Int32) : IV (o_tick σ D).2.2 (N + 8000) := by
  unfold o_tick
  split
  · exact IV_N h (by omega) hN
  · have h6 := h.2.2.2.2.2
    exact IV_n (IV_tk (N := N + 8000) (g := x_n σ + D.toInt) (by omega) 6 σ 0 (IV_N h (by omega) hN)) (x_n_tk (N := N) 6 σ 0 (by omega)) (by omega) hN

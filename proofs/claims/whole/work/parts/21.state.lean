/-! THE ABSTRACT STATE, shared by the class and the reference: rows of ints (2 flag, 3 outcome, 4 has got, 5 got, 7 role, 8 gift, 13 kind, 14 room, 15 broken, 16 passed, 25 stays), the channel a thread waits at, eighths (9 rank, 10 due, 11 end), sums of stays, items (value, rank, due, since), waiters, the time. -/
abbrev It : Type := Int32 × Int × Int × Int
abbrev St : Type := (Nat → Nat → Int32) × (Nat → Option Nat) × (Nat → Nat → Int) × (Nat → UInt64) × (Nat → List It) × (Nat → List Nat) × Int
abbrev x_v (σ : St) : Nat → Nat → Int32 := σ.1
abbrev x_p (σ : St) : Nat → Option Nat := σ.2.1
abbrev x_e (σ : St) : Nat → Nat → Int := σ.2.2.1
abbrev x_s (σ : St) : Nat → UInt64 := σ.2.2.2.1
abbrev x_i (σ : St) : Nat → List It := σ.2.2.2.2.1
abbrev x_w (σ : St) : Nat → List Nat := σ.2.2.2.2.2.1
abbrev x_n (σ : St) : Int := σ.2.2.2.2.2.2
def s_v (σ : St) (k i : Nat) (v : Int32) : St := (u2 σ.1 k i v, σ.2)
def s_p (σ : St) (t : Nat) (r : Option Nat) : St := (σ.1, va_up σ.2.1 t r, σ.2.2)
def s_e (σ : St) (k i : Nat) (v : Int) : St := (σ.1, σ.2.1, u2 σ.2.2.1 k i v, σ.2.2.2)
def s_s (σ : St) (c : Nat) (v : UInt64) : St := (σ.1, σ.2.1, σ.2.2.1, va_up σ.2.2.2.1 c v, σ.2.2.2.2)
def s_i (σ : St) (c : Nat) (l : List It) : St := (σ.1, σ.2.1, σ.2.2.1, σ.2.2.2.1, va_up σ.2.2.2.2.1 c l, σ.2.2.2.2.2)
def s_w (σ : St) (c : Nat) (l : List Nat) : St := (σ.1, σ.2.1, σ.2.2.1, σ.2.2.2.1, σ.2.2.2.2.1, va_up σ.2.2.2.2.2.1 c l, σ.2.2.2.2.2.2)
def s_n (σ : St) (n : Int) : St := (σ.1, σ.2.1, σ.2.2.1, σ.2.2.2.1, σ.2.2.2.2.1, σ.2.2.2.2.2.1, n)
/-- the first waiter of a role -/
def fw (σ : St) (c : Nat) (r : Int32) : Option Nat := (x_w σ c).find? fun t => decide (x_v σ 7 t = r)
/-- a waiter is freed -/
def o_free (σ : St) (c t : Nat) (w : Int32) : St := s_v (s_e (s_p (s_w σ c ((x_w σ c).erase t)) t none) 11 t (-8)) 3 t w
/-- all waiters of c are freed -/
def o_all (σ : St) (c : Nat) (w : Int32) : St :=
  (fun k => if k = 3 then (fun t => if t ∈ x_w σ c then w else σ.1 3 t) else σ.1 k, fun t => if t ∈ x_w σ c then none else x_p σ t,
    fun k => if k = 11 then (fun t => if t ∈ x_w σ c then -8 else x_e σ 11 t) else x_e σ k, x_s σ, x_i σ, va_up (x_w σ) c [], x_n σ)
/-- goes ahead of the new item -/
def kp (kd : Int32) (r d : Int) (e : It) : Bool := decide ((kd = 3 ∧ e.2.1 < r) ∨ (kd = 4 ∧ d < e.2.2.1))
/-- the place of a new item, sought from the end -/
def pos (p : It → Bool) (l : List It) : Nat → Nat
  | 0 => 0
  | n + 1 => match l[n]? with
    | none => n + 1
    | some e => if p e = true then pos p l n else n + 1
def o_lay (σ : St) (c : Nat) (v : Int32) (r d : Int) : St :=
  s_i σ c ((x_i σ c).take (pos (kp (x_v σ 13 c) r d) (x_i σ c) (x_i σ c).length) ++ (v, r, d, x_n σ) :: (x_i σ c).drop (pos (kp (x_v σ 13 c) r d) (x_i σ c) (x_i σ c).length))
/-- a thread gets a value that stayed d -/
def o_obt (σ : St) (t c : Nat) (v : Int32) (d : Int) : St :=
  s_v (s_s (s_v (s_v σ 4 t 1) 5 t v) c (FP.dadd (x_s σ c) (bt d))) 25 c (x_v σ 25 c + 1)
def o_tf (σ : St) (t c : Nat) : St := match x_i σ c with
  | [] => σ
  | e :: l => s_i (o_obt σ t c e.1 (x_n σ - e.2.2.2)) c l
def rdy (σ : St) (c : Nat) : Bool := match x_i σ c with
  | [] => false
  | e :: _ => decide (x_v σ 13 c ≠ 4 ∨ e.2.2.1 ≤ x_n σ)
def o_fits (σ : St) (c : Nat) : Bool := decide (Int32.ofNat (x_i σ c).length < x_v σ 14 c)
/-- a step of serving -/
def o_step (σ : St) (c : Nat) : Option St :=
  match fw σ c 1, fw σ c 0 with
  | some t, g => if rdy σ c = true then some (o_free (o_tf σ t c) c t 1) else
      match g with
      | none => none
      | some g => if o_fits σ c = true then some (o_free (o_lay σ c (x_v σ 8 g) (x_e σ 9 g) (x_e σ 10 g)) c g 1) else
          if x_v σ 13 c = 2 then some (o_free (o_free (o_obt σ t c (x_v σ 8 g) 0) c t 1) c g 1) else none
  | none, some g => if o_fits σ c = true then some (o_free (o_lay σ c (x_v σ 8 g) (x_e σ 9 g) (x_e σ 10 g)) c g 1) else none
  | none, none => none
def o_serve : Nat → St → Nat → St
  | 0, σ, _ => σ
  | n + 1, σ, c => match o_step σ c with
    | none => σ
    | some σ' => o_serve n σ' c
def o_sv (σ : St) (c : Nat) : St := o_serve 6 σ c
def o_brk (σ : St) (c : Nat) : St := o_all (s_v σ 15 c 1) c 4
def o_leave (σ : St) (t : Nat) (w : Int32) : St := match x_p σ t with
  | none => σ
  | some c => o_sv (if x_v σ 13 c = 6 then o_brk (o_free σ c t w) c else o_free σ c t w) c
/-- a thread begins to wait -/
def o_in (σ : St) (t c : Nat) (r : Int32) (lim : Int) : St :=
  s_v (s_e (s_v (s_p (s_w σ c (x_w σ c ++ [t])) t (some c)) 7 t r) 11 t (if 0 < lim then x_n σ + lim else -8)) 3 t 0
def o_wait (σ : St) (t c : Nat) (r : Int32) (lim : Int) : Int32 × St :=
  if lim = 0 then (2, s_v σ 3 t 2) else (0, o_in σ t c r lim)
/-! what always holds -/
def KO (k rm : Int32) (li lw : Nat) : Prop :=
  (k = -1 ∧ li = 0 ∧ lw = 0) ∨ ∃ kn R : Nat, k = Int32.ofNat kn ∧ kn ≤ 6 ∧ rm = Int32.ofNat R ∧ R ≤ 16 ∧ (kn = 2 ∨ kn = 5 → R = 0) ∧ (kn = 6 → li = 0) ∧ li ≤ R
def IV (σ : St) (N : Int) : Prop :=
  (∀ t, t < 6 → (x_v σ 2 t = 0 ∨ x_v σ 2 t = 1) ∧ ∀ c, x_p σ t = some c → c < 8 ∧ t ∈ x_w σ c) ∧
  (∀ c, c < 8 → (x_w σ c).Nodup ∧ ∀ t, t ∈ x_w σ c → t < 6 ∧ x_p σ t = some c ∧ ((x_v σ 13 c = 5 ∨ x_v σ 13 c = 6) → x_v σ 7 t = 2) ∧ (¬ (x_v σ 13 c = 5 ∨ x_v σ 13 c = 6) → x_v σ 7 t = 0 ∨ x_v σ 7 t = 1)) ∧
  (∀ c, c < 8 → KO (x_v σ 13 c) (x_v σ 14 c) (x_i σ c).length (x_w σ c).length) ∧
  (∀ c, c < 8 → ∀ e, e ∈ x_i σ c → 0 ≤ e.2.2.2 ∧ e.2.2.2 ≤ x_n σ) ∧ (∀ c, c < 8 → FP.Core.dIsNaN (x_s σ c) = false) ∧ 0 ≤ x_n σ ∧ x_n σ ≤ N ∧ N ≤ 4104000
/-- a list of n different numbers below n has no more -/
theorem pigeon : ∀ (n : Nat) (l : List Nat), l.Nodup → (∀ t, t ∈ l → t < n) → l.length ≤ n
  | 0, l, _, h => by
    cases l with
    | nil => simp
    | cons a l => exact absurd (h a (by simp)) (by omega)
  | n + 1, l, hd, h => by
    have h2 := pigeon n (l.erase n) (hd.erase n) (fun t ht => by
      have hm := (List.Nodup.mem_erase_iff hd).mp ht
      have := h t hm.2
      have := hm.1
      omega)
    have h3 := List.length_erase_le (a := n) (l := l)
    by_cases hn : n ∈ l
    · rw [List.length_erase_of_mem hn] at h2
      omega
    · rw [List.erase_of_not_mem hn] at h2
      omega
theorem IV_len {σ : St} {N : Int} (h : IV σ N) {c : Nat} (hc : c < 8) : (x_w σ c).length ≤ 6 := pigeon 6 _ (h.2.1 c hc).1 (fun t ht => ((h.2.1 c hc).2 t ht).1)
theorem IV_it {σ : St} {N : Int} (h : IV σ N) {c : Nat} (hc : c < 8) : (x_i σ c).length ≤ 16 := by
  rcases h.2.2.1 c hc with h1 | ⟨kn, R, h1⟩ <;> omega
theorem fw_some {σ : St} {c : Nat} {r : Int32} {t : Nat} (h : fw σ c r = some t) : t ∈ x_w σ c ∧ x_v σ 7 t = r := by
  unfold fw at h
  exact ⟨List.mem_of_find?_eq_some h, by simpa using List.find?_some h⟩
theorem va_up_at {α : Type} (f : Nat → α) (k : Nat) (v : α) (j : Nat) : va_up f k v j = if j = k then v else f j := rfl
theorem IV_free {σ : St} {N : Int} (h : IV σ N) {c t : Nat} (hc : c < 8) (ht : t ∈ x_w σ c) (w : Int32) : IV (o_free σ c t w) N := by
  obtain ⟨h1, h2, h3, h4, h5, h6⟩ := h
  have hd := (h2 c hc).1
  have hp := ((h2 c hc).2 t ht).2.1
  refine ⟨fun u hu => ⟨?_, fun d hd1 => ?_⟩, fun d hd1 => ⟨?_, fun u hu => ?_⟩, fun d hd1 => ?_, ?_, ?_, ?_⟩
  · exact (h1 u hu).1
  · dsimp only [o_free, s_v, s_e, s_p, s_w, x_p, x_w] at hd1 ⊢
    rw [va_up_at] at hd1
    split at hd1
    · cases hd1
    · rename_i hne
      have := (h1 u hu).2 d hd1
      refine ⟨this.1, ?_⟩
      rw [va_up_at]
      split
      · rename_i hdc; subst hdc
        exact (List.Nodup.mem_erase_iff hd).mpr ⟨hne, this.2⟩
      · exact this.2
  · dsimp only [o_free, s_v, s_e, s_p, s_w, x_p, x_w]
    rw [va_up_at]
    split
    · exact hd.erase t
    · exact (h2 d hd1).1
  · dsimp only [o_free, s_v, s_e, s_p, s_w, x_p, x_w, x_v] at hu ⊢
    have hu2 : u ∈ x_w σ d ∧ u ≠ t := by
      rw [va_up_at] at hu
      split at hu
      · rename_i hdc; subst hdc
        have := (List.Nodup.mem_erase_iff hd).mp hu
        exact ⟨this.2, this.1⟩
      · refine ⟨hu, fun e => ?_⟩
        subst e
        have := ((h2 d hd1).2 u hu).2.1
        rw [hp] at this
        rename_i hne
        exact hne (Option.some.inj this).symm
    have := (h2 d hd1).2 u hu2.1
    refine ⟨this.1, ?_, this.2.2⟩
    rw [va_up_at, if_neg hu2.2]
    exact this.2.1
  · have := h3 d hd1
    dsimp only [o_free, s_v, s_e, s_p, s_w, x_p, x_w, x_v, x_i] at this ⊢
    rw [va_up_at]
    split
    · rename_i hdc; subst hdc
      unfold KO at this ⊢
      rcases this with ⟨a1, a2, a3⟩ | a
      · exact Or.inl ⟨a1, a2, by have := List.length_erase_le (a := t) (l := σ.2.2.2.2.2.1 d); omega⟩
      · exact Or.inr a
    · exact this
  · exact h4
  · exact h5
  · exact h6

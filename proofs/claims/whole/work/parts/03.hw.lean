/-! THE WORLD AS A MAP: M a is the cell at address a, none where the world has no cell. -/
abbrev hM : Type := Nat → Option va_E
/-- the heap holds the cells of M, apart, all of them in A -/
def hw (D : va_G) (cl : List vw_C) (A : Nat → Prop) (M : hM) (H : Heap) : Prop :=
  ∃ (L : List Nat) (f : Nat → va_E), (∀ a, M a = if a ∈ L then some (f a) else none) ∧ va_P D cl ([] ++ va_pl L f) H ∧ va_D A ([] ++ va_pl L f)
/-- what a method that has the world M, in a heap of sz cells, may change -/
def hp_A (M : hM) (sz : Nat) : Nat → Prop := fun q => M q ≠ none ∨ sz ≤ q
theorem hw_in {M : hM} {L : List Nat} {f : Nat → va_E} (hM0 : ∀ a, M a = if a ∈ L then some (f a) else none) {b : Nat} {e : va_E} (hb : M b = some e) : b ∈ L ∧ f b = e := by
  have h := hM0 b
  rw [hb] at h
  by_cases hL : b ∈ L
  · rw [if_pos hL] at h
    exact ⟨hL, (Option.some.inj h).symm⟩
  · rw [if_neg hL] at h
    cases h
theorem hw_one {D : va_G} {cl : List vw_C} {A : Nat → Prop} {M : hM} {H : Heap} (h : hw D cl A M H) {a : Nat} {e : va_E} (he : M a = some e) : va_P D cl [(a, e)] H := by
  obtain ⟨L, f, hM0, hP, hD⟩ := h
  obtain ⟨ha, hfa⟩ := hw_in hM0 he
  obtain ⟨k, hk⟩ := va_pl_get (X := []) (f := f) ha
  rw [hfa] at hk
  intro j q hj
  cases j with
  | zero =>
    have : q = (a, e) := by simpa using hj.symm
    rw [this]
    exact hP k _ hk
  | succ j => simp at hj
theorem hw_open {D : va_G} {cl : List vw_C} {A : Nat → Prop} {M : hM} {H : Heap} (h : hw D cl A M H) {a : Nat} {e : va_E} (he : M a = some e) :
    ∃ (ws : va_W) (q0 : Nat), ws[q0]? = some (a, e) ∧ va_P D cl ws H ∧ va_D A ws ∧
      (∀ (e' : va_E) (H1 : Heap), va_P D cl (ws.set q0 (a, e')) H1 → va_D A (ws.set q0 (a, e')) → hw D cl A (va_up M a (some e')) H1) ∧ (∀ (b : Nat) (e2 : va_E), M b = some e2 → ∃ q1 : Nat, ws[q1]? = some (b, e2)) := by
  obtain ⟨L, f, hM0, hP, hD⟩ := h
  obtain ⟨ha, hfa⟩ := hw_in hM0 he
  obtain ⟨k, hk⟩ := va_pl_get (X := []) (f := f) ha
  refine ⟨[] ++ va_pl L f, k, by rw [hk, hfa], hP, hD, fun e' H1 h1 h2 => ?_, fun b e2 hb => ?_⟩
  · rw [va_pl_set hD ha hk] at h1 h2
    refine ⟨L, va_up f a e', fun b => ?_, h1, h2⟩
    by_cases hb : b = a
    · subst hb
      rw [va_up_self, va_up_self, if_pos ha]
    · rw [va_up_ne _ _ hb, va_up_ne _ _ hb]
      exact hM0 b
  · obtain ⟨hb1, hb2⟩ := hw_in hM0 hb
    obtain ⟨j, hj⟩ := va_pl_get (X := []) (f := f) hb1
    exact ⟨j, by rw [hj, hb2]⟩
theorem hw_make {D : va_G} {cl : List vw_C} {A : Nat → Prop} {M : hM} {H : Heap} (h : hw D cl A M H) :
    ∃ ws : va_W, va_P D cl ws H ∧ va_D A ws ∧ ∀ (q : Nat) (e : va_E) (H1 : Heap), va_P D cl (ws ++ [(q, e)]) H1 → va_D A (ws ++ [(q, e)]) → M q = none ∧ hw D cl A (va_up M q (some e)) H1 := by
  obtain ⟨L, f, hM0, hP, hD⟩ := h
  refine ⟨[] ++ va_pl L f, hP, hD, fun q e H1 h1 h2 => ?_⟩
  have hq : q ∉ L := by
    intro hL
    obtain ⟨k, hk⟩ := va_pl_get (X := []) (f := f) hL
    have hkl := (List.getElem?_eq_some_iff.mp hk).1
    have e1 : ([] ++ va_pl L f ++ [(q, e)])[k]? = some (q, f q) := by rw [List.getElem?_append_left hkl]; exact hk
    have e2 : ([] ++ va_pl L f ++ [(q, e)])[([] ++ va_pl L f).length]? = some (q, e) := by simp
    have := h2.1 _ _ _ _ e1 e2 rfl
    omega
  have hn : M q = none := by rw [hM0 q, if_neg hq]
  refine ⟨hn, L ++ [q], va_up f q e, fun b => ?_, ?_, ?_⟩
  · by_cases hb : b = q
    · subst hb
      rw [va_up_self, va_up_self, if_pos (by simp)]
    · rw [va_up_ne _ _ hb, va_up_ne _ _ hb, hM0 b]
      by_cases hL : b ∈ L
      · rw [if_pos hL, if_pos (List.mem_append_left _ hL)]
      · rw [if_neg hL, if_neg (by simp [hL, hb])]
  · have := va_pl_push (f := f) (e := e) hq
    show va_P D cl (va_pl (L ++ [q]) (va_up f q e)) H1
    rw [← this]
    exact h1
  · have := va_pl_push (f := f) (e := e) hq
    show va_D A (va_pl (L ++ [q]) (va_up f q e))
    rw [← this]
    exact h2
theorem hw.weaken {D : va_G} {cl : List vw_C} {A B : Nat → Prop} {M : hM} {H : Heap} (h : hw D cl A M H) (hAB : ∀ q, M q ≠ none → A q → B q) : hw D cl B M H := by
  obtain ⟨L, f, hM0, hP, hD⟩ := h
  refine ⟨L, f, hM0, hP, hD.1, fun k q hk => hAB q.1 ?_ (hD.2 k q hk)⟩
  obtain ⟨a, ha, rfl⟩ := List.mem_map.mp (List.mem_of_getElem? (show (va_pl L f)[k]? = some q from hk))
  rw [hM0 a, if_pos ha]
  exact fun z => by cases z
theorem hw.dom {D : va_G} {cl : List vw_C} {A : Nat → Prop} {M : hM} {H : Heap} (h : hw D cl A M H) {q : Nat} (hq : M q ≠ none) : A q ∧ q < H.size := by
  cases he : M q with
  | none => exact absurd he hq
  | some e =>
    obtain ⟨ws, q0, h1, h2, h3, -⟩ := hw_open h he
    exact ⟨h3.2 q0 _ h1, (h2 q0 _ h1).lt⟩
/-- the world as its own method has it -/
theorem hw.self {D : va_G} {cl : List vw_C} {A : Nat → Prop} {M : hM} {H : Heap} (h : hw D cl A M H) (sz : Nat) : hw D cl (hp_A M sz) M H := h.weaken fun _ hq _ => Or.inl hq
theorem hw.free {D : va_G} {cl : List vw_C} {A : Nat → Prop} {M : hM} {H H0 : Heap} {locs : List Loc} (h : hw D cl A M H) (hS : va_S A H0 H locs) (hA : ∀ q, H0.size ≤ q → A q) : ∀ q, hp_A M H.size q → A q := by
  intro q hq
  rcases hq with hq | hq
  · exact (h.dom hq).1
  · exact hA q (Nat.le_trans hS.1 hq)

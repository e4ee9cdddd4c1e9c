/-! THE CALLS, on the abstract state: what is thrown (0: nothing), the answer, the state after it. -/
abbrev Rs : Type := Int32 × Int32 × St
abbrev bT (T : Int32) : Prop := T < 0 ∨ ¬ T < 6
abbrev bC (C : Int32) : Prop := C < 0 ∨ ¬ C < 8
abbrev bL (L : Int32) : Prop := L.toInt < -8 ∨ 8000 < L.toInt
def o_ck (σ : St) (t c : Nat) (lo hi : Int32) : Int32 := if x_v σ 13 c < 0 then 2 else if x_p σ t ≠ none then 3 else if x_v σ 13 c < lo ∨ hi < x_v σ 13 c then 4 else 0
def o_fl (σ : St) (t : Nat) : St := s_v (s_v σ 2 t 0) 3 t 3
def g_give (σ : St) (t c : Nat) (v : Int32) (x l : Int) : Rs :=
  if o_ck σ t c 0 4 ≠ 0 then (o_ck σ t c 0 4, 0, σ) else if x_v σ 2 t ≠ 0 then (0, 3, o_fl σ t) else
  if (fw σ c 0).isSome = true ∨ (if x_v σ 13 c = 2 then (fw σ c 1).isSome else o_fits σ c) = false then
    (0, o_wait (s_e (s_e (s_v σ 8 t v) 9 t x) 10 t (x_n σ + if x < 0 then 0 else x)) t c 0 l)
  else if x_v σ 13 c = 2 then
    match fw σ c 1 with
    | none => (0, 1, σ)
    | some k => (0, 1, s_v (o_sv (o_free (o_obt σ k c v 0) c k 1) c) 3 t 1)
  else (0, 1, s_v (o_sv (o_lay σ c v x (x_n σ + if x < 0 then 0 else x)) c) 3 t 1)
def g_take (σ : St) (t c : Nat) (l : Int) : Rs :=
  if o_ck σ t c 0 4 ≠ 0 then (o_ck σ t c 0 4, 0, σ) else if x_v σ 2 t ≠ 0 then (0, 3, o_fl σ t) else
  if (fw σ c 1).isSome = true ∨ (if x_v σ 13 c = 2 then (fw σ c 0).isSome else rdy σ c) = false then
    (0, o_wait σ t c 1 l)
  else if x_v σ 13 c = 2 then
    match fw σ c 0 with
    | none => (0, 1, σ)
    | some g => (0, 1, s_v (o_sv (o_free (o_obt σ t c (x_v σ 8 g) 0) c g 1) c) 3 t 1)
  else (0, 1, s_v (o_sv (o_tf σ t c) c) 3 t 1)
def g_swap (σ : St) (t c : Nat) (v : Int32) (l : Int) : Rs :=
  if o_ck σ t c 5 5 ≠ 0 then (o_ck σ t c 5 5, 0, σ) else if x_v σ 2 t ≠ 0 then (0, 3, o_fl σ t) else
  match x_w σ c with
  | [] => (0, o_wait (s_v σ 8 t v) t c 2 l)
  | o :: _ => (0, 1, s_v (o_free (s_v (s_v (s_v (s_v σ 4 t 1) 5 t (x_v σ 8 o)) 4 o 1) 5 o v) c o 1) 3 t 1)
def g_arrive (σ : St) (t c : Nat) (l : Int) : Rs :=
  if o_ck σ t c 6 6 ≠ 0 then (o_ck σ t c 6 6, 0, σ) else if x_v σ 15 c ≠ 0 then (5, 0, σ) else if x_v σ 2 t ≠ 0 then (0, 3, o_brk (o_fl σ t) c) else
  if Int32.ofNat (x_w σ c).length = x_v σ 14 c - 1 then (0, 1, s_v (s_v (o_all σ c 1) 16 c (x_v σ 16 c + 1)) 3 t 1)
  else if l = 0 then (0, 2, o_brk (s_v (s_v (s_v σ 4 t 1) 5 t (Int32.ofNat (x_w σ c).length)) 3 t 2) c)
  else (0, 0, o_in (s_v (s_v σ 4 t 1) 5 t (Int32.ofNat (x_w σ c).length)) t c 2 l)
def o_give (σ : St) (T C V X L : Int32) : Rs := if bT T ∨ bC C ∨ X.toInt < -8000 ∨ 8000 < X.toInt ∨ bL L then (1, 0, σ) else g_give σ T.toNatClampNeg C.toNatClampNeg V X.toInt L.toInt
def o_take (σ : St) (T C L : Int32) : Rs := if bT T ∨ bC C ∨ bL L then (1, 0, σ) else g_take σ T.toNatClampNeg C.toNatClampNeg L.toInt
def o_swap (σ : St) (T C V L : Int32) : Rs := if bT T ∨ bC C ∨ bL L then (1, 0, σ) else g_swap σ T.toNatClampNeg C.toNatClampNeg V L.toInt
def o_arrive (σ : St) (T C L : Int32) : Rs := if bT T ∨ bC C ∨ bL L then (1, 0, σ) else g_arrive σ T.toNatClampNeg C.toNatClampNeg L.toInt
def o_reset (σ : St) (C : Int32) : Rs := if bC C then (1, 0, σ) else if x_v σ 13 C.toNatClampNeg < 0 then (2, 0, σ) else if x_v σ 13 C.toNatClampNeg ≠ 6 then (3, 0, σ) else
  (0, Int32.ofNat (x_w σ C.toNatClampNeg).length, s_v (o_all σ C.toNatClampNeg 4) 15 C.toNatClampNeg 0)
def o_ist (σ : St) (t : Nat) : St := if x_p σ t = none then s_v σ 2 t 1 else o_leave σ t 3
def o_intr (σ : St) (T : Int32) : Rs := if bT T then (1, 0, σ) else (0, x_v (o_ist σ T.toNatClampNeg) 3 T.toNatClampNeg, o_ist σ T.toNatClampNeg)
def o_got (σ : St) (T : Int32) : Rs := if bT T then (1, 0, σ) else if x_v σ 4 T.toNatClampNeg = 0 then (2, 0, σ) else (0, x_v σ 5 T.toNatClampNeg, σ)
def o_thread (σ : St) (T W : Int32) : Rs := if bT T ∨ W < 0 ∨ ¬ W < 4 then (1, 0, σ) else
  (0, if W = 0 then ob (x_p σ T.toNatClampNeg) else if W = 1 then x_v σ 3 T.toNatClampNeg else if W = 2 then (if x_v σ 2 T.toNatClampNeg = 0 then 0 else 1) else oi (x_p σ T.toNatClampNeg), σ)
def o_channel (σ : St) (C W : Int32) : Rs := if bC C ∨ W < 0 ∨ ¬ W < 11 then (1, 0, σ) else if x_v σ 13 C.toNatClampNeg < 0 then (2, 0, σ) else
  (0, if W = 0 then x_v σ 13 C.toNatClampNeg else if W = 1 then Int32.ofNat (x_i σ C.toNatClampNeg).length else if W = 2 then Int32.ofNat (x_w σ C.toNatClampNeg).length else
    if W = 3 then (if x_v σ 13 C.toNatClampNeg = 6 then (if x_v σ 15 C.toNatClampNeg = 0 then 1 else 0) else bi (rdy σ C.toNatClampNeg)) else if W = 4 then x_v σ 16 C.toNatClampNeg else
      oi ((x_w σ C.toNatClampNeg)[W.toNatClampNeg - 5]?), σ)
def o_item (σ : St) (C I : Int32) : Rs := if bC C then (1, 0, σ) else if x_v σ 13 C.toNatClampNeg < 0 then (2, 0, σ) else
  match (if I < 0 then none else (x_i σ C.toNatClampNeg)[I.toNatClampNeg]?) with
  | none => (3, 0, σ)
  | some e => (0, e.1, σ)
/-- stay: what is thrown, and the quotient -/
def o_stay (σ : St) (C : Int32) : Int32 × UInt64 := if bC C then (1, 0) else if x_v σ 13 C.toNatClampNeg < 0 then (2, 0) else if x_v σ 25 C.toNatClampNeg = 0 then (3, 0) else
  (0, FP.ddiv (x_s σ C.toNatClampNeg) (FP.i2d (x_v σ 25 C.toNatClampNeg)))
/-- how many channels there are -/
def cn (f : Nat → Int32) : Nat → Int32
  | 0 => 0
  | n + 1 => cn f n + (if f n < 0 then 0 else 1)
def o_rm (K A : Int32) : Int32 := if K = 0 ∨ K = 6 then A else if K = 1 then 16 else if K = 3 ∨ K = 4 then 6 else 0
abbrev bM (K A : Int32) : Prop := K < 0 ∨ ¬ K < 7 ∨ (if K = 0 then A - 1 < 0 ∨ ¬ A - 1 < 4 else if K = 6 then A - 2 < 0 ∨ ¬ A - 2 < 4 else A ≠ 0)
def o_new (σ : St) (c : Nat) (K A : Int32) : St := s_v (s_v σ 13 c K) 14 c (o_rm K A)
def o_make (σ : St) (C K A : Int32) : Rs := if bC C ∨ bM K A then (1, 0, σ) else if ¬ x_v σ 13 C.toNatClampNeg < 0 then (2, 0, σ) else
  (0, cn (x_v (o_new σ C.toNatClampNeg K A) 13) 8, o_new σ C.toNatClampNeg K A)
theorem nx1 {p : Prop} (e : (1 : Int32) = 0) : p := absurd e (by decide)
theorem nx2 {p : Prop} (e : (2 : Int32) = 0) : p := absurd e (by decide)
theorem nx3 {p : Prop} (e : (3 : Int32) = 0) : p := absurd e (by decide)
theorem nx4 {p : Prop} (e : (4 : Int32) = 0) : p := absurd e (by decide)
theorem nx5 {p : Prop} (e : (5 : Int32) = 0) : p := absurd e (by decide)
theorem i_T {T : Int32} (h : ¬ bT T) : ∃ t : Nat, t < 6 ∧ T = Int32.ofNat t ∧ T.toNatClampNeg = t := by
  have h0 : ¬ T < 0 := fun e => h (Or.inl e)
  have h1 : T < 6 := Classical.byContradiction fun e => h (Or.inr e)
  obtain ⟨k, hk, rfl⟩ := i_rng (n := 6) (by decide) h0 h1
  exact ⟨k, hk, rfl, i_of (by omega)⟩
theorem i_C {C : Int32} (h : ¬ bC C) : ∃ c : Nat, c < 8 ∧ C = Int32.ofNat c ∧ C.toNatClampNeg = c := by
  have h0 : ¬ C < 0 := fun e => h (Or.inl e)
  have h1 : C < 8 := Classical.byContradiction fun e => h (Or.inr e)
  obtain ⟨k, hk, rfl⟩ := i_rng (n := 8) (by decide) h0 h1
  exact ⟨k, hk, rfl, i_of (by omega)⟩
section
variable {G ca ma : Nat → Nat} {mo : Nat} {fl : Int32} {σ : St} {N : Int}
theorem rc_r {M : hM} {K : Prop} (h : RR ca ma mo M σ fl) (hK : K) : rC M mo 5 K := by
  obtain ⟨_, _, _, h, _⟩ := h
  exact rc_m h hK
theorem pf_r {M : hM} {x : Int32} {K : hM → Prop} (h : RR ca ma mo M σ fl) (hK : ∀ M', RR ca ma mo M' σ x → K M') : pF M mo 5 0 (.int x) K := by
  obtain ⟨_, _, _, h, hs⟩ := h
  exact pf_m h fun M' h' => hK M' ⟨_, _, _, h', hs⟩
theorem gi_r {M : hM} {K : Int32 → Prop} (h : RR ca ma mo M σ fl) (hK : K fl) : gI M mo 5 0 K := by
  obtain ⟨_, _, _, h, _⟩ := h
  exact gi_m h hK
theorem m_fail {M : hM} {x : Int32} {post : Int32 → hM → Prop} (h : RR ca ma mo M σ fl) (hp : ∀ M', RR ca ma mo M' σ x → post 0 M') : rC M mo 5 (wp_Mo_fail G ca post M mo x) := rc_r h (pf_r h hp)
theorem m_out {M : hM} {x n : Int32} {post : Int32 → hM → Prop} (h : RR ca ma mo M σ fl) (hb : (x < 0 ∨ ¬ x < n) → post 1 M) (hg : ¬ (x < 0 ∨ ¬ x < n) → post 0 M) : rC M mo 5 (wp_Mo_out G ca post M mo x n) := by
  refine rc_r h ⟨fun h0 => ⟨Or.inr rfl, hb (Or.inl h0)⟩, fun h0 => ⟨fun h1 => ⟨Or.inl rfl, hg (fun e => e.elim h0 (fun g => g h1))⟩, fun h1 => ⟨Or.inr rfl, hb (Or.inr h1)⟩⟩⟩
theorem m_badLimit {M : hM} {lx : UInt64} {L : Int32} {post : Int32 → hM → Prop} (h : RR ca ma mo M σ fl) (hl : q8 lx L.toInt) (hb : bL L → post 1 M) (hg : ¬ bL L → post 0 M) : rC M mo 5 (wp_Mo_badLimit G ca post M mo lx) := by
  refine rc_r h ⟨fun h0 => ⟨Or.inr rfl, hb (Or.inl ?_)⟩, fun h0 => ⟨fun h1 => ⟨Or.inl rfl, hg ?_⟩, fun h1 => ⟨Or.inr rfl, hb (Or.inr ?_)⟩⟩⟩
  · rw [e_lt hl.1 e8_m1] at h0; exact h0
  · rw [e_lt hl.1 e8_m1] at h0
    rw [e_le hl.1 e8_1000] at h1
    rintro (g | g) <;> omega
  · rw [e_le hl.1 e8_1000] at h1; omega
/-- an answer without a change -/
theorem m_got {M : hM} (h : RR ca ma mo M σ fl) {T : Int32} {post : Int32 → hM → Prop} (hp : ∀ b M', RR ca ma mo M' (o_got σ T).2.2 (o_got σ T).1 → ((o_got σ T).1 = 0 → b = (o_got σ T).2.1) → post b M') : wp_Mo_got G ca post M mo T := by
  refine pf_r h fun M0 h0 => m_out h0 (fun hb => ⟨fun e => absurd e (by decide), fun _ => m_fail h0 fun M' h' => ?_⟩) fun hg => ⟨fun _ => ?_, fun e => absurd rfl e⟩
  · unfold o_got at hp; rw [if_pos hb] at hp
    exact hp 0 M' h' (fun e => nx1 e)
  · obtain ⟨t, ht, rfl, e⟩ := i_T hg
    unfold o_got at hp; rw [if_neg hg, e] at hp
    have h0c := h0
    obtain ⟨fI, fD, tx, h0, hs⟩ := h0
    have s4 := hs.1 4 (by decide)
    have s5 := hs.1 5 (by decide)
    refine gr_m h0 rfl (nn_s (ai_m h0 rfl rfl rfl rfl ht ?_))
    rw [s4]
    refine ⟨fun hz => m_fail h0c fun M' h' => ?_, fun hz => gr_m h0 rfl (nn_s (ai_m h0 rfl rfl rfl rfl ht ?_))⟩
    · rw [if_pos hz] at hp; exact hp 0 M' h' (fun e => nx2 e)
    · rw [if_neg hz] at hp; rw [s5]; exact hp _ M0 h0c (fun _ => rfl)
theorem m_thread {M : hM} (h : RR ca ma mo M σ fl) {T W : Int32} {post : Int32 → hM → Prop} (hp : ∀ b M', RR ca ma mo M' (o_thread σ T W).2.2 (o_thread σ T W).1 → ((o_thread σ T W).1 = 0 → b = (o_thread σ T W).2.1) → post b M') : wp_Mo_thread G ca post M mo T W := by
  have hfail : (bT T ∨ W < 0 ∨ ¬ W < 4) → ∀ M0, RR ca ma mo M0 σ 0 → wp_Mo_thread_24 G ca post M0 mo := fun hb M0 h0 => by
    unfold o_thread at hp; rw [if_pos hb] at hp
    exact m_fail h0 fun M' h' => hp 0 M' h' (fun e => nx1 e)
  refine pf_r h fun M0 h0 => m_out h0 (fun hb => ⟨fun _ => hfail (Or.inl hb) M0 h0, fun e => absurd e (by decide)⟩) fun hg => ⟨fun e => absurd rfl e, fun _ => ?_⟩
  refine m_out h0 (fun hb => ⟨fun e => absurd e (by decide), fun _ => hfail (Or.inr hb) M0 h0⟩) fun hg2 => ⟨fun _ => ?_, fun e => absurd rfl e⟩
  have hn : ¬ (bT T ∨ W < 0 ∨ ¬ W < 4) := fun e => e.elim hg hg2
  obtain ⟨t, ht, rfl, e⟩ := i_T hg
  unfold o_thread at hp; rw [if_neg hn, e] at hp
  dsimp only at hp
  have h0c := h0
  obtain ⟨fI, fD, tx, h0, hs⟩ := h0
  have s2 := hs.1 2 (by decide)
  have s3 := hs.1 3 (by decide)
  refine ⟨fun w0 => ⟨fun w1 => ⟨fun w2 => gr_m h0 rfl (nn_s (ai_m h0 rfl rfl rfl rfl ht ?_)), fun w2 => gr_m h0 rfl (nn_s (ai_m h0 rfl rfl rfl rfl ht ?_))⟩, fun w1 => gr_m h0 rfl (nn_s (ai_m h0 rfl rfl rfl rfl ht ?_))⟩, fun w0 => gr_m h0 rfl (nn_s (ai_m h0 rfl rfl rfl rfl ht ?_))⟩
  · rw [(hs.2.2.1 t ht).1]
    exact hp _ M0 h0c (fun _ => by rw [if_neg w0, if_neg w1, if_neg w2])
  · rw [s2]
    refine ⟨fun z => hp _ M0 h0c (fun _ => by rw [if_neg w0, if_neg w1, if_pos w2, if_pos z]), fun z => hp _ M0 h0c (fun _ => by rw [if_neg w0, if_neg w1, if_pos w2, if_neg z])⟩
  · rw [s3]
    exact hp _ M0 h0c (fun _ => by rw [if_neg w0, if_pos w1])
  · rw [(hs.2.2.1 t ht).2]
    cases hpl : x_p σ t with
    | none =>
      rw [hpl] at hp
      exact ⟨fun _ => hp _ M0 h0c (fun _ => by rw [if_pos w0]; rfl), fun e => absurd rfl e⟩
    | some c =>
      rw [hpl] at hp
      exact ⟨fun e => nx1 e, fun _ => hp _ M0 h0c (fun _ => by rw [if_pos w0]; rfl)⟩
theorem m_item {M : hM} (h : RR ca ma mo M σ fl) (hi : IV σ N) {C I : Int32} {post : Int32 → hM → Prop} (hp : ∀ b M', RR ca ma mo M' (o_item σ C I).2.2 (o_item σ C I).1 → ((o_item σ C I).1 = 0 → b = (o_item σ C I).2.1) → post b M') : wp_Mo_item G ca post M mo C I := by
  refine pf_r h fun M0 h0 => m_out h0 (fun hb => ⟨fun e => absurd e (by decide), fun _ => m_fail h0 fun M' h' => ?_⟩) fun hg => ⟨fun _ => ?_, fun e => absurd rfl e⟩
  · unfold o_item at hp; rw [if_pos hb] at hp
    exact hp 0 M' h' (fun e => nx1 e)
  · obtain ⟨c, hc, rfl, e⟩ := i_C hg
    unfold o_item at hp; rw [if_neg hg, e] at hp
    have h0c := h0
    obtain ⟨fI, fD, tx, h0, hs⟩ := h0
    have s13 := hs.1 13 (by decide)
    have s5 := hs.2.2.2.2.1 c hc
    have hl := IV_it hi hc
    refine gr_m h0 rfl (nn_s (ai_m h0 rfl rfl rfl rfl hc ?_))
    rw [s13]
    refine ⟨fun hk => gr_m h0 rfl (nn_s (ai_m h0 rfl rfl rfl rfl hc ?_)), fun hk => m_fail h0c fun M' h' => ?_⟩
    · rw [s5.1]
      rw [if_neg (Int32.not_lt.mpr hk)] at hp
      refine m_out h0c (fun hb => ⟨fun e => absurd e (by decide), fun _ => m_fail h0c fun M' h' => ?_⟩) fun hg2 => ⟨fun _ => ?_, fun e => absurd rfl e⟩
      · have e3 : (if I < 0 then none else (x_i σ c)[I.toNatClampNeg]?) = none := by
          split
          · rfl
          · rename_i hI
            rcases hb with hb | hb
            · exact absurd hb hI
            · obtain ⟨n, hn, rfl⟩ := i_nat hI
              rw [i_lt hn (by omega)] at hb
              rw [i_of hn]
              exact List.getElem?_eq_none (by omega)
        rw [e3] at hp
        exact hp 0 M' h' (fun e => nx3 e)
      · have hI : ¬ I < 0 := fun e => hg2 (Or.inl e)
        have hI2 : I < Int32.ofNat (x_i σ c).length := Classical.byContradiction fun e => hg2 (Or.inr e)
        obtain ⟨n, hn, rfl⟩ := i_rng (by omega) hI hI2
        rw [i_of (by omega), if_neg hI, List.getElem?_eq_getElem hn] at hp
        dsimp only at hp
        rw [i_xvi, i_add]
        refine gr_m h0 rfl (nn_s (ai_m h0 rfl rfl rfl rfl (by dsimp [mN]; omega) ?_))
        rw [(s5.2 n _ (List.getElem?_eq_getElem hn)).1]
        exact hp _ M0 h0c (fun _ => rfl)
    · rw [if_pos (Int32.not_le.mp hk)] at hp
      exact hp 0 M' h' (fun e => nx2 e)
theorem m_stay {M : hM} (h : RR ca ma mo M σ fl) (hi : IV σ N) {C : Int32} {post : UInt64 → hM → Prop} (hp : ∀ b M', RR ca ma mo M' σ (o_stay σ C).1 → ((o_stay σ C).1 = 0 → b = (o_stay σ C).2) → post b M') : wp_Mo_stay G ca post M mo C := by
  refine pf_r h fun M0 h0 => m_out h0 (fun hb => ⟨fun e => absurd e (by decide), fun _ => m_fail h0 fun M' h' => ?_⟩) fun hg => ⟨fun _ => ?_, fun e => absurd rfl e⟩
  · unfold o_stay at hp; rw [if_pos hb] at hp
    exact hp _ M' h' (fun e => absurd e (by decide))
  · obtain ⟨c, hc, rfl, e⟩ := i_C hg
    unfold o_stay at hp; rw [if_neg hg, e] at hp
    have h0c := h0
    obtain ⟨fI, fD, tx, h0, hs⟩ := h0
    have s13 := hs.1 13 (by decide)
    have s25 := hs.1 25 (by decide)
    have s24 := hs.2.2.2.2.2.1
    refine gr_m h0 rfl (nn_s (ai_m h0 rfl rfl rfl rfl hc ?_))
    rw [s13]
    refine ⟨fun hk => gr_m h0 rfl (nn_s (ai_m h0 rfl rfl rfl rfl hc ?_)), fun hk => m_fail h0c fun M' h' => ?_⟩
    · rw [s25]
      rw [if_neg (Int32.not_lt.mpr hk)] at hp
      refine ⟨fun hz => gr_m h0 rfl (nn_s (ad_m h0 rfl rfl rfl hc (gr_m h0 rfl (nn_s (ai_m h0 rfl rfl rfl rfl hc ?_))))), fun hz => m_fail h0c fun M' h' => ?_⟩
      · rw [s24, s25]
        rw [if_neg hz] at hp
        exact ⟨nan_div (hi.2.2.2.2.1 c hc) hz, hp _ M0 h0c (fun _ => rfl)⟩
      · rw [if_pos hz] at hp; exact hp _ M' h' (fun e => absurd e (by decide))
    · rw [if_pos (Int32.not_le.mp hk)] at hp
      exact hp _ M' h' (fun e => absurd e (by decide))
theorem m_time {M : hM} (h : RR ca ma mo M σ fl) {post : UInt64 → hM → Prop} (hp : ∀ b M', RR ca ma mo M' σ 0 → q8 b (x_n σ) → post b M') : wp_Mo_time G ca post M mo := by
  refine pf_r h fun M0 h0 => ?_
  have h0c := h0
  obtain ⟨fI, fD, tx, h0, hs⟩ := h0
  exact gd_m h0 (hp _ M0 h0c hs.2.2.2.2.2.2)
end

/-! THE LAW'S OWN FRAME: a world cut in two, the six classes that are thrown. -/
def uni (M1 M2 : hM) : hM := fun q => match M1 q with
  | some e => some e
  | none => M2 q
def dis (M1 M2 : hM) : Prop := ∀ q, M1 q = none ∨ M2 q = none
/-- a call is given one part of the world -/
def spl (M : hM) (P : hM → hM → Prop) : Prop := ∃ M1 M2 : hM, dis M1 M2 ∧ M = uni M1 M2 ∧ P M1 M2
theorem pl_D {A : Nat → Prop} {L : List Nat} {f : Nat → va_E} : va_D A ([] ++ va_pl L f) ↔ L.Nodup ∧ ∀ a ∈ L, A a := by
  show va_D A (va_pl L f) ↔ _
  constructor
  · intro h
    refine ⟨List.pairwise_iff_getElem.mpr fun i j hi hj hij e => ?_, fun a ha => ?_⟩
    · have := h.1 i j (L[i], f L[i]) (L[j], f L[j]) (by simp [va_pl, hi]) (by simp [va_pl, hj]) e
      omega
    · obtain ⟨i, hi⟩ := List.getElem?_of_mem ha
      exact h.2 i (a, f a) (by simp [va_pl, hi])
  · intro h
    refine ⟨fun i j p q hp hq e => ?_, fun k q hk => ?_⟩
    · simp only [va_pl, List.getElem?_map, Option.map_eq_some_iff] at hp hq
      obtain ⟨a, ha, rfl⟩ := hp
      obtain ⟨b, hb, rfl⟩ := hq
      obtain ⟨hi, ei⟩ := List.getElem?_eq_some_iff.mp ha
      obtain ⟨hj, ej⟩ := List.getElem?_eq_some_iff.mp hb
      have e' : a = b := e
      rcases Nat.lt_trichotomy i j with g | g | g
      · exact absurd (ei.trans (e'.trans ej.symm)) (List.pairwise_iff_getElem.mp h.1 i j hi hj g)
      · exact g
      · exact absurd (ej.trans (e'.symm.trans ei.symm)) (List.pairwise_iff_getElem.mp h.1 j i hj hi g)
    · simp only [va_pl, List.getElem?_map, Option.map_eq_some_iff] at hk
      obtain ⟨a, ha, rfl⟩ := hk
      exact h.2 a (List.mem_of_getElem? ha)
theorem hw_iff {D : va_G} {cl : List vw_C} {A : Nat → Prop} {M : hM} {H : Heap} : hw D cl A M H ↔ ∃ L : List Nat, L.Nodup ∧ (∀ a, M a ≠ none → a ∈ L) ∧ (∀ a ∈ L, M a ≠ none) ∧ ∀ a e, M a = some e → va_at D cl (a, e) H ∧ A a := by
  constructor
  · intro h
    obtain ⟨L, f, hM0, hP, hD⟩ := id h
    refine ⟨L, (pl_D.mp hD).1, fun a ha => ?_, fun a ha => ?_, fun a e he => ⟨hw_one h he 0 _ rfl, ((pl_D.mp hD).2 a (hw_in hM0 he).1)⟩⟩
    · cases he : M a with
      | none => exact absurd he ha
      | some e => exact (hw_in hM0 he).1
    · rw [hM0 a, if_pos ha]
      exact fun z => by cases z
  · rintro ⟨L, h1, h2, h3, h4⟩
    refine ⟨L, fun a => (M a).getD (.inr (0, [])), fun a => ?_, fun k q hk => ?_, pl_D.mpr ⟨h1, fun a ha => ?_⟩⟩
    · by_cases ha : a ∈ L
      · rw [if_pos ha]
        cases he : M a with
        | none => exact absurd he (h3 a ha)
        | some e =>
          show some e = some ((M a).getD (.inr (0, [])))
          rw [he]
          rfl
      · rw [if_neg ha]
        cases he : M a with
        | none => rfl
        | some e => exact absurd (h2 a (by rw [he]; exact fun z => by cases z)) ha
    · obtain ⟨a, ha, rfl⟩ := List.mem_map.mp (List.mem_of_getElem? (show (va_pl L fun a => (M a).getD (.inr (0, [])))[k]? = some q from hk))
      cases he : M a with
      | none => exact absurd he (h3 a ha)
      | some e =>
        show va_at D cl (a, (M a).getD (.inr (0, []))) H
        rw [he]
        exact (h4 a e he).1
    · cases he : M a with
      | none => exact absurd he (h3 a ha)
      | some e => exact (h4 a e he).2
theorem uni_l {M1 M2 : hM} {q : Nat} {e : va_E} (h : M1 q = some e) : uni M1 M2 q = some e := by simp [uni, h]
theorem uni_r {M1 M2 : hM} {q : Nat} (h : M1 q = none) : uni M1 M2 q = M2 q := by simp [uni, h]
theorem hw_left {D : va_G} {cl : List vw_C} {A : Nat → Prop} {M1 M2 : hM} {H : Heap} (h : hw D cl A (uni M1 M2) H) : hw D cl A M1 H := by
  obtain ⟨L, h1, h2, h3, h4⟩ := hw_iff.mp h
  refine hw_iff.mpr ⟨L.filter (fun a => (M1 a).isSome), h1.filter _, fun a ha => ?_, fun a ha => ?_, fun a e he => h4 a e (uni_l he)⟩
  · cases he : M1 a with
    | none => exact absurd he ha
    | some e => exact List.mem_filter.mpr ⟨h2 a (by rw [uni_l he]; exact fun z => by cases z), by rw [he]; rfl⟩
  · have := (List.mem_filter.mp ha).2
    intro z
    rw [z] at this
    cases this
theorem hw_join {D : va_G} {A : Nat → Prop} {M1 M2 M1' : hM} {H H1 : Heap} {t : State} (hd : dis M1 M2) (h : hw D wCl A (uni M1 M2) H) (hF : ∀ q, hp_A M1 H.size q → A q) (hk : ∀ q : Nat, q < H.size → ¬ hp_A M1 H.size q → H1[q]? = H[q]?) (ht : t.heap = H1) (hB1 : hw D wCl (hp_A M1 H.size) M1' t.heap) : dis M1' M2 ∧ hw D wCl A (uni M1' M2) H1 := by
  rw [ht] at hB1
  obtain ⟨L, h1, h2, h3, h4⟩ := hw_iff.mp h
  obtain ⟨L', g1, g2, g3, g4⟩ := hw_iff.mp hB1
  have old : ∀ q e, M2 q = some e → M1 q = none ∧ q < H.size ∧ ¬ hp_A M1 H.size q := by
    intro q e he
    have n1 : M1 q = none := by
      rcases hd q with z | z
      · exact z
      · rw [he] at z; cases z
    have hl := (h4 q e (by rw [uni_r n1]; exact he)).1.lt
    exact ⟨n1, hl, fun z => by rcases z with z | z; exact z n1; exact absurd hl (Nat.not_lt.mpr z)⟩
  have hd' : dis M1' M2 := by
    intro q
    cases he : M2 q with
    | none => exact Or.inr rfl
    | some e =>
      refine Or.inl ?_
      cases he' : M1' q with
      | none => rfl
      | some e' => exact absurd (g4 q e' he').2 (old q e he).2.2
  refine ⟨hd', hw_iff.mpr ⟨L' ++ L.filter (fun a => (M2 a).isSome), List.nodup_append.mpr ⟨g1, h1.filter _, fun a ha b hb e => ?_⟩, fun a ha => ?_, fun a ha => ?_, fun a e he => ?_⟩⟩
  · subst e
    have z := (List.mem_filter.mp hb).2
    rcases hd' a with y | y
    · exact g3 a ha y
    · rw [y] at z; cases z
  · cases he : M1' a with
    | none =>
      rw [uni_r he] at ha
      cases he2 : M2 a with
      | none => exact absurd he2 ha
      | some e2 => exact List.mem_append_right _ (List.mem_filter.mpr ⟨h2 a (by rw [uni_r (old a e2 he2).1, he2]; exact fun z => by cases z), by rw [he2]; rfl⟩)
    | some e => exact List.mem_append_left _ (g2 a (by rw [he]; exact fun z => by cases z))
  · rcases List.mem_append.mp ha with y | y
    · cases he : M1' a with
      | none => exact absurd he (g3 a y)
      | some e => rw [uni_l he]; exact fun z => by cases z
    · have z := (List.mem_filter.mp y).2
      cases he2 : M2 a with
      | none => rw [he2] at z; cases z
      | some e2 =>
        rcases hd' a with w | w
        · rw [uni_r w, he2]; exact fun z => by cases z
        · rw [he2] at w; cases w
  · cases he' : M1' a with
    | none =>
      rw [uni_r he'] at he
      obtain ⟨o1, o2, o3⟩ := old a e he
      have := h4 a e (by rw [uni_r o1]; exact he)
      exact ⟨this.1.kept (hk a o2 o3), this.2⟩
    | some e' =>
      rw [uni_l he'] at he
      cases he
      exact ⟨(g4 a _ he').1, hF a (g4 a _ he').2⟩
def X6 : List String := ["java/lang/IllegalArgumentException", "java/lang/IllegalStateException", "java/util/NoSuchElementException", "java/lang/UnsupportedOperationException", "java/lang/ArithmeticException", "java/lang/IndexOutOfBoundsException"]
/-- none of the six is another -/
def hQ (U : State) : Prop := ∀ a ∈ X6, ∀ b ∈ X6, a ≠ b → va_Nc a b U
theorem hQ.moved {u U : State} (hvm : u.vm.Alike U.vm) (h : hQ u) : hQ U := fun a ha b hb n => (h a ha b hb n).moved hvm
/-- a helper of the law is given also that -/
def hJ (D : va_G) (ca G : Nat → Nat) (sz : Nat) (M : hM) (U : State) : Prop := hI D ca G sz M U ∧ hQ U
theorem hJ.blind {D : va_G} {ca G : Nat → Nat} {sz : Nat} {M : hM} {av : List Value} : FrameBlind (va_Pc av (hJ D ca G sz M)) := by
  intro a U g mk q
  obtain ⟨q0, q1, q2⟩ := q
  obtain ⟨r0, r1⟩ := hI.blind (D := D) (ca := ca) (G := G) (sz := sz) (M := M) (av := av) a U g mk ⟨q0, q1⟩
  exact ⟨r0, r1, q2.moved (u := U) (U := U.calling g mk a) (Vm.Alike.refl U.vm)⟩
theorem hJ.give {D : va_G} {ca G : Nat → Nat} {A : Nat → Prop} {s : State} {M : hM} {H : Heap} {locs : List Loc} {av : List Value} (hq : hQ s) (hW : hw D wCl A M H) (hS : va_S A s.heap H locs) (hA : ∀ q, s.heap.size ≤ q → A q) (hK : va_K D wCl (wTys ca) s) (hZ0 : hZ G A s s.heap) :
    ∀ U : State, U.heap = H → s.WarmedH U.vm → va_Pc av (hJ D ca G H.size M) av.toArray U := by
  intro U hU hWm
  obtain ⟨r0, r1⟩ := hI.give (av := av) hW hS hA hK hZ0 U hU hWm
  exact ⟨r0, r1, hq.moved hWm.alike⟩
abbrev wzH (y : MethodName) (b : ByteArray) (n : Nat) (r : Option FieldType) (hh : List (Nat × Nat × Nat × Nat)) : List Cond := .codeWith y b n r hh :: BIG
theorem gi_SH {own : String} {idx : Nat} {y : MethodName} {b : ByteArray} {n : Nat} {r : Option FieldType} {hh : List (Nat × Nat × Nat × Nat)} (h1 : Cond.methodLink own idx y ∈ BIG) (h2 : Cond.static y ∈ BIG) (h3 : Cond.initialized y.cls ∈ BIG) (h5 : Cond.codeWith y b n r hh ∈ BIG) : GoodIn BIG (va_wsS own idx y (wzH y b n r hh)) := gi_c h1 (gi_c h2 (gi_c h3 (gi_c h5 gi_big)))
section HK
variable {p : Program} {l : Launch} {e : Env} {R : Room} {s : State} {m : MethodId} {args : Array Value} {below : List Frame} {meth : Method} {c : Code} {H : Heap} {locs : List Loc} {cells slots : Nat} {Q : State → Prop} {pc : Nat} {ls : Array Slot} {rest : List Value} {G : Nat → Nat} {A : Nat → Prop}
/-- caught by the k-th of the rows: E's own; those ahead are of other classes of the six -/
theorem hq_catch (hts : ∀ w ∈ BIG, w.before args s = true) (hZ0 : hZ G A s s.heap) (hq : hQ s) {own : String} {E : String} {ce : Cell} {q : Addr} (hown : s.vm.findClass own = some m.cls) (pre : List (Nat × Nat × Nat × Nat × String)) (x : Nat × Nat × Nat × Nat) (suf : List (Nat × Nat × Nat × Nat)) (hsplit : c.exceptionTable.toList = tableOf (pre.map (fun z => (z.1, z.2.1, z.2.2.1, z.2.2.2.1)) ++ x :: suf))
    (hpass : ∀ z ∈ pre, z.2.2.2.1 ≠ 0 ∧ Cond.classLink own z.2.2.2.1 z.2.2.2.2 ∈ BIG ∧ z.2.2.2.2 ∈ X6 ∧ E ≠ z.2.2.2.2) (hE : E ∈ X6) (hx : covers (⟨x.1, x.2.1, x.2.2.1, x.2.2.2⟩ : ExceptionTableEntry) pc = true) (h0 : x.2.2.2 ≠ 0)
    (hlink : Cond.classLink own x.2.2.2 E ∈ BIG) (hcast : Cond.castable E E ∈ NG) (hcell : H[q]? = some ce) (hv : ce.vm = .none) (hcl : s.vm.findClass E = some ce.cls)
    (kk : W p l e R s m args below meth c H locs cells slots Q (F0 m x.2.2.1 ls [.ref q])) : vx_W p l e R s m args below meth c H locs cells slots Q (F0 m pc ls rest) q := by
  refine vx_catch (name := E) hown (tableOf (pre.map (fun z => (z.1, z.2.1, z.2.2.1, z.2.2.2.1)))) ⟨x.1, x.2.1, x.2.2.1, x.2.2.2⟩ (tableOf suf) (by rw [hsplit]; simp [tableOf]) (fun z hz => ?_) hx h0 (hts _ hlink) (va_Nw.use rfl (hZ0.2.2.2.2.2.2.1 _ hcast)) hcell hv hcl kk
  obtain ⟨y, hy, rfl⟩ := List.mem_map.mp hz
  obtain ⟨w, hw, rfl⟩ := List.mem_map.mp hy
  obtain ⟨a1, a2, a3, a4⟩ := hpass w hw
  exact Or.inr ⟨a1, w.2.2.2.2, hts _ a2, hq _ hE _ a3 a4⟩
end HK
def aJ (M : hM) (a : Nat) (cA : Nat) (i : Int32) (K : Int64 → Prop) : Prop := ∃ (n : Nat) (f : Nat → Int64), M a = some (.inl (cA, n, .inr (.inl f))) ∧ vp_in i n ∧ K (f i.toNatClampNeg)

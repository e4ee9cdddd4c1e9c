/-! THE START: what the Statement gives of it, as the walk of the law wants it; the claim. -/
theorem sl_0 : (Jvm.Cond.laysStatic "ChannelHall$Role" "GIVER" "LChannelHall$Role;") ∈ lw_tbl := List.mem_of_getElem? (i := 408) (by decide +kernel)
theorem sl_1 : (Jvm.Cond.laysStatic "ChannelHall$Role" "TAKER" "LChannelHall$Role;") ∈ lw_tbl := List.mem_of_getElem? (i := 433) (by decide +kernel)
theorem sl_2 : (Jvm.Cond.laysStatic "ChannelHall$Role" "PARTNER" "LChannelHall$Role;") ∈ lw_tbl := List.mem_of_getElem? (i := 87) (by decide +kernel)
theorem sl_3 : (Jvm.Cond.laysStatic "java/util/ArrayList" "DEFAULTCAPACITY_EMPTY_ELEMENTDATA" "[Ljava/lang/Object;") ∈ lw_tbl := List.mem_of_getElem? (i := 272) (by decide +kernel)
theorem sl_4 : (Jvm.Cond.laysStatic "java/lang/Throwable" "UNASSIGNED_STACK" "[Ljava/lang/StackTraceElement;") ∈ lw_tbl := List.mem_of_getElem? (i := 199) (by decide +kernel)
theorem sl_5 : (Jvm.Cond.laysStatic "java/lang/Throwable" "SUPPRESSED_SENTINEL" "Ljava/util/List;") ∈ lw_tbl := List.mem_of_getElem? (i := 201) (by decide +kernel)
theorem sn_0 : Cond.arrayOver (.object "ChannelHall$Worker") ∈ lw_tbl := List.mem_of_getElem? (i := 78) (by decide +kernel)
theorem sn_1 : Cond.arrayOver (.object "ChannelHall$Channel") ∈ lw_tbl := List.mem_of_getElem? (i := 80) (by decide +kernel)
theorem sn_2 : Cond.castable "java/lang/IllegalArgumentException" "java/lang/IllegalArgumentException" ∈ lw_tbl := List.mem_of_getElem? (i := 174) (by decide +kernel)
theorem sn_3 : Cond.declares ⟨"java/lang/RuntimeException", "<init>", "()V"⟩ ∈ lw_tbl := List.mem_of_getElem? (i := 175) (by decide +kernel)
theorem sn_4 : Cond.declares ⟨"java/lang/Exception", "<init>", "()V"⟩ ∈ lw_tbl := List.mem_of_getElem? (i := 177) (by decide +kernel)
theorem sn_5 : Cond.declares ⟨"java/lang/Throwable", "<init>", "()V"⟩ ∈ lw_tbl := List.mem_of_getElem? (i := 179) (by decide +kernel)
theorem sn_6 : Cond.castable "java/lang/IllegalStateException" "java/lang/IllegalStateException" ∈ lw_tbl := List.mem_of_getElem? (i := 241) (by decide +kernel)
theorem sn_7 : Cond.castable "java/util/NoSuchElementException" "java/util/NoSuchElementException" ∈ lw_tbl := List.mem_of_getElem? (i := 352) (by decide +kernel)
theorem sn_8 : Cond.castable "java/lang/UnsupportedOperationException" "java/lang/UnsupportedOperationException" ∈ lw_tbl := List.mem_of_getElem? (i := 378) (by decide +kernel)
theorem sn_9 : Cond.arrayOver (.object "java/lang/Object") ∈ lw_tbl := List.mem_of_getElem? (i := 495) (by decide +kernel)
theorem sn_10 : Cond.castable "java/lang/IndexOutOfBoundsException" "java/lang/IndexOutOfBoundsException" ∈ lw_tbl := List.mem_of_getElem? (i := 543) (by decide +kernel)
theorem sn_11 : Cond.castable "[B" "java/lang/Cloneable" ∈ lw_tbl := List.mem_of_getElem? (i := 616) (by decide +kernel)
theorem sn_12 : Cond.castable "java/lang/ArithmeticException" "java/lang/ArithmeticException" ∈ lw_tbl := List.mem_of_getElem? (i := 885) (by decide +kernel)
theorem sn_13 : Cond.castable "ChannelHall$Worker" "ChannelHall$Worker" ∈ lw_tbl := List.mem_of_getElem? (i := 1238) (by decide +kernel)
theorem sn_14 : Cond.castable "ChannelHall$Item" "ChannelHall$Item" ∈ lw_tbl := List.mem_of_getElem? (i := 1239) (by decide +kernel)
theorem sn_15 : Cond.declares ⟨"java/lang/Object", "getClass", "()Ljava/lang/Class;"⟩ ∈ lw_tbl := List.mem_of_getElem? (i := 1242) (by decide +kernel)
theorem sn_16 : Cond.castable "ChannelHall" "java/lang/Object" ∈ lw_tbl := List.mem_of_getElem? (i := 1243) (by decide +kernel)
theorem sn_17 : Cond.castable "ChannelHall$Worker" "java/lang/Object" ∈ lw_tbl := List.mem_of_getElem? (i := 1244) (by decide +kernel)
theorem sn_18 : Cond.castable "ChannelHallModel" "java/lang/Object" ∈ lw_tbl := List.mem_of_getElem? (i := 1245) (by decide +kernel)
theorem sn_19 : Cond.castable "ChannelHall$Channel" "java/lang/Object" ∈ lw_tbl := List.mem_of_getElem? (i := 1246) (by decide +kernel)
theorem sn_20 : Cond.castable "ChannelHall$Item" "java/lang/Object" ∈ lw_tbl := List.mem_of_getElem? (i := 1247) (by decide +kernel)
theorem sn_21 : Cond.castable "ChannelHall$Role" "java/lang/Object" ∈ lw_tbl := List.mem_of_getElem? (i := 1249) (by decide +kernel)
theorem hN_0 {args : Array Value} {s : State} (hts : ∀ w ∈ lw_tbl, w.before args s = true) : hN s := List.forall_mem_cons.mpr ⟨va_AO.of (hts _ sn_0), List.forall_mem_cons.mpr ⟨va_AO.of (hts _ sn_1), List.forall_mem_cons.mpr ⟨va_Nw.of rfl (hts _ sn_2), List.forall_mem_cons.mpr ⟨va_Nw.of rfl (hts _ sn_3), List.forall_mem_cons.mpr ⟨va_Nw.of rfl (hts _ sn_4), List.forall_mem_cons.mpr ⟨va_Nw.of rfl (hts _ sn_5), List.forall_mem_cons.mpr ⟨va_Nw.of rfl (hts _ sn_6), List.forall_mem_cons.mpr ⟨va_Nw.of rfl (hts _ sn_7), List.forall_mem_cons.mpr ⟨va_Nw.of rfl (hts _ sn_8), List.forall_mem_cons.mpr ⟨va_AO.of (hts _ sn_9), List.forall_mem_cons.mpr ⟨va_Nw.of rfl (hts _ sn_10), List.forall_mem_cons.mpr ⟨va_Nw.of rfl (hts _ sn_11), List.forall_mem_cons.mpr ⟨va_Nw.of rfl (hts _ sn_12), List.forall_mem_cons.mpr ⟨va_Nw.of rfl (hts _ sn_13), List.forall_mem_cons.mpr ⟨va_Nw.of rfl (hts _ sn_14), List.forall_mem_cons.mpr ⟨va_Nw.of rfl (hts _ sn_15), List.forall_mem_cons.mpr ⟨va_Nw.of rfl (hts _ sn_16), List.forall_mem_cons.mpr ⟨va_Nw.of rfl (hts _ sn_17), List.forall_mem_cons.mpr ⟨va_Nw.of rfl (hts _ sn_18), List.forall_mem_cons.mpr ⟨va_Nw.of rfl (hts _ sn_19), List.forall_mem_cons.mpr ⟨va_Nw.of rfl (hts _ sn_20), List.forall_mem_cons.mpr ⟨va_Nw.of rfl (hts _ sn_21), fun _ h => absurd h List.not_mem_nil⟩⟩⟩⟩⟩⟩⟩⟩⟩⟩⟩⟩⟩⟩⟩⟩⟩⟩⟩⟩⟩⟩
theorem nq_01 : Cond.not (.castable "java/lang/IllegalArgumentException" "java/lang/IllegalStateException") ∈ flatC (Jvm.Cond.and given_1 narrow_1) := by decide +kernel
theorem nq_02 : Cond.not (.castable "java/lang/IllegalArgumentException" "java/util/NoSuchElementException") ∈ flatC (Jvm.Cond.and given_1 narrow_1) := by decide +kernel
theorem nq_03 : Cond.not (.castable "java/lang/IllegalArgumentException" "java/lang/UnsupportedOperationException") ∈ flatC (Jvm.Cond.and given_1 narrow_1) := by decide +kernel
theorem nq_04 : Cond.not (.castable "java/lang/IllegalArgumentException" "java/lang/ArithmeticException") ∈ flatC (Jvm.Cond.and given_1 narrow_1) := by decide +kernel
theorem nq_05 : Cond.not (.castable "java/lang/IllegalArgumentException" "java/lang/IndexOutOfBoundsException") ∈ flatC (Jvm.Cond.and given_1 narrow_1) := by decide +kernel
theorem nq_10 : Cond.not (.castable "java/lang/IllegalStateException" "java/lang/IllegalArgumentException") ∈ flatC (Jvm.Cond.and given_1 narrow_1) := by decide +kernel
theorem nq_12 : Cond.not (.castable "java/lang/IllegalStateException" "java/util/NoSuchElementException") ∈ flatC (Jvm.Cond.and given_1 narrow_1) := by decide +kernel
theorem nq_13 : Cond.not (.castable "java/lang/IllegalStateException" "java/lang/UnsupportedOperationException") ∈ flatC (Jvm.Cond.and given_1 narrow_1) := by decide +kernel
theorem nq_14 : Cond.not (.castable "java/lang/IllegalStateException" "java/lang/ArithmeticException") ∈ flatC (Jvm.Cond.and given_1 narrow_1) := by decide +kernel
theorem nq_15 : Cond.not (.castable "java/lang/IllegalStateException" "java/lang/IndexOutOfBoundsException") ∈ flatC (Jvm.Cond.and given_1 narrow_1) := by decide +kernel
theorem nq_20 : Cond.not (.castable "java/util/NoSuchElementException" "java/lang/IllegalArgumentException") ∈ flatC (Jvm.Cond.and given_1 narrow_1) := by decide +kernel
theorem nq_21 : Cond.not (.castable "java/util/NoSuchElementException" "java/lang/IllegalStateException") ∈ flatC (Jvm.Cond.and given_1 narrow_1) := by decide +kernel
theorem nq_23 : Cond.not (.castable "java/util/NoSuchElementException" "java/lang/UnsupportedOperationException") ∈ flatC (Jvm.Cond.and given_1 narrow_1) := by decide +kernel
theorem nq_24 : Cond.not (.castable "java/util/NoSuchElementException" "java/lang/ArithmeticException") ∈ flatC (Jvm.Cond.and given_1 narrow_1) := by decide +kernel
theorem nq_25 : Cond.not (.castable "java/util/NoSuchElementException" "java/lang/IndexOutOfBoundsException") ∈ flatC (Jvm.Cond.and given_1 narrow_1) := by decide +kernel
theorem nq_30 : Cond.not (.castable "java/lang/UnsupportedOperationException" "java/lang/IllegalArgumentException") ∈ flatC (Jvm.Cond.and given_1 narrow_1) := by decide +kernel
theorem nq_31 : Cond.not (.castable "java/lang/UnsupportedOperationException" "java/lang/IllegalStateException") ∈ flatC (Jvm.Cond.and given_1 narrow_1) := by decide +kernel
theorem nq_32 : Cond.not (.castable "java/lang/UnsupportedOperationException" "java/util/NoSuchElementException") ∈ flatC (Jvm.Cond.and given_1 narrow_1) := by decide +kernel
theorem nq_34 : Cond.not (.castable "java/lang/UnsupportedOperationException" "java/lang/ArithmeticException") ∈ flatC (Jvm.Cond.and given_1 narrow_1) := by decide +kernel
theorem nq_35 : Cond.not (.castable "java/lang/UnsupportedOperationException" "java/lang/IndexOutOfBoundsException") ∈ flatC (Jvm.Cond.and given_1 narrow_1) := by decide +kernel
theorem nq_40 : Cond.not (.castable "java/lang/ArithmeticException" "java/lang/IllegalArgumentException") ∈ flatC (Jvm.Cond.and given_1 narrow_1) := by decide +kernel
theorem nq_41 : Cond.not (.castable "java/lang/ArithmeticException" "java/lang/IllegalStateException") ∈ flatC (Jvm.Cond.and given_1 narrow_1) := by decide +kernel
theorem nq_42 : Cond.not (.castable "java/lang/ArithmeticException" "java/util/NoSuchElementException") ∈ flatC (Jvm.Cond.and given_1 narrow_1) := by decide +kernel
theorem nq_43 : Cond.not (.castable "java/lang/ArithmeticException" "java/lang/UnsupportedOperationException") ∈ flatC (Jvm.Cond.and given_1 narrow_1) := by decide +kernel
theorem nq_45 : Cond.not (.castable "java/lang/ArithmeticException" "java/lang/IndexOutOfBoundsException") ∈ flatC (Jvm.Cond.and given_1 narrow_1) := by decide +kernel
theorem nq_50 : Cond.not (.castable "java/lang/IndexOutOfBoundsException" "java/lang/IllegalArgumentException") ∈ flatC (Jvm.Cond.and given_1 narrow_1) := by decide +kernel
theorem nq_51 : Cond.not (.castable "java/lang/IndexOutOfBoundsException" "java/lang/IllegalStateException") ∈ flatC (Jvm.Cond.and given_1 narrow_1) := by decide +kernel
theorem nq_52 : Cond.not (.castable "java/lang/IndexOutOfBoundsException" "java/util/NoSuchElementException") ∈ flatC (Jvm.Cond.and given_1 narrow_1) := by decide +kernel
theorem nq_53 : Cond.not (.castable "java/lang/IndexOutOfBoundsException" "java/lang/UnsupportedOperationException") ∈ flatC (Jvm.Cond.and given_1 narrow_1) := by decide +kernel
theorem nq_54 : Cond.not (.castable "java/lang/IndexOutOfBoundsException" "java/lang/ArithmeticException") ∈ flatC (Jvm.Cond.and given_1 narrow_1) := by decide +kernel
theorem hQ_0 {args : Array Value} {s : State} (hs : ∀ c ∈ flatC (Jvm.Cond.and given_1 narrow_1), c.before args s = true) : hQ s := by
  intro a ha b hb n
  simp only [X6, List.mem_cons, List.not_mem_nil, or_false] at ha hb
  rcases ha with rfl | rfl | rfl | rfl | rfl | rfl <;> rcases hb with rfl | rfl | rfl | rfl | rfl | rfl
  · exact absurd rfl n
  · exact va_Nc.of (hs _ nq_01)
  · exact va_Nc.of (hs _ nq_02)
  · exact va_Nc.of (hs _ nq_03)
  · exact va_Nc.of (hs _ nq_04)
  · exact va_Nc.of (hs _ nq_05)
  · exact va_Nc.of (hs _ nq_10)
  · exact absurd rfl n
  · exact va_Nc.of (hs _ nq_12)
  · exact va_Nc.of (hs _ nq_13)
  · exact va_Nc.of (hs _ nq_14)
  · exact va_Nc.of (hs _ nq_15)
  · exact va_Nc.of (hs _ nq_20)
  · exact va_Nc.of (hs _ nq_21)
  · exact absurd rfl n
  · exact va_Nc.of (hs _ nq_23)
  · exact va_Nc.of (hs _ nq_24)
  · exact va_Nc.of (hs _ nq_25)
  · exact va_Nc.of (hs _ nq_30)
  · exact va_Nc.of (hs _ nq_31)
  · exact va_Nc.of (hs _ nq_32)
  · exact absurd rfl n
  · exact va_Nc.of (hs _ nq_34)
  · exact va_Nc.of (hs _ nq_35)
  · exact va_Nc.of (hs _ nq_40)
  · exact va_Nc.of (hs _ nq_41)
  · exact va_Nc.of (hs _ nq_42)
  · exact va_Nc.of (hs _ nq_43)
  · exact absurd rfl n
  · exact va_Nc.of (hs _ nq_45)
  · exact va_Nc.of (hs _ nq_50)
  · exact va_Nc.of (hs _ nq_51)
  · exact va_Nc.of (hs _ nq_52)
  · exact va_Nc.of (hs _ nq_53)
  · exact va_Nc.of (hs _ nq_54)
  · exact absurd rfl n
theorem ao_K {args : Array Value} {s : State} {C : String} (h : (Cond.arrayOver (.object C)).before args s = true) : ∃ cA, ArrOfT s cA (.object C) ∧ va_RA s cA (.object C) := by
  obtain ⟨comp, c, k, h1, h2, h3, h4, h5⟩ := Cond.arrayOver_spec h
  exact ⟨c, fun n z => ⟨fun k h => (by cases h), k, h3, comp, h4⟩, k, comp, h3, h4, h1, h5⟩
theorem ac_K {args : Array Value} {s : State} {t : FieldType} (h : (Cond.arrayClass t).before args s = true) : ∃ cA, ArrOfT s cA t ∧ s.vm.findClass ("[" ++ t.toString) = some cA := by
  obtain ⟨c, k, comp, h1, h2, h3⟩ := Cond.arrayClass_spec h
  exact ⟨c, fun n z => ⟨fun k h => (by cases h), k, h2, comp, h3⟩, h1⟩
theorem len_sp {args : Array Value} {s : State} {t : Term} {v : Value} (h : (Term.length t).eval args s none [] s = some v) : ∃ a cell, t.eval args s none [] s = some (.ref a) ∧ s.arrayAt? a = some cell ∧ v = .int cell.slots.size.toInt32 ∧ cell.slots.size < 2147483648 := by
  obtain ⟨a, cell, h1, h2, h3⟩ := Term.length_spec h
  refine ⟨a, cell, h1, h2, h3, Classical.byContradiction fun hn => ?_⟩
  simp [Term.eval, h1, h2, hn] at h
theorem K_0 {args : Array Value} {s : State} (hB : ∀ w ∈ BIG, w.before args s = true) (hts : ∀ w ∈ lw_tbl, w.before args s = true) : ∃ (D : va_G) (ca : Nat → Nat), va_K D wCl (wTys ca) s := by
  obtain ⟨c0, i0, k0⟩ := u_known (C := "ChannelHall$Channel") (T := TCh) (N := 10) (n := 10) hB uCh (hB _ bw_217)
  obtain ⟨c1, i1, k1⟩ := u_known (C := "ChannelHall$Item") (T := TIt) (N := 3) (n := 3) hB uIt (hB _ bw_477)
  obtain ⟨c2, i2, k2⟩ := u_known (C := "ChannelHall$Worker") (T := TWo) (N := 11) (n := 11) hB uWo (hB _ bw_44)
  obtain ⟨c3, i3, k3⟩ := u_known (C := "ChannelHall") (T := THa) (N := 4) (n := 4) hB uHa (hB _ bw_33)
  obtain ⟨c4, i4, k4⟩ := u_known (C := "java/util/ArrayList") (T := TAl) (N := 3) (n := 3) hB uAl (hB _ bw_223)
  obtain ⟨c5, i5, k5⟩ := u_known (C := "ChannelHallModel") (T := TMo) (N := 26) (n := 26) hB uMo (hB _ bw_968)
  obtain ⟨a0, p0, q0⟩ := ao_K (C := "ChannelHall$Worker") (hts _ sn_0)
  obtain ⟨a1, p1, q1⟩ := ao_K (C := "ChannelHall$Channel") (hts _ sn_1)
  obtain ⟨a2, p2, q2⟩ := ao_K (C := "java/lang/Object") (hts _ sn_9)
  obtain ⟨a3, p3, q3⟩ := ac_K (t := .long) (hB _ bw_1191)
  obtain ⟨a4, p4, q4⟩ := ac_K (t := .double) (hB _ bw_1055)
  obtain ⟨a5, p5, q5⟩ := ac_K (t := .int) (hB _ bw_1054)
  obtain ⟨a6, p6, q6⟩ := ac_K (t := .boolean) (hB _ bw_1053)
  refine ⟨(fun k => match k with | 0 => c0 | 1 => c1 | 2 => c2 | 3 => c3 | 4 => c4 | _ => c5, fun k => match k with | 0 => i0 | 1 => i1 | 2 => i2 | 3 => i3 | 4 => i4 | _ => i5), fun k => match k with | 0 => a0 | 1 => a1 | 2 => a2 | 3 => a3 | 4 => a4 | 5 => a5 | _ => a6, fun k q hq => ?_, fun k q hq => ?_⟩
  · match k, hq with
    | 0, hq => cases hq; exact k0
    | 1, hq => cases hq; exact k1
    | 2, hq => cases hq; exact k2
    | 3, hq => cases hq; exact k3
    | 4, hq => cases hq; exact k4
    | 5, hq => cases hq; exact k5
    | k + 6, hq => simp [wCl] at hq
  · match k, hq with
    | 0, hq => cases hq; exact ⟨p0, q0⟩
    | 1, hq => cases hq; exact ⟨p1, q1⟩
    | 2, hq => cases hq; exact ⟨p2, q2⟩
    | 3, hq => cases hq; exact ⟨p3, q3⟩
    | 4, hq => cases hq; exact ⟨p4, q4⟩
    | 5, hq => cases hq; exact ⟨p5, q5⟩
    | 6, hq => cases hq; exact ⟨p6, q6⟩
    | k + 7, hq => simp at hq
theorem ne_0 {args : Array Value} {s : State} {t u : Term} {a b : Nat} (h : (Cond.not (Cond.eq t u)).before args s = true) (ht : t.eval args s none [] s = some (.ref a)) (hu : u.eval args s none [] s = some (.ref b)) : a ≠ b := fun e => by
  subst e
  simp [Cond.before, Cond.holds, Cond.value, ht, hu] at h
theorem Z_0 {args : Array Value} {s : State} (hB : ∀ w ∈ BIG, w.before args s = true) (hts : ∀ w ∈ lw_tbl, w.before args s = true) (hs : ∀ c ∈ flatC (Jvm.Cond.and given_1 narrow_1), c.before args s = true) : ∃ G : Nat → Nat, hZ G (fun q : Nat => s.heap.size ≤ q) s s.heap ∧ ∀ i j, i < 3 → j < 3 → G i = G j → i = j := by
  have hA : ∀ a : Nat, a < s.heap.size → ¬ (fun q : Nat => s.heap.size ≤ q) a := fun a h => Nat.not_le.mpr h
  obtain ⟨g0, _, _, _, e0, _⟩ := Cond.exactly_spec (hs (Cond.exactly (.static "ChannelHall$Role" "GIVER" "LChannelHall$Role;") "ChannelHall$Role") (by decide +kernel))
  obtain ⟨g1, _, _, _, e1, _⟩ := Cond.exactly_spec (hs (Cond.exactly (.static "ChannelHall$Role" "TAKER" "LChannelHall$Role;") "ChannelHall$Role") (by decide +kernel))
  obtain ⟨g2, _, _, _, e2, _⟩ := Cond.exactly_spec (hs (Cond.exactly (.static "ChannelHall$Role" "PARTNER" "LChannelHall$Role;") "ChannelHall$Role") (by decide +kernel))
  have n20 := ne_0 (hs (Cond.not (Cond.eq (.static "ChannelHall$Role" "PARTNER" "LChannelHall$Role;") (.static "ChannelHall$Role" "GIVER" "LChannelHall$Role;"))) (by decide +kernel)) e2 e0
  have n21 := ne_0 (hs (Cond.not (Cond.eq (.static "ChannelHall$Role" "PARTNER" "LChannelHall$Role;") (.static "ChannelHall$Role" "TAKER" "LChannelHall$Role;"))) (by decide +kernel)) e2 e1
  have n01 := ne_0 (hs (Cond.not (Cond.eq (.static "ChannelHall$Role" "GIVER" "LChannelHall$Role;") (.static "ChannelHall$Role" "TAKER" "LChannelHall$Role;"))) (by decide +kernel)) e0 e1
  have hlen := va_eqt (hs (Cond.eq (.length (.static "java/util/ArrayList" "DEFAULTCAPACITY_EMPTY_ELEMENTDATA" "[Ljava/lang/Object;")) (.int 0)) (by decide +kernel))
  obtain ⟨g3, cell, e3, h3, hv, hlt⟩ := len_sp hlen
  obtain ⟨hcell, hkn, -, -⟩ := State.arrayAt?_spec h3
  obtain ⟨hof, -⟩ := Cond.arrayOf_spec (hs (Cond.arrayOf (.static "java/util/ArrayList" "DEFAULTCAPACITY_EMPTY_ELEMENTDATA" "[Ljava/lang/Object;") (.object "java/lang/Object")) (by decide +kernel)) e3 hcell
  have hz : cell.slots.size = 0 := by
    have := Value.int.inj hv
    exact ((i_eq (a := 0) (b := cell.slots.size) (by decide) hlt).mp this).symm
  obtain ⟨mi, hmi⟩ := va_Mi.of (hs (Cond.isRef (.mirror "[Ljava/lang/Object;")) (by decide +kernel))
  refine ⟨fun k => match k with | 0 => g0 | 1 => g1 | 2 => g2 | 3 => g3 | _ => mi, ⟨va_Zof (hts _ sl_0) (hB _ bw_4) e0 hA, va_Zof (hts _ sl_1) (hB _ bw_4) e1 hA, va_Zof (hts _ sl_2) (hB _ bw_4) e2 hA, va_Zof (hts _ sl_3) (hB _ bw_14) e3 hA,
    vx_Zqof (hts _ sl_4) (hB _ bw_6) (hs _ (by decide +kernel)) hA, vx_Zqof (hts _ sl_5) (hB _ bw_6) (hs _ (by decide +kernel)) hA, hN_0 hts, ⟨cell, hcell, hof, hz, hA _ (Array.getElem?_eq_some_iff.mp hcell).1⟩, hmi, va_Dc.of (hts _ sn_15)⟩, fun i j hi hj e => ?_⟩
  rcases (show i = 0 ∨ i = 1 ∨ i = 2 by omega) with rfl | rfl | rfl <;> rcases (show j = 0 ∨ j = 1 ∨ j = 2 by omega) with rfl | rfl | rfl
  · rfl
  · exact absurd e n01
  · exact absurd e.symm n20
  · exact absurd e.symm n01
  · rfl
  · exact absurd e.symm n21
  · exact absurd e n20
  · exact absurd e n21
  · rfl
/-- from the entry, for every script of at most 3072 ints, the law comes to its end with true -/
theorem whole_start {p : Program} {e : Env} {s : State} {m : MethodId} {below : List Frame} {meth : Method} {c : Code} (l : Launch) (hl0 : l.stackTraces = false) {b L : Nat} {xs : Nat → Int32} (hL : L ≤ 3072) (C0 : lw_At p s m meth c b L xs) : W p l e room_1 s m #[Value.ref b] below meth c s.heap [] 0 0 (lw_Z below #[Value.ref b] s) (entryFrame m ([Value.ref b] : List Value).toArray 10) := by
  obtain ⟨hx, hb, hr, hml, hown, hts, hX, hbl, hlocks, hgv⟩ := id C0
  have hs := flat_of_before _ hgv
  have hB : ∀ w ∈ BIG, w.before #[Value.ref b] s = true := fun w hw => hts w (BIG_in hw)
  obtain ⟨D, ca, hK⟩ := K_0 hB hts
  obtain ⟨G, hZ0, hG⟩ := Z_0 hB hts hs
  have hl := lv_entry ([.ref b]) (n := 10) (Nat.le_of_ble_eq_true rfl)
  rw [lg_entry_eq]
  generalize (lg_sl ([.ref b]) ++ List.replicate (10 - (lg_sl ([.ref b])).length) Slot.unset).toArray = ls at hl ⊢
  have hl : lv_has ls 10 [(0, .ref b)] := hl
  have hW : hw D wCl (fun q : Nat => s.heap.size ≤ q) (fun _ => none) s.heap := ⟨[], fun _ => .inr (0, []), fun a => (if_neg (List.not_mem_nil)).symm, fun k q h => by simp [va_pl] at h, ⟨fun i j p q h => by simp [va_pl] at h, fun k q h => by simp [va_pl] at h⟩⟩
  exact l_La_law_e (D := D) (ca := ca) (G := G) (A := fun q : Nat => s.heap.size ≤ q) ⟨hx, hb, hr, hml, hown, hB, hlocks, hK, fun _ h => h, hZ0⟩ hl0 (hQ_0 hs) hX hbl (Nat.not_le.mpr hbl) (fun _ h => h) (Nat.le_refl _) (Nat.le_refl _) (law_0 hG hL) hW va_S.rf hl

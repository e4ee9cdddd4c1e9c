/-! THE FRAME: tables of the classes; what a method is given; the parts of a weakest precondition and their rows. -/
def TCh : u_T := fun k => match k with
  | 0 => ("ChannelHall$Channel", "number", "I", true)
  | 1 => ("ChannelHall$Channel", "kind", "I", true)
  | 2 => ("ChannelHall$Channel", "room", "I", true)
  | 3 => ("ChannelHall$Channel", "parties", "I", true)
  | 4 => ("ChannelHall$Channel", "items", "Ljava/util/ArrayList;", true)
  | 5 => ("ChannelHall$Channel", "waiters", "Ljava/util/ArrayList;", true)
  | 6 => ("ChannelHall$Channel", "broken", "Z", false)
  | 7 => ("ChannelHall$Channel", "passed", "I", false)
  | 8 => ("ChannelHall$Channel", "staySum", "D", false)
  | _ => ("ChannelHall$Channel", "stays", "I", false)
def tCh : Nat → FieldType := fun k => match k with
  | 0 => .int
  | 1 => .int
  | 2 => .int
  | 3 => .int
  | 4 => .object "java/util/ArrayList"
  | 5 => .object "java/util/ArrayList"
  | 6 => .boolean
  | 7 => .int
  | 8 => .double
  | _ => .int
theorem nCh : ∀ a, a < 10 → ∀ b, b < 10 → a ≠ b → (TCh a).2.1 ≠ (TCh b).2.1 := by decide +kernel
theorem tCh_ok : ∀ k, k < 10 → parseFieldDescriptor (TCh k).2.2.1 = some (tCh k) := by decide +kernel
theorem uCh : ∀ w ∈ u_ws "ChannelHall$Channel" TCh 10, w ∈ BIG := List.forall_mem_cons.mpr ⟨bw_270, List.forall_mem_cons.mpr ⟨bw_272, List.forall_mem_cons.mpr ⟨bw_274, List.forall_mem_cons.mpr ⟨bw_276, List.forall_mem_cons.mpr ⟨bw_278, List.forall_mem_cons.mpr ⟨bw_280, List.forall_mem_cons.mpr ⟨bw_282, List.forall_mem_cons.mpr ⟨bw_284, List.forall_mem_cons.mpr ⟨bw_286, List.forall_mem_cons.mpr ⟨bw_288, fun _ h => absurd h List.not_mem_nil⟩⟩⟩⟩⟩⟩⟩⟩⟩⟩
def TIt : u_T := fun k => match k with
  | 0 => ("ChannelHall$Item", "value", "I", true)
  | 1 => ("ChannelHall$Item", "key", "D", true)
  | _ => ("ChannelHall$Item", "since", "D", true)
def tIt : Nat → FieldType := fun k => match k with
  | 0 => .int
  | 1 => .double
  | _ => .double
theorem nIt : ∀ a, a < 3 → ∀ b, b < 3 → a ≠ b → (TIt a).2.1 ≠ (TIt b).2.1 := by decide +kernel
theorem tIt_ok : ∀ k, k < 3 → parseFieldDescriptor (TIt k).2.2.1 = some (tIt k) := by decide +kernel
theorem uIt : ∀ w ∈ u_ws "ChannelHall$Item" TIt 3, w ∈ BIG := List.forall_mem_cons.mpr ⟨bw_489, List.forall_mem_cons.mpr ⟨bw_491, List.forall_mem_cons.mpr ⟨bw_493, fun _ h => absurd h List.not_mem_nil⟩⟩⟩
def TWo : u_T := fun k => match k with
  | 0 => ("ChannelHall$Worker", "number", "I", true)
  | 1 => ("ChannelHall$Worker", "flagged", "Z", false)
  | 2 => ("ChannelHall$Worker", "outcome", "I", false)
  | 3 => ("ChannelHall$Worker", "hasGot", "Z", false)
  | 4 => ("ChannelHall$Worker", "gotValue", "I", false)
  | 5 => ("ChannelHall$Worker", "place", "LChannelHall$Channel;", false)
  | 6 => ("ChannelHall$Worker", "role", "LChannelHall$Role;", false)
  | 7 => ("ChannelHall$Worker", "offeredValue", "I", false)
  | 8 => ("ChannelHall$Worker", "offeredKey", "D", false)
  | 9 => ("ChannelHall$Worker", "hasEnd", "Z", false)
  | _ => ("ChannelHall$Worker", "end", "D", false)
def tWo : Nat → FieldType := fun k => match k with
  | 0 => .int
  | 1 => .boolean
  | 2 => .int
  | 3 => .boolean
  | 4 => .int
  | 5 => .object "ChannelHall$Channel"
  | 6 => .object "ChannelHall$Role"
  | 7 => .int
  | 8 => .double
  | 9 => .boolean
  | _ => .double
theorem nWo : ∀ a, a < 11 → ∀ b, b < 11 → a ≠ b → (TWo a).2.1 ≠ (TWo b).2.1 := by decide +kernel
theorem tWo_ok : ∀ k, k < 11 → parseFieldDescriptor (TWo k).2.2.1 = some (tWo k) := by decide +kernel
theorem uWo : ∀ w ∈ u_ws "ChannelHall$Worker" TWo 11, w ∈ BIG := List.forall_mem_cons.mpr ⟨bw_77, List.forall_mem_cons.mpr ⟨bw_79, List.forall_mem_cons.mpr ⟨bw_81, List.forall_mem_cons.mpr ⟨bw_83, List.forall_mem_cons.mpr ⟨bw_85, List.forall_mem_cons.mpr ⟨bw_87, List.forall_mem_cons.mpr ⟨bw_89, List.forall_mem_cons.mpr ⟨bw_91, List.forall_mem_cons.mpr ⟨bw_93, List.forall_mem_cons.mpr ⟨bw_95, List.forall_mem_cons.mpr ⟨bw_97, fun _ h => absurd h List.not_mem_nil⟩⟩⟩⟩⟩⟩⟩⟩⟩⟩⟩
def THa : u_T := fun k => match k with
  | 0 => ("ChannelHall", "workers", "[LChannelHall$Worker;", true)
  | 1 => ("ChannelHall", "channels", "[LChannelHall$Channel;", true)
  | 2 => ("ChannelHall", "made", "I", false)
  | _ => ("ChannelHall", "now", "D", false)
def tHa : Nat → FieldType := fun k => match k with
  | 0 => .array (.object "ChannelHall$Worker")
  | 1 => .array (.object "ChannelHall$Channel")
  | 2 => .int
  | _ => .double
theorem nHa : ∀ a, a < 4 → ∀ b, b < 4 → a ≠ b → (THa a).2.1 ≠ (THa b).2.1 := by decide +kernel
theorem tHa_ok : ∀ k, k < 4 → parseFieldDescriptor (THa k).2.2.1 = some (tHa k) := by decide +kernel
theorem uHa : ∀ w ∈ u_ws "ChannelHall" THa 4, w ∈ BIG := List.forall_mem_cons.mpr ⟨bw_104, List.forall_mem_cons.mpr ⟨bw_106, List.forall_mem_cons.mpr ⟨bw_108, List.forall_mem_cons.mpr ⟨bw_110, fun _ h => absurd h List.not_mem_nil⟩⟩⟩⟩
def TAl : u_T := fun k => match k with
  | 0 => ("java/util/ArrayList", "elementData", "[Ljava/lang/Object;", false)
  | 1 => ("java/util/ArrayList", "size", "I", false)
  | _ => ("java/util/AbstractList", "modCount", "I", false)
def tAl : Nat → FieldType := fun k => match k with
  | 0 => .array (.object "java/lang/Object")
  | 1 => .int
  | _ => .int
theorem nAl : ∀ a, a < 3 → ∀ b, b < 3 → a ≠ b → (TAl a).2.1 ≠ (TAl b).2.1 := by decide +kernel
theorem tAl_ok : ∀ k, k < 3 → parseFieldDescriptor (TAl k).2.2.1 = some (tAl k) := by decide +kernel
theorem uAl : ∀ w ∈ u_ws "java/util/ArrayList" TAl 3, w ∈ BIG := List.forall_mem_cons.mpr ⟨bw_241, List.forall_mem_cons.mpr ⟨bw_243, List.forall_mem_cons.mpr ⟨bw_245, fun _ h => absurd h List.not_mem_nil⟩⟩⟩
def TMo : u_T := fun k => match k with
  | 0 => ("ChannelHallModel", "failed", "I", false)
  | 1 => ("ChannelHallModel", "blocked", "[Z", true)
  | 2 => ("ChannelHallModel", "flag", "[Z", true)
  | 3 => ("ChannelHallModel", "outcome", "[I", true)
  | 4 => ("ChannelHallModel", "hasGot", "[Z", true)
  | 5 => ("ChannelHallModel", "got", "[I", true)
  | 6 => ("ChannelHallModel", "waitsAt", "[I", true)
  | 7 => ("ChannelHallModel", "role", "[I", true)
  | 8 => ("ChannelHallModel", "gift", "[I", true)
  | 9 => ("ChannelHallModel", "giftRank", "[D", true)
  | 10 => ("ChannelHallModel", "giftDue", "[D", true)
  | 11 => ("ChannelHallModel", "end", "[D", true)
  | 12 => ("ChannelHallModel", "time", "D", false)
  | 13 => ("ChannelHallModel", "kind", "[I", true)
  | 14 => ("ChannelHallModel", "room", "[I", true)
  | 15 => ("ChannelHallModel", "broken", "[Z", true)
  | 16 => ("ChannelHallModel", "passed", "[I", true)
  | 17 => ("ChannelHallModel", "row", "[I", true)
  | 18 => ("ChannelHallModel", "waiters", "[I", true)
  | 19 => ("ChannelHallModel", "value", "[I", true)
  | 20 => ("ChannelHallModel", "rank", "[D", true)
  | 21 => ("ChannelHallModel", "due", "[D", true)
  | 22 => ("ChannelHallModel", "in", "[D", true)
  | 23 => ("ChannelHallModel", "items", "[I", true)
  | 24 => ("ChannelHallModel", "staySum", "[D", true)
  | _ => ("ChannelHallModel", "stayCount", "[I", true)
def tMo : Nat → FieldType := fun k => match k with
  | 0 => .int
  | 1 => .array .boolean
  | 2 => .array .boolean
  | 3 => .array .int
  | 4 => .array .boolean
  | 5 => .array .int
  | 6 => .array .int
  | 7 => .array .int
  | 8 => .array .int
  | 9 => .array .double
  | 10 => .array .double
  | 11 => .array .double
  | 12 => .double
  | 13 => .array .int
  | 14 => .array .int
  | 15 => .array .boolean
  | 16 => .array .int
  | 17 => .array .int
  | 18 => .array .int
  | 19 => .array .int
  | 20 => .array .double
  | 21 => .array .double
  | 22 => .array .double
  | 23 => .array .int
  | 24 => .array .double
  | _ => .array .int
theorem nMo : ∀ a, a < 26 → ∀ b, b < 26 → a ≠ b → (TMo a).2.1 ≠ (TMo b).2.1 := by decide +kernel
theorem tMo_ok : ∀ k, k < 26 → parseFieldDescriptor (TMo k).2.2.1 = some (tMo k) := by decide +kernel
theorem uMo : ∀ w ∈ u_ws "ChannelHallModel" TMo 26, w ∈ BIG := List.forall_mem_cons.mpr ⟨bw_1000, List.forall_mem_cons.mpr ⟨bw_1002, List.forall_mem_cons.mpr ⟨bw_1004, List.forall_mem_cons.mpr ⟨bw_1006, List.forall_mem_cons.mpr ⟨bw_1008, List.forall_mem_cons.mpr ⟨bw_1010, List.forall_mem_cons.mpr ⟨bw_1012, List.forall_mem_cons.mpr ⟨bw_1014, List.forall_mem_cons.mpr ⟨bw_1016, List.forall_mem_cons.mpr ⟨bw_1018, List.forall_mem_cons.mpr ⟨bw_1020, List.forall_mem_cons.mpr ⟨bw_1022, List.forall_mem_cons.mpr ⟨bw_1024, List.forall_mem_cons.mpr ⟨bw_1026, List.forall_mem_cons.mpr ⟨bw_1028, List.forall_mem_cons.mpr ⟨bw_1030, List.forall_mem_cons.mpr ⟨bw_1032, List.forall_mem_cons.mpr ⟨bw_1034, List.forall_mem_cons.mpr ⟨bw_1036, List.forall_mem_cons.mpr ⟨bw_1038, List.forall_mem_cons.mpr ⟨bw_1040, List.forall_mem_cons.mpr ⟨bw_1042, List.forall_mem_cons.mpr ⟨bw_1044, List.forall_mem_cons.mpr ⟨bw_1046, List.forall_mem_cons.mpr ⟨bw_1048, List.forall_mem_cons.mpr ⟨bw_1050, fun _ h => absurd h List.not_mem_nil⟩⟩⟩⟩⟩⟩⟩⟩⟩⟩⟩⟩⟩⟩⟩⟩⟩⟩⟩⟩⟩⟩⟩⟩⟩⟩
abbrev wCl : List vw_C := [("ChannelHall$Channel", TCh, 10), ("ChannelHall$Item", TIt, 3), ("ChannelHall$Worker", TWo, 11), ("ChannelHall", THa, 4), ("java/util/ArrayList", TAl, 3), ("ChannelHallModel", TMo, 26)]
/-- words that the tables keep, but not by rule -/
def NG : List Cond := [.arrayOver (.object "ChannelHall$Worker"), .arrayOver (.object "ChannelHall$Channel"), .castable "java/lang/IllegalArgumentException" "java/lang/IllegalArgumentException", .declares ⟨"java/lang/RuntimeException", "<init>", "()V"⟩, .declares ⟨"java/lang/Exception", "<init>", "()V"⟩, .declares ⟨"java/lang/Throwable", "<init>", "()V"⟩, .castable "java/lang/IllegalStateException" "java/lang/IllegalStateException", .castable "java/util/NoSuchElementException" "java/util/NoSuchElementException", .castable "java/lang/UnsupportedOperationException" "java/lang/UnsupportedOperationException", .arrayOver (.object "java/lang/Object"), .castable "java/lang/IndexOutOfBoundsException" "java/lang/IndexOutOfBoundsException", .castable "[B" "java/lang/Cloneable", .castable "java/lang/ArithmeticException" "java/lang/ArithmeticException", .castable "ChannelHall$Worker" "ChannelHall$Worker", .castable "ChannelHall$Item" "ChannelHall$Item", .declares ⟨"java/lang/Object", "getClass", "()Ljava/lang/Class;"⟩, .castable "ChannelHall" "java/lang/Object", .castable "ChannelHall$Worker" "java/lang/Object", .castable "ChannelHallModel" "java/lang/Object", .castable "ChannelHall$Channel" "java/lang/Object", .castable "ChannelHall$Item" "java/lang/Object", .castable "ChannelHall$Role" "java/lang/Object"]
def hN (U : State) : Prop := ∀ w ∈ NG, va_Nw w U
theorem hN.warm {s U : State} (hW : s.WarmedH U.vm) (h : hN s) : hN U := List.forall_mem_cons.mpr ⟨va_AO.moved hW.alike (h _ (by decide)), List.forall_mem_cons.mpr ⟨va_AO.moved hW.alike (h _ (by decide)), List.forall_mem_cons.mpr ⟨va_Nw.warmC hW (h _ (by decide)), List.forall_mem_cons.mpr ⟨va_Nw.warmD hW (h _ (by decide)), List.forall_mem_cons.mpr ⟨va_Nw.warmD hW (h _ (by decide)), List.forall_mem_cons.mpr ⟨va_Nw.warmD hW (h _ (by decide)), List.forall_mem_cons.mpr ⟨va_Nw.warmC hW (h _ (by decide)), List.forall_mem_cons.mpr ⟨va_Nw.warmC hW (h _ (by decide)), List.forall_mem_cons.mpr ⟨va_Nw.warmC hW (h _ (by decide)), List.forall_mem_cons.mpr ⟨va_AO.moved hW.alike (h _ (by decide)), List.forall_mem_cons.mpr ⟨va_Nw.warmC hW (h _ (by decide)), List.forall_mem_cons.mpr ⟨va_Nw.warmC hW (h _ (by decide)), List.forall_mem_cons.mpr ⟨va_Nw.warmC hW (h _ (by decide)), List.forall_mem_cons.mpr ⟨va_Nw.warmC hW (h _ (by decide)), List.forall_mem_cons.mpr ⟨va_Nw.warmC hW (h _ (by decide)), List.forall_mem_cons.mpr ⟨va_Nw.warmD hW (h _ (by decide)), List.forall_mem_cons.mpr ⟨va_Nw.warmC hW (h _ (by decide)), List.forall_mem_cons.mpr ⟨va_Nw.warmC hW (h _ (by decide)), List.forall_mem_cons.mpr ⟨va_Nw.warmC hW (h _ (by decide)), List.forall_mem_cons.mpr ⟨va_Nw.warmC hW (h _ (by decide)), List.forall_mem_cons.mpr ⟨va_Nw.warmC hW (h _ (by decide)), List.forall_mem_cons.mpr ⟨va_Nw.warmC hW (h _ (by decide)), fun _ h => absurd h List.not_mem_nil⟩⟩⟩⟩⟩⟩⟩⟩⟩⟩⟩⟩⟩⟩⟩⟩⟩⟩⟩⟩⟩⟩
theorem vm_al {u U : State} (e : u.vm = U.vm) : u.vm.Alike U.vm := by rw [← e]; exact Vm.Alike.refl _
theorem hN.same {u U : State} (e : u.vm = U.vm) (h : hN u) : hN U := List.forall_mem_cons.mpr ⟨va_AO.moved (vm_al e) (h _ (by decide)), List.forall_mem_cons.mpr ⟨va_AO.moved (vm_al e) (h _ (by decide)), List.forall_mem_cons.mpr ⟨va_Nw.same rfl e (h _ (by decide)), List.forall_mem_cons.mpr ⟨va_Nw.same rfl e (h _ (by decide)), List.forall_mem_cons.mpr ⟨va_Nw.same rfl e (h _ (by decide)), List.forall_mem_cons.mpr ⟨va_Nw.same rfl e (h _ (by decide)), List.forall_mem_cons.mpr ⟨va_Nw.same rfl e (h _ (by decide)), List.forall_mem_cons.mpr ⟨va_Nw.same rfl e (h _ (by decide)), List.forall_mem_cons.mpr ⟨va_Nw.same rfl e (h _ (by decide)), List.forall_mem_cons.mpr ⟨va_AO.moved (vm_al e) (h _ (by decide)), List.forall_mem_cons.mpr ⟨va_Nw.same rfl e (h _ (by decide)), List.forall_mem_cons.mpr ⟨va_Nw.same rfl e (h _ (by decide)), List.forall_mem_cons.mpr ⟨va_Nw.same rfl e (h _ (by decide)), List.forall_mem_cons.mpr ⟨va_Nw.same rfl e (h _ (by decide)), List.forall_mem_cons.mpr ⟨va_Nw.same rfl e (h _ (by decide)), List.forall_mem_cons.mpr ⟨va_Nw.same rfl e (h _ (by decide)), List.forall_mem_cons.mpr ⟨va_Nw.same rfl e (h _ (by decide)), List.forall_mem_cons.mpr ⟨va_Nw.same rfl e (h _ (by decide)), List.forall_mem_cons.mpr ⟨va_Nw.same rfl e (h _ (by decide)), List.forall_mem_cons.mpr ⟨va_Nw.same rfl e (h _ (by decide)), List.forall_mem_cons.mpr ⟨va_Nw.same rfl e (h _ (by decide)), List.forall_mem_cons.mpr ⟨va_Nw.same rfl e (h _ (by decide)), fun _ h => absurd h List.not_mem_nil⟩⟩⟩⟩⟩⟩⟩⟩⟩⟩⟩⟩⟩⟩⟩⟩⟩⟩⟩⟩⟩⟩
/-- the array classes: which is which -/
abbrev wTys (ca : Nat → Nat) : List (ClassId × FieldType) := [(ca 0, .object "ChannelHall$Worker"), (ca 1, .object "ChannelHall$Channel"), (ca 2, .object "java/lang/Object"), (ca 3, .long), (ca 4, .double), (ca 5, .int), (ca 6, .boolean)]
/-- the statics that are read: the three roles, the empty table of a list, what a throw reads -/
def hZ (G : Nat → Nat) (A : Nat → Prop) (U : State) (H : Heap) : Prop :=
  va_Z "ChannelHall$Role" "GIVER" "LChannelHall$Role;" (.ref (G 0)) A U H ∧ va_Z "ChannelHall$Role" "TAKER" "LChannelHall$Role;" (.ref (G 1)) A U H ∧ va_Z "ChannelHall$Role" "PARTNER" "LChannelHall$Role;" (.ref (G 2)) A U H ∧
  va_Z "java/util/ArrayList" "DEFAULTCAPACITY_EMPTY_ELEMENTDATA" "[Ljava/lang/Object;" (.ref (G 3)) A U H ∧
  vx_Zq Bundle.tN "UNASSIGNED_STACK" Bundle.steD A U H ∧ vx_Zq Bundle.tN "SUPPRESSED_SENTINEL" Bundle.listD A U H ∧ hN U
theorem hZ.pass {G : Nat → Nat} {A B : Nat → Prop} {s U : State} {H : Heap} (h : hZ G A s s.heap) (hq : ∀ a : Nat, a < s.heap.size → ¬ A a → H[a]? = s.heap[a]?) (hB : ∀ q, B q → A q) (hW : s.WarmedH U.vm) : hZ G B U H := by
  obtain ⟨h1, h2, h3, h4, h5, h6, h7⟩ := h
  exact ⟨((h1.kept hq).narrow hB).moved hW.alike, ((h2.kept hq).narrow hB).moved hW.alike, ((h3.kept hq).narrow hB).moved hW.alike, ((h4.kept hq).narrow hB).moved hW.alike, ((h5.kept hq).narrow hB).moved hW.alike, ((h6.kept hq).narrow hB).moved hW.alike, h7.warm hW⟩
theorem hZ.same {G : Nat → Nat} {A : Nat → Prop} {u U : State} {H : Heap} (e : u.vm = U.vm) (h : hZ G A u H) : hZ G A U H := by
  obtain ⟨h1, h2, h3, h4, h5, h6, h7⟩ := h
  have a : u.vm.Alike U.vm := by rw [← e]; exact Vm.Alike.refl _
  exact ⟨h1.moved a, h2.moved a, h3.moved a, h4.moved a, h5.moved a, h6.moved a, h7.same e⟩
/-- what a method is given: the world M in a heap of sz cells -/
def hI (D : va_G) (ca G : Nat → Nat) (sz : Nat) (M : hM) (U : State) : Prop :=
  U.heap.size = sz ∧ hw D wCl (hp_A M sz) M U.heap ∧ va_K D wCl (wTys ca) U ∧ hZ G (hp_A M sz) U U.heap
theorem hI.blind {D : va_G} {ca G : Nat → Nat} {sz : Nat} {M : hM} {av : List Value} : FrameBlind (va_Pc av (hI D ca G sz M)) := by
  intro a U g mk q
  obtain ⟨q0, q1, qP, qK, qZ⟩ := q
  exact ⟨q0, q1, qP, va_K.moved (u := U) (U := U.calling g mk a) (Vm.Alike.refl U.vm) qK, qZ.same (rfl : U.vm = (U.calling g mk a).vm)⟩
theorem hI.give {D : va_G} {ca G : Nat → Nat} {A : Nat → Prop} {s : State} {M : hM} {H : Heap} {locs : List Loc} {av : List Value} (hW : hw D wCl A M H) (hS : va_S A s.heap H locs) (hA : ∀ q, s.heap.size ≤ q → A q) (hK : va_K D wCl (wTys ca) s) (hZ0 : hZ G A s s.heap) :
    ∀ U : State, U.heap = H → s.WarmedH U.vm → va_Pc av (hI D ca G H.size M) av.toArray U := by
  intro U hU hWm
  exact ⟨rfl, by rw [hU], by rw [hU]; exact hW.self _, va_K.moved hWm.alike hK, by rw [hU]; exact hZ0.pass hS.2.1 (hW.free hS hA) hWm⟩
/-- what stays the same all through a method's walk -/
def hC (p : Program) (s : State) (m : MethodId) (args : Array Value) (meth : Method) (c : Code) (D : va_G) (ca G : Nat → Nat) (cc : ByteArray) (nL : Nat) (ret : Option FieldType) (own : String) (A : Nat → Prop) : Prop :=
  p.tables.exec = Jvm.exec ∧ c.code = cc ∧ meth.sig.returnType = ret ∧ c.maxLocals = nL ∧ s.vm.findClass own = some m.cls ∧ (∀ w ∈ BIG, w.before args s = true) ∧ meth.locks = false ∧ va_K D wCl (wTys ca) s ∧ (∀ q, s.heap.size ≤ q → A q) ∧ hZ G A s s.heap
abbrev wz (y : MethodName) (b : ByteArray) (n : Nat) (r : Option FieldType) : List Cond := .code y b n r :: BIG
/-- the world behind a method -/
abbrev hB (D : va_G) (M : hM) (sz : Nat) : hM → State → Prop := fun M' t => hw D wCl (hp_A M sz) M' t.heap
theorem gi_big : GoodIn BIG BIG := fun _ h => ⟨h, good_of_word (BIG_good h)⟩
theorem gi_c {w : Cond} {L : List Cond} (h : w ∈ BIG) (t : GoodIn BIG L) : GoodIn BIG (w :: L) := fun x hx => by
  rcases List.mem_cons.mp hx with rfl | hx
  · exact gi_big _ h
  · exact t x hx
theorem gi_z {y : MethodName} {b : ByteArray} {n : Nat} {r : Option FieldType} (h5 : Cond.code y b n r ∈ BIG) : GoodIn BIG (wz y b n r) := gi_c h5 gi_big
theorem gi_V {own C : String} {idx : Nat} {y : MethodName} {b : ByteArray} {n : Nat} {r : Option FieldType} (h1 : Cond.methodLink own idx y ∈ BIG) (h2 : Cond.instanceMethod y ∈ BIG) (h3 : Cond.selects C y y ∈ BIG) (h4 : Cond.initialized C ∈ BIG) (h5 : Cond.code y b n r ∈ BIG) : GoodIn BIG (wsV own idx C y (wz y b n r)) := gi_c h1 (gi_c h2 (gi_c h3 (gi_c h4 (gi_z h5))))
theorem gi_S {own : String} {idx : Nat} {y : MethodName} {b : ByteArray} {n : Nat} {r : Option FieldType} (h1 : Cond.methodLink own idx y ∈ BIG) (h2 : Cond.static y ∈ BIG) (h3 : Cond.initialized y.cls ∈ BIG) (h5 : Cond.code y b n r ∈ BIG) : GoodIn BIG (va_wsS own idx y (wz y b n r)) := gi_c h1 (gi_c h2 (gi_c h3 (gi_z h5)))
theorem hw_back {D : va_G} {A : Nat → Prop} {M M1 : hM} {sz : Nat} {t : State} {H1 : Heap} (hF : ∀ q, hp_A M sz q → A q) (ht : t.heap = H1) (h : hw D wCl (hp_A M sz) M1 t.heap) : hw D wCl A M1 H1 := by
  rw [← ht]
  exact h.weaken fun q _ hq => hF q hq
theorem hw_t {D : va_G} {A : Nat → Prop} {M : hM} {t : State} {H : Heap} (ht : t.heap = H) (h : hw D wCl A M H) : hw D wCl A M t.heap := by rw [ht]; exact h
theorem hw_recv {D : va_G} {ca : Nat → Nat} {A : Nat → Prop} {s : State} {M : hM} {H : Heap} {a ci : Nat} {fs : List Value} {q : vw_C} (hK : va_K D wCl (wTys ca) s) (hW : hw D wCl A M H) (h : M a = some (.inr (ci, fs))) (hc : wCl[ci]? = some q) : ∃ cell : Cell, H[a]? = some cell ∧ cell.vm.isStatics = false ∧ s.vm.findClass q.1 = some cell.cls :=
  va_recv hK (hw_one hW h) (ci := ci) (q0 := 0) hc rfl
/-! the parts of a weakest precondition -/
def gI (M : hM) (a ci k : Nat) (K : Int32 → Prop) : Prop := ∃ (fs : List Value) (v : Int32), M a = some (.inr (ci, fs)) ∧ fs[k]? = some (.int v) ∧ K v
def gD (M : hM) (a ci k : Nat) (K : UInt64 → Prop) : Prop := ∃ (fs : List Value) (v : UInt64), M a = some (.inr (ci, fs)) ∧ fs[k]? = some (.double v) ∧ K v
def gR (M : hM) (a ci k : Nat) (K : Option Nat → Prop) : Prop := ∃ (fs : List Value) (v : Option Nat), M a = some (.inr (ci, fs)) ∧ fs[k]? = some (va_rf v) ∧ K v
def pF (M : hM) (a ci k : Nat) (v : Value) (K : hM → Prop) : Prop := ∃ fs : List Value, M a = some (.inr (ci, fs)) ∧ k < fs.length ∧ K (va_up M a (some (.inr (ci, fs.set k v))))
def nN (r : Option Nat) (K : Nat → Prop) : Prop := ∃ a : Nat, r = some a ∧ K a
def aI (M : hM) (a : Nat) (cA : Nat) (i : Int32) (K : Int32 → Prop) : Prop := ∃ (n : Nat) (f : Nat → Int32), M a = some (.inl (cA, n, .inl f)) ∧ vp_in i n ∧ K (f i.toNatClampNeg)
def aD (M : hM) (a : Nat) (cA : Nat) (i : Int32) (K : UInt64 → Prop) : Prop := ∃ (n : Nat) (f : Nat → UInt64), M a = some (.inl (cA, n, .inr (.inr (.inr (.inl f))))) ∧ vp_in i n ∧ K (f i.toNatClampNeg)
def aR (M : hM) (a : Nat) (cA : Nat) (i : Int32) (K : Option Nat → Prop) : Prop := ∃ (n : Nat) (f : Nat → Option Nat), M a = some (.inl (cA, n, .inr (.inr (.inr (.inr f))))) ∧ vp_in i n ∧ K (f i.toNatClampNeg)
def sI (M : hM) (a : Nat) (cA : Nat) (i : Int32) (x : Int32) (K : hM → Prop) : Prop := ∃ (n : Nat) (f : Nat → Int32), M a = some (.inl (cA, n, .inl f)) ∧ vp_in i n ∧ K (va_up M a (some (.inl (cA, n, .inl (upd f i.toNatClampNeg x)))))
def sD (M : hM) (a : Nat) (cA : Nat) (i : Int32) (x : UInt64) (K : hM → Prop) : Prop := ∃ (n : Nat) (f : Nat → UInt64), M a = some (.inl (cA, n, .inr (.inr (.inr (.inl f))))) ∧ vp_in i n ∧ K (va_up M a (some (.inl (cA, n, .inr (.inr (.inr (.inl (vf_upd f i.toNatClampNeg x))))))))
def sJ (M : hM) (a : Nat) (cA : Nat) (i : Int32) (x : Int64) (K : hM → Prop) : Prop := ∃ (n : Nat) (f : Nat → Int64), M a = some (.inl (cA, n, .inr (.inl f))) ∧ vp_in i n ∧ K (va_up M a (some (.inl (cA, n, .inr (.inl (vp_updL f i.toNatClampNeg x))))))
/-- a reference r is laid into an array; an object of the world of class ci, or null -/
def sR (M : hM) (a : Nat) (cA : Nat) (i : Int32) (r : Option Nat) (ci : Nat) (K : hM → Prop) : Prop := ∃ (n : Nat) (f : Nat → Option Nat), M a = some (.inl (cA, n, .inr (.inr (.inr (.inr f))))) ∧ vp_in i n ∧ (∀ q, r = some q → ∃ fs, M q = some (.inr (ci, fs))) ∧ K (va_up M a (some (.inl (cA, n, .inr (.inr (.inr (.inr (va_up f i.toNatClampNeg r))))))))
def aL (M : hM) (a : Nat) (cA : Nat) (K : Int32 → Prop) : Prop := ∃ x : vp_A, M a = some (.inl (cA, x)) ∧ K (Int32.ofNat x.1)
def nO (M : hM) (e : va_E) (K : Nat → hM → Prop) : Prop := ∀ q : Nat, M q = none → K q (va_up M q (some e))
def bZ (v : Int32) (K : Prop) : Prop := (v = 0 ∨ v = 1) ∧ K
def nD (x : UInt64) (K : Prop) : Prop := vf_n64 x ∧ K
/-- the receiver of a call is an object of the world -/
def rC (M : hM) (a ci : Nat) (K : Prop) : Prop := (∃ fs : List Value, M a = some (.inr (ci, fs))) ∧ K
def cO (M : hM) (r : Option Nat) (ci : Nat) (K : Nat → Prop) : Prop := ∃ (a : Nat) (fs : List Value), r = some a ∧ M a = some (.inr (ci, fs)) ∧ K a
theorem nb_n {v : Int32} (h : v = 0 ∨ v = 1) : narrow .boolean (.int v) = .int v := by rcases h with rfl | rfl <;> decide
theorem nb_f {v : Int32} (h : v = 0 ∨ v = 1) : fits .boolean (.int v) = true := by rcases h with rfl | rfl <;> decide
theorem nb_v {v : Int32} (h : v = 0 ∨ v = 1) : vp_nar .boolean v = v := by rcases h with rfl | rfl <;> decide
theorem rf_n (C : String) (r : Option Nat) : narrow (.object C) (va_rf r) = va_rf r := by cases r <;> rfl
theorem rf_f (C : String) (r : Option Nat) : fits (.object C) (va_rf r) = true := by cases r <;> rfl
theorem ra_n (t : FieldType) (r : Option Nat) : narrow (.array t) (va_rf r) = va_rf r := by cases r <;> rfl
theorem ra_f (t : FieldType) (r : Option Nat) : fits (.array t) (va_rf r) = true := by cases r <;> rfl
section HQ
variable {p : Program} {l : Launch} {e : Env} {R : Room} {s : State} {m : MethodId} {args : Array Value} {below : List Frame} {meth : Method} {c : Code} {H : Heap} {locs : List Loc} {cells slots : Nat} {Q : State → Prop} {cc : ByteArray} {pc : Nat} {ls : Array Slot} {rest : List Value}
theorem lq_load_n (hx : p.tables.exec = Jvm.exec) (hb : c.code = cc) {k : Fin 4} {i : Nat} {r : Option Nat} (hdg : decode cc pc = .ok (.aload_n k, 1)) (hi : (k : Nat) = i) (hl : ls[i]? = some (.val (va_rf r)))
    (kk : W p l e R s m args below meth c H locs cells slots Q (F0 m (pc + 1) ls (va_rf r :: rest))) : W p l e R s m args below meth c H locs cells slots Q (F0 m pc ls rest) := by
  cases r with
  | none => exact lv_aload_nN hx hb hdg hi hl kk
  | some a => exact lv_aload_n hx hb hdg hi hl kk
theorem lq_load (hx : p.tables.exec = Jvm.exec) (hb : c.code = cc) {i : Nat} {r : Option Nat} (hdg : decode cc pc = .ok (.aload i, 2)) (hl : ls[i]? = some (.val (va_rf r)))
    (kk : W p l e R s m args below meth c H locs cells slots Q (F0 m (pc + 2) ls (va_rf r :: rest))) : W p l e R s m args below meth c H locs cells slots Q (F0 m pc ls rest) := by
  cases r with
  | none => exact lv_aloadN hx hb hdg hl kk
  | some a => exact lv_aload hx hb hdg hl kk
theorem lq_store_n (hx : p.tables.exec = Jvm.exec) (hb : c.code = cc) {k : Fin 4} {i nL : Nat} {r : Option Nat} {lv lv' : List (Nat × Value)} (hdg : decode cc pc = .ok (.astore_n k, 1)) (hi : (k : Nat) = i) (h : lv_has ls nL lv) (hn : i < nL) (hl : (i, va_rf r) :: lv.filter (fun q => !(q.1 == i) && !(q.1 + 1 == i && q.2.category == 2)) = lv')
    (kk : ∀ ls' : Array Slot, lv_has ls' nL lv' → W p l e R s m args below meth c H locs cells slots Q (F0 m (pc + 1) ls' rest)) : W p l e R s m args below meth c H locs cells slots Q (F0 m pc ls (va_rf r :: rest)) := by
  cases r with
  | none => exact lv_astore_nN hx hb hdg hi h hn hl kk
  | some a => exact lv_astore_n hx hb hdg hi h hn hl kk
theorem lq_store (hx : p.tables.exec = Jvm.exec) (hb : c.code = cc) {i nL : Nat} {r : Option Nat} {lv lv' : List (Nat × Value)} (hdg : decode cc pc = .ok (.astore i, 2)) (h : lv_has ls nL lv) (hn : i < nL) (hl : (i, va_rf r) :: lv.filter (fun q => !(q.1 == i) && !(q.1 + 1 == i && q.2.category == 2)) = lv')
    (kk : ∀ ls' : Array Slot, lv_has ls' nL lv' → W p l e R s m args below meth c H locs cells slots Q (F0 m (pc + 2) ls' rest)) : W p l e R s m args below meth c H locs cells slots Q (F0 m pc ls (va_rf r :: rest)) := by
  cases r with
  | none => exact lv_astoreN hx hb hdg h hn hl kk
  | some a => exact lv_astore hx hb hdg h hn hl kk
end HQ

/-! THE FRAME: tables of the classes; what a method is given; the parts of a weakest precondition and their rows. -/
def TCh : u_T := fun k => match k with
  | 0 => ("ChannelHall$Channel", "number", "I", true)
  | 1 => ("ChannelHall$Channel", "kind", "I", true)
  | 2 => ("ChannelHall$Channel", "room", "I", true)
  | 3 => ("ChannelHall$Channel", "parties", "I", true)
  | 4 => ("ChannelHall$Channel", "items", "Ljava/util/ArrayList;", true)
  | 5 => ("ChannelHall$Channel", "waiters", "Ljava/util/ArrayList;", true)
  | 6 => ("ChannelHall$Channel", "broken", "Z", false)
  | 7 => ("ChannelHall$Channel", "passed", "I", false)
  | 8 => ("ChannelHall$Channel", "staySum", "D", false)
  | _ => ("ChannelHall$Channel", "stays", "I", false)
def tCh : Nat → FieldType := fun k => match k with
  | 0 => .int
  | 1 => .int
  | 2 => .int
  | 3 => .int
  | 4 => .object "java/util/ArrayList"
  | 5 => .object "java/util/ArrayList"
  | 6 => .boolean
  | 7 => .int
  | 8 => .double
  | _ => .int
theorem nCh : ∀ a, a < 10 → ∀ b, b < 10 → a ≠ b → (TCh a).2.1 ≠ (TCh b).2.1 := by decide +kernel
theorem tCh_ok : ∀ k, k < 10 → parseFieldDescriptor (TCh k).2.2.1 = some (tCh k) := by decide +kernel
theorem uCh : ∀ w ∈ u_ws "ChannelHall$Channel" TCh 10, w ∈ BIG := List.forall_mem_cons.mpr ⟨bw_270, List.forall_mem_cons.mpr ⟨bw_272, List.forall_mem_cons.mpr ⟨bw_274, List.forall_mem_cons.mpr ⟨bw_276, List.forall_mem_cons.mpr ⟨bw_278, List.forall_mem_cons.mpr ⟨bw_280, List.forall_mem_cons.mpr ⟨bw_282, List.forall_mem_cons.mpr ⟨bw_284, List.forall_mem_cons.mpr ⟨bw_286, List.forall_mem_cons.mpr ⟨bw_288, fun _ h => absurd h List.not_mem_nil⟩⟩⟩⟩⟩⟩⟩⟩⟩⟩
def TIt : u_T := fun k => match k with
  | 0 => ("ChannelHall$Item", "value", "I", true)
  | 1 => ("ChannelHall$Item", "key", "D", true)
  | _ => ("ChannelHall$Item", "since", "D", true)
def tIt : Nat → FieldType := fun k => match k with
  | 0 => .int
  | 1 => .double
  | _ => .double
theorem nIt : ∀ a, a < 3 → ∀ b, b < 3 → a ≠ b → (TIt a).2.1 ≠ (TIt b).2.1 := by decide +kernel
theorem tIt_ok : ∀ k, k < 3 → parseFieldDescriptor (TIt k).2.2.1 = some (tIt k) := by decide +kernel
theorem uIt : ∀ w ∈ u_ws "ChannelHall$Item" TIt 3, w ∈ BIG := List.forall_mem_cons.mpr ⟨bw_489, List.forall_mem_cons.mpr ⟨bw_491, List.forall_mem_cons.mpr ⟨bw_493, fun _ h => absurd h List.not_mem_nil⟩⟩⟩
def TWo : u_T := fun k => match k with
  | 0 => ("ChannelHall$Worker", "number", "I", true)
  | 1 => ("ChannelHall$Worker", "flagged", "Z", false)
  | 2 => ("ChannelHall$Worker", "outcome", "I", false)
  | 3 => ("ChannelHall$Worker", "hasGot", "Z", false)
  | 4 => ("ChannelHall$Worker", "gotValue", "I", false)
  | 5 => ("ChannelHall$Worker", "place", "LChannelHall$Channel;", false)
  | 6 => ("ChannelHall$Worker", "role", "LChannelHall$Role;", false)
  | 7 => ("ChannelHall$Worker", "offeredValue", "I", false)
  | 8 => ("ChannelHall$Worker", "offeredKey", "D", false)
  | 9 => ("ChannelHall$Worker", "hasEnd", "Z", false)
  | _ => ("ChannelHall$Worker", "end", "D", false)
def tWo : Nat → FieldType := fun k => match k with
  | 0 => .int
  | 1 => .boolean
  | 2 => .int
  | 3 => .boolean
  | 4 => .int
  | 5 => .object "ChannelHall$Channel"
  | 6 => .object "ChannelHall$Role"
  | 7 => .int
  | 8 => .double
  | 9 => .boolean
  | _ => .double
theorem nWo : ∀ a, a < 11 → ∀ b, b < 11 → a ≠ b → (TWo a).2.1 ≠ (TWo b).2.1 := by decide +kernel
theorem tWo_ok : ∀ k, k < 11 → parseFieldDescriptor (TWo k).2.2.1 = some (tWo k) := by decide +kernel
theorem uWo : ∀ w ∈ u_ws "ChannelHall$Worker" TWo 11, w ∈ BIG := List.forall_mem_cons.mpr ⟨bw_77, List.forall_mem_cons.mpr ⟨bw_79, List.forall_mem_cons.mpr ⟨bw_81, List.forall_mem_cons.mpr ⟨bw_83, List.forall_mem_cons.mpr ⟨bw_85, List.forall_mem_cons.mpr ⟨bw_87, List.forall_mem_cons.mpr ⟨bw_89, List.forall_mem_cons.mpr ⟨bw_91, List.forall_mem_cons.mpr ⟨bw_93, List.forall_mem_cons.mpr ⟨bw_95, List.forall_mem_cons.mpr ⟨bw_97, fun _ h => absurd h List.not_mem_nil⟩⟩⟩⟩⟩⟩⟩⟩⟩⟩⟩
def THa : u_T := fun k => match k with
  | 0 => ("ChannelHall", "workers", "[LChannelHall$Worker;", true)
  | 1 => ("ChannelHall", "channels", "[LChannelHall$Channel;", true)
  | 2 => ("ChannelHall", "made", "I", false)
  | _ => ("ChannelHall", "now", "D", false)
def tHa : Nat → FieldType := fun k => match k with
  | 0 => .array (.object "ChannelHall$Worker")
  | 1 => .array (.object "ChannelHall$Channel")
  | 2 => .int
  | _ => .double
theorem nHa : ∀ a, a < 4 → ∀ b, b < 4 → a ≠ b → (THa a).2.1 ≠ (THa b).2.1 := by decide +kernel
theorem tHa_ok : ∀ k, k < 4 → parseFieldDescriptor (THa k).2.2.1 = some (tHa k) := by decide +kernel
theorem uHa : ∀ w ∈ u_ws "ChannelHall" THa 4, w ∈ BIG := List.forall_mem_cons.mpr ⟨bw_104, List.forall_mem_cons.mpr ⟨bw_106, List.forall_mem_cons.mpr ⟨bw_108, List.forall_mem_cons.mpr ⟨bw_110, fun _ h => absurd h List.not_mem_nil⟩⟩⟩⟩
def TAl : u_T := fun k => match k with
  | 0 => ("java/util/ArrayList", "elementData", "[Ljava/lang/Object;", false)
  | 1 => ("java/util/ArrayList", "size", "I", false)
  | _ => ("java/util/AbstractList", "modCount", "I", false)
def tAl : Nat → FieldType := fun k => match k with
  | 0 => .array (.object "java/lang/Object")
  | 1 => .int
  | _ => .int
theorem nAl : ∀ a, a < 3 → ∀ b, b < 3 → a ≠ b → (TAl a).2.1 ≠ (TAl b).2.1 := by decide +kernel
theorem tAl_ok : ∀ k, k < 3 → parseFieldDescriptor (TAl k).2.2.1 = some (tAl k) := by decide +kernel
theorem uAl : ∀ w ∈ u_ws "java/util/ArrayList" TAl 3, w ∈ BIG := List.forall_mem_cons.mpr ⟨bw_241, List.forall_mem_cons.mpr ⟨bw_243, List.forall_mem_cons.mpr ⟨bw_245, fun _ h => absurd h List.not_mem_nil⟩⟩⟩
def TMo : u_T := fun k => match k with
  | 0 => ("ChannelHallModel", "failed", "I", false)
  | 1 => ("ChannelHallModel", "blocked", "[Z", true)
  | 2 => ("ChannelHallModel", "flag", "[Z", true)
  | 3 => ("ChannelHallModel", "outcome", "[I", true)
  | 4 => ("ChannelHallModel", "hasGot", "[Z", true)
  | 5 => ("ChannelHallModel", "got", "[I", true)
  | 6 => ("ChannelHallModel", "waitsAt", "[I", true)
  | 7 => ("ChannelHallModel", "role", "[I", true)
  | 8 => ("ChannelHallModel", "gift", "[I", true)
  | 9 => ("ChannelHallModel", "giftRank", "[D", true)
  | 10 => ("ChannelHallModel", "giftDue", "[D", true)
  | 11 => ("ChannelHallModel", "end", "[D", true)
  | 12 => ("ChannelHallModel", "time", "D", false)
  | 13 => ("ChannelHallModel", "kind", "[I", true)
  | 14 => ("ChannelHallModel", "room", "[I", true)
  | 15 => ("ChannelHallModel", "broken", "[Z", true)
  | 16 => ("ChannelHallModel", "passed", "[I", true)
  | 17 => ("ChannelHallModel", "row", "[I", true)
  | 18 => ("ChannelHallModel", "waiters", "[I", true)
  | 19 => ("ChannelHallModel", "value", "[I", true)
  | 20 => ("ChannelHallModel", "rank", "[D", true)
  | 21 => ("ChannelHallModel", "due", "[D", true)
  | 22 => ("ChannelHallModel", "in", "[D", true)
  | 23 => ("ChannelHallModel", "items", "[I", true)
  | 24 => ("ChannelHallModel", "staySum", "[D", true)
  | _ => ("ChannelHallModel", "stayCount", "[I", true)
def tMo : Nat → FieldType := fun k => match k with
  | 0 => .int
  | 1 => .array .boolean
  | 2 => .array .boolean
  | 3 => .array .int
  | 4 => .array .boolean
  | 5 => .array .int
  | 6 => .array .int
  | 7 => .array .int
  | 8 => .array .int
  | 9 => .array .double
  | 10 => .array .double
  | 11 => .array .double
  | 12 => .double
  | 13 => .array .int
  | 14 => .array .int
  | 15 => .array .boolean
  | 16 => .array .int
  | 17 => .array .int
  | 18 => .array .int
  | 19 => .array .int
  | 20 => .array .double
  | 21 => .array .double
  | 22 => .array .double
  | 23 => .array .int
  | 24 => .array .double
  | _ => .array .int
theorem nMo : ∀ a, a < 26 → ∀ b, b < 26 → a ≠ b → (TMo a).2.1 ≠ (TMo b).2.1 := by decide +kernel
theorem tMo_ok : ∀ k, k < 26 → parseFieldDescriptor (TMo k).2.2.1 = some (tMo k) := by decide +kernel
theorem uMo : ∀ w ∈ u_ws "ChannelHallModel" TMo 26, w ∈ BIG := List.forall_mem_cons.mpr ⟨bw_1000, List.forall_mem_cons.mpr ⟨bw_1002, List.forall_mem_cons.mpr ⟨bw_1004, List.forall_mem_cons.mpr ⟨bw_1006, List.forall_mem_cons.mpr ⟨bw_1008, List.forall_mem_cons.mpr ⟨bw_1010, List.forall_mem_cons.mpr ⟨bw_1012, List.forall_mem_cons.mpr ⟨bw_1014, List.forall_mem_cons.mpr ⟨bw_1016, List.forall_mem_cons.mpr ⟨bw_1018, List.forall_mem_cons.mpr ⟨bw_1020, List.forall_mem_cons.mpr ⟨bw_1022, List.forall_mem_cons.mpr ⟨bw_1024, List.forall_mem_cons.mpr ⟨bw_1026, List.forall_mem_cons.mpr ⟨bw_1028, List.forall_mem_cons.mpr ⟨bw_1030, List.forall_mem_cons.mpr ⟨bw_1032, List.forall_mem_cons.mpr ⟨bw_1034, List.forall_mem_cons.mpr ⟨bw_1036, List.forall_mem_cons.mpr ⟨bw_1038, List.forall_mem_cons.mpr ⟨bw_1040, List.forall_mem_cons.mpr ⟨bw_1042, List.forall_mem_cons.mpr ⟨bw_1044, List.forall_mem_cons.mpr ⟨bw_1046, List.forall_mem_cons.mpr ⟨bw_1048, List.forall_mem_cons.mpr ⟨bw_1050, fun _ h => absurd h List.not_mem_nil⟩⟩⟩⟩⟩⟩⟩⟩⟩⟩⟩⟩⟩⟩⟩⟩⟩⟩⟩⟩⟩⟩⟩⟩⟩⟩
abbrev wCl : List vw_C := [("ChannelHall$Channel", TCh, 10), ("ChannelHall$Item", TIt, 3), ("ChannelHall$Worker", TWo, 11), ("ChannelHall", THa, 4), ("java/util/ArrayList", TAl, 3), ("ChannelHallModel", TMo, 26)]
/-- words that the tables keep, but not by rule -/
def NG : List Cond := [.arrayOver (.object "ChannelHall$Worker"), .arrayOver (.object "ChannelHall$Channel"), .castable "java/lang/IllegalArgumentException" "java/lang/IllegalArgumentException", .declares ⟨"java/lang/RuntimeException", "<init>", "()V"⟩, .declares ⟨"java/lang/Exception", "<init>", "()V"⟩, .declares ⟨"java/lang/Throwable", "<init>", "()V"⟩, .castable "java/lang/IllegalStateException" "java/lang/IllegalStateException", .castable "java/util/NoSuchElementException" "java/util/NoSuchElementException", .castable "java/lang/UnsupportedOperationException" "java/lang/UnsupportedOperationException", .arrayOver (.object "java/lang/Object"), .castable "java/lang/IndexOutOfBoundsException" "java/lang/IndexOutOfBoundsException", .castable "[B" "java/lang/Cloneable", .castable "java/lang/ArithmeticException" "java/lang/ArithmeticException", .castable "ChannelHall$Worker" "ChannelHall$Worker", .castable "ChannelHall$Item" "ChannelHall$Item", .declares ⟨"java/lang/Object", "getClass", "()Ljava/lang/Class;"⟩, .castable "ChannelHall" "java/lang/Object", .castable "ChannelHall$Worker" "java/lang/Object", .castable "ChannelHallModel" "java/lang/Object", .castable "ChannelHall$Channel" "java/lang/Object", .castable "ChannelHall$Item" "java/lang/Object", .castable "ChannelHall$Role" "java/lang/Object"]
def hN (U : State) : Prop := ∀ w ∈ NG, va_Nw w U
theorem hN.warm {s U : State} (hW : s.WarmedH U.vm) (h : hN s) : hN U := List.forall_mem_cons.mpr ⟨va_AO.moved hW.alike (h _ (by decide)), List.forall_mem_cons.mpr ⟨va_AO.moved hW.alike (h _ (by decide)), List.forall_mem_cons.mpr ⟨va_Nw.warmC hW (h _ (by decide)), List.forall_mem_cons.mpr ⟨va_Nw.warmD hW (h _ (by decide)), List.forall_mem_cons.mpr ⟨va_Nw.warmD hW (h _ (by decide)), List.forall_mem_cons.mpr ⟨va_Nw.warmD hW (h _ (by decide)), List.forall_mem_cons.mpr ⟨va_Nw.warmC hW (h _ (by decide)), List.forall_mem_cons.mpr ⟨va_Nw.warmC hW (h _ (by decide)), List.forall_mem_cons.mpr ⟨va_Nw.warmC hW (h _ (by decide)), List.forall_mem_cons.mpr ⟨va_AO.moved hW.alike (h _ (by decide)), List.forall_mem_cons.mpr ⟨va_Nw.warmC hW (h _ (by decide)), List.forall_mem_cons.mpr ⟨va_Nw.warmC hW (h _ (by decide)), List.forall_mem_cons.mpr ⟨va_Nw.warmC hW (h _ (by decide)), List.forall_mem_cons.mpr ⟨va_Nw.warmC hW (h _ (by decide)), List.forall_mem_cons.mpr ⟨va_Nw.warmC hW (h _ (by decide)), List.forall_mem_cons.mpr ⟨va_Nw.warmD hW (h _ (by decide)), List.forall_mem_cons.mpr ⟨va_Nw.warmC hW (h _ (by decide)), List.forall_mem_cons.mpr ⟨va_Nw.warmC hW (h _ (by decide)), List.forall_mem_cons.mpr ⟨va_Nw.warmC hW (h _ (by decide)), List.forall_mem_cons.mpr ⟨va_Nw.warmC hW (h _ (by decide)), List.forall_mem_cons.mpr ⟨va_Nw.warmC hW (h _ (by decide)), List.forall_mem_cons.mpr ⟨va_Nw.warmC hW (h _ (by decide)), fun _ h => absurd h List.not_mem_nil⟩⟩⟩⟩⟩⟩⟩⟩⟩⟩⟩⟩⟩⟩⟩⟩⟩⟩⟩⟩⟩⟩
theorem vm_al {u U : State} (e : u.vm = U.vm) : u.vm.Alike U.vm := by rw [← e]; exact Vm.Alike.refl _
theorem hN.same {u U : State} (e : u.vm = U.vm) (h : hN u) : hN U := List.forall_mem_cons.mpr ⟨va_AO.moved (vm_al e) (h _ (by decide)), List.forall_mem_cons.mpr ⟨va_AO.moved (vm_al e) (h _ (by decide)), List.forall_mem_cons.mpr ⟨va_Nw.same rfl e (h _ (by decide)), List.forall_mem_cons.mpr ⟨va_Nw.same rfl e (h _ (by decide)), List.forall_mem_cons.mpr ⟨va_Nw.same rfl e (h _ (by decide)), List.forall_mem_cons.mpr ⟨va_Nw.same rfl e (h _ (by decide)), List.forall_mem_cons.mpr ⟨va_Nw.same rfl e (h _ (by decide)), List.forall_mem_cons.mpr ⟨va_Nw.same rfl e (h _ (by decide)), List.forall_mem_cons.mpr ⟨va_Nw.same rfl e (h _ (by decide)), List.forall_mem_cons.mpr ⟨va_AO.moved (vm_al e) (h _ (by decide)), List.forall_mem_cons.mpr ⟨va_Nw.same rfl e (h _ (by decide)), List.forall_mem_cons.mpr ⟨va_Nw.same rfl e (h _ (by decide)), List.forall_mem_cons.mpr ⟨va_Nw.same rfl e (h _ (by decide)), List.forall_mem_cons.mpr ⟨va_Nw.same rfl e (h _ (by decide)), List.forall_mem_cons.mpr ⟨va_Nw.same rfl e (h _ (by decide)), List.forall_mem_cons.mpr ⟨va_Nw.same rfl e (h _ (by decide)), List.forall_mem_cons.mpr ⟨va_Nw.same rfl e (h _ (by decide)), List.forall_mem_cons.mpr ⟨va_Nw.same rfl e (h _ (by decide)), List.forall_mem_cons.mpr ⟨va_Nw.same rfl e (h _ (by decide)), List.forall_mem_cons.mpr ⟨va_Nw.same rfl e (h _ (by decide)), List.forall_mem_cons.mpr ⟨va_Nw.same rfl e (h _ (by decide)), List.forall_mem_cons.mpr ⟨va_Nw.same rfl e (h _ (by decide)), fun _ h => absurd h List.not_mem_nil⟩⟩⟩⟩⟩⟩⟩⟩⟩⟩⟩⟩⟩⟩⟩⟩⟩⟩⟩⟩⟩⟩
/-- the array classes: which is which -/
abbrev wTys (ca : Nat → Nat) : List (ClassId × FieldType) := [(ca 0, .object "ChannelHall$Worker"), (ca 1, .object "ChannelHall$Channel"), (ca 2, .object "java/lang/Object"), (ca 3, .long), (ca 4, .double), (ca 5, .int), (ca 6, .boolean)]
/-- an array of no places that nobody writes -/
def hE (t : Nat) (A : Nat → Prop) (U : State) (H : Heap) : Prop := ∃ cell : Cell, H[t]? = some cell ∧ U.isArrayOf cell (.object "java/lang/Object") ∧ cell.slots.size = 0 ∧ ¬ A t
theorem hE.moved {t : Nat} {A : Nat → Prop} {u U : State} {H : Heap} (hvm : u.vm.Alike U.vm) (h : hE t A u H) : hE t A U H := by
  obtain ⟨cell, h1, h2, h3, h4⟩ := h
  exact ⟨cell, h1, State.isArrayOf_alike hvm h2, h3, h4⟩
theorem hE.kept {t : Nat} {A : Nat → Prop} {U : State} {H H1 : Heap} (h : hE t A U H) (hq : ∀ a : Nat, a < H.size → ¬ A a → H1[a]? = H[a]?) : hE t A U H1 := by
  obtain ⟨cell, h1, h2, h3, h4⟩ := h
  exact ⟨cell, by rw [hq t (Array.getElem?_eq_some_iff.mp h1).1 h4]; exact h1, h2, h3, h4⟩
theorem hE.narrow {t : Nat} {A B : Nat → Prop} {U : State} {H : Heap} (h : hE t A U H) (hAB : ∀ q, B q → A q) : hE t B U H := by
  obtain ⟨cell, h1, h2, h3, h4⟩ := h
  exact ⟨cell, h1, h2, h3, fun z => h4 (hAB _ z)⟩
/-- the statics that are read: the three roles, the empty table of a list, what a throw reads -/
def hZ (G : Nat → Nat) (A : Nat → Prop) (U : State) (H : Heap) : Prop :=
  va_Z "ChannelHall$Role" "GIVER" "LChannelHall$Role;" (.ref (G 0)) A U H ∧ va_Z "ChannelHall$Role" "TAKER" "LChannelHall$Role;" (.ref (G 1)) A U H ∧ va_Z "ChannelHall$Role" "PARTNER" "LChannelHall$Role;" (.ref (G 2)) A U H ∧
  va_Z "java/util/ArrayList" "DEFAULTCAPACITY_EMPTY_ELEMENTDATA" "[Ljava/lang/Object;" (.ref (G 3)) A U H ∧
  vx_Zq Bundle.tN "UNASSIGNED_STACK" Bundle.steD A U H ∧ vx_Zq Bundle.tN "SUPPRESSED_SENTINEL" Bundle.listD A U H ∧ hN U ∧ hE (G 3) A U H ∧ va_Mi "[Ljava/lang/Object;" (G 4) U ∧ va_Dc U
theorem hZ.pass {G : Nat → Nat} {A B : Nat → Prop} {s U : State} {H : Heap} (h : hZ G A s s.heap) (hq : ∀ a : Nat, a < s.heap.size → ¬ A a → H[a]? = s.heap[a]?) (hB : ∀ q, B q → A q) (hW : s.WarmedH U.vm) : hZ G B U H := by
  obtain ⟨h1, h2, h3, h4, h5, h6, h7, h8, h9, h10⟩ := h
  exact ⟨((h1.kept hq).narrow hB).moved hW.alike, ((h2.kept hq).narrow hB).moved hW.alike, ((h3.kept hq).narrow hB).moved hW.alike, ((h4.kept hq).narrow hB).moved hW.alike, ((h5.kept hq).narrow hB).moved hW.alike, ((h6.kept hq).narrow hB).moved hW.alike, h7.warm hW, ((h8.kept hq).narrow hB).moved hW.alike, h9.moved hW.alike, h10.moved hW.alike⟩
theorem hZ.same {G : Nat → Nat} {A : Nat → Prop} {u U : State} {H : Heap} (e : u.vm = U.vm) (h : hZ G A u H) : hZ G A U H := by
  obtain ⟨h1, h2, h3, h4, h5, h6, h7, h8, h9, h10⟩ := h
  have a : u.vm.Alike U.vm := by rw [← e]; exact Vm.Alike.refl _
  exact ⟨h1.moved a, h2.moved a, h3.moved a, h4.moved a, h5.moved a, h6.moved a, h7.same e, h8.moved a, h9.moved a, h10.moved a⟩
/-- what a method is given: the world M in a heap of sz cells -/
def hI (D : va_G) (ca G : Nat → Nat) (sz : Nat) (M : hM) (U : State) : Prop :=
  U.heap.size = sz ∧ hw D wCl (hp_A M sz) M U.heap ∧ va_K D wCl (wTys ca) U ∧ hZ G (hp_A M sz) U U.heap
theorem hI.blind {D : va_G} {ca G : Nat → Nat} {sz : Nat} {M : hM} {av : List Value} : FrameBlind (va_Pc av (hI D ca G sz M)) := by
  intro a U g mk q
  obtain ⟨q0, q1, qP, qK, qZ⟩ := q
  exact ⟨q0, q1, qP, va_K.moved (u := U) (U := U.calling g mk a) (Vm.Alike.refl U.vm) qK, qZ.same (rfl : U.vm = (U.calling g mk a).vm)⟩
theorem hI.give {D : va_G} {ca G : Nat → Nat} {A : Nat → Prop} {s : State} {M : hM} {H : Heap} {locs : List Loc} {av : List Value} (hW : hw D wCl A M H) (hS : va_S A s.heap H locs) (hA : ∀ q, s.heap.size ≤ q → A q) (hK : va_K D wCl (wTys ca) s) (hZ0 : hZ G A s s.heap) :
    ∀ U : State, U.heap = H → s.WarmedH U.vm → va_Pc av (hI D ca G H.size M) av.toArray U := by
  intro U hU hWm
  exact ⟨rfl, by rw [hU], by rw [hU]; exact hW.self _, va_K.moved hWm.alike hK, by rw [hU]; exact hZ0.pass hS.2.1 (hW.free hS hA) hWm⟩
/-- what stays the same all through a method's walk -/
def hC (p : Program) (s : State) (m : MethodId) (args : Array Value) (meth : Method) (c : Code) (D : va_G) (ca G : Nat → Nat) (cc : ByteArray) (nL : Nat) (ret : Option FieldType) (own : String) (A : Nat → Prop) : Prop :=
  p.tables.exec = Jvm.exec ∧ c.code = cc ∧ meth.sig.returnType = ret ∧ c.maxLocals = nL ∧ s.vm.findClass own = some m.cls ∧ (∀ w ∈ BIG, w.before args s = true) ∧ meth.locks = false ∧ va_K D wCl (wTys ca) s ∧ (∀ q, s.heap.size ≤ q → A q) ∧ hZ G A s s.heap
abbrev wz (y : MethodName) (b : ByteArray) (n : Nat) (r : Option FieldType) : List Cond := .code y b n r :: BIG
/-- the world behind a method -/
abbrev hB (D : va_G) (M : hM) (sz : Nat) : hM → State → Prop := fun M' t => hw D wCl (hp_A M sz) M' t.heap
theorem gi_big : GoodIn BIG BIG := fun _ h => ⟨h, good_of_word (BIG_good h)⟩
theorem gi_c {w : Cond} {L : List Cond} (h : w ∈ BIG) (t : GoodIn BIG L) : GoodIn BIG (w :: L) := fun x hx => by
  rcases List.mem_cons.mp hx with rfl | hx
  · exact gi_big _ h
  · exact t x hx
theorem gi_z {y : MethodName} {b : ByteArray} {n : Nat} {r : Option FieldType} (h5 : Cond.code y b n r ∈ BIG) : GoodIn BIG (wz y b n r) := gi_c h5 gi_big
theorem gi_V {own C : String} {idx : Nat} {y : MethodName} {b : ByteArray} {n : Nat} {r : Option FieldType} (h1 : Cond.methodLink own idx y ∈ BIG) (h2 : Cond.instanceMethod y ∈ BIG) (h3 : Cond.selects C y y ∈ BIG) (h4 : Cond.initialized C ∈ BIG) (h5 : Cond.code y b n r ∈ BIG) : GoodIn BIG (wsV own idx C y (wz y b n r)) := gi_c h1 (gi_c h2 (gi_c h3 (gi_c h4 (gi_z h5))))
theorem gi_S {own : String} {idx : Nat} {y : MethodName} {b : ByteArray} {n : Nat} {r : Option FieldType} (h1 : Cond.methodLink own idx y ∈ BIG) (h2 : Cond.static y ∈ BIG) (h3 : Cond.initialized y.cls ∈ BIG) (h5 : Cond.code y b n r ∈ BIG) : GoodIn BIG (va_wsS own idx y (wz y b n r)) := gi_c h1 (gi_c h2 (gi_c h3 (gi_z h5)))
theorem hw_back {D : va_G} {A : Nat → Prop} {M M1 : hM} {sz : Nat} {t : State} {H1 : Heap} (hF : ∀ q, hp_A M sz q → A q) (ht : t.heap = H1) (h : hw D wCl (hp_A M sz) M1 t.heap) : hw D wCl A M1 H1 := by
  rw [← ht]
  exact h.weaken fun q _ hq => hF q hq
theorem hw_t {D : va_G} {A : Nat → Prop} {M : hM} {t : State} {H : Heap} (ht : t.heap = H) (h : hw D wCl A M H) : hw D wCl A M t.heap := by rw [ht]; exact h
theorem hw_recv {D : va_G} {ca : Nat → Nat} {A : Nat → Prop} {s : State} {M : hM} {H : Heap} {a ci : Nat} {fs : List Value} {q : vw_C} (hK : va_K D wCl (wTys ca) s) (hW : hw D wCl A M H) (h : M a = some (.inr (ci, fs))) (hc : wCl[ci]? = some q) : ∃ cell : Cell, H[a]? = some cell ∧ cell.vm.isStatics = false ∧ s.vm.findClass q.1 = some cell.cls :=
  va_recv hK (hw_one hW h) (ci := ci) (q0 := 0) hc rfl
/-! the parts of a weakest precondition -/
def gI (M : hM) (a ci k : Nat) (K : Int32 → Prop) : Prop := ∃ (fs : List Value) (v : Int32), M a = some (.inr (ci, fs)) ∧ fs[k]? = some (.int v) ∧ K v
def gD (M : hM) (a ci k : Nat) (K : UInt64 → Prop) : Prop := ∃ (fs : List Value) (v : UInt64), M a = some (.inr (ci, fs)) ∧ fs[k]? = some (.double v) ∧ K v
def gR (M : hM) (a ci k : Nat) (K : Option Nat → Prop) : Prop := ∃ (fs : List Value) (v : Option Nat), M a = some (.inr (ci, fs)) ∧ fs[k]? = some (va_rf v) ∧ K v
def pF (M : hM) (a ci k : Nat) (v : Value) (K : hM → Prop) : Prop := ∃ fs : List Value, M a = some (.inr (ci, fs)) ∧ k < fs.length ∧ K (va_up M a (some (.inr (ci, fs.set k v))))
def nN (r : Option Nat) (K : Nat → Prop) : Prop := ∃ a : Nat, r = some a ∧ K a
def aI (M : hM) (a : Nat) (cA : Nat) (i : Int32) (K : Int32 → Prop) : Prop := ∃ (n : Nat) (f : Nat → Int32), M a = some (.inl (cA, n, .inl f)) ∧ vp_in i n ∧ K (f i.toNatClampNeg)
def aD (M : hM) (a : Nat) (cA : Nat) (i : Int32) (K : UInt64 → Prop) : Prop := ∃ (n : Nat) (f : Nat → UInt64), M a = some (.inl (cA, n, .inr (.inr (.inr (.inl f))))) ∧ vp_in i n ∧ K (f i.toNatClampNeg)
def aR (M : hM) (a : Nat) (cA : Nat) (i : Int32) (K : Option Nat → Prop) : Prop := ∃ (n : Nat) (f : Nat → Option Nat), M a = some (.inl (cA, n, .inr (.inr (.inr (.inr f))))) ∧ vp_in i n ∧ K (f i.toNatClampNeg)
def sI (M : hM) (a : Nat) (cA : Nat) (i : Int32) (x : Int32) (K : hM → Prop) : Prop := ∃ (n : Nat) (f : Nat → Int32), M a = some (.inl (cA, n, .inl f)) ∧ vp_in i n ∧ K (va_up M a (some (.inl (cA, n, .inl (upd f i.toNatClampNeg x)))))
def sD (M : hM) (a : Nat) (cA : Nat) (i : Int32) (x : UInt64) (K : hM → Prop) : Prop := ∃ (n : Nat) (f : Nat → UInt64), M a = some (.inl (cA, n, .inr (.inr (.inr (.inl f))))) ∧ vp_in i n ∧ K (va_up M a (some (.inl (cA, n, .inr (.inr (.inr (.inl (vf_upd f i.toNatClampNeg x))))))))
def sJ (M : hM) (a : Nat) (cA : Nat) (i : Int32) (x : Int64) (K : hM → Prop) : Prop := ∃ (n : Nat) (f : Nat → Int64), M a = some (.inl (cA, n, .inr (.inl f))) ∧ vp_in i n ∧ K (va_up M a (some (.inl (cA, n, .inr (.inl (vp_updL f i.toNatClampNeg x))))))
/-- a reference r is laid into an array; an object of the world of a class that C names, or null -/
def sR (M : hM) (a : Nat) (cA : Nat) (i : Int32) (r : Option Nat) (C : Nat → Prop) (K : hM → Prop) : Prop := ∃ (n : Nat) (f : Nat → Option Nat), M a = some (.inl (cA, n, .inr (.inr (.inr (.inr f))))) ∧ vp_in i n ∧ (∀ q, r = some q → ∃ (ci : Nat) (fs : List Value), M q = some (.inr (ci, fs)) ∧ C ci) ∧ K (va_up M a (some (.inl (cA, n, .inr (.inr (.inr (.inr (va_up f i.toNatClampNeg r))))))))
/-- the length of a list's table, which may be the empty one that all new lists share -/
def aZ (G : Nat → Nat) (M : hM) (a : Nat) (cA : Nat) (K : Int32 → Prop) : Prop := (∃ x : vp_A, M a = some (.inl (cA, x)) ∧ K (Int32.ofNat x.1)) ∨ (a = G 3 ∧ K 0)
/-- System.arraycopy of references: objects of one class, or null -/
def cQ (M : hM) (a0 a : Nat) (cA : Nat) (sp dp n : Int32) (K : hM → Prop) : Prop := ∃ (n0 n1 : Nat) (f g : Nat → Option Nat), M a0 = some (.inl (cA, n0, .inr (.inr (.inr (.inr f))))) ∧ M a = some (.inl (cA, n1, .inr (.inr (.inr (.inr g))))) ∧ ¬ sp < 0 ∧ ¬ dp < 0 ∧ ¬ n < 0 ∧ sp.toNatClampNeg + n.toNatClampNeg ≤ n0 ∧ dp.toNatClampNeg + n.toNatClampNeg ≤ n1 ∧
  (∃ ci : Nat, (ci = 1 ∨ ci = 2) ∧ ∀ i : Nat, i < n.toNatClampNeg → ∀ y : Nat, f (sp.toNatClampNeg + i) = some y → ∃ fs : List Value, M y = some (.inr (ci, fs))) ∧
  K (va_up M a (some (.inl (cA, n1, .inr (.inr (.inr (.inr (va_cpy f g sp.toNatClampNeg dp.toNatClampNeg n.toNatClampNeg))))))))
/-- a new array of n places, at most B -/
def nA (M : hM) (n : Int32) (B : Nat) (e : Nat → va_E) (K : Nat → hM → Prop) : Prop := ¬ n < 0 ∧ n.toNatClampNeg ≤ B ∧ ∀ q : Nat, M q = none → K q (va_up M q (some (e n.toNatClampNeg)))
def aL (M : hM) (a : Nat) (cA : Nat) (K : Int32 → Prop) : Prop := ∃ x : vp_A, M a = some (.inl (cA, x)) ∧ K (Int32.ofNat x.1)
def nO (M : hM) (e : va_E) (K : Nat → hM → Prop) : Prop := ∀ q : Nat, M q = none → K q (va_up M q (some e))
def bZ (v : Int32) (K : Prop) : Prop := (v = 0 ∨ v = 1) ∧ K
def nD (x : UInt64) (K : Prop) : Prop := vf_n64 x ∧ K
/-- the receiver of a call is an object of the world -/
def rC (M : hM) (a ci : Nat) (K : Prop) : Prop := (∃ fs : List Value, M a = some (.inr (ci, fs))) ∧ K
def cO (M : hM) (r : Option Nat) (ci : Nat) (K : Nat → Prop) : Prop := ∃ (a : Nat) (fs : List Value), r = some a ∧ M a = some (.inr (ci, fs)) ∧ K a
theorem nb_n {v : Int32} (h : v = 0 ∨ v = 1) : narrow .boolean (.int v) = .int v := by rcases h with rfl | rfl <;> decide
theorem nb_f {v : Int32} (h : v = 0 ∨ v = 1) : fits .boolean (.int v) = true := by rcases h with rfl | rfl <;> decide
theorem nb_v {v : Int32} (h : v = 0 ∨ v = 1) : vp_nar .boolean v = v := by rcases h with rfl | rfl <;> decide
theorem rf_n (C : String) (r : Option Nat) : narrow (.object C) (va_rf r) = va_rf r := by cases r <;> rfl
theorem rf_f (C : String) (r : Option Nat) : fits (.object C) (va_rf r) = true := by cases r <;> rfl
theorem ra_n (t : FieldType) (r : Option Nat) : narrow (.array t) (va_rf r) = va_rf r := by cases r <;> rfl
theorem ra_f (t : FieldType) (r : Option Nat) : fits (.array t) (va_rf r) = true := by cases r <;> rfl
theorem hw_arr {D : va_G} {ca : Nat → Nat} {A : Nat → Prop} {s : State} {M : hM} {H : Heap} {a : Nat} {x : vp_A} (hK : va_K D wCl (wTys ca) s) (hW : hw D wCl A M H) (h : M a = some (.inl (ca 2, x))) : ∃ cell : Cell, H[a]? = some cell ∧ cell.vm.isStatics = false ∧ s.vm.findClass "[Ljava/lang/Object;" = some cell.cls := by
  have h1 : H[a]? = some (vp_cell (ca 2) x) := hw_one hW h 0 _ rfl
  have h2 : s.vm.findClass "[Ljava/lang/Object;" = some (ca 2) := va_nmO (hK.2 2 _ rfl).2 (by decide)
  obtain ⟨n, g | g | g | g | g⟩ := x <;> exact ⟨_, h1, rfl, h2⟩
section HQ
variable {p : Program} {l : Launch} {e : Env} {R : Room} {s : State} {m : MethodId} {args : Array Value} {below : List Frame} {meth : Method} {c : Code} {H : Heap} {locs : List Loc} {cells slots : Nat} {Q : State → Prop} {cc : ByteArray} {pc : Nat} {ls : Array Slot} {rest : List Value}
theorem lq_load_n (hx : p.tables.exec = Jvm.exec) (hb : c.code = cc) {k : Fin 4} {i : Nat} {r : Option Nat} (hdg : decode cc pc = .ok (.aload_n k, 1)) (hi : (k : Nat) = i) (hl : ls[i]? = some (.val (va_rf r)))
    (kk : W p l e R s m args below meth c H locs cells slots Q (F0 m (pc + 1) ls (va_rf r :: rest))) : W p l e R s m args below meth c H locs cells slots Q (F0 m pc ls rest) := by
  cases r with
  | none => exact lv_aload_nN hx hb hdg hi hl kk
  | some a => exact lv_aload_n hx hb hdg hi hl kk
theorem lq_load (hx : p.tables.exec = Jvm.exec) (hb : c.code = cc) {i : Nat} {r : Option Nat} (hdg : decode cc pc = .ok (.aload i, 2)) (hl : ls[i]? = some (.val (va_rf r)))
    (kk : W p l e R s m args below meth c H locs cells slots Q (F0 m (pc + 2) ls (va_rf r :: rest))) : W p l e R s m args below meth c H locs cells slots Q (F0 m pc ls rest) := by
  cases r with
  | none => exact lv_aloadN hx hb hdg hl kk
  | some a => exact lv_aload hx hb hdg hl kk
theorem lq_store_n (hx : p.tables.exec = Jvm.exec) (hb : c.code = cc) {k : Fin 4} {i nL : Nat} {r : Option Nat} {lv lv' : List (Nat × Value)} (hdg : decode cc pc = .ok (.astore_n k, 1)) (hi : (k : Nat) = i) (h : lv_has ls nL lv) (hn : i < nL) (hl : (i, va_rf r) :: lv.filter (fun q => !(q.1 == i) && !(q.1 + 1 == i && q.2.category == 2)) = lv')
    (kk : ∀ ls' : Array Slot, lv_has ls' nL lv' → W p l e R s m args below meth c H locs cells slots Q (F0 m (pc + 1) ls' rest)) : W p l e R s m args below meth c H locs cells slots Q (F0 m pc ls (va_rf r :: rest)) := by
  cases r with
  | none => exact lv_astore_nN hx hb hdg hi h hn hl kk
  | some a => exact lv_astore_n hx hb hdg hi h hn hl kk
theorem lq_store (hx : p.tables.exec = Jvm.exec) (hb : c.code = cc) {i nL : Nat} {r : Option Nat} {lv lv' : List (Nat × Value)} (hdg : decode cc pc = .ok (.astore i, 2)) (h : lv_has ls nL lv) (hn : i < nL) (hl : (i, va_rf r) :: lv.filter (fun q => !(q.1 == i) && !(q.1 + 1 == i && q.2.category == 2)) = lv')
    (kk : ∀ ls' : Array Slot, lv_has ls' nL lv' → W p l e R s m args below meth c H locs cells slots Q (F0 m (pc + 2) ls' rest)) : W p l e R s m args below meth c H locs cells slots Q (F0 m pc ls (va_rf r :: rest)) := by
  cases r with
  | none => exact lv_astoreN hx hb hdg h hn hl kk
  | some a => exact lv_astore hx hb hdg h hn hl kk
end HQ
section HR
variable {p : Program} {l : Launch} {e : Env} {R : Room} {s : State} {m : MethodId} {args : Array Value} {below : List Frame} {meth : Method} {c : Code} {H : Heap} {locs : List Loc} {cells slots : Nat} {Q : State → Prop} {cc : ByteArray} {pc : Nat} {ls : Array Slot} {rest : List Value} {D : va_G} {ca G : Nat → Nat} {A : Nat → Prop} {M : hM}
theorem hq_alen (hx : p.tables.exec = Jvm.exec) (hb : c.code = cc) (hK : va_K D wCl (wTys ca) s) (hZ0 : hZ G A s s.heap) (hW : hw D wCl A M H) (hS : va_S A s.heap H locs) {a : Nat} {K : Int32 → Prop} (h : aZ G M a (ca 2) K) (hdg : decode cc pc = .ok (.arraylength, 1))
    (kk : ∀ v : Int32, K v → W p l e R s m args below meth c H locs cells slots Q (F0 m (pc + 1) ls (.int v :: rest))) : W p l e R s m args below meth c H locs cells slots Q (F0 m pc ls (.ref a :: rest)) := by
  rcases h with ⟨x, h1, h⟩ | ⟨rfl, h⟩
  · exact va_alen hx hb hK (hw_one hW h1) 0 2 rfl rfl rfl hdg (kk _ h)
  · obtain ⟨cell, g1, g2, g3, g4⟩ := (hZ0.2.2.2.2.2.2.2.1)
    refine W.alen (n := 0) hx hb (cell := cell) ?_ g2 (by rw [g3]; rfl) rfl rfl hdg (kk 0 h)
    rw [hS.2.1 _ (Array.getElem?_eq_some_iff.mp g1).1 g4]
    exact g1
theorem hq_ast (t0 ci : Nat) {r0 : vw_C} (hx : p.tables.exec = Jvm.exec) (hb : c.code = cc) (hK : va_K D wCl (wTys ca) s) (hW : hw D wCl A M H) (hS : va_S A s.heap H locs) {a cA : Nat} {i : Int32} {r : Option Nat} {K : hM → Prop} (h : sR M a cA i r (fun z => z = ci) K) (ht : (wTys ca)[t0]? = some (cA, .object r0.1)) (hc : wCl[ci]? = some r0) (hdg : decode cc pc = .ok (.aastore, 1))
    (kk : ∀ (M1 : hM) (H1 : Heap) (locs1 : List Loc), K M1 → hw D wCl A M1 H1 → va_S A s.heap H1 locs1 → W p l e R s m args below meth c H1 locs1 cells slots Q (F0 m (pc + 1) ls rest)) : W p l e R s m args below meth c H locs cells slots Q (F0 m pc ls (va_rf r :: .int i :: .ref a :: rest)) := by
  obtain ⟨n, f, h1, h2, h3, h⟩ := h
  obtain ⟨ws, q0, hq, hP, hD, hback, hother⟩ := hw_open hW h1
  cases r with
  | none => exact va_astqN hx hb hK hP hD hS q0 t0 hq ht h2 hdg (fun H1 locs1 hP hD hS => kk _ H1 locs1 h (hback _ _ hP hD) hS)
  | some q =>
    obtain ⟨ci', fs, g1, rfl⟩ := h3 q rfl
    obtain ⟨q1, hq1⟩ := hother _ _ g1
    exact va_astq hx hb hK hP hD hS q0 t0 q1 ci' hq ht hq1 hc h2 hdg (fun H1 locs1 hP hD hS => kk _ H1 locs1 h (hback _ _ hP hD) hS)
theorem hq_cast (hZ0 : hZ G A s s.heap) {ci : Nat} (h : ci = 1 ∨ ci = 2) : ∃ r : vw_C, wCl[ci]? = some r ∧ va_Nw (.castable r.1 "java/lang/Object") s := by
  rcases h with rfl | rfl
  · exact ⟨_, rfl, hZ0.2.2.2.2.2.2.1 _ (by decide)⟩
  · exact ⟨_, rfl, hZ0.2.2.2.2.2.2.1 _ (by decide)⟩
theorem hq_astO (hx : p.tables.exec = Jvm.exec) (hb : c.code = cc) (hK : va_K D wCl (wTys ca) s) (hZ0 : hZ G A s s.heap) (hW : hw D wCl A M H) (hS : va_S A s.heap H locs) {a : Nat} {i : Int32} {r : Option Nat} {K : hM → Prop} (h : sR M a (ca 2) i r (fun z => z = 1 ∨ z = 2) K) (hdg : decode cc pc = .ok (.aastore, 1))
    (kk : ∀ (M1 : hM) (H1 : Heap) (locs1 : List Loc), K M1 → hw D wCl A M1 H1 → va_S A s.heap H1 locs1 → W p l e R s m args below meth c H1 locs1 cells slots Q (F0 m (pc + 1) ls rest)) : W p l e R s m args below meth c H locs cells slots Q (F0 m pc ls (va_rf r :: .int i :: .ref a :: rest)) := by
  obtain ⟨n, f, h1, h2, h3, h⟩ := h
  obtain ⟨ws, q0, hq, hP, hD, hback, hother⟩ := hw_open hW h1
  cases r with
  | none => exact va_astqN (C := "java/lang/Object") hx hb hK hP hD hS q0 2 hq rfl h2 hdg (fun H1 locs1 hP hD hS => kk _ H1 locs1 h (hback _ _ hP hD) hS)
  | some q =>
    obtain ⟨ci, fs, g1, g2⟩ := h3 q rfl
    obtain ⟨r0, hc, hca⟩ := hq_cast hZ0 g2
    obtain ⟨q1, hq1⟩ := hother _ _ g1
    exact va_astqO hx hb hK hP hD hS q0 2 q1 ci hq rfl hca hq1 hc h2 hdg (fun H1 locs1 hP hD hS => kk _ H1 locs1 h (hback _ _ hP hD) hS)
theorem hq_copy (hx : p.tables.exec = Jvm.exec) (hb : c.code = cc) (hml : c.maxLocals = ls.size) {own : String} {index : Nat} (hown : s.vm.findClass own = some m.cls) (hlink : (Cond.methodLink own index arraycopyName).before args s = true) (hnat : (Cond.native arraycopyName).before args s = true) (hstat : (Cond.static arraycopyName).before args s = true) (hini : (Cond.initialized "java/lang/System").before args s = true)
    (hK : va_K D wCl (wTys ca) s) (hZ0 : hZ G A s s.heap) (hW : hw D wCl A M H) (hS : va_S A s.heap H locs) {a0 a : Nat} {sp dp n : Int32} {K : hM → Prop} (h : cQ M a0 a (ca 2) sp dp n K) (hframes : 1 ≤ R.frames) (hlocals : (rest.map fun v => v.category).sum + (nativeFrameWords "java/lang/System" "arraycopy" 5 + 11) ≤ R.locals) (hdg : decode cc pc = .ok (.invokestatic index, 3))
    (kk : ∀ (M1 : hM) (H1 : Heap) (locs1 : List Loc), K M1 → hw D wCl A M1 H1 → va_S A s.heap H1 locs1 → W p l e R s m args below meth c H1 locs1 cells slots Q (F0 m (pc + 3) ls rest)) : W p l e R s m args below meth c H locs cells slots Q (F0 m pc ls (.int n :: .int dp :: .ref a :: .int sp :: .ref a0 :: rest)) := by
  obtain ⟨n0, n1, f, g, h0, h1, g1, g2, g3, g4, g5, ⟨ci, hci, hel⟩, h⟩ := h
  obtain ⟨ws, q1, hq, hP, hD, hback, hother⟩ := hw_open hW h1
  obtain ⟨q0, hq0⟩ := hother _ _ h0
  obtain ⟨r0, hc, hca⟩ := hq_cast hZ0 hci
  refine va_copyq (C := r0.1) hx hb hml hown hlink hnat hstat hini hK hP hD hS q0 q1 2 2 hq0 hq rfl rfl g1 g2 g3 g4 g5 (fun i hi y hy => ?_) (fun comp c0 e1 e2 => ?_) hframes hlocals hdg (fun H1 locs1 hP hD hS => kk _ H1 locs1 h (hback _ _ hP hD) hS)
  · obtain ⟨fs, hfs⟩ := hel i hi y hy
    exact hw_recv hK hW hfs hc
  · obtain ⟨c2, t2, f1, f2, f3⟩ := Cond.castable_spec (va_Nw.use (A := args) rfl hca)
    cases f1.symm.trans e2
    cases f2.symm.trans e1
    exact f3
theorem ca_eq {j k : Nat} {cA : ClassId} {C : String} (hK : va_K D wCl (wTys ca) s) (hK' : va_K D wCl (wTys ca ++ [(cA, .object C)]) s) (hj : (wTys ca)[j]? = some (k, .object C)) : cA = k := by
  obtain ⟨-, -, -, -, -, e1⟩ := (hK.2 j _ hj).2
  obtain ⟨-, -, -, -, -, e2⟩ := (hK'.2 7 (cA, .object C) rfl).2
  exact Option.some.inj (e2.symm.trans e1)
theorem hq_newq (j : Nat) (B : Nat) (hx : p.tables.exec = Jvm.exec) (hb : c.code = cc) {own C : String} {index : Nat} (hown : s.vm.findClass own = some m.cls) (hclink : (Cond.classLink own index C).before args s = true) (hover : va_AO C s) (hK : va_K D wCl (wTys ca) s) (hW : hw D wCl A M H) (hS : va_S A s.heap H locs) (hA : ∀ q, s.heap.size ≤ q → A q)
    {n : Int32} {cA : Nat} {K : Nat → hM → Prop} (h : nA M n B (fun N => .inl (cA, N, .inr (.inr (.inr (.inr (fun _ => none)))))) K) (hj : (wTys ca)[j]? = some (cA, .object C)) (hB : B ≤ 100000) (hcells : cells + 1 ≤ R.cells) (hslots : slots + B ≤ R.slots) (hdg : decode cc pc = .ok (.anewarray index, 3))
    (kk : ∀ (q : Nat) (M1 : hM) (H1 : Heap), K q M1 → hw D wCl A M1 H1 → va_S A s.heap H1 locs → W p l e R s m args below meth c H1 locs (cells + 1) (slots + B) Q (F0 m (pc + 3) ls (.ref q :: rest))) : W p l e R s m args below meth c H locs cells slots Q (F0 m pc ls (.int n :: rest)) := by
  obtain ⟨h1, h2, h⟩ := h
  obtain ⟨ws, hP, hD, hmake⟩ := hw_make hW
  refine va_newq hx hb hown hclink hover hK hP hD hS hA h1 rfl (by omega) hcells (by omega) hdg (fun q cB H1 hK' hP hD hS => ?_)
  have e1 := ca_eq hK hK' hj
  subst e1
  obtain ⟨hn, hW⟩ := hmake _ _ _ hP hD
  exact W.widen (Nat.le_refl _) (by omega) (kk q _ H1 (h q hn) hW hS)
theorem hq_newa (j : Nat) (B : Nat) {atype : ArrayType} {ty : FieldType} (a0 : Nat → vp_A) (hx : p.tables.exec = Jvm.exec) (hb : c.code = cc) (harr : (Cond.arrayClass (newarray.typeOf atype)).before args s = true) (hty : newarray.typeOf atype = ty) (hprim : ∀ cA, va_RA s cA ty = (s.vm.findClass ("[" ++ ty.toString) = some cA)) (hK : va_K D wCl (wTys ca) s) (hW : hw D wCl A M H) (hS : va_S A s.heap H locs) (hA : ∀ q, s.heap.size ≤ q → A q)
    {n : Int32} {cA : Nat} {K : Nat → hM → Prop} (ha : ∀ (cA : ClassId) (N : Nat), vp_cell cA (a0 N) = arrV cA N (fun _ => defaultValue ty)) (h : nA M n B (fun N => .inl (cA, a0 N)) K) (hj : (wTys ca)[j]? = some (cA, ty)) (hB : B ≤ 100000) (hcb : componentBytes ty ≤ 8) (hcells : cells + 1 ≤ R.cells) (hslots : slots + B ≤ R.slots) (hdg : decode cc pc = .ok (.newarray atype, 2))
    (kk : ∀ (q : Nat) (M1 : hM) (H1 : Heap), K q M1 → hw D wCl A M1 H1 → va_S A s.heap H1 locs → W p l e R s m args below meth c H1 locs (cells + 1) (slots + B) Q (F0 m (pc + 2) ls (.ref q :: rest))) : W p l e R s m args below meth c H locs cells slots Q (F0 m pc ls (.int n :: rest)) := by
  obtain ⟨h1, h2, h⟩ := h
  obtain ⟨ws, hP, hD, hmake⟩ := hw_make hW
  refine va_newa hx hb harr hty hK hP hD hS hA (fun cA => ha cA _) h1 rfl (Nat.le_trans (Nat.mul_le_mul (Nat.le_trans h2 hB) hcb) (by decide)) hcells (by omega) hdg (fun q cB H1 hK' hP hD hS => ?_)
  have r1 := (hK.2 j _ hj).2
  have r2 := (hK'.2 7 (cB, ty) rfl).2
  rw [hprim] at r1 r2
  have e1 : cB = cA := Option.some.inj (r2.symm.trans r1)
  subst e1
  obtain ⟨hn, hW⟩ := hmake _ _ _ hP hD
  exact W.widen (Nat.le_refl _) (by omega) (kk q _ H1 (h q hn) hW hS)
end HR
theorem hw.kept {D : va_G} {cl : List vw_C} {A : Nat → Prop} {M : hM} {H H1 : Heap} (h : hw D cl A M H) (hq : ∀ q : Nat, q < H.size → H1[q]? = H[q]?) : hw D cl A M H1 := by
  obtain ⟨L, f, hM0, hP, hD⟩ := h
  exact ⟨L, f, hM0, fun k q hk => (hP k q hk).kept (hq _ (hP k q hk).lt), hD⟩
/-- what a throw leaves: the class by its name, a world -/
abbrev hX (D : va_G) (xp : String → hM → Prop) (A : Nat → Prop) : String → State → State → Prop := vx_X (fun _ : hM => True) (fun E M' t => xp E M' ∧ hw D wCl A M' t.heap) A
section HT
variable {p : Program} {l : Launch} {e : Env} {R : Room} {s : State} {m : MethodId} {args : Array Value} {below : List Frame} {meth : Method} {c : Code} {H : Heap} {locs : List Loc} {cells slots : Nat} {Q : State → Prop} {cc : ByteArray} {pc : Nat} {ls : Array Slot} {st0 rest : List Value} {D : va_G} {ca G : Nat → Nat} {A : Nat → Prop} {M : hM} {Qc : Array Value → State → Outcome → State → Prop} {xp : String → hM → Prop}
theorem hq_throw (hx : p.tables.exec = Jvm.exec) (hb : c.code = cc) (hl0 : l.stackTraces = false) (hout : ∀ x ∈ c.exceptionTable.toList, False) {own cls : String} {names : List String} {ik ic mc ms : Nat} (hown : s.vm.findClass own = some m.cls) (hcls : Bundle.fit cls = true) (hnames : ∀ n ∈ names, Bundle.fit n = true) (hts : ∀ w ∈ BIG, w.before args s = true)
    (hk : Cond.classLink own ik cls ∈ BIG) (hini : Cond.initialized cls ∈ BIG) (hg : ∀ w ∈ (vx_at0 own ic cls names).filter goodWord, w ∈ lw_tbl) (hn : ∀ w ∈ (vx_at0 own ic cls names).filter (fun w => !goodWord w), w ∈ NG.filter (fun w => w.onTables)) (hgood : ∀ w ∈ Cond.classLink own ik cls :: Cond.initialized cls :: vx_at0 own ic cls names, vx_ot w = true)
    (hZ0 : hZ G A s s.heap) (hW : hw D wCl A M H) (hS : va_S A s.heap H locs) (hsize : ls.size = c.maxLocals) (h : xp cls M)
    (d0 : decode cc pc = .ok (.new ik, 3)) (d3 : decode cc (pc + 3) = .ok (.dup, 1)) (d4 : decode cc (pc + 4) = .ok (.invokespecial ic, 3)) (d7 : decode cc (pc + 7) = .ok (.athrow, 1))
    (hRframes : names.length + 3 < R.frames) (hRlocals : (rest.map fun v => v.category).sum + (13 * (names.length + 1) + 42) ≤ R.locals) (hRcells : cells + 1 ≤ R.cells) (hRslots : slots + 6 ≤ R.slots) (hlocks : meth.locks = false) (hc : cells + 1 ≤ mc) (hs : slots + 6 ≤ ms) :
    W p l e R s m args below meth c H locs cells slots (vx_MQ below Qc (hX D xp A) args s mc ms A) (F0 m pc ls rest) := by
  refine vx_throw0 hx hb hl0 hown hcls hnames (hts _ hk) (hts _ hini) (vx_hat (fun w hw => hts w (List.mem_filter.mpr ⟨hg w hw, (List.mem_filter.mp hw).2⟩)) hn (fun w hw => va_Nw.use (List.mem_filter.mp hw).2 (hZ0.2.2.2.2.2.2.1 w (List.mem_filter.mp hw).1))) hgood hZ0.2.2.2.2.1 hZ0.2.2.2.2.2.1 hS hsize d0 d3 d4 d7 (fun x hx => (hout x hx).elim) hRframes hRlocals hRcells hRslots hlocks (fun t hal hz hq => ?_) hS.2.2 hc hs
  exact ⟨M, trivial, ⟨h, hW.kept hq⟩, Nat.le_trans hS.1 hz, fun q h1 h2 => (hq q (Nat.lt_of_lt_of_le h1 hS.1)).trans (hS.2.1 q h1 h2)⟩
/-- a callee's throw goes on to the caller -/
theorem hq_out (hout : ∀ x ∈ c.exceptionTable.toList, False) (hlocks : meth.locks = false) {E : String} {ce : Cell} {q : Addr} {mc ms : Nat} (hW : hw D wCl A M H) (hS : va_S A s.heap H locs) (h : xp E M) (hcell : H[q]? = some ce) (hv : ce.vm = .none) (hcl : s.vm.findClass E = some ce.cls) (hc : cells ≤ mc) (hs : slots ≤ ms) :
    vx_W p l e R s m args below meth c H locs cells slots (vx_MQ below Qc (hX D xp A) args s mc ms A) (F0 m pc ls rest) q :=
  vx_out (fun x hx => (hout x hx).elim) hlocks hcell hv hcl (fun t ht _ => ⟨M, trivial, ⟨h, hw_t ht hW⟩, hS.F ht⟩) hS.2.2 hc hs
theorem hx_callq {S SX : Type} {post : Option Nat → S → Prop} {px : SX → Prop} {B : S → State → Prop} {BX : String → SX → State → Prop} {A0 A1 AX : Nat → Prop} {H0 : Heap} {a : Array Value} {mc ms : Nat} {free : Addr → Prop} (hr : vx_Run p l e R s m args below meth c H locs cells slots mc ms (F0 m pc ls st0) rest (va_Qq post B A1 a) (vx_X px BX AX) free) (hS : va_S A0 H0 H locs) (hA : ∀ q, q < H.size → A1 q → A0 q) (hf : ∀ q, free q → A0 q) (hAX : ∀ q, q < H.size → AX q → A0 q)
    (kx : ∀ (E : String) (ce : Cell) (q9 : Addr) (u : SX) (t : State) (H1 : Heap) (locs1 : List Loc), t.heap = H1 → s.vm.Alike t.vm → px u → BX E u t → H.size ≤ H1.size → (∀ q : Nat, q < H.size → ¬ AX q → H1[q]? = H[q]?) → va_S A0 H0 H1 locs1 → H1[q9]? = some ce → ce.vm = .none → s.vm.findClass E = some ce.cls → vx_W p l e R s m args below meth c H1 locs1 (cells + mc) (slots + ms) Q (F0 m pc ls rest) q9)
    (kk : ∀ (r : Option Nat) (u : S) (t : State) (H1 : Heap) (locs1 : List Loc), t.heap = H1 → s.vm.Alike t.vm → post r u → B u t → H.size ≤ H1.size → (∀ q : Nat, q < H.size → ¬ A1 q → H1[q]? = H[q]?) → va_S A0 H0 H1 locs1 → W p l e R s m args below meth c H1 locs1 (cells + mc) (slots + ms) Q (F0 m (pc + 3) ls (va_rf r :: rest))) : W p l e R s m args below meth c H locs cells slots Q (F0 m pc ls st0) := by
  intro T hT X
  rcases hr T hT X with ⟨v, st₀, t, T', L, h0, X', hL, e1, e2, ⟨⟨r, u, hv, hp, hb⟩, hF⟩, st⟩ | ⟨q, st₀, t, T', L, E, ce, h0, X', hL, e1, e2, ⟨u, hp, hb, hF⟩, hce, hcv, hcl, st⟩
  · cases hv
    obtain ⟨k1, k2, k3⟩ := vx_keep h0 e1 hS hA hf hL hF
    obtain ⟨t2, a1, b1⟩ := kk r u t T'.heap (locs ++ L) e1.symm (by rw [← e2]; exact X'.warmed.alike) hp hb k1 k2 k3 T' rfl X'
    exact ⟨t2, st t2 a1, b1⟩
  · obtain ⟨k1, k2, k3⟩ := vx_keep h0 e1 hS hAX hf hL hF
    obtain ⟨t2, a1, b1⟩ := kx E ce q u t T'.heap (locs ++ L) e1.symm (by rw [← e2]; exact X'.warmed.alike) hp hb k1 k2 k3 (by rw [e1]; exact hce) hcv hcl T' rfl X'
    exact ⟨t2, st.trans a1, b1⟩
end HT

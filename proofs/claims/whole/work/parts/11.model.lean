theorem d_Mo_thrown_0 : decode prog_7_method_2_code 0 = .ok (.aload_n 0, 1) := by decide +kernel
theorem d_Mo_thrown_1 : decode prog_7_method_2_code 1 = .ok (.getfield 86, 3) := by decide +kernel
theorem d_Mo_thrown_4 : decode prog_7_method_2_code 4 = .ok (.ireturn, 1) := by decide +kernel
def y_Mo_thrown : MethodName := ⟨"ChannelHallModel", "thrown", "()I"⟩
abbrev rm_Mo_thrown : Room := { frames := 0, cells := 0, slots := 0, locals := 0 }
def wp_Mo_thrown (G ca : Nat → Nat) (post : Int32 → hM → Prop) (M : hM) (a0 : Nat) : Prop := gI M a0 5 0 fun v2 => post v2 M
set_option maxHeartbeats 1000000 in
set_option maxRecDepth 20000 in
theorem l_Mo_thrown_e {p : Program} {l : Launch} {e : Env} {s : State} {m : MethodId} {args : Array Value} {below : List Frame} {meth : Method} {c : Code} {D : va_G} {ca G : Nat → Nat} {A : Nat → Prop} (C0 : hC p s m args meth c D ca G prog_7_method_2_code 1 (some .int) "ChannelHallModel" A) {post : Int32 → hM → Prop} {M : hM} {H : Heap} {locs : List Loc} {ls : Array Slot} (a0 : Nat) (h : wp_Mo_thrown G ca post M a0) (hW : hw D wCl A M H) (hS : va_S A s.heap H locs) (hl : lv_has ls 1 [(0, .ref a0)]) : W p l e rm_Mo_thrown s m args below meth c H locs 0 0 (MQ below (va_Qi post (fun M' t => hw D wCl A M' t.heap) A) args s 0 0 A) (F0 m 0 ls []) := by
  obtain ⟨hx, hb, hr, hml, hown, hts, hlocks, hK, hA, hZ0⟩ := id C0
  refine lv_aload_n hx hb d_Mo_thrown_0 rfl (lv_at hl 0 rfl) ?_
  obtain ⟨fs, v2, h1, h2, h⟩ := h
  refine va_get (D := D) (ci := 5) (v := .int v2) (C := "ChannelHallModel") (T := TMo) (N := 26) hx hb hts uMo hown hK (hw_one hW h1) 0 rfl rfl 0 (by decide) (hts _ bw_974) (fun _ h9 => h9) h2 d_Mo_thrown_1 ?_
  exact W.iret hx hb hr (fun t ht hWm => ⟨⟨_, _, rfl, h, hw_t ht hW⟩, hS.F ht⟩) hS.2.2 d_Mo_thrown_4
set_option maxRecDepth 20000 in
theorem c_Mo_thrown {l : Launch} {D : va_G} {ca G : Nat → Nat} (post : Int32 → hM → Prop) {M : hM} {sz : Nat} {a0 : Nat} (h : wp_Mo_thrown G ca post M a0) : Met l y_Mo_thrown (wz y_Mo_thrown prog_7_method_2_code 1 (some .int)) rm_Mo_thrown (va_Pc [.ref a0] (hI D ca G sz M)) (va_Qi post (hB D M sz) (hp_A M sz)) 0 0 (hp_A M sz) := by
  refine Met.ofW (cc := prog_7_method_2_code) (maxL := 1) (ret := some .int) (by decide) rfl ?_
  intro p e s m args below meth c s₁ B hml hv
  obtain ⟨rfl, hsz, hW, hK, hZ0⟩ := hv
  have hts := fun w hw => atoms_spec (ws := wz y_Mo_thrown prog_7_method_2_code 1 (some .int)) B.pre w (List.mem_cons_of_mem _ hw)
  have hown : s.vm.findClass "ChannelHallModel" = some m.cls := findClass_of_methodNamed B.named
  subst hsz
  have hl := lv_entry [.ref a0] (n := 1) (Nat.le_of_ble_eq_true rfl)
  rw [lg_entry_eq]
  exact l_Mo_thrown_e ⟨B.exec, B.bytes, B.returns, hml, hown, hts, B.notSynchronized, hK, fun q h => Or.inr h, hZ0⟩ a0 h hW va_S.rf hl

theorem d_Mo_fail_0 : decode prog_7_method_3_code 0 = .ok (.aload_n 0, 1) := by decide +kernel
theorem d_Mo_fail_1 : decode prog_7_method_3_code 1 = .ok (.iload_n 1, 1) := by decide +kernel
theorem d_Mo_fail_2 : decode prog_7_method_3_code 2 = .ok (.putfield 86, 3) := by decide +kernel
theorem d_Mo_fail_5 : decode prog_7_method_3_code 5 = .ok (.iconst 0, 1) := by decide +kernel
theorem d_Mo_fail_6 : decode prog_7_method_3_code 6 = .ok (.ireturn, 1) := by decide +kernel
def y_Mo_fail : MethodName := ⟨"ChannelHallModel", "fail", "(I)I"⟩
abbrev rm_Mo_fail : Room := { frames := 0, cells := 0, slots := 0, locals := 0 }
def wp_Mo_fail (G ca : Nat → Nat) (post : Int32 → hM → Prop) (M : hM) (a0 : Nat) (x1 : Int32) : Prop := pF M a0 5 0 (.int x1) fun M2 => post 0 M2
set_option maxHeartbeats 1000000 in
set_option maxRecDepth 20000 in
theorem l_Mo_fail_e {p : Program} {l : Launch} {e : Env} {s : State} {m : MethodId} {args : Array Value} {below : List Frame} {meth : Method} {c : Code} {D : va_G} {ca G : Nat → Nat} {A : Nat → Prop} (C0 : hC p s m args meth c D ca G prog_7_method_3_code 2 (some .int) "ChannelHallModel" A) {post : Int32 → hM → Prop} {M : hM} {H : Heap} {locs : List Loc} {ls : Array Slot} (a0 : Nat) (x1 : Int32) (h : wp_Mo_fail G ca post M a0 x1) (hW : hw D wCl A M H) (hS : va_S A s.heap H locs) (hl : lv_has ls 2 [(0, .ref a0), (1, .int x1)]) : W p l e rm_Mo_fail s m args below meth c H locs 0 0 (MQ below (va_Qi post (fun M' t => hw D wCl A M' t.heap) A) args s 0 0 A) (F0 m 0 ls []) := by
  obtain ⟨hx, hb, hr, hml, hown, hts, hlocks, hK, hA, hZ0⟩ := id C0
  refine lv_aload_n hx hb d_Mo_fail_0 rfl (lv_at hl 0 rfl) ?_
  refine lv_iload_n hx hb d_Mo_fail_1 rfl (lv_at hl 1 rfl) ?_
  obtain ⟨fs, h1, h2, h⟩ := h
  obtain ⟨ws, q0, hq, hP, hD, hback, -⟩ := hw_open hW h1
  refine va_put (D := D) (ci := 5) (v := .int x1) (ty := .int) (C := "ChannelHallModel") (T := TMo) (N := 26) hx hb hts uMo tMo tMo_ok nMo hown hK hP hD hS q0 hq rfl 0 (by decide) (hts _ bw_974) (fun _ h9 => h9) rfl (by decide +kernel) rfl rfl h2 d_Mo_fail_2 (fun H locs hP hD hS => ?_)
  have hW := hback _ _ hP hD
  generalize (va_up M a0 (some (.inr (5, fs.set 0 (.int x1))))) = M2 at h hW
  refine lv_iconst (v := 0) hx hb d_Mo_fail_5 (by decide) ?_
  exact W.iret hx hb hr (fun t ht hWm => ⟨⟨_, _, rfl, h, hw_t ht hW⟩, hS.F ht⟩) hS.2.2 d_Mo_fail_6
set_option maxRecDepth 20000 in
theorem c_Mo_fail {l : Launch} {D : va_G} {ca G : Nat → Nat} (post : Int32 → hM → Prop) {M : hM} {sz : Nat} {a0 : Nat} {x1 : Int32} (h : wp_Mo_fail G ca post M a0 x1) : Met l y_Mo_fail (wz y_Mo_fail prog_7_method_3_code 2 (some .int)) rm_Mo_fail (va_Pc [.ref a0, .int x1] (hI D ca G sz M)) (va_Qi post (hB D M sz) (hp_A M sz)) 0 0 (hp_A M sz) := by
  refine Met.ofW (cc := prog_7_method_3_code) (maxL := 2) (ret := some .int) (by decide) rfl ?_
  intro p e s m args below meth c s₁ B hml hv
  obtain ⟨rfl, hsz, hW, hK, hZ0⟩ := hv
  have hts := fun w hw => atoms_spec (ws := wz y_Mo_fail prog_7_method_3_code 2 (some .int)) B.pre w (List.mem_cons_of_mem _ hw)
  have hown : s.vm.findClass "ChannelHallModel" = some m.cls := findClass_of_methodNamed B.named
  subst hsz
  have hl := lv_entry [.ref a0, .int x1] (n := 2) (Nat.le_of_ble_eq_true rfl)
  rw [lg_entry_eq]
  exact l_Mo_fail_e ⟨B.exec, B.bytes, B.returns, hml, hown, hts, B.notSynchronized, hK, fun q h => Or.inr h, hZ0⟩ a0 x1 h hW va_S.rf hl

theorem d_Mo_out_0 : decode prog_7_method_4_code 0 = .ok (.iload_n 1, 1) := by decide +kernel
theorem d_Mo_out_1 : decode prog_7_method_4_code 1 = .ok (.ifCond .lt 8, 3) := by decide +kernel
theorem d_Mo_out_4 : decode prog_7_method_4_code 4 = .ok (.iload_n 1, 1) := by decide +kernel
theorem d_Mo_out_5 : decode prog_7_method_4_code 5 = .ok (.iload_n 2, 1) := by decide +kernel
theorem d_Mo_out_6 : decode prog_7_method_4_code 6 = .ok (.if_icmp .lt 7, 3) := by decide +kernel
theorem d_Mo_out_9 : decode prog_7_method_4_code 9 = .ok (.iconst 1, 1) := by decide +kernel
theorem d_Mo_out_10 : decode prog_7_method_4_code 10 = .ok (.goto 4, 3) := by decide +kernel
theorem d_Mo_out_13 : decode prog_7_method_4_code 13 = .ok (.iconst 0, 1) := by decide +kernel
theorem d_Mo_out_14 : decode prog_7_method_4_code 14 = .ok (.ireturn, 1) := by decide +kernel
def y_Mo_out : MethodName := ⟨"ChannelHallModel", "out", "(II)Z"⟩
abbrev rm_Mo_out : Room := { frames := 0, cells := 0, slots := 0, locals := 0 }
def wp_Mo_out_14 (G ca : Nat → Nat) (post : Int32 → hM → Prop) (M : hM) (s0b14 : Int32) : Prop := bZ s0b14 (post s0b14 M)
def wp_Mo_out_9 (G ca : Nat → Nat) (post : Int32 → hM → Prop) (M : hM)  : Prop := wp_Mo_out_14 G ca post M 1
def wp_Mo_out (G ca : Nat → Nat) (post : Int32 → hM → Prop) (M : hM) (a0 : Nat) (x1 : Int32) (x2 : Int32) : Prop := (x1 < 0 → wp_Mo_out_9 G ca post M) ∧ (¬ x1 < 0 → (x1 < x2 → wp_Mo_out_14 G ca post M 0) ∧ (¬ x1 < x2 → wp_Mo_out_9 G ca post M))
set_option maxHeartbeats 1000000 in
set_option maxRecDepth 20000 in
theorem l_Mo_out_14 {p : Program} {l : Launch} {e : Env} {s : State} {m : MethodId} {args : Array Value} {below : List Frame} {meth : Method} {c : Code} {D : va_G} {ca G : Nat → Nat} {A : Nat → Prop} (C0 : hC p s m args meth c D ca G prog_7_method_4_code 3 (some .boolean) "ChannelHallModel" A) {post : Int32 → hM → Prop} {M : hM} {H : Heap} {locs : List Loc} {ls : Array Slot} (s0b14 : Int32) (h : wp_Mo_out_14 G ca post M s0b14) (hW : hw D wCl A M H) (hS : va_S A s.heap H locs) (hl : lv_has ls 3 []) : W p l e rm_Mo_out s m args below meth c H locs 0 0 (MQ below (va_Qi post (fun M' t => hw D wCl A M' t.heap) A) args s 0 0 A) (F0 m 14 ls [.int s0b14]) := by
  obtain ⟨hx, hb, hr, hml, hown, hts, hlocks, hK, hA, hZ0⟩ := id C0
  obtain ⟨hz, h⟩ := h
  exact W.zret hx hb hr (nb_n hz) (fun t ht hWm => ⟨⟨_, _, rfl, h, hw_t ht hW⟩, hS.F ht⟩) hS.2.2 d_Mo_out_14
set_option maxHeartbeats 1000000 in
set_option maxRecDepth 20000 in
theorem l_Mo_out_9 {p : Program} {l : Launch} {e : Env} {s : State} {m : MethodId} {args : Array Value} {below : List Frame} {meth : Method} {c : Code} {D : va_G} {ca G : Nat → Nat} {A : Nat → Prop} (C0 : hC p s m args meth c D ca G prog_7_method_4_code 3 (some .boolean) "ChannelHallModel" A) {post : Int32 → hM → Prop} {M : hM} {H : Heap} {locs : List Loc} {ls : Array Slot}  (h : wp_Mo_out_9 G ca post M) (hW : hw D wCl A M H) (hS : va_S A s.heap H locs) (hl : lv_has ls 3 []) : W p l e rm_Mo_out s m args below meth c H locs 0 0 (MQ below (va_Qi post (fun M' t => hw D wCl A M' t.heap) A) args s 0 0 A) (F0 m 9 ls []) := by
  obtain ⟨hx, hb, hr, hml, hown, hts, hlocks, hK, hA, hZ0⟩ := id C0
  refine lv_iconst (v := 1) hx hb d_Mo_out_9 (by decide) ?_
  refine lv_goto (tgt := 14) hx hb d_Mo_out_10 (by decide) ?_
  exact l_Mo_out_14 C0 1 h hW hS (lv_sub hl [] rfl)
set_option maxHeartbeats 1000000 in
set_option maxRecDepth 20000 in
theorem l_Mo_out_e {p : Program} {l : Launch} {e : Env} {s : State} {m : MethodId} {args : Array Value} {below : List Frame} {meth : Method} {c : Code} {D : va_G} {ca G : Nat → Nat} {A : Nat → Prop} (C0 : hC p s m args meth c D ca G prog_7_method_4_code 3 (some .boolean) "ChannelHallModel" A) {post : Int32 → hM → Prop} {M : hM} {H : Heap} {locs : List Loc} {ls : Array Slot} (a0 : Nat) (x1 : Int32) (x2 : Int32) (h : wp_Mo_out G ca post M a0 x1 x2) (hW : hw D wCl A M H) (hS : va_S A s.heap H locs) (hl : lv_has ls 3 [(0, .ref a0), (1, .int x1), (2, .int x2)]) : W p l e rm_Mo_out s m args below meth c H locs 0 0 (MQ below (va_Qi post (fun M' t => hw D wCl A M' t.heap) A) args s 0 0 A) (F0 m 0 ls []) := by
  obtain ⟨hx, hb, hr, hml, hown, hts, hlocks, hK, hA, hZ0⟩ := id C0
  refine lv_iload_n hx hb d_Mo_out_0 rfl (lv_at hl 1 rfl) ?_
  obtain ⟨h0, h1⟩ := h
  refine lv_if_lt (tgt := 9) hx hb d_Mo_out_1 (by decide) (fun c3 => ?_) (fun c3 => ?_)
  · have h := h0 c3
    exact l_Mo_out_9 C0  h hW hS (lv_sub hl [] rfl)
  · have h := h1 c3
    refine lv_iload_n hx hb d_Mo_out_4 rfl (lv_at hl 1 rfl) ?_
    refine lv_iload_n hx hb d_Mo_out_5 rfl (lv_at hl 2 rfl) ?_
    obtain ⟨h0, h1⟩ := h
    refine lv_icmp_lt (tgt := 13) hx hb d_Mo_out_6 (by decide) (fun c4 => ?_) (fun c4 => ?_)
    · have h := h0 c4
      refine lv_iconst (v := 0) hx hb d_Mo_out_13 (by decide) ?_
      exact l_Mo_out_14 C0 0 h hW hS (lv_sub hl [] rfl)
    · have h := h1 c4
      exact l_Mo_out_9 C0  h hW hS (lv_sub hl [] rfl)
set_option maxRecDepth 20000 in
theorem c_Mo_out {l : Launch} {D : va_G} {ca G : Nat → Nat} (post : Int32 → hM → Prop) {M : hM} {sz : Nat} {a0 : Nat} {x1 : Int32} {x2 : Int32} (h : wp_Mo_out G ca post M a0 x1 x2) : Met l y_Mo_out (wz y_Mo_out prog_7_method_4_code 3 (some .boolean)) rm_Mo_out (va_Pc [.ref a0, .int x1, .int x2] (hI D ca G sz M)) (va_Qi post (hB D M sz) (hp_A M sz)) 0 0 (hp_A M sz) := by
  refine Met.ofW (cc := prog_7_method_4_code) (maxL := 3) (ret := some .boolean) (by decide) rfl ?_
  intro p e s m args below meth c s₁ B hml hv
  obtain ⟨rfl, hsz, hW, hK, hZ0⟩ := hv
  have hts := fun w hw => atoms_spec (ws := wz y_Mo_out prog_7_method_4_code 3 (some .boolean)) B.pre w (List.mem_cons_of_mem _ hw)
  have hown : s.vm.findClass "ChannelHallModel" = some m.cls := findClass_of_methodNamed B.named
  subst hsz
  have hl := lv_entry [.ref a0, .int x1, .int x2] (n := 3) (Nat.le_of_ble_eq_true rfl)
  rw [lg_entry_eq]
  exact l_Mo_out_e ⟨B.exec, B.bytes, B.returns, hml, hown, hts, B.notSynchronized, hK, fun q h => Or.inr h, hZ0⟩ a0 x1 x2 h hW va_S.rf hl

theorem d_Mo_first_0 : decode prog_7_method_6_code 0 = .ok (.iconst 0, 1) := by decide +kernel
theorem d_Mo_first_1 : decode prog_7_method_6_code 1 = .ok (.istore_n 3, 1) := by decide +kernel
theorem d_Mo_first_2 : decode prog_7_method_6_code 2 = .ok (.iload_n 3, 1) := by decide +kernel
theorem d_Mo_first_3 : decode prog_7_method_6_code 3 = .ok (.aload_n 0, 1) := by decide +kernel
theorem d_Mo_first_4 : decode prog_7_method_6_code 4 = .ok (.getfield 60, 3) := by decide +kernel
theorem d_Mo_first_7 : decode prog_7_method_6_code 7 = .ok (.iload_n 1, 1) := by decide +kernel
theorem d_Mo_first_8 : decode prog_7_method_6_code 8 = .ok (.iaload, 1) := by decide +kernel
theorem d_Mo_first_9 : decode prog_7_method_6_code 9 = .ok (.if_icmp .ge 41, 3) := by decide +kernel
theorem d_Mo_first_12 : decode prog_7_method_6_code 12 = .ok (.aload_n 0, 1) := by decide +kernel
theorem d_Mo_first_13 : decode prog_7_method_6_code 13 = .ok (.getfield 29, 3) := by decide +kernel
theorem d_Mo_first_16 : decode prog_7_method_6_code 16 = .ok (.aload_n 0, 1) := by decide +kernel
theorem d_Mo_first_17 : decode prog_7_method_6_code 17 = .ok (.getfield 57, 3) := by decide +kernel
theorem d_Mo_first_20 : decode prog_7_method_6_code 20 = .ok (.bipush 6, 2) := by decide +kernel
theorem d_Mo_first_22 : decode prog_7_method_6_code 22 = .ok (.iload_n 1, 1) := by decide +kernel
theorem d_Mo_first_23 : decode prog_7_method_6_code 23 = .ok (.imul, 1) := by decide +kernel
theorem d_Mo_first_24 : decode prog_7_method_6_code 24 = .ok (.iload_n 3, 1) := by decide +kernel
theorem d_Mo_first_25 : decode prog_7_method_6_code 25 = .ok (.iadd, 1) := by decide +kernel
theorem d_Mo_first_26 : decode prog_7_method_6_code 26 = .ok (.iaload, 1) := by decide +kernel
theorem d_Mo_first_27 : decode prog_7_method_6_code 27 = .ok (.iaload, 1) := by decide +kernel
theorem d_Mo_first_28 : decode prog_7_method_6_code 28 = .ok (.iload_n 2, 1) := by decide +kernel
theorem d_Mo_first_29 : decode prog_7_method_6_code 29 = .ok (.if_icmp .ne 15, 3) := by decide +kernel
theorem d_Mo_first_32 : decode prog_7_method_6_code 32 = .ok (.aload_n 0, 1) := by decide +kernel
theorem d_Mo_first_33 : decode prog_7_method_6_code 33 = .ok (.getfield 57, 3) := by decide +kernel
theorem d_Mo_first_36 : decode prog_7_method_6_code 36 = .ok (.bipush 6, 2) := by decide +kernel
theorem d_Mo_first_38 : decode prog_7_method_6_code 38 = .ok (.iload_n 1, 1) := by decide +kernel
theorem d_Mo_first_39 : decode prog_7_method_6_code 39 = .ok (.imul, 1) := by decide +kernel
theorem d_Mo_first_40 : decode prog_7_method_6_code 40 = .ok (.iload_n 3, 1) := by decide +kernel
theorem d_Mo_first_41 : decode prog_7_method_6_code 41 = .ok (.iadd, 1) := by decide +kernel
theorem d_Mo_first_42 : decode prog_7_method_6_code 42 = .ok (.iaload, 1) := by decide +kernel
theorem d_Mo_first_43 : decode prog_7_method_6_code 43 = .ok (.ireturn, 1) := by decide +kernel
theorem d_Mo_first_44 : decode prog_7_method_6_code 44 = .ok (.iinc 3 1, 3) := by decide +kernel
theorem d_Mo_first_47 : decode prog_7_method_6_code 47 = .ok (.goto (-45), 3) := by decide +kernel
theorem d_Mo_first_50 : decode prog_7_method_6_code 50 = .ok (.iconst (-1), 1) := by decide +kernel
theorem d_Mo_first_51 : decode prog_7_method_6_code 51 = .ok (.ireturn, 1) := by decide +kernel
def y_Mo_first : MethodName := ⟨"ChannelHallModel", "first", "(II)I"⟩
abbrev rm_Mo_first : Room := { frames := 0, cells := 0, slots := 0, locals := 0 }
def wp_Mo_first_2 (G ca : Nat → Nat) (post : Int32 → hM → Prop) : Nat → hM → Nat → Int32 → Int32 → Int32 → Prop
  | 0, _, _, _, _, _ => False
  | n + 1, M, l0b2, l1b2, l2b2, l3b2 => gR M l0b2 5 18 fun v15 => nN v15 fun b16 => aI M b16 (ca 5) l1b2 fun v17 => (v17 ≤ l3b2 → post (-1) M) ∧ (¬ v17 ≤ l3b2 → gR M l0b2 5 7 fun v19 => gR M l0b2 5 17 fun v20 => nN v20 fun b21 => aI M b21 (ca 5) ((6 * l1b2) + l3b2) fun v22 => nN v19 fun b23 => aI M b23 (ca 5) v22 fun v24 => (¬ v24 = l2b2 → (wp_Mo_first_2 G ca post n) M l0b2 l1b2 l2b2 (l3b2 + 1)) ∧ (v24 = l2b2 → gR M l0b2 5 17 fun v26 => nN v26 fun b27 => aI M b27 (ca 5) ((6 * l1b2) + l3b2) fun v28 => post v28 M))
def wp_Mo_first (G ca : Nat → Nat) (post : Int32 → hM → Prop) (M : hM) (a0 : Nat) (x1 : Int32) (x2 : Int32) : Prop := ∃ n, wp_Mo_first_2 G ca post n M a0 x1 x2 0
set_option maxHeartbeats 1000000 in
set_option maxRecDepth 20000 in
theorem l_Mo_first_2 {p : Program} {l : Launch} {e : Env} {s : State} {m : MethodId} {args : Array Value} {below : List Frame} {meth : Method} {c : Code} {D : va_G} {ca G : Nat → Nat} {A : Nat → Prop} (C0 : hC p s m args meth c D ca G prog_7_method_6_code 4 (some .int) "ChannelHallModel" A) {post : Int32 → hM → Prop} : ∀ (n : Nat) {M : hM} {H : Heap} {locs : List Loc} {ls : Array Slot} (l0b2 : Nat) (l1b2 : Int32) (l2b2 : Int32) (l3b2 : Int32) (h : wp_Mo_first_2 G ca post n M l0b2 l1b2 l2b2 l3b2) (hW : hw D wCl A M H) (hS : va_S A s.heap H locs) (hl : lv_has ls 4 [(0, .ref l0b2), (1, .int l1b2), (2, .int l2b2), (3, .int l3b2)]), W p l e rm_Mo_first s m args below meth c H locs 0 0 (MQ below (va_Qi post (fun M' t => hw D wCl A M' t.heap) A) args s 0 0 A) (F0 m 2 ls []) := by
  obtain ⟨hx, hb, hr, hml, hown, hts, hlocks, hK, hA, hZ0⟩ := id C0
  intro n
  induction n with
  | zero =>
    intro M H locs ls l0b2 l1b2 l2b2 l3b2 h
    exact False.elim h
  | succ n ih =>
    intro M H locs ls l0b2 l1b2 l2b2 l3b2 h hW hS hl
    have hk_2 := fun M H locs ls l0b2 l1b2 l2b2 l3b2 h hW hS hl => @ih M H locs ls l0b2 l1b2 l2b2 l3b2 h hW hS hl
    refine lv_iload_n hx hb d_Mo_first_2 rfl (lv_at hl 3 rfl) ?_
    refine lv_aload_n hx hb d_Mo_first_3 rfl (lv_at hl 0 rfl) ?_
    obtain ⟨fs, v15, h1, h2, h⟩ := h
    refine va_get (D := D) (ci := 5) (v := va_rf v15) (C := "ChannelHallModel") (T := TMo) (N := 26) hx hb hts uMo hown hK (hw_one hW h1) 0 rfl rfl 18 (by decide) (hts _ bw_992) (fun _ h9 => h9) h2 d_Mo_first_4 ?_
    refine lv_iload_n hx hb d_Mo_first_7 rfl (lv_at hl 1 rfl) ?_
    obtain ⟨b16, rfl, h⟩ := h
    obtain ⟨n, f, h1, h2, h⟩ := h
    refine va_iald hx hb hK (hw_one hW h1) 0 5 rfl rfl h2 d_Mo_first_8 ?_
    generalize f (l1b2).toNatClampNeg = v17 at h ⊢
    obtain ⟨h0, h1⟩ := h
    refine lv_icmp_ge (tgt := 50) hx hb d_Mo_first_9 (by decide) (fun c18 => ?_) (fun c18 => ?_)
    · have h := h0 c18
      refine lv_iconst (v := (-1)) hx hb d_Mo_first_50 (by decide) ?_
      exact W.iret hx hb hr (fun t ht hWm => ⟨⟨_, _, rfl, h, hw_t ht hW⟩, hS.F ht⟩) hS.2.2 d_Mo_first_51
    · have h := h1 c18
      refine lv_aload_n hx hb d_Mo_first_12 rfl (lv_at hl 0 rfl) ?_
      obtain ⟨fs, v19, h1, h2, h⟩ := h
      refine va_get (D := D) (ci := 5) (v := va_rf v19) (C := "ChannelHallModel") (T := TMo) (N := 26) hx hb hts uMo hown hK (hw_one hW h1) 0 rfl rfl 7 (by decide) (hts _ bw_981) (fun _ h9 => h9) h2 d_Mo_first_13 ?_
      refine lv_aload_n hx hb d_Mo_first_16 rfl (lv_at hl 0 rfl) ?_
      obtain ⟨fs, v20, h1, h2, h⟩ := h
      refine va_get (D := D) (ci := 5) (v := va_rf v20) (C := "ChannelHallModel") (T := TMo) (N := 26) hx hb hts uMo hown hK (hw_one hW h1) 0 rfl rfl 17 (by decide) (hts _ bw_991) (fun _ h9 => h9) h2 d_Mo_first_17 ?_
      refine lv_bipush (v := 6) hx hb d_Mo_first_20 (by decide) ?_
      refine lv_iload_n hx hb d_Mo_first_22 rfl (lv_at hl 1 rfl) ?_
      refine lv_imul hx hb d_Mo_first_23 ?_
      refine lv_iload_n hx hb d_Mo_first_24 rfl (lv_at hl 3 rfl) ?_
      refine lv_iadd hx hb d_Mo_first_25 ?_
      obtain ⟨b21, rfl, h⟩ := h
      obtain ⟨n, f, h1, h2, h⟩ := h
      refine va_iald hx hb hK (hw_one hW h1) 0 5 rfl rfl h2 d_Mo_first_26 ?_
      generalize f (((6 * l1b2) + l3b2)).toNatClampNeg = v22 at h ⊢
      obtain ⟨b23, rfl, h⟩ := h
      obtain ⟨n, f, h1, h2, h⟩ := h
      refine va_iald hx hb hK (hw_one hW h1) 0 5 rfl rfl h2 d_Mo_first_27 ?_
      generalize f (v22).toNatClampNeg = v24 at h ⊢
      refine lv_iload_n hx hb d_Mo_first_28 rfl (lv_at hl 2 rfl) ?_
      obtain ⟨h0, h1⟩ := h
      refine lv_icmp_ne (tgt := 44) hx hb d_Mo_first_29 (by decide) (fun c25 => ?_) (fun c25 => ?_)
      · have h := h0 c25
        refine lv_iinc (v := l3b2 + 1) (lv' := [(3, .int (l3b2 + 1)), (0, .ref l0b2), (1, .int l1b2), (2, .int l2b2)]) hx hb d_Mo_first_44 hl (k := 3) rfl rfl (by decide) rfl (fun ls hl => ?_)
        refine lv_goto (tgt := 2) hx hb d_Mo_first_47 (by decide) ?_
        exact hk_2 _ _ _ _ l0b2 l1b2 l2b2 (l3b2 + 1) h hW hS (lv_sub hl [1, 2, 3, 0] rfl)
      · have h := h1 c25
        refine lv_aload_n hx hb d_Mo_first_32 rfl (lv_at hl 0 rfl) ?_
        obtain ⟨fs, v26, h1, h2, h⟩ := h
        refine va_get (D := D) (ci := 5) (v := va_rf v26) (C := "ChannelHallModel") (T := TMo) (N := 26) hx hb hts uMo hown hK (hw_one hW h1) 0 rfl rfl 17 (by decide) (hts _ bw_991) (fun _ h9 => h9) h2 d_Mo_first_33 ?_
        refine lv_bipush (v := 6) hx hb d_Mo_first_36 (by decide) ?_
        refine lv_iload_n hx hb d_Mo_first_38 rfl (lv_at hl 1 rfl) ?_
        refine lv_imul hx hb d_Mo_first_39 ?_
        refine lv_iload_n hx hb d_Mo_first_40 rfl (lv_at hl 3 rfl) ?_
        refine lv_iadd hx hb d_Mo_first_41 ?_
        obtain ⟨b27, rfl, h⟩ := h
        obtain ⟨n, f, h1, h2, h⟩ := h
        refine va_iald hx hb hK (hw_one hW h1) 0 5 rfl rfl h2 d_Mo_first_42 ?_
        generalize f (((6 * l1b2) + l3b2)).toNatClampNeg = v28 at h ⊢
        exact W.iret hx hb hr (fun t ht hWm => ⟨⟨_, _, rfl, h, hw_t ht hW⟩, hS.F ht⟩) hS.2.2 d_Mo_first_43
set_option maxHeartbeats 1000000 in
set_option maxRecDepth 20000 in
theorem l_Mo_first_e {p : Program} {l : Launch} {e : Env} {s : State} {m : MethodId} {args : Array Value} {below : List Frame} {meth : Method} {c : Code} {D : va_G} {ca G : Nat → Nat} {A : Nat → Prop} (C0 : hC p s m args meth c D ca G prog_7_method_6_code 4 (some .int) "ChannelHallModel" A) {post : Int32 → hM → Prop} {M : hM} {H : Heap} {locs : List Loc} {ls : Array Slot} (a0 : Nat) (x1 : Int32) (x2 : Int32) (h : wp_Mo_first G ca post M a0 x1 x2) (hW : hw D wCl A M H) (hS : va_S A s.heap H locs) (hl : lv_has ls 4 [(0, .ref a0), (1, .int x1), (2, .int x2)]) : W p l e rm_Mo_first s m args below meth c H locs 0 0 (MQ below (va_Qi post (fun M' t => hw D wCl A M' t.heap) A) args s 0 0 A) (F0 m 0 ls []) := by
  obtain ⟨hx, hb, hr, hml, hown, hts, hlocks, hK, hA, hZ0⟩ := id C0
  refine lv_iconst (v := 0) hx hb d_Mo_first_0 (by decide) ?_
  refine lv_istore_n (lv' := [(3, .int 0), (0, .ref a0), (1, .int x1), (2, .int x2)]) hx hb d_Mo_first_1 rfl hl (by decide) rfl (fun ls hl => ?_)
  obtain ⟨n, h⟩ := h
  exact l_Mo_first_2 C0 n a0 x1 x2 0 h hW hS (lv_sub hl [1, 2, 3, 0] rfl)
set_option maxRecDepth 20000 in
theorem c_Mo_first {l : Launch} {D : va_G} {ca G : Nat → Nat} (post : Int32 → hM → Prop) {M : hM} {sz : Nat} {a0 : Nat} {x1 : Int32} {x2 : Int32} (h : wp_Mo_first G ca post M a0 x1 x2) : Met l y_Mo_first (wz y_Mo_first prog_7_method_6_code 4 (some .int)) rm_Mo_first (va_Pc [.ref a0, .int x1, .int x2] (hI D ca G sz M)) (va_Qi post (hB D M sz) (hp_A M sz)) 0 0 (hp_A M sz) := by
  refine Met.ofW (cc := prog_7_method_6_code) (maxL := 4) (ret := some .int) (by decide) rfl ?_
  intro p e s m args below meth c s₁ B hml hv
  obtain ⟨rfl, hsz, hW, hK, hZ0⟩ := hv
  have hts := fun w hw => atoms_spec (ws := wz y_Mo_first prog_7_method_6_code 4 (some .int)) B.pre w (List.mem_cons_of_mem _ hw)
  have hown : s.vm.findClass "ChannelHallModel" = some m.cls := findClass_of_methodNamed B.named
  subst hsz
  have hl := lv_entry [.ref a0, .int x1, .int x2] (n := 4) (Nat.le_of_ble_eq_true rfl)
  rw [lg_entry_eq]
  exact l_Mo_first_e ⟨B.exec, B.bytes, B.returns, hml, hown, hts, B.notSynchronized, hK, fun q h => Or.inr h, hZ0⟩ a0 x1 x2 h hW va_S.rf hl

theorem d_Mo_settle_0 : decode prog_7_method_7_code 0 = .ok (.aload_n 0, 1) := by decide +kernel
theorem d_Mo_settle_1 : decode prog_7_method_7_code 1 = .ok (.getfield 16, 3) := by decide +kernel
theorem d_Mo_settle_4 : decode prog_7_method_7_code 4 = .ok (.iload_n 1, 1) := by decide +kernel
theorem d_Mo_settle_5 : decode prog_7_method_7_code 5 = .ok (.iload_n 2, 1) := by decide +kernel
theorem d_Mo_settle_6 : decode prog_7_method_7_code 6 = .ok (.iastore, 1) := by decide +kernel
theorem d_Mo_settle_7 : decode prog_7_method_7_code 7 = .ok (.iload_n 2, 1) := by decide +kernel
theorem d_Mo_settle_8 : decode prog_7_method_7_code 8 = .ok (.ireturn, 1) := by decide +kernel
def y_Mo_settle : MethodName := ⟨"ChannelHallModel", "settle", "(II)I"⟩
abbrev rm_Mo_settle : Room := { frames := 0, cells := 0, slots := 0, locals := 0 }
def wp_Mo_settle (G ca : Nat → Nat) (post : Int32 → hM → Prop) (M : hM) (a0 : Nat) (x1 : Int32) (x2 : Int32) : Prop := gR M a0 5 3 fun v4 => nN v4 fun b5 => sI M b5 (ca 5) x1 x2 fun M6 => post x2 M6
set_option maxHeartbeats 1000000 in
set_option maxRecDepth 20000 in
theorem l_Mo_settle_e {p : Program} {l : Launch} {e : Env} {s : State} {m : MethodId} {args : Array Value} {below : List Frame} {meth : Method} {c : Code} {D : va_G} {ca G : Nat → Nat} {A : Nat → Prop} (C0 : hC p s m args meth c D ca G prog_7_method_7_code 3 (some .int) "ChannelHallModel" A) {post : Int32 → hM → Prop} {M : hM} {H : Heap} {locs : List Loc} {ls : Array Slot} (a0 : Nat) (x1 : Int32) (x2 : Int32) (h : wp_Mo_settle G ca post M a0 x1 x2) (hW : hw D wCl A M H) (hS : va_S A s.heap H locs) (hl : lv_has ls 3 [(0, .ref a0), (1, .int x1), (2, .int x2)]) : W p l e rm_Mo_settle s m args below meth c H locs 0 0 (MQ below (va_Qi post (fun M' t => hw D wCl A M' t.heap) A) args s 0 0 A) (F0 m 0 ls []) := by
  obtain ⟨hx, hb, hr, hml, hown, hts, hlocks, hK, hA, hZ0⟩ := id C0
  refine lv_aload_n hx hb d_Mo_settle_0 rfl (lv_at hl 0 rfl) ?_
  obtain ⟨fs, v4, h1, h2, h⟩ := h
  refine va_get (D := D) (ci := 5) (v := va_rf v4) (C := "ChannelHallModel") (T := TMo) (N := 26) hx hb hts uMo hown hK (hw_one hW h1) 0 rfl rfl 3 (by decide) (hts _ bw_977) (fun _ h9 => h9) h2 d_Mo_settle_1 ?_
  refine lv_iload_n hx hb d_Mo_settle_4 rfl (lv_at hl 1 rfl) ?_
  refine lv_iload_n hx hb d_Mo_settle_5 rfl (lv_at hl 2 rfl) ?_
  obtain ⟨b5, rfl, h⟩ := h
  obtain ⟨n, f, h1, h2, h⟩ := h
  obtain ⟨ws, q0, hq, hP, hD, hback, -⟩ := hw_open hW h1
  refine va_iast hx hb hK hP hD hS q0 5 hq rfl h2 d_Mo_settle_6 (fun H locs hP hD hS => ?_)
  have hW := hback _ _ hP hD
  generalize hM2 : va_up M b5 _ = M6 at h hW
  refine lv_iload_n hx hb d_Mo_settle_7 rfl (lv_at hl 2 rfl) ?_
  exact W.iret hx hb hr (fun t ht hWm => ⟨⟨_, _, rfl, h, hw_t ht hW⟩, hS.F ht⟩) hS.2.2 d_Mo_settle_8
set_option maxRecDepth 20000 in
theorem c_Mo_settle {l : Launch} {D : va_G} {ca G : Nat → Nat} (post : Int32 → hM → Prop) {M : hM} {sz : Nat} {a0 : Nat} {x1 : Int32} {x2 : Int32} (h : wp_Mo_settle G ca post M a0 x1 x2) : Met l y_Mo_settle (wz y_Mo_settle prog_7_method_7_code 3 (some .int)) rm_Mo_settle (va_Pc [.ref a0, .int x1, .int x2] (hI D ca G sz M)) (va_Qi post (hB D M sz) (hp_A M sz)) 0 0 (hp_A M sz) := by
  refine Met.ofW (cc := prog_7_method_7_code) (maxL := 3) (ret := some .int) (by decide) rfl ?_
  intro p e s m args below meth c s₁ B hml hv
  obtain ⟨rfl, hsz, hW, hK, hZ0⟩ := hv
  have hts := fun w hw => atoms_spec (ws := wz y_Mo_settle prog_7_method_7_code 3 (some .int)) B.pre w (List.mem_cons_of_mem _ hw)
  have hown : s.vm.findClass "ChannelHallModel" = some m.cls := findClass_of_methodNamed B.named
  subst hsz
  have hl := lv_entry [.ref a0, .int x1, .int x2] (n := 3) (Nat.le_of_ble_eq_true rfl)
  rw [lg_entry_eq]
  exact l_Mo_settle_e ⟨B.exec, B.bytes, B.returns, hml, hown, hts, B.notSynchronized, hK, fun q h => Or.inr h, hZ0⟩ a0 x1 x2 h hW va_S.rf hl

theorem d_Mo_waitAt_0 : decode prog_7_method_8_code 0 = .ok (.dload 4, 2) := by decide +kernel
theorem d_Mo_waitAt_2 : decode prog_7_method_8_code 2 = .ok (.dconst 0, 1) := by decide +kernel
theorem d_Mo_waitAt_3 : decode prog_7_method_8_code 3 = .ok (.dcmp .l, 1) := by decide +kernel
theorem d_Mo_waitAt_4 : decode prog_7_method_8_code 4 = .ok (.ifCond .ne 10, 3) := by decide +kernel
theorem d_Mo_waitAt_7 : decode prog_7_method_8_code 7 = .ok (.aload_n 0, 1) := by decide +kernel
theorem d_Mo_waitAt_8 : decode prog_7_method_8_code 8 = .ok (.iload_n 1, 1) := by decide +kernel
theorem d_Mo_waitAt_9 : decode prog_7_method_8_code 9 = .ok (.iconst 2, 1) := by decide +kernel
theorem d_Mo_waitAt_10 : decode prog_7_method_8_code 10 = .ok (.invokevirtual 98, 3) := by decide +kernel
theorem d_Mo_waitAt_13 : decode prog_7_method_8_code 13 = .ok (.ireturn, 1) := by decide +kernel
theorem d_Mo_waitAt_14 : decode prog_7_method_8_code 14 = .ok (.aload_n 0, 1) := by decide +kernel
theorem d_Mo_waitAt_15 : decode prog_7_method_8_code 15 = .ok (.getfield 57, 3) := by decide +kernel
theorem d_Mo_waitAt_18 : decode prog_7_method_8_code 18 = .ok (.bipush 6, 2) := by decide +kernel
theorem d_Mo_waitAt_20 : decode prog_7_method_8_code 20 = .ok (.iload_n 2, 1) := by decide +kernel
theorem d_Mo_waitAt_21 : decode prog_7_method_8_code 21 = .ok (.imul, 1) := by decide +kernel
theorem d_Mo_waitAt_22 : decode prog_7_method_8_code 22 = .ok (.aload_n 0, 1) := by decide +kernel
theorem d_Mo_waitAt_23 : decode prog_7_method_8_code 23 = .ok (.getfield 60, 3) := by decide +kernel
theorem d_Mo_waitAt_26 : decode prog_7_method_8_code 26 = .ok (.iload_n 2, 1) := by decide +kernel
theorem d_Mo_waitAt_27 : decode prog_7_method_8_code 27 = .ok (.iaload, 1) := by decide +kernel
theorem d_Mo_waitAt_28 : decode prog_7_method_8_code 28 = .ok (.iadd, 1) := by decide +kernel
theorem d_Mo_waitAt_29 : decode prog_7_method_8_code 29 = .ok (.iload_n 1, 1) := by decide +kernel
theorem d_Mo_waitAt_30 : decode prog_7_method_8_code 30 = .ok (.iastore, 1) := by decide +kernel
theorem d_Mo_waitAt_31 : decode prog_7_method_8_code 31 = .ok (.aload_n 0, 1) := by decide +kernel
theorem d_Mo_waitAt_32 : decode prog_7_method_8_code 32 = .ok (.getfield 60, 3) := by decide +kernel
theorem d_Mo_waitAt_35 : decode prog_7_method_8_code 35 = .ok (.iload_n 2, 1) := by decide +kernel
theorem d_Mo_waitAt_36 : decode prog_7_method_8_code 36 = .ok (.dup2, 1) := by decide +kernel
theorem d_Mo_waitAt_37 : decode prog_7_method_8_code 37 = .ok (.iaload, 1) := by decide +kernel
theorem d_Mo_waitAt_38 : decode prog_7_method_8_code 38 = .ok (.iconst 1, 1) := by decide +kernel
theorem d_Mo_waitAt_39 : decode prog_7_method_8_code 39 = .ok (.iadd, 1) := by decide +kernel
theorem d_Mo_waitAt_40 : decode prog_7_method_8_code 40 = .ok (.iastore, 1) := by decide +kernel
theorem d_Mo_waitAt_41 : decode prog_7_method_8_code 41 = .ok (.aload_n 0, 1) := by decide +kernel
theorem d_Mo_waitAt_42 : decode prog_7_method_8_code 42 = .ok (.getfield 26, 3) := by decide +kernel
theorem d_Mo_waitAt_45 : decode prog_7_method_8_code 45 = .ok (.iload_n 1, 1) := by decide +kernel
theorem d_Mo_waitAt_46 : decode prog_7_method_8_code 46 = .ok (.iload_n 2, 1) := by decide +kernel
theorem d_Mo_waitAt_47 : decode prog_7_method_8_code 47 = .ok (.iastore, 1) := by decide +kernel
theorem d_Mo_waitAt_48 : decode prog_7_method_8_code 48 = .ok (.aload_n 0, 1) := by decide +kernel
theorem d_Mo_waitAt_49 : decode prog_7_method_8_code 49 = .ok (.getfield 29, 3) := by decide +kernel
theorem d_Mo_waitAt_52 : decode prog_7_method_8_code 52 = .ok (.iload_n 1, 1) := by decide +kernel
theorem d_Mo_waitAt_53 : decode prog_7_method_8_code 53 = .ok (.iload_n 3, 1) := by decide +kernel
theorem d_Mo_waitAt_54 : decode prog_7_method_8_code 54 = .ok (.iastore, 1) := by decide +kernel
theorem d_Mo_waitAt_55 : decode prog_7_method_8_code 55 = .ok (.aload_n 0, 1) := by decide +kernel
theorem d_Mo_waitAt_56 : decode prog_7_method_8_code 56 = .ok (.getfield 7, 3) := by decide +kernel
theorem d_Mo_waitAt_59 : decode prog_7_method_8_code 59 = .ok (.iload_n 1, 1) := by decide +kernel
theorem d_Mo_waitAt_60 : decode prog_7_method_8_code 60 = .ok (.iconst 1, 1) := by decide +kernel
theorem d_Mo_waitAt_61 : decode prog_7_method_8_code 61 = .ok (.bastore, 1) := by decide +kernel
theorem d_Mo_waitAt_62 : decode prog_7_method_8_code 62 = .ok (.aload_n 0, 1) := by decide +kernel
theorem d_Mo_waitAt_63 : decode prog_7_method_8_code 63 = .ok (.getfield 42, 3) := by decide +kernel
theorem d_Mo_waitAt_66 : decode prog_7_method_8_code 66 = .ok (.iload_n 1, 1) := by decide +kernel
theorem d_Mo_waitAt_67 : decode prog_7_method_8_code 67 = .ok (.dload 4, 2) := by decide +kernel
theorem d_Mo_waitAt_69 : decode prog_7_method_8_code 69 = .ok (.dconst 0, 1) := by decide +kernel
theorem d_Mo_waitAt_70 : decode prog_7_method_8_code 70 = .ok (.dcmp .l, 1) := by decide +kernel
theorem d_Mo_waitAt_71 : decode prog_7_method_8_code 71 = .ok (.ifCond .le 13, 3) := by decide +kernel
theorem d_Mo_waitAt_74 : decode prog_7_method_8_code 74 = .ok (.aload_n 0, 1) := by decide +kernel
theorem d_Mo_waitAt_75 : decode prog_7_method_8_code 75 = .ok (.getfield 102, 3) := by decide +kernel
theorem d_Mo_waitAt_78 : decode prog_7_method_8_code 78 = .ok (.dload 4, 2) := by decide +kernel
theorem d_Mo_waitAt_80 : decode prog_7_method_8_code 80 = .ok (.dadd, 1) := by decide +kernel
theorem d_Mo_waitAt_81 : decode prog_7_method_8_code 81 = .ok (.goto 6, 3) := by decide +kernel
theorem d_Mo_waitAt_84 : decode prog_7_method_8_code 84 = .ok (.ldc2_w 84, 3) := by decide +kernel
theorem d_Mo_waitAt_87 : decode prog_7_method_8_code 87 = .ok (.dastore, 1) := by decide +kernel
theorem d_Mo_waitAt_88 : decode prog_7_method_8_code 88 = .ok (.aload_n 0, 1) := by decide +kernel
theorem d_Mo_waitAt_89 : decode prog_7_method_8_code 89 = .ok (.iload_n 1, 1) := by decide +kernel
theorem d_Mo_waitAt_90 : decode prog_7_method_8_code 90 = .ok (.iconst 0, 1) := by decide +kernel
theorem d_Mo_waitAt_91 : decode prog_7_method_8_code 91 = .ok (.invokevirtual 98, 3) := by decide +kernel
theorem d_Mo_waitAt_94 : decode prog_7_method_8_code 94 = .ok (.ireturn, 1) := by decide +kernel
def y_Mo_waitAt : MethodName := ⟨"ChannelHallModel", "waitAt", "(IIID)I"⟩
abbrev rm_Mo_waitAt : Room := { frames := 1, cells := 0, slots := 0, locals := 22 }
def wp_Mo_waitAt_87 (G ca : Nat → Nat) (post : Int32 → hM → Prop) (M : hM) (l0b87 : Nat) (l1b87 : Int32) (s0b87 : UInt64) (s1b87 : Int32) (s2b87 : Option Nat) : Prop := nN s2b87 fun b30 => sD M b30 (ca 4) s1b87 s0b87 fun M31 => rC M31 l0b87 5 (wp_Mo_settle G ca (fun r32 M33 => post r32 M33) M31 l0b87 l1b87 0)
def wp_Mo_waitAt (G ca : Nat → Nat) (post : Int32 → hM → Prop) (M : hM) (a0 : Nat) (x1 : Int32) (x2 : Int32) (x3 : Int32) (x4 : UInt64) : Prop := (¬ (Op.cmpValue (FP.dcmp x4 FP.dconst0) .l) = 0 → gR M a0 5 17 fun v35 => gR M a0 5 18 fun v36 => nN v36 fun b37 => aI M b37 (ca 5) x2 fun v38 => nN v35 fun b39 => sI M b39 (ca 5) ((6 * x2) + v38) x1 fun M40 => gR M40 a0 5 18 fun v41 => nN v41 fun b42 => aI M40 b42 (ca 5) x2 fun v43 => sI M40 b42 (ca 5) x2 (v43 + 1) fun M44 => gR M44 a0 5 6 fun v45 => nN v45 fun b46 => sI M44 b46 (ca 5) x1 x2 fun M47 => gR M47 a0 5 7 fun v48 => nN v48 fun b49 => sI M47 b49 (ca 5) x1 x3 fun M50 => gR M50 a0 5 1 fun v51 => nN v51 fun b52 => bZ 1 (sI M50 b52 (ca 6) x1 1 fun M53 => gR M53 a0 5 11 fun v54 => ((Op.cmpValue (FP.dcmp x4 FP.dconst0) .l) ≤ 0 → wp_Mo_waitAt_87 G ca post M53 a0 x1 13830554455654793216 x1 v54) ∧ (¬ (Op.cmpValue (FP.dcmp x4 FP.dconst0) .l) ≤ 0 → gD M53 a0 5 12 fun v56 => nD (FP.dadd v56 x4) (wp_Mo_waitAt_87 G ca post M53 a0 x1 (FP.dadd v56 x4) x1 v54)))) ∧ ((Op.cmpValue (FP.dcmp x4 FP.dconst0) .l) = 0 → rC M a0 5 (wp_Mo_settle G ca (fun r57 M58 => post r57 M58) M a0 x1 2))
set_option maxHeartbeats 1000000 in
set_option maxRecDepth 20000 in
theorem l_Mo_waitAt_87 {p : Program} {l : Launch} {e : Env} {s : State} {m : MethodId} {args : Array Value} {below : List Frame} {meth : Method} {c : Code} {D : va_G} {ca G : Nat → Nat} {A : Nat → Prop} (C0 : hC p s m args meth c D ca G prog_7_method_8_code 6 (some .int) "ChannelHallModel" A) {post : Int32 → hM → Prop} {M : hM} {H : Heap} {locs : List Loc} {ls : Array Slot} (l0b87 : Nat) (l1b87 : Int32) (s0b87 : UInt64) (s1b87 : Int32) (s2b87 : Option Nat) (h : wp_Mo_waitAt_87 G ca post M l0b87 l1b87 s0b87 s1b87 s2b87) (hW : hw D wCl A M H) (hS : va_S A s.heap H locs) (hl : lv_has ls 6 [(0, .ref l0b87), (1, .int l1b87)]) : W p l e rm_Mo_waitAt s m args below meth c H locs 0 0 (MQ below (va_Qi post (fun M' t => hw D wCl A M' t.heap) A) args s 0 0 A) (F0 m 87 ls [.double s0b87, .int s1b87, va_rf s2b87]) := by
  obtain ⟨hx, hb, hr, hml, hown, hts, hlocks, hK, hA, hZ0⟩ := id C0
  obtain ⟨b30, rfl, h⟩ := h
  obtain ⟨n, f, h1, h2, h⟩ := h
  obtain ⟨ws, q0, hq, hP, hD, hback, -⟩ := hw_open hW h1
  refine va_dast hx hb hK hP hD hS q0 4 hq rfl h2 d_Mo_waitAt_87 (fun H locs hP hD hS => ?_)
  have hW := hback _ _ hP hD
  generalize hM2 : va_up M b30 _ = M31 at h hW
  refine lv_aload_n hx hb d_Mo_waitAt_88 rfl (lv_at hl 0 rfl) ?_
  refine lv_iload_n hx hb d_Mo_waitAt_89 rfl (lv_at hl 1 rfl) ?_
  refine lv_iconst (v := 0) hx hb d_Mo_waitAt_90 (by decide) ?_
  obtain ⟨⟨fs, h1⟩, h⟩ := h
  have h9 := h
  clear h
  have hF := hW.free hS hA
  refine va_calli (va_runV (As := [.int l1b87, .int 0]) (rest := []) ⟨hx, hb, hml, hown, hts⟩ (c_Mo_settle _ h9) (cwV 2 hts (gi_V bw_1098 bw_1100 bs_26 bw_5 bw_1101) rfl rfl rfl (by decide +kernel) ⟨Nat.le_of_ble_eq_true rfl, Nat.le_of_ble_eq_true rfl⟩) ⟨hI.blind, hw_recv hK hW h1 rfl, hI.give hW hS hA hK hZ0⟩ rfl rfl hl.1 rfl (lv_room (Nat.le_of_ble_eq_true rfl)) d_Mo_waitAt_91 ⟨(show _ ≤ 0 by omega), (show _ ≤ 0 by omega)⟩) hS (fun q _ z => hF q z) hF (fun r32 M33 t H locs ht _ h hB1 _ _ hS => ?_)
  have hW := hw_back hF ht hB1
  clear h9
  exact W.iret hx hb hr (fun t ht hWm => ⟨⟨_, _, rfl, h, hw_t ht hW⟩, hS.F ht⟩) hS.2.2 d_Mo_waitAt_94
set_option maxHeartbeats 1000000 in
set_option maxRecDepth 20000 in
theorem l_Mo_waitAt_e {p : Program} {l : Launch} {e : Env} {s : State} {m : MethodId} {args : Array Value} {below : List Frame} {meth : Method} {c : Code} {D : va_G} {ca G : Nat → Nat} {A : Nat → Prop} (C0 : hC p s m args meth c D ca G prog_7_method_8_code 6 (some .int) "ChannelHallModel" A) {post : Int32 → hM → Prop} {M : hM} {H : Heap} {locs : List Loc} {ls : Array Slot} (a0 : Nat) (x1 : Int32) (x2 : Int32) (x3 : Int32) (x4 : UInt64) (h : wp_Mo_waitAt G ca post M a0 x1 x2 x3 x4) (hW : hw D wCl A M H) (hS : va_S A s.heap H locs) (hl : lv_has ls 6 [(0, .ref a0), (1, .int x1), (2, .int x2), (3, .int x3), (4, .double x4)]) : W p l e rm_Mo_waitAt s m args below meth c H locs 0 0 (MQ below (va_Qi post (fun M' t => hw D wCl A M' t.heap) A) args s 0 0 A) (F0 m 0 ls []) := by
  obtain ⟨hx, hb, hr, hml, hown, hts, hlocks, hK, hA, hZ0⟩ := id C0
  refine lv_dload hx hb d_Mo_waitAt_0 (lv_at hl 4 rfl) ?_
  refine lv_dconst0 hx hb d_Mo_waitAt_2 ?_
  refine lv_dcmp hx hb d_Mo_waitAt_3 ?_
  obtain ⟨h0, h1⟩ := h
  refine lv_if_ne (tgt := 14) hx hb d_Mo_waitAt_4 (by decide) (fun c34 => ?_) (fun c34 => ?_)
  · have h := h0 c34
    refine lv_aload_n hx hb d_Mo_waitAt_14 rfl (lv_at hl 0 rfl) ?_
    obtain ⟨fs, v35, h1, h2, h⟩ := h
    refine va_get (D := D) (ci := 5) (v := va_rf v35) (C := "ChannelHallModel") (T := TMo) (N := 26) hx hb hts uMo hown hK (hw_one hW h1) 0 rfl rfl 17 (by decide) (hts _ bw_991) (fun _ h9 => h9) h2 d_Mo_waitAt_15 ?_
    refine lv_bipush (v := 6) hx hb d_Mo_waitAt_18 (by decide) ?_
    refine lv_iload_n hx hb d_Mo_waitAt_20 rfl (lv_at hl 2 rfl) ?_
    refine lv_imul hx hb d_Mo_waitAt_21 ?_
    refine lv_aload_n hx hb d_Mo_waitAt_22 rfl (lv_at hl 0 rfl) ?_
    obtain ⟨fs, v36, h1, h2, h⟩ := h
    refine va_get (D := D) (ci := 5) (v := va_rf v36) (C := "ChannelHallModel") (T := TMo) (N := 26) hx hb hts uMo hown hK (hw_one hW h1) 0 rfl rfl 18 (by decide) (hts _ bw_992) (fun _ h9 => h9) h2 d_Mo_waitAt_23 ?_
    refine lv_iload_n hx hb d_Mo_waitAt_26 rfl (lv_at hl 2 rfl) ?_
    obtain ⟨b37, rfl, h⟩ := h
    obtain ⟨n, f, h1, h2, h⟩ := h
    refine va_iald hx hb hK (hw_one hW h1) 0 5 rfl rfl h2 d_Mo_waitAt_27 ?_
    generalize f (x2).toNatClampNeg = v38 at h ⊢
    refine lv_iadd hx hb d_Mo_waitAt_28 ?_
    refine lv_iload_n hx hb d_Mo_waitAt_29 rfl (lv_at hl 1 rfl) ?_
    obtain ⟨b39, rfl, h⟩ := h
    obtain ⟨n, f, h1, h2, h⟩ := h
    obtain ⟨ws, q0, hq, hP, hD, hback, -⟩ := hw_open hW h1
    refine va_iast hx hb hK hP hD hS q0 5 hq rfl h2 d_Mo_waitAt_30 (fun H locs hP hD hS => ?_)
    have hW := hback _ _ hP hD
    generalize hM2 : va_up M b39 _ = M40 at h hW
    refine lv_aload_n hx hb d_Mo_waitAt_31 rfl (lv_at hl 0 rfl) ?_
    obtain ⟨fs, v41, h1, h2, h⟩ := h
    refine va_get (D := D) (ci := 5) (v := va_rf v41) (C := "ChannelHallModel") (T := TMo) (N := 26) hx hb hts uMo hown hK (hw_one hW h1) 0 rfl rfl 18 (by decide) (hts _ bw_992) (fun _ h9 => h9) h2 d_Mo_waitAt_32 ?_
    refine lv_iload_n hx hb d_Mo_waitAt_35 rfl (lv_at hl 2 rfl) ?_
    refine lv_dup2_11 hx hb d_Mo_waitAt_36 rfl (by cases v41 <;> rfl) ?_
    obtain ⟨b42, rfl, h⟩ := h
    obtain ⟨n, f, h1, h2, h⟩ := h
    refine va_iald hx hb hK (hw_one hW h1) 0 5 rfl rfl h2 d_Mo_waitAt_37 ?_
    generalize f (x2).toNatClampNeg = v43 at h ⊢
    refine lv_iconst (v := 1) hx hb d_Mo_waitAt_38 (by decide) ?_
    refine lv_iadd hx hb d_Mo_waitAt_39 ?_
    obtain ⟨n, f, h1, h2, h⟩ := h
    obtain ⟨ws, q0, hq, hP, hD, hback, -⟩ := hw_open hW h1
    refine va_iast hx hb hK hP hD hS q0 5 hq rfl h2 d_Mo_waitAt_40 (fun H locs hP hD hS => ?_)
    have hW := hback _ _ hP hD
    generalize hM2 : va_up M40 b42 _ = M44 at h hW
    refine lv_aload_n hx hb d_Mo_waitAt_41 rfl (lv_at hl 0 rfl) ?_
    obtain ⟨fs, v45, h1, h2, h⟩ := h
    refine va_get (D := D) (ci := 5) (v := va_rf v45) (C := "ChannelHallModel") (T := TMo) (N := 26) hx hb hts uMo hown hK (hw_one hW h1) 0 rfl rfl 6 (by decide) (hts _ bw_980) (fun _ h9 => h9) h2 d_Mo_waitAt_42 ?_
    refine lv_iload_n hx hb d_Mo_waitAt_45 rfl (lv_at hl 1 rfl) ?_
    refine lv_iload_n hx hb d_Mo_waitAt_46 rfl (lv_at hl 2 rfl) ?_
    obtain ⟨b46, rfl, h⟩ := h
    obtain ⟨n, f, h1, h2, h⟩ := h
    obtain ⟨ws, q0, hq, hP, hD, hback, -⟩ := hw_open hW h1
    refine va_iast hx hb hK hP hD hS q0 5 hq rfl h2 d_Mo_waitAt_47 (fun H locs hP hD hS => ?_)
    have hW := hback _ _ hP hD
    generalize hM2 : va_up M44 b46 _ = M47 at h hW
    refine lv_aload_n hx hb d_Mo_waitAt_48 rfl (lv_at hl 0 rfl) ?_
    obtain ⟨fs, v48, h1, h2, h⟩ := h
    refine va_get (D := D) (ci := 5) (v := va_rf v48) (C := "ChannelHallModel") (T := TMo) (N := 26) hx hb hts uMo hown hK (hw_one hW h1) 0 rfl rfl 7 (by decide) (hts _ bw_981) (fun _ h9 => h9) h2 d_Mo_waitAt_49 ?_
    refine lv_iload_n hx hb d_Mo_waitAt_52 rfl (lv_at hl 1 rfl) ?_
    refine lv_iload_n hx hb d_Mo_waitAt_53 rfl (lv_at hl 3 rfl) ?_
    obtain ⟨b49, rfl, h⟩ := h
    obtain ⟨n, f, h1, h2, h⟩ := h
    obtain ⟨ws, q0, hq, hP, hD, hback, -⟩ := hw_open hW h1
    refine va_iast hx hb hK hP hD hS q0 5 hq rfl h2 d_Mo_waitAt_54 (fun H locs hP hD hS => ?_)
    have hW := hback _ _ hP hD
    generalize hM2 : va_up M47 b49 _ = M50 at h hW
    refine lv_aload_n hx hb d_Mo_waitAt_55 rfl (lv_at hl 0 rfl) ?_
    obtain ⟨fs, v51, h1, h2, h⟩ := h
    refine va_get (D := D) (ci := 5) (v := va_rf v51) (C := "ChannelHallModel") (T := TMo) (N := 26) hx hb hts uMo hown hK (hw_one hW h1) 0 rfl rfl 1 (by decide) (hts _ bw_975) (fun _ h9 => h9) h2 d_Mo_waitAt_56 ?_
    refine lv_iload_n hx hb d_Mo_waitAt_59 rfl (lv_at hl 1 rfl) ?_
    refine lv_iconst (v := 1) hx hb d_Mo_waitAt_60 (by decide) ?_
    obtain ⟨b52, rfl, h⟩ := h
    obtain ⟨hz, n, f, h1, h2, h⟩ := h
    obtain ⟨ws, q0, hq, hP, hD, hback, -⟩ := hw_open hW h1
    refine va_zast (x := 1) hx hb hK hP hD hS q0 6 hq rfl h2 d_Mo_waitAt_61 (fun H locs hP hD hS => ?_)
    rw [nb_v hz] at hP hD
    have hW := hback _ _ hP hD
    generalize hM2 : va_up M50 b52 _ = M53 at h hW
    refine lv_aload_n hx hb d_Mo_waitAt_62 rfl (lv_at hl 0 rfl) ?_
    obtain ⟨fs, v54, h1, h2, h⟩ := h
    refine va_get (D := D) (ci := 5) (v := va_rf v54) (C := "ChannelHallModel") (T := TMo) (N := 26) hx hb hts uMo hown hK (hw_one hW h1) 0 rfl rfl 11 (by decide) (hts _ bw_985) (fun _ h9 => h9) h2 d_Mo_waitAt_63 ?_
    refine lv_iload_n hx hb d_Mo_waitAt_66 rfl (lv_at hl 1 rfl) ?_
    refine lv_dload hx hb d_Mo_waitAt_67 (lv_at hl 4 rfl) ?_
    refine lv_dconst0 hx hb d_Mo_waitAt_69 ?_
    refine lv_dcmp hx hb d_Mo_waitAt_70 ?_
    obtain ⟨h0, h1⟩ := h
    refine lv_if_le (tgt := 84) hx hb d_Mo_waitAt_71 (by decide) (fun c55 => ?_) (fun c55 => ?_)
    · have h := h0 c55
      refine lv_ldc2d (v := 13830554455654793216) hx hb hown (hts _ bw_973) d_Mo_waitAt_84 ?_
      exact l_Mo_waitAt_87 C0 a0 x1 13830554455654793216 x1 v54 h hW hS (lv_sub hl [0, 1] rfl)
    · have h := h1 c55
      refine lv_aload_n hx hb d_Mo_waitAt_74 rfl (lv_at hl 0 rfl) ?_
      obtain ⟨fs, v56, h1, h2, h⟩ := h
      refine va_get (D := D) (ci := 5) (v := .double v56) (C := "ChannelHallModel") (T := TMo) (N := 26) hx hb hts uMo hown hK (hw_one hW h1) 0 rfl rfl 12 (by decide) (hts _ bw_986) (fun _ h9 => h9) h2 d_Mo_waitAt_75 ?_
      refine lv_dload hx hb d_Mo_waitAt_78 (lv_at hl 4 rfl) ?_
      obtain ⟨hn, h⟩ := h
      refine lv_dadd hx hb d_Mo_waitAt_80 hn ?_
      refine lv_goto (tgt := 87) hx hb d_Mo_waitAt_81 (by decide) ?_
      exact l_Mo_waitAt_87 C0 a0 x1 (FP.dadd v56 x4) x1 v54 h hW hS (lv_sub hl [0, 1] rfl)
  · have h := h1 c34
    refine lv_aload_n hx hb d_Mo_waitAt_7 rfl (lv_at hl 0 rfl) ?_
    refine lv_iload_n hx hb d_Mo_waitAt_8 rfl (lv_at hl 1 rfl) ?_
    refine lv_iconst (v := 2) hx hb d_Mo_waitAt_9 (by decide) ?_
    obtain ⟨⟨fs, h1⟩, h⟩ := h
    have h9 := h
    clear h
    have hF := hW.free hS hA
    refine va_calli (va_runV (As := [.int x1, .int 2]) (rest := []) ⟨hx, hb, hml, hown, hts⟩ (c_Mo_settle _ h9) (cwV 2 hts (gi_V bw_1098 bw_1100 bs_26 bw_5 bw_1101) rfl rfl rfl (by decide +kernel) ⟨Nat.le_of_ble_eq_true rfl, Nat.le_of_ble_eq_true rfl⟩) ⟨hI.blind, hw_recv hK hW h1 rfl, hI.give hW hS hA hK hZ0⟩ rfl rfl hl.1 rfl (lv_room (Nat.le_of_ble_eq_true rfl)) d_Mo_waitAt_10 ⟨(show _ ≤ 0 by omega), (show _ ≤ 0 by omega)⟩) hS (fun q _ z => hF q z) hF (fun r57 M58 t H locs ht _ h hB1 _ _ hS => ?_)
    have hW := hw_back hF ht hB1
    clear h9
    exact W.iret hx hb hr (fun t ht hWm => ⟨⟨_, _, rfl, h, hw_t ht hW⟩, hS.F ht⟩) hS.2.2 d_Mo_waitAt_13
set_option maxRecDepth 20000 in
theorem c_Mo_waitAt {l : Launch} {D : va_G} {ca G : Nat → Nat} (post : Int32 → hM → Prop) {M : hM} {sz : Nat} {a0 : Nat} {x1 : Int32} {x2 : Int32} {x3 : Int32} {x4 : UInt64} (h : wp_Mo_waitAt G ca post M a0 x1 x2 x3 x4) : Met l y_Mo_waitAt (wz y_Mo_waitAt prog_7_method_8_code 6 (some .int)) rm_Mo_waitAt (va_Pc [.ref a0, .int x1, .int x2, .int x3, .double x4] (hI D ca G sz M)) (va_Qi post (hB D M sz) (hp_A M sz)) 0 0 (hp_A M sz) := by
  refine Met.ofW (cc := prog_7_method_8_code) (maxL := 6) (ret := some .int) (by decide) rfl ?_
  intro p e s m args below meth c s₁ B hml hv
  obtain ⟨rfl, hsz, hW, hK, hZ0⟩ := hv
  have hts := fun w hw => atoms_spec (ws := wz y_Mo_waitAt prog_7_method_8_code 6 (some .int)) B.pre w (List.mem_cons_of_mem _ hw)
  have hown : s.vm.findClass "ChannelHallModel" = some m.cls := findClass_of_methodNamed B.named
  subst hsz
  have hl := lv_entry [.ref a0, .int x1, .int x2, .int x3, .double x4] (n := 6) (Nat.le_of_ble_eq_true rfl)
  rw [lg_entry_eq]
  exact l_Mo_waitAt_e ⟨B.exec, B.bytes, B.returns, hml, hown, hts, B.notSynchronized, hK, fun q h => Or.inr h, hZ0⟩ a0 x1 x2 x3 x4 h hW va_S.rf hl

theorem d_Mo_free_0 : decode prog_7_method_9_code 0 = .ok (.aload_n 0, 1) := by decide +kernel
theorem d_Mo_free_1 : decode prog_7_method_9_code 1 = .ok (.getfield 26, 3) := by decide +kernel
theorem d_Mo_free_4 : decode prog_7_method_9_code 4 = .ok (.iload_n 1, 1) := by decide +kernel
theorem d_Mo_free_5 : decode prog_7_method_9_code 5 = .ok (.iaload, 1) := by decide +kernel
theorem d_Mo_free_6 : decode prog_7_method_9_code 6 = .ok (.istore_n 3, 1) := by decide +kernel
theorem d_Mo_free_7 : decode prog_7_method_9_code 7 = .ok (.iconst 0, 1) := by decide +kernel
theorem d_Mo_free_8 : decode prog_7_method_9_code 8 = .ok (.istore 4, 2) := by decide +kernel
theorem d_Mo_free_10 : decode prog_7_method_9_code 10 = .ok (.aload_n 0, 1) := by decide +kernel
theorem d_Mo_free_11 : decode prog_7_method_9_code 11 = .ok (.getfield 57, 3) := by decide +kernel
theorem d_Mo_free_14 : decode prog_7_method_9_code 14 = .ok (.bipush 6, 2) := by decide +kernel
theorem d_Mo_free_16 : decode prog_7_method_9_code 16 = .ok (.iload_n 3, 1) := by decide +kernel
theorem d_Mo_free_17 : decode prog_7_method_9_code 17 = .ok (.imul, 1) := by decide +kernel
theorem d_Mo_free_18 : decode prog_7_method_9_code 18 = .ok (.iload 4, 2) := by decide +kernel
theorem d_Mo_free_20 : decode prog_7_method_9_code 20 = .ok (.iadd, 1) := by decide +kernel
theorem d_Mo_free_21 : decode prog_7_method_9_code 21 = .ok (.iaload, 1) := by decide +kernel
theorem d_Mo_free_22 : decode prog_7_method_9_code 22 = .ok (.iload_n 1, 1) := by decide +kernel
theorem d_Mo_free_23 : decode prog_7_method_9_code 23 = .ok (.if_icmp .eq 9, 3) := by decide +kernel
theorem d_Mo_free_26 : decode prog_7_method_9_code 26 = .ok (.iinc 4 1, 3) := by decide +kernel
theorem d_Mo_free_29 : decode prog_7_method_9_code 29 = .ok (.goto (-19), 3) := by decide +kernel
theorem d_Mo_free_32 : decode prog_7_method_9_code 32 = .ok (.aload_n 0, 1) := by decide +kernel
theorem d_Mo_free_33 : decode prog_7_method_9_code 33 = .ok (.getfield 60, 3) := by decide +kernel
theorem d_Mo_free_36 : decode prog_7_method_9_code 36 = .ok (.iload_n 3, 1) := by decide +kernel
theorem d_Mo_free_37 : decode prog_7_method_9_code 37 = .ok (.dup2, 1) := by decide +kernel
theorem d_Mo_free_38 : decode prog_7_method_9_code 38 = .ok (.iaload, 1) := by decide +kernel
theorem d_Mo_free_39 : decode prog_7_method_9_code 39 = .ok (.iconst 1, 1) := by decide +kernel
theorem d_Mo_free_40 : decode prog_7_method_9_code 40 = .ok (.isub, 1) := by decide +kernel
theorem d_Mo_free_41 : decode prog_7_method_9_code 41 = .ok (.iastore, 1) := by decide +kernel
theorem d_Mo_free_42 : decode prog_7_method_9_code 42 = .ok (.iload 4, 2) := by decide +kernel
theorem d_Mo_free_44 : decode prog_7_method_9_code 44 = .ok (.istore 5, 2) := by decide +kernel
theorem d_Mo_free_46 : decode prog_7_method_9_code 46 = .ok (.iload 5, 2) := by decide +kernel
theorem d_Mo_free_48 : decode prog_7_method_9_code 48 = .ok (.aload_n 0, 1) := by decide +kernel
theorem d_Mo_free_49 : decode prog_7_method_9_code 49 = .ok (.getfield 60, 3) := by decide +kernel
theorem d_Mo_free_52 : decode prog_7_method_9_code 52 = .ok (.iload_n 3, 1) := by decide +kernel
theorem d_Mo_free_53 : decode prog_7_method_9_code 53 = .ok (.iaload, 1) := by decide +kernel
theorem d_Mo_free_54 : decode prog_7_method_9_code 54 = .ok (.if_icmp .ge 35, 3) := by decide +kernel
theorem d_Mo_free_57 : decode prog_7_method_9_code 57 = .ok (.aload_n 0, 1) := by decide +kernel
theorem d_Mo_free_58 : decode prog_7_method_9_code 58 = .ok (.getfield 57, 3) := by decide +kernel
theorem d_Mo_free_61 : decode prog_7_method_9_code 61 = .ok (.bipush 6, 2) := by decide +kernel
theorem d_Mo_free_63 : decode prog_7_method_9_code 63 = .ok (.iload_n 3, 1) := by decide +kernel
theorem d_Mo_free_64 : decode prog_7_method_9_code 64 = .ok (.imul, 1) := by decide +kernel
theorem d_Mo_free_65 : decode prog_7_method_9_code 65 = .ok (.iload 5, 2) := by decide +kernel
theorem d_Mo_free_67 : decode prog_7_method_9_code 67 = .ok (.iadd, 1) := by decide +kernel
theorem d_Mo_free_68 : decode prog_7_method_9_code 68 = .ok (.aload_n 0, 1) := by decide +kernel
theorem d_Mo_free_69 : decode prog_7_method_9_code 69 = .ok (.getfield 57, 3) := by decide +kernel
theorem d_Mo_free_72 : decode prog_7_method_9_code 72 = .ok (.bipush 6, 2) := by decide +kernel
theorem d_Mo_free_74 : decode prog_7_method_9_code 74 = .ok (.iload_n 3, 1) := by decide +kernel
theorem d_Mo_free_75 : decode prog_7_method_9_code 75 = .ok (.imul, 1) := by decide +kernel
theorem d_Mo_free_76 : decode prog_7_method_9_code 76 = .ok (.iload 5, 2) := by decide +kernel
theorem d_Mo_free_78 : decode prog_7_method_9_code 78 = .ok (.iadd, 1) := by decide +kernel
theorem d_Mo_free_79 : decode prog_7_method_9_code 79 = .ok (.iconst 1, 1) := by decide +kernel
theorem d_Mo_free_80 : decode prog_7_method_9_code 80 = .ok (.iadd, 1) := by decide +kernel
theorem d_Mo_free_81 : decode prog_7_method_9_code 81 = .ok (.iaload, 1) := by decide +kernel
theorem d_Mo_free_82 : decode prog_7_method_9_code 82 = .ok (.iastore, 1) := by decide +kernel
theorem d_Mo_free_83 : decode prog_7_method_9_code 83 = .ok (.iinc 5 1, 3) := by decide +kernel
theorem d_Mo_free_86 : decode prog_7_method_9_code 86 = .ok (.goto (-40), 3) := by decide +kernel
theorem d_Mo_free_89 : decode prog_7_method_9_code 89 = .ok (.aload_n 0, 1) := by decide +kernel
theorem d_Mo_free_90 : decode prog_7_method_9_code 90 = .ok (.getfield 26, 3) := by decide +kernel
theorem d_Mo_free_93 : decode prog_7_method_9_code 93 = .ok (.iload_n 1, 1) := by decide +kernel
theorem d_Mo_free_94 : decode prog_7_method_9_code 94 = .ok (.iconst (-1), 1) := by decide +kernel
theorem d_Mo_free_95 : decode prog_7_method_9_code 95 = .ok (.iastore, 1) := by decide +kernel
theorem d_Mo_free_96 : decode prog_7_method_9_code 96 = .ok (.aload_n 0, 1) := by decide +kernel
theorem d_Mo_free_97 : decode prog_7_method_9_code 97 = .ok (.getfield 42, 3) := by decide +kernel
theorem d_Mo_free_100 : decode prog_7_method_9_code 100 = .ok (.iload_n 1, 1) := by decide +kernel
theorem d_Mo_free_101 : decode prog_7_method_9_code 101 = .ok (.ldc2_w 84, 3) := by decide +kernel
theorem d_Mo_free_104 : decode prog_7_method_9_code 104 = .ok (.dastore, 1) := by decide +kernel
theorem d_Mo_free_105 : decode prog_7_method_9_code 105 = .ok (.aload_n 0, 1) := by decide +kernel
theorem d_Mo_free_106 : decode prog_7_method_9_code 106 = .ok (.getfield 7, 3) := by decide +kernel
theorem d_Mo_free_109 : decode prog_7_method_9_code 109 = .ok (.iload_n 1, 1) := by decide +kernel
theorem d_Mo_free_110 : decode prog_7_method_9_code 110 = .ok (.iconst 0, 1) := by decide +kernel
theorem d_Mo_free_111 : decode prog_7_method_9_code 111 = .ok (.bastore, 1) := by decide +kernel
theorem d_Mo_free_112 : decode prog_7_method_9_code 112 = .ok (.aload_n 0, 1) := by decide +kernel
theorem d_Mo_free_113 : decode prog_7_method_9_code 113 = .ok (.getfield 16, 3) := by decide +kernel
theorem d_Mo_free_116 : decode prog_7_method_9_code 116 = .ok (.iload_n 1, 1) := by decide +kernel
theorem d_Mo_free_117 : decode prog_7_method_9_code 117 = .ok (.iload_n 2, 1) := by decide +kernel
theorem d_Mo_free_118 : decode prog_7_method_9_code 118 = .ok (.iastore, 1) := by decide +kernel
theorem d_Mo_free_119 : decode prog_7_method_9_code 119 = .ok (.return_, 1) := by decide +kernel
def y_Mo_free : MethodName := ⟨"ChannelHallModel", "free", "(II)V"⟩
abbrev rm_Mo_free : Room := { frames := 0, cells := 0, slots := 0, locals := 0 }
def wp_Mo_free_46 (G ca : Nat → Nat) (post : hM → Prop) : Nat → hM → Nat → Int32 → Int32 → Int32 → Int32 → Prop
  | 0, _, _, _, _, _, _ => False
  | n + 1, M, l0b46, l1b46, l2b46, l3b46, l5b46 => gR M l0b46 5 18 fun v34 => nN v34 fun b35 => aI M b35 (ca 5) l3b46 fun v36 => (v36 ≤ l5b46 → gR M l0b46 5 6 fun v38 => nN v38 fun b39 => sI M b39 (ca 5) l1b46 (-1) fun M40 => gR M40 l0b46 5 11 fun v41 => nN v41 fun b42 => sD M40 b42 (ca 4) l1b46 13830554455654793216 fun M43 => gR M43 l0b46 5 1 fun v44 => nN v44 fun b45 => bZ 0 (sI M43 b45 (ca 6) l1b46 0 fun M46 => gR M46 l0b46 5 3 fun v47 => nN v47 fun b48 => sI M46 b48 (ca 5) l1b46 l2b46 fun M49 => post M49)) ∧ (¬ v36 ≤ l5b46 → gR M l0b46 5 17 fun v50 => gR M l0b46 5 17 fun v51 => nN v51 fun b52 => aI M b52 (ca 5) (((6 * l3b46) + l5b46) + 1) fun v53 => nN v50 fun b54 => sI M b54 (ca 5) ((6 * l3b46) + l5b46) v53 fun M55 => (wp_Mo_free_46 G ca post n) M55 l0b46 l1b46 l2b46 l3b46 (l5b46 + 1))
def wp_Mo_free_10 (G ca : Nat → Nat) (post : hM → Prop) : Nat → hM → Nat → Int32 → Int32 → Int32 → Int32 → Prop
  | 0, _, _, _, _, _, _ => False
  | n + 1, M, l0b10, l1b10, l2b10, l3b10, l4b10 => gR M l0b10 5 17 fun v56 => nN v56 fun b57 => aI M b57 (ca 5) ((6 * l3b10) + l4b10) fun v58 => (v58 = l1b10 → gR M l0b10 5 18 fun v60 => nN v60 fun b61 => aI M b61 (ca 5) l3b10 fun v62 => sI M b61 (ca 5) l3b10 (v62 - 1) fun M63 => ∃ n, wp_Mo_free_46 G ca post n M63 l0b10 l1b10 l2b10 l3b10 l4b10) ∧ (¬ v58 = l1b10 → (wp_Mo_free_10 G ca post n) M l0b10 l1b10 l2b10 l3b10 (l4b10 + 1))
def wp_Mo_free (G ca : Nat → Nat) (post : hM → Prop) (M : hM) (a0 : Nat) (x1 : Int32) (x2 : Int32) : Prop := gR M a0 5 6 fun v64 => nN v64 fun b65 => aI M b65 (ca 5) x1 fun v66 => ∃ n, wp_Mo_free_10 G ca post n M a0 x1 x2 v66 0
set_option maxHeartbeats 1000000 in
set_option maxRecDepth 20000 in
theorem l_Mo_free_46 {p : Program} {l : Launch} {e : Env} {s : State} {m : MethodId} {args : Array Value} {below : List Frame} {meth : Method} {c : Code} {D : va_G} {ca G : Nat → Nat} {A : Nat → Prop} (C0 : hC p s m args meth c D ca G prog_7_method_9_code 6 (none) "ChannelHallModel" A) {post : hM → Prop} : ∀ (n : Nat) {M : hM} {H : Heap} {locs : List Loc} {ls : Array Slot} (l0b46 : Nat) (l1b46 : Int32) (l2b46 : Int32) (l3b46 : Int32) (l5b46 : Int32) (h : wp_Mo_free_46 G ca post n M l0b46 l1b46 l2b46 l3b46 l5b46) (hW : hw D wCl A M H) (hS : va_S A s.heap H locs) (hl : lv_has ls 6 [(0, .ref l0b46), (1, .int l1b46), (2, .int l2b46), (3, .int l3b46), (5, .int l5b46)]), W p l e rm_Mo_free s m args below meth c H locs 0 0 (MQ below (va_Qv post (fun M' t => hw D wCl A M' t.heap) A) args s 0 0 A) (F0 m 46 ls []) := by
  obtain ⟨hx, hb, hr, hml, hown, hts, hlocks, hK, hA, hZ0⟩ := id C0
  intro n
  induction n with
  | zero =>
    intro M H locs ls l0b46 l1b46 l2b46 l3b46 l5b46 h
    exact False.elim h
  | succ n ih =>
    intro M H locs ls l0b46 l1b46 l2b46 l3b46 l5b46 h hW hS hl
    have hk_29 := fun M H locs ls l0b46 l1b46 l2b46 l3b46 l5b46 h hW hS hl => @ih M H locs ls l0b46 l1b46 l2b46 l3b46 l5b46 h hW hS hl
    refine lv_iload hx hb d_Mo_free_46 (lv_at hl 4 rfl) ?_
    refine lv_aload_n hx hb d_Mo_free_48 rfl (lv_at hl 0 rfl) ?_
    obtain ⟨fs, v34, h1, h2, h⟩ := h
    refine va_get (D := D) (ci := 5) (v := va_rf v34) (C := "ChannelHallModel") (T := TMo) (N := 26) hx hb hts uMo hown hK (hw_one hW h1) 0 rfl rfl 18 (by decide) (hts _ bw_992) (fun _ h9 => h9) h2 d_Mo_free_49 ?_
    refine lv_iload_n hx hb d_Mo_free_52 rfl (lv_at hl 3 rfl) ?_
    obtain ⟨b35, rfl, h⟩ := h
    obtain ⟨n, f, h1, h2, h⟩ := h
    refine va_iald hx hb hK (hw_one hW h1) 0 5 rfl rfl h2 d_Mo_free_53 ?_
    generalize f (l3b46).toNatClampNeg = v36 at h ⊢
    obtain ⟨h0, h1⟩ := h
    refine lv_icmp_ge (tgt := 89) hx hb d_Mo_free_54 (by decide) (fun c37 => ?_) (fun c37 => ?_)
    · have h := h0 c37
      refine lv_aload_n hx hb d_Mo_free_89 rfl (lv_at hl 0 rfl) ?_
      obtain ⟨fs, v38, h1, h2, h⟩ := h
      refine va_get (D := D) (ci := 5) (v := va_rf v38) (C := "ChannelHallModel") (T := TMo) (N := 26) hx hb hts uMo hown hK (hw_one hW h1) 0 rfl rfl 6 (by decide) (hts _ bw_980) (fun _ h9 => h9) h2 d_Mo_free_90 ?_
      refine lv_iload_n hx hb d_Mo_free_93 rfl (lv_at hl 1 rfl) ?_
      refine lv_iconst (v := (-1)) hx hb d_Mo_free_94 (by decide) ?_
      obtain ⟨b39, rfl, h⟩ := h
      obtain ⟨n, f, h1, h2, h⟩ := h
      obtain ⟨ws, q0, hq, hP, hD, hback, -⟩ := hw_open hW h1
      refine va_iast hx hb hK hP hD hS q0 5 hq rfl h2 d_Mo_free_95 (fun H locs hP hD hS => ?_)
      have hW := hback _ _ hP hD
      generalize hM2 : va_up M b39 _ = M40 at h hW
      refine lv_aload_n hx hb d_Mo_free_96 rfl (lv_at hl 0 rfl) ?_
      obtain ⟨fs, v41, h1, h2, h⟩ := h
      refine va_get (D := D) (ci := 5) (v := va_rf v41) (C := "ChannelHallModel") (T := TMo) (N := 26) hx hb hts uMo hown hK (hw_one hW h1) 0 rfl rfl 11 (by decide) (hts _ bw_985) (fun _ h9 => h9) h2 d_Mo_free_97 ?_
      refine lv_iload_n hx hb d_Mo_free_100 rfl (lv_at hl 1 rfl) ?_
      refine lv_ldc2d (v := 13830554455654793216) hx hb hown (hts _ bw_973) d_Mo_free_101 ?_
      obtain ⟨b42, rfl, h⟩ := h
      obtain ⟨n, f, h1, h2, h⟩ := h
      obtain ⟨ws, q0, hq, hP, hD, hback, -⟩ := hw_open hW h1
      refine va_dast hx hb hK hP hD hS q0 4 hq rfl h2 d_Mo_free_104 (fun H locs hP hD hS => ?_)
      have hW := hback _ _ hP hD
      generalize hM2 : va_up M40 b42 _ = M43 at h hW
      refine lv_aload_n hx hb d_Mo_free_105 rfl (lv_at hl 0 rfl) ?_
      obtain ⟨fs, v44, h1, h2, h⟩ := h
      refine va_get (D := D) (ci := 5) (v := va_rf v44) (C := "ChannelHallModel") (T := TMo) (N := 26) hx hb hts uMo hown hK (hw_one hW h1) 0 rfl rfl 1 (by decide) (hts _ bw_975) (fun _ h9 => h9) h2 d_Mo_free_106 ?_
      refine lv_iload_n hx hb d_Mo_free_109 rfl (lv_at hl 1 rfl) ?_
      refine lv_iconst (v := 0) hx hb d_Mo_free_110 (by decide) ?_
      obtain ⟨b45, rfl, h⟩ := h
      obtain ⟨hz, n, f, h1, h2, h⟩ := h
      obtain ⟨ws, q0, hq, hP, hD, hback, -⟩ := hw_open hW h1
      refine va_zast (x := 0) hx hb hK hP hD hS q0 6 hq rfl h2 d_Mo_free_111 (fun H locs hP hD hS => ?_)
      rw [nb_v hz] at hP hD
      have hW := hback _ _ hP hD
      generalize hM2 : va_up M43 b45 _ = M46 at h hW
      refine lv_aload_n hx hb d_Mo_free_112 rfl (lv_at hl 0 rfl) ?_
      obtain ⟨fs, v47, h1, h2, h⟩ := h
      refine va_get (D := D) (ci := 5) (v := va_rf v47) (C := "ChannelHallModel") (T := TMo) (N := 26) hx hb hts uMo hown hK (hw_one hW h1) 0 rfl rfl 3 (by decide) (hts _ bw_977) (fun _ h9 => h9) h2 d_Mo_free_113 ?_
      refine lv_iload_n hx hb d_Mo_free_116 rfl (lv_at hl 1 rfl) ?_
      refine lv_iload_n hx hb d_Mo_free_117 rfl (lv_at hl 2 rfl) ?_
      obtain ⟨b48, rfl, h⟩ := h
      obtain ⟨n, f, h1, h2, h⟩ := h
      obtain ⟨ws, q0, hq, hP, hD, hback, -⟩ := hw_open hW h1
      refine va_iast hx hb hK hP hD hS q0 5 hq rfl h2 d_Mo_free_118 (fun H locs hP hD hS => ?_)
      have hW := hback _ _ hP hD
      generalize hM2 : va_up M46 b48 _ = M49 at h hW
      exact W.vret hx hb hr (fun t ht hWm => ⟨⟨_, rfl, h, hw_t ht hW⟩, hS.F ht⟩) hS.2.2 d_Mo_free_119
    · have h := h1 c37
      refine lv_aload_n hx hb d_Mo_free_57 rfl (lv_at hl 0 rfl) ?_
      obtain ⟨fs, v50, h1, h2, h⟩ := h
      refine va_get (D := D) (ci := 5) (v := va_rf v50) (C := "ChannelHallModel") (T := TMo) (N := 26) hx hb hts uMo hown hK (hw_one hW h1) 0 rfl rfl 17 (by decide) (hts _ bw_991) (fun _ h9 => h9) h2 d_Mo_free_58 ?_
      refine lv_bipush (v := 6) hx hb d_Mo_free_61 (by decide) ?_
      refine lv_iload_n hx hb d_Mo_free_63 rfl (lv_at hl 3 rfl) ?_
      refine lv_imul hx hb d_Mo_free_64 ?_
      refine lv_iload hx hb d_Mo_free_65 (lv_at hl 4 rfl) ?_
      refine lv_iadd hx hb d_Mo_free_67 ?_
      refine lv_aload_n hx hb d_Mo_free_68 rfl (lv_at hl 0 rfl) ?_
      obtain ⟨fs, v51, h1, h2, h⟩ := h
      refine va_get (D := D) (ci := 5) (v := va_rf v51) (C := "ChannelHallModel") (T := TMo) (N := 26) hx hb hts uMo hown hK (hw_one hW h1) 0 rfl rfl 17 (by decide) (hts _ bw_991) (fun _ h9 => h9) h2 d_Mo_free_69 ?_
      refine lv_bipush (v := 6) hx hb d_Mo_free_72 (by decide) ?_
      refine lv_iload_n hx hb d_Mo_free_74 rfl (lv_at hl 3 rfl) ?_
      refine lv_imul hx hb d_Mo_free_75 ?_
      refine lv_iload hx hb d_Mo_free_76 (lv_at hl 4 rfl) ?_
      refine lv_iadd hx hb d_Mo_free_78 ?_
      refine lv_iconst (v := 1) hx hb d_Mo_free_79 (by decide) ?_
      refine lv_iadd hx hb d_Mo_free_80 ?_
      obtain ⟨b52, rfl, h⟩ := h
      obtain ⟨n, f, h1, h2, h⟩ := h
      refine va_iald hx hb hK (hw_one hW h1) 0 5 rfl rfl h2 d_Mo_free_81 ?_
      generalize f ((((6 * l3b46) + l5b46) + 1)).toNatClampNeg = v53 at h ⊢
      obtain ⟨b54, rfl, h⟩ := h
      obtain ⟨n, f, h1, h2, h⟩ := h
      obtain ⟨ws, q0, hq, hP, hD, hback, -⟩ := hw_open hW h1
      refine va_iast hx hb hK hP hD hS q0 5 hq rfl h2 d_Mo_free_82 (fun H locs hP hD hS => ?_)
      have hW := hback _ _ hP hD
      generalize hM2 : va_up M b54 _ = M55 at h hW
      refine lv_iinc (v := l5b46 + 1) (lv' := [(5, .int (l5b46 + 1)), (0, .ref l0b46), (1, .int l1b46), (2, .int l2b46), (3, .int l3b46)]) hx hb d_Mo_free_83 hl (k := 4) rfl rfl (by decide) rfl (fun ls hl => ?_)
      refine lv_goto (tgt := 46) hx hb d_Mo_free_86 (by decide) ?_
      exact hk_29 _ _ _ _ l0b46 l1b46 l2b46 l3b46 (l5b46 + 1) h hW hS (lv_sub hl [1, 2, 3, 4, 0] rfl)
set_option maxHeartbeats 1000000 in
set_option maxRecDepth 20000 in
theorem l_Mo_free_10 {p : Program} {l : Launch} {e : Env} {s : State} {m : MethodId} {args : Array Value} {below : List Frame} {meth : Method} {c : Code} {D : va_G} {ca G : Nat → Nat} {A : Nat → Prop} (C0 : hC p s m args meth c D ca G prog_7_method_9_code 6 (none) "ChannelHallModel" A) {post : hM → Prop} : ∀ (n : Nat) {M : hM} {H : Heap} {locs : List Loc} {ls : Array Slot} (l0b10 : Nat) (l1b10 : Int32) (l2b10 : Int32) (l3b10 : Int32) (l4b10 : Int32) (h : wp_Mo_free_10 G ca post n M l0b10 l1b10 l2b10 l3b10 l4b10) (hW : hw D wCl A M H) (hS : va_S A s.heap H locs) (hl : lv_has ls 6 [(0, .ref l0b10), (1, .int l1b10), (2, .int l2b10), (3, .int l3b10), (4, .int l4b10)]), W p l e rm_Mo_free s m args below meth c H locs 0 0 (MQ below (va_Qv post (fun M' t => hw D wCl A M' t.heap) A) args s 0 0 A) (F0 m 10 ls []) := by
  obtain ⟨hx, hb, hr, hml, hown, hts, hlocks, hK, hA, hZ0⟩ := id C0
  intro n
  induction n with
  | zero =>
    intro M H locs ls l0b10 l1b10 l2b10 l3b10 l4b10 h
    exact False.elim h
  | succ n ih =>
    intro M H locs ls l0b10 l1b10 l2b10 l3b10 l4b10 h hW hS hl
    have hk_7 := fun M H locs ls l0b10 l1b10 l2b10 l3b10 l4b10 h hW hS hl => @ih M H locs ls l0b10 l1b10 l2b10 l3b10 l4b10 h hW hS hl
    refine lv_aload_n hx hb d_Mo_free_10 rfl (lv_at hl 0 rfl) ?_
    obtain ⟨fs, v56, h1, h2, h⟩ := h
    refine va_get (D := D) (ci := 5) (v := va_rf v56) (C := "ChannelHallModel") (T := TMo) (N := 26) hx hb hts uMo hown hK (hw_one hW h1) 0 rfl rfl 17 (by decide) (hts _ bw_991) (fun _ h9 => h9) h2 d_Mo_free_11 ?_
    refine lv_bipush (v := 6) hx hb d_Mo_free_14 (by decide) ?_
    refine lv_iload_n hx hb d_Mo_free_16 rfl (lv_at hl 3 rfl) ?_
    refine lv_imul hx hb d_Mo_free_17 ?_
    refine lv_iload hx hb d_Mo_free_18 (lv_at hl 4 rfl) ?_
    refine lv_iadd hx hb d_Mo_free_20 ?_
    obtain ⟨b57, rfl, h⟩ := h
    obtain ⟨n, f, h1, h2, h⟩ := h
    refine va_iald hx hb hK (hw_one hW h1) 0 5 rfl rfl h2 d_Mo_free_21 ?_
    generalize f (((6 * l3b10) + l4b10)).toNatClampNeg = v58 at h ⊢
    refine lv_iload_n hx hb d_Mo_free_22 rfl (lv_at hl 1 rfl) ?_
    obtain ⟨h0, h1⟩ := h
    refine lv_icmp_eq (tgt := 32) hx hb d_Mo_free_23 (by decide) (fun c59 => ?_) (fun c59 => ?_)
    · have h := h0 c59
      refine lv_aload_n hx hb d_Mo_free_32 rfl (lv_at hl 0 rfl) ?_
      obtain ⟨fs, v60, h1, h2, h⟩ := h
      refine va_get (D := D) (ci := 5) (v := va_rf v60) (C := "ChannelHallModel") (T := TMo) (N := 26) hx hb hts uMo hown hK (hw_one hW h1) 0 rfl rfl 18 (by decide) (hts _ bw_992) (fun _ h9 => h9) h2 d_Mo_free_33 ?_
      refine lv_iload_n hx hb d_Mo_free_36 rfl (lv_at hl 3 rfl) ?_
      refine lv_dup2_11 hx hb d_Mo_free_37 rfl (by cases v60 <;> rfl) ?_
      obtain ⟨b61, rfl, h⟩ := h
      obtain ⟨n, f, h1, h2, h⟩ := h
      refine va_iald hx hb hK (hw_one hW h1) 0 5 rfl rfl h2 d_Mo_free_38 ?_
      generalize f (l3b10).toNatClampNeg = v62 at h ⊢
      refine lv_iconst (v := 1) hx hb d_Mo_free_39 (by decide) ?_
      refine lv_isub hx hb d_Mo_free_40 ?_
      obtain ⟨n, f, h1, h2, h⟩ := h
      obtain ⟨ws, q0, hq, hP, hD, hback, -⟩ := hw_open hW h1
      refine va_iast hx hb hK hP hD hS q0 5 hq rfl h2 d_Mo_free_41 (fun H locs hP hD hS => ?_)
      have hW := hback _ _ hP hD
      generalize hM2 : va_up M b61 _ = M63 at h hW
      refine lv_iload hx hb d_Mo_free_42 (lv_at hl 4 rfl) ?_
      refine lv_istore (lv' := [(5, .int l4b10), (0, .ref l0b10), (1, .int l1b10), (2, .int l2b10), (3, .int l3b10), (4, .int l4b10)]) hx hb d_Mo_free_44 hl (by decide) rfl (fun ls hl => ?_)
      obtain ⟨n, h⟩ := h
      exact l_Mo_free_46 C0 n l0b10 l1b10 l2b10 l3b10 l4b10 h hW hS (lv_sub hl [1, 2, 3, 4, 0] rfl)
    · have h := h1 c59
      refine lv_iinc (v := l4b10 + 1) (lv' := [(4, .int (l4b10 + 1)), (0, .ref l0b10), (1, .int l1b10), (2, .int l2b10), (3, .int l3b10)]) hx hb d_Mo_free_26 hl (k := 4) rfl rfl (by decide) rfl (fun ls hl => ?_)
      refine lv_goto (tgt := 10) hx hb d_Mo_free_29 (by decide) ?_
      exact hk_7 _ _ _ _ l0b10 l1b10 l2b10 l3b10 (l4b10 + 1) h hW hS (lv_sub hl [1, 2, 3, 4, 0] rfl)
set_option maxHeartbeats 1000000 in
set_option maxRecDepth 20000 in
theorem l_Mo_free_e {p : Program} {l : Launch} {e : Env} {s : State} {m : MethodId} {args : Array Value} {below : List Frame} {meth : Method} {c : Code} {D : va_G} {ca G : Nat → Nat} {A : Nat → Prop} (C0 : hC p s m args meth c D ca G prog_7_method_9_code 6 (none) "ChannelHallModel" A) {post : hM → Prop} {M : hM} {H : Heap} {locs : List Loc} {ls : Array Slot} (a0 : Nat) (x1 : Int32) (x2 : Int32) (h : wp_Mo_free G ca post M a0 x1 x2) (hW : hw D wCl A M H) (hS : va_S A s.heap H locs) (hl : lv_has ls 6 [(0, .ref a0), (1, .int x1), (2, .int x2)]) : W p l e rm_Mo_free s m args below meth c H locs 0 0 (MQ below (va_Qv post (fun M' t => hw D wCl A M' t.heap) A) args s 0 0 A) (F0 m 0 ls []) := by
  obtain ⟨hx, hb, hr, hml, hown, hts, hlocks, hK, hA, hZ0⟩ := id C0
  refine lv_aload_n hx hb d_Mo_free_0 rfl (lv_at hl 0 rfl) ?_
  obtain ⟨fs, v64, h1, h2, h⟩ := h
  refine va_get (D := D) (ci := 5) (v := va_rf v64) (C := "ChannelHallModel") (T := TMo) (N := 26) hx hb hts uMo hown hK (hw_one hW h1) 0 rfl rfl 6 (by decide) (hts _ bw_980) (fun _ h9 => h9) h2 d_Mo_free_1 ?_
  refine lv_iload_n hx hb d_Mo_free_4 rfl (lv_at hl 1 rfl) ?_
  obtain ⟨b65, rfl, h⟩ := h
  obtain ⟨n, f, h1, h2, h⟩ := h
  refine va_iald hx hb hK (hw_one hW h1) 0 5 rfl rfl h2 d_Mo_free_5 ?_
  generalize f (x1).toNatClampNeg = v66 at h ⊢
  refine lv_istore_n (lv' := [(3, .int v66), (0, .ref a0), (1, .int x1), (2, .int x2)]) hx hb d_Mo_free_6 rfl hl (by decide) rfl (fun ls hl => ?_)
  refine lv_iconst (v := 0) hx hb d_Mo_free_7 (by decide) ?_
  refine lv_istore (lv' := [(4, .int 0), (3, .int v66), (0, .ref a0), (1, .int x1), (2, .int x2)]) hx hb d_Mo_free_8 hl (by decide) rfl (fun ls hl => ?_)
  obtain ⟨n, h⟩ := h
  exact l_Mo_free_10 C0 n a0 x1 x2 v66 0 h hW hS (lv_sub hl [2, 3, 4, 1, 0] rfl)
set_option maxRecDepth 20000 in
theorem c_Mo_free {l : Launch} {D : va_G} {ca G : Nat → Nat} (post : hM → Prop) {M : hM} {sz : Nat} {a0 : Nat} {x1 : Int32} {x2 : Int32} (h : wp_Mo_free G ca post M a0 x1 x2) : Met l y_Mo_free (wz y_Mo_free prog_7_method_9_code 6 (none)) rm_Mo_free (va_Pc [.ref a0, .int x1, .int x2] (hI D ca G sz M)) (va_Qv post (hB D M sz) (hp_A M sz)) 0 0 (hp_A M sz) := by
  refine Met.ofW (cc := prog_7_method_9_code) (maxL := 6) (ret := none) (by decide) rfl ?_
  intro p e s m args below meth c s₁ B hml hv
  obtain ⟨rfl, hsz, hW, hK, hZ0⟩ := hv
  have hts := fun w hw => atoms_spec (ws := wz y_Mo_free prog_7_method_9_code 6 (none)) B.pre w (List.mem_cons_of_mem _ hw)
  have hown : s.vm.findClass "ChannelHallModel" = some m.cls := findClass_of_methodNamed B.named
  subst hsz
  have hl := lv_entry [.ref a0, .int x1, .int x2] (n := 6) (Nat.le_of_ble_eq_true rfl)
  rw [lg_entry_eq]
  exact l_Mo_free_e ⟨B.exec, B.bytes, B.returns, hml, hown, hts, B.notSynchronized, hK, fun q h => Or.inr h, hZ0⟩ a0 x1 x2 h hW va_S.rf hl

theorem d_Mo_freeAll_0 : decode prog_7_method_10_code 0 = .ok (.aload_n 0, 1) := by decide +kernel
theorem d_Mo_freeAll_1 : decode prog_7_method_10_code 1 = .ok (.getfield 60, 3) := by decide +kernel
theorem d_Mo_freeAll_4 : decode prog_7_method_10_code 4 = .ok (.iload_n 1, 1) := by decide +kernel
theorem d_Mo_freeAll_5 : decode prog_7_method_10_code 5 = .ok (.iaload, 1) := by decide +kernel
theorem d_Mo_freeAll_6 : decode prog_7_method_10_code 6 = .ok (.ifCond .le 20, 3) := by decide +kernel
theorem d_Mo_freeAll_9 : decode prog_7_method_10_code 9 = .ok (.aload_n 0, 1) := by decide +kernel
theorem d_Mo_freeAll_10 : decode prog_7_method_10_code 10 = .ok (.aload_n 0, 1) := by decide +kernel
theorem d_Mo_freeAll_11 : decode prog_7_method_10_code 11 = .ok (.getfield 57, 3) := by decide +kernel
theorem d_Mo_freeAll_14 : decode prog_7_method_10_code 14 = .ok (.bipush 6, 2) := by decide +kernel
theorem d_Mo_freeAll_16 : decode prog_7_method_10_code 16 = .ok (.iload_n 1, 1) := by decide +kernel
theorem d_Mo_freeAll_17 : decode prog_7_method_10_code 17 = .ok (.imul, 1) := by decide +kernel
theorem d_Mo_freeAll_18 : decode prog_7_method_10_code 18 = .ok (.iaload, 1) := by decide +kernel
theorem d_Mo_freeAll_19 : decode prog_7_method_10_code 19 = .ok (.iload_n 2, 1) := by decide +kernel
theorem d_Mo_freeAll_20 : decode prog_7_method_10_code 20 = .ok (.invokevirtual 106, 3) := by decide +kernel
theorem d_Mo_freeAll_23 : decode prog_7_method_10_code 23 = .ok (.goto (-23), 3) := by decide +kernel
theorem d_Mo_freeAll_26 : decode prog_7_method_10_code 26 = .ok (.return_, 1) := by decide +kernel
def y_Mo_freeAll : MethodName := ⟨"ChannelHallModel", "freeAll", "(II)V"⟩
abbrev rm_Mo_freeAll : Room := { frames := 1, cells := 0, slots := 0, locals := 25 }
def wp_Mo_freeAll_0 (G ca : Nat → Nat) (post : hM → Prop) : Nat → hM → Nat → Int32 → Int32 → Prop
  | 0, _, _, _, _ => False
  | n + 1, M, l0b0, l1b0, l2b0 => gR M l0b0 5 18 fun v17 => nN v17 fun b18 => aI M b18 (ca 5) l1b0 fun v19 => (v19 ≤ 0 → post M) ∧ (¬ v19 ≤ 0 → gR M l0b0 5 17 fun v21 => nN v21 fun b22 => aI M b22 (ca 5) (6 * l1b0) fun v23 => rC M l0b0 5 (wp_Mo_free G ca (fun M24 => (wp_Mo_freeAll_0 G ca post n) M24 l0b0 l1b0 l2b0) M l0b0 v23 l2b0))
def wp_Mo_freeAll (G ca : Nat → Nat) (post : hM → Prop) (M : hM) (a0 : Nat) (x1 : Int32) (x2 : Int32) : Prop := gR M a0 5 18 fun v25 => nN v25 fun b26 => aI M b26 (ca 5) x1 fun v27 => (v27 ≤ 0 → post M) ∧ (¬ v27 ≤ 0 → gR M a0 5 17 fun v29 => nN v29 fun b30 => aI M b30 (ca 5) (6 * x1) fun v31 => rC M a0 5 (wp_Mo_free G ca (fun M32 => ∃ n, wp_Mo_freeAll_0 G ca post n M32 a0 x1 x2) M a0 v31 x2))
set_option maxHeartbeats 1000000 in
set_option maxRecDepth 20000 in
theorem l_Mo_freeAll_0 {p : Program} {l : Launch} {e : Env} {s : State} {m : MethodId} {args : Array Value} {below : List Frame} {meth : Method} {c : Code} {D : va_G} {ca G : Nat → Nat} {A : Nat → Prop} (C0 : hC p s m args meth c D ca G prog_7_method_10_code 3 (none) "ChannelHallModel" A) {post : hM → Prop} : ∀ (n : Nat) {M : hM} {H : Heap} {locs : List Loc} {ls : Array Slot} (l0b0 : Nat) (l1b0 : Int32) (l2b0 : Int32) (h : wp_Mo_freeAll_0 G ca post n M l0b0 l1b0 l2b0) (hW : hw D wCl A M H) (hS : va_S A s.heap H locs) (hl : lv_has ls 3 [(0, .ref l0b0), (1, .int l1b0), (2, .int l2b0)]), W p l e rm_Mo_freeAll s m args below meth c H locs 0 0 (MQ below (va_Qv post (fun M' t => hw D wCl A M' t.heap) A) args s 0 0 A) (F0 m 0 ls []) := by
  obtain ⟨hx, hb, hr, hml, hown, hts, hlocks, hK, hA, hZ0⟩ := id C0
  intro n
  induction n with
  | zero =>
    intro M H locs ls l0b0 l1b0 l2b0 h
    exact False.elim h
  | succ n ih =>
    intro M H locs ls l0b0 l1b0 l2b0 h hW hS hl
    have hk_0 := fun M H locs ls l0b0 l1b0 l2b0 h hW hS hl => @ih M H locs ls l0b0 l1b0 l2b0 h hW hS hl
    refine lv_aload_n hx hb d_Mo_freeAll_0 rfl (lv_at hl 0 rfl) ?_
    obtain ⟨fs, v17, h1, h2, h⟩ := h
    refine va_get (D := D) (ci := 5) (v := va_rf v17) (C := "ChannelHallModel") (T := TMo) (N := 26) hx hb hts uMo hown hK (hw_one hW h1) 0 rfl rfl 18 (by decide) (hts _ bw_992) (fun _ h9 => h9) h2 d_Mo_freeAll_1 ?_
    refine lv_iload_n hx hb d_Mo_freeAll_4 rfl (lv_at hl 1 rfl) ?_
    obtain ⟨b18, rfl, h⟩ := h
    obtain ⟨n, f, h1, h2, h⟩ := h
    refine va_iald hx hb hK (hw_one hW h1) 0 5 rfl rfl h2 d_Mo_freeAll_5 ?_
    generalize f (l1b0).toNatClampNeg = v19 at h ⊢
    obtain ⟨h0, h1⟩ := h
    refine lv_if_le (tgt := 26) hx hb d_Mo_freeAll_6 (by decide) (fun c20 => ?_) (fun c20 => ?_)
    · have h := h0 c20
      exact W.vret hx hb hr (fun t ht hWm => ⟨⟨_, rfl, h, hw_t ht hW⟩, hS.F ht⟩) hS.2.2 d_Mo_freeAll_26
    · have h := h1 c20
      refine lv_aload_n hx hb d_Mo_freeAll_9 rfl (lv_at hl 0 rfl) ?_
      refine lv_aload_n hx hb d_Mo_freeAll_10 rfl (lv_at hl 0 rfl) ?_
      obtain ⟨fs, v21, h1, h2, h⟩ := h
      refine va_get (D := D) (ci := 5) (v := va_rf v21) (C := "ChannelHallModel") (T := TMo) (N := 26) hx hb hts uMo hown hK (hw_one hW h1) 0 rfl rfl 17 (by decide) (hts _ bw_991) (fun _ h9 => h9) h2 d_Mo_freeAll_11 ?_
      refine lv_bipush (v := 6) hx hb d_Mo_freeAll_14 (by decide) ?_
      refine lv_iload_n hx hb d_Mo_freeAll_16 rfl (lv_at hl 1 rfl) ?_
      refine lv_imul hx hb d_Mo_freeAll_17 ?_
      obtain ⟨b22, rfl, h⟩ := h
      obtain ⟨n, f, h1, h2, h⟩ := h
      refine va_iald hx hb hK (hw_one hW h1) 0 5 rfl rfl h2 d_Mo_freeAll_18 ?_
      generalize f ((6 * l1b0)).toNatClampNeg = v23 at h ⊢
      refine lv_iload_n hx hb d_Mo_freeAll_19 rfl (lv_at hl 2 rfl) ?_
      obtain ⟨⟨fs, h1⟩, h⟩ := h
      have h9 := h
      clear h
      have hF := hW.free hS hA
      refine va_callv (va_runV (As := [.int v23, .int l2b0]) (rest := []) ⟨hx, hb, hml, hown, hts⟩ (c_Mo_free _ h9) (cwV 2 hts (gi_V bw_1106 bw_1108 bs_28 bw_5 bw_1109) rfl rfl rfl (by decide +kernel) ⟨Nat.le_of_ble_eq_true rfl, Nat.le_of_ble_eq_true rfl⟩) ⟨hI.blind, hw_recv hK hW h1 rfl, hI.give hW hS hA hK hZ0⟩ rfl rfl hl.1 rfl (lv_room (Nat.le_of_ble_eq_true rfl)) d_Mo_freeAll_20 ⟨(show _ ≤ 0 by omega), (show _ ≤ 0 by omega)⟩) hS (fun q _ z => hF q z) hF (fun M24 t H locs ht _ h hB1 _ _ hS => ?_)
      have hW := hw_back hF ht hB1
      clear h9
      refine lv_goto (tgt := 0) hx hb d_Mo_freeAll_23 (by decide) ?_
      exact hk_0 _ _ _ _ l0b0 l1b0 l2b0 h hW hS (lv_sub hl [0, 1, 2] rfl)
set_option maxHeartbeats 1000000 in
set_option maxRecDepth 20000 in
theorem l_Mo_freeAll_e {p : Program} {l : Launch} {e : Env} {s : State} {m : MethodId} {args : Array Value} {below : List Frame} {meth : Method} {c : Code} {D : va_G} {ca G : Nat → Nat} {A : Nat → Prop} (C0 : hC p s m args meth c D ca G prog_7_method_10_code 3 (none) "ChannelHallModel" A) {post : hM → Prop} {M : hM} {H : Heap} {locs : List Loc} {ls : Array Slot} (a0 : Nat) (x1 : Int32) (x2 : Int32) (h : wp_Mo_freeAll G ca post M a0 x1 x2) (hW : hw D wCl A M H) (hS : va_S A s.heap H locs) (hl : lv_has ls 3 [(0, .ref a0), (1, .int x1), (2, .int x2)]) : W p l e rm_Mo_freeAll s m args below meth c H locs 0 0 (MQ below (va_Qv post (fun M' t => hw D wCl A M' t.heap) A) args s 0 0 A) (F0 m 0 ls []) := by
  obtain ⟨hx, hb, hr, hml, hown, hts, hlocks, hK, hA, hZ0⟩ := id C0
  refine lv_aload_n hx hb d_Mo_freeAll_0 rfl (lv_at hl 0 rfl) ?_
  obtain ⟨fs, v25, h1, h2, h⟩ := h
  refine va_get (D := D) (ci := 5) (v := va_rf v25) (C := "ChannelHallModel") (T := TMo) (N := 26) hx hb hts uMo hown hK (hw_one hW h1) 0 rfl rfl 18 (by decide) (hts _ bw_992) (fun _ h9 => h9) h2 d_Mo_freeAll_1 ?_
  refine lv_iload_n hx hb d_Mo_freeAll_4 rfl (lv_at hl 1 rfl) ?_
  obtain ⟨b26, rfl, h⟩ := h
  obtain ⟨n, f, h1, h2, h⟩ := h
  refine va_iald hx hb hK (hw_one hW h1) 0 5 rfl rfl h2 d_Mo_freeAll_5 ?_
  generalize f (x1).toNatClampNeg = v27 at h ⊢
  obtain ⟨h0, h1⟩ := h
  refine lv_if_le (tgt := 26) hx hb d_Mo_freeAll_6 (by decide) (fun c28 => ?_) (fun c28 => ?_)
  · have h := h0 c28
    exact W.vret hx hb hr (fun t ht hWm => ⟨⟨_, rfl, h, hw_t ht hW⟩, hS.F ht⟩) hS.2.2 d_Mo_freeAll_26
  · have h := h1 c28
    refine lv_aload_n hx hb d_Mo_freeAll_9 rfl (lv_at hl 0 rfl) ?_
    refine lv_aload_n hx hb d_Mo_freeAll_10 rfl (lv_at hl 0 rfl) ?_
    obtain ⟨fs, v29, h1, h2, h⟩ := h
    refine va_get (D := D) (ci := 5) (v := va_rf v29) (C := "ChannelHallModel") (T := TMo) (N := 26) hx hb hts uMo hown hK (hw_one hW h1) 0 rfl rfl 17 (by decide) (hts _ bw_991) (fun _ h9 => h9) h2 d_Mo_freeAll_11 ?_
    refine lv_bipush (v := 6) hx hb d_Mo_freeAll_14 (by decide) ?_
    refine lv_iload_n hx hb d_Mo_freeAll_16 rfl (lv_at hl 1 rfl) ?_
    refine lv_imul hx hb d_Mo_freeAll_17 ?_
    obtain ⟨b30, rfl, h⟩ := h
    obtain ⟨n, f, h1, h2, h⟩ := h
    refine va_iald hx hb hK (hw_one hW h1) 0 5 rfl rfl h2 d_Mo_freeAll_18 ?_
    generalize f ((6 * x1)).toNatClampNeg = v31 at h ⊢
    refine lv_iload_n hx hb d_Mo_freeAll_19 rfl (lv_at hl 2 rfl) ?_
    obtain ⟨⟨fs, h1⟩, h⟩ := h
    have h9 := h
    clear h
    have hF := hW.free hS hA
    refine va_callv (va_runV (As := [.int v31, .int x2]) (rest := []) ⟨hx, hb, hml, hown, hts⟩ (c_Mo_free _ h9) (cwV 2 hts (gi_V bw_1106 bw_1108 bs_28 bw_5 bw_1109) rfl rfl rfl (by decide +kernel) ⟨Nat.le_of_ble_eq_true rfl, Nat.le_of_ble_eq_true rfl⟩) ⟨hI.blind, hw_recv hK hW h1 rfl, hI.give hW hS hA hK hZ0⟩ rfl rfl hl.1 rfl (lv_room (Nat.le_of_ble_eq_true rfl)) d_Mo_freeAll_20 ⟨(show _ ≤ 0 by omega), (show _ ≤ 0 by omega)⟩) hS (fun q _ z => hF q z) hF (fun M32 t H locs ht _ h hB1 _ _ hS => ?_)
    have hW := hw_back hF ht hB1
    clear h9
    refine lv_goto (tgt := 0) hx hb d_Mo_freeAll_23 (by decide) ?_
    obtain ⟨n, h⟩ := h
    exact l_Mo_freeAll_0 C0 n a0 x1 x2 h hW hS (lv_sub hl [0, 1, 2] rfl)
set_option maxRecDepth 20000 in
theorem c_Mo_freeAll {l : Launch} {D : va_G} {ca G : Nat → Nat} (post : hM → Prop) {M : hM} {sz : Nat} {a0 : Nat} {x1 : Int32} {x2 : Int32} (h : wp_Mo_freeAll G ca post M a0 x1 x2) : Met l y_Mo_freeAll (wz y_Mo_freeAll prog_7_method_10_code 3 (none)) rm_Mo_freeAll (va_Pc [.ref a0, .int x1, .int x2] (hI D ca G sz M)) (va_Qv post (hB D M sz) (hp_A M sz)) 0 0 (hp_A M sz) := by
  refine Met.ofW (cc := prog_7_method_10_code) (maxL := 3) (ret := none) (by decide) rfl ?_
  intro p e s m args below meth c s₁ B hml hv
  obtain ⟨rfl, hsz, hW, hK, hZ0⟩ := hv
  have hts := fun w hw => atoms_spec (ws := wz y_Mo_freeAll prog_7_method_10_code 3 (none)) B.pre w (List.mem_cons_of_mem _ hw)
  have hown : s.vm.findClass "ChannelHallModel" = some m.cls := findClass_of_methodNamed B.named
  subst hsz
  have hl := lv_entry [.ref a0, .int x1, .int x2] (n := 3) (Nat.le_of_ble_eq_true rfl)
  rw [lg_entry_eq]
  exact l_Mo_freeAll_e ⟨B.exec, B.bytes, B.returns, hml, hown, hts, B.notSynchronized, hK, fun q h => Or.inr h, hZ0⟩ a0 x1 x2 h hW va_S.rf hl

theorem d_Mo_move_0 : decode prog_7_method_13_code 0 = .ok (.aload_n 0, 1) := by decide +kernel
theorem d_Mo_move_1 : decode prog_7_method_13_code 1 = .ok (.getfield 63, 3) := by decide +kernel
theorem d_Mo_move_4 : decode prog_7_method_13_code 4 = .ok (.iload_n 2, 1) := by decide +kernel
theorem d_Mo_move_5 : decode prog_7_method_13_code 5 = .ok (.aload_n 0, 1) := by decide +kernel
theorem d_Mo_move_6 : decode prog_7_method_13_code 6 = .ok (.getfield 63, 3) := by decide +kernel
theorem d_Mo_move_9 : decode prog_7_method_13_code 9 = .ok (.iload_n 1, 1) := by decide +kernel
theorem d_Mo_move_10 : decode prog_7_method_13_code 10 = .ok (.iaload, 1) := by decide +kernel
theorem d_Mo_move_11 : decode prog_7_method_13_code 11 = .ok (.iastore, 1) := by decide +kernel
theorem d_Mo_move_12 : decode prog_7_method_13_code 12 = .ok (.aload_n 0, 1) := by decide +kernel
theorem d_Mo_move_13 : decode prog_7_method_13_code 13 = .ok (.getfield 66, 3) := by decide +kernel
theorem d_Mo_move_16 : decode prog_7_method_13_code 16 = .ok (.iload_n 2, 1) := by decide +kernel
theorem d_Mo_move_17 : decode prog_7_method_13_code 17 = .ok (.aload_n 0, 1) := by decide +kernel
theorem d_Mo_move_18 : decode prog_7_method_13_code 18 = .ok (.getfield 66, 3) := by decide +kernel
theorem d_Mo_move_21 : decode prog_7_method_13_code 21 = .ok (.iload_n 1, 1) := by decide +kernel
theorem d_Mo_move_22 : decode prog_7_method_13_code 22 = .ok (.daload, 1) := by decide +kernel
theorem d_Mo_move_23 : decode prog_7_method_13_code 23 = .ok (.dastore, 1) := by decide +kernel
theorem d_Mo_move_24 : decode prog_7_method_13_code 24 = .ok (.aload_n 0, 1) := by decide +kernel
theorem d_Mo_move_25 : decode prog_7_method_13_code 25 = .ok (.getfield 69, 3) := by decide +kernel
theorem d_Mo_move_28 : decode prog_7_method_13_code 28 = .ok (.iload_n 2, 1) := by decide +kernel
theorem d_Mo_move_29 : decode prog_7_method_13_code 29 = .ok (.aload_n 0, 1) := by decide +kernel
theorem d_Mo_move_30 : decode prog_7_method_13_code 30 = .ok (.getfield 69, 3) := by decide +kernel
theorem d_Mo_move_33 : decode prog_7_method_13_code 33 = .ok (.iload_n 1, 1) := by decide +kernel
theorem d_Mo_move_34 : decode prog_7_method_13_code 34 = .ok (.daload, 1) := by decide +kernel
theorem d_Mo_move_35 : decode prog_7_method_13_code 35 = .ok (.dastore, 1) := by decide +kernel
theorem d_Mo_move_36 : decode prog_7_method_13_code 36 = .ok (.aload_n 0, 1) := by decide +kernel
theorem d_Mo_move_37 : decode prog_7_method_13_code 37 = .ok (.getfield 72, 3) := by decide +kernel
theorem d_Mo_move_40 : decode prog_7_method_13_code 40 = .ok (.iload_n 2, 1) := by decide +kernel
theorem d_Mo_move_41 : decode prog_7_method_13_code 41 = .ok (.aload_n 0, 1) := by decide +kernel
theorem d_Mo_move_42 : decode prog_7_method_13_code 42 = .ok (.getfield 72, 3) := by decide +kernel
theorem d_Mo_move_45 : decode prog_7_method_13_code 45 = .ok (.iload_n 1, 1) := by decide +kernel
theorem d_Mo_move_46 : decode prog_7_method_13_code 46 = .ok (.daload, 1) := by decide +kernel
theorem d_Mo_move_47 : decode prog_7_method_13_code 47 = .ok (.dastore, 1) := by decide +kernel
theorem d_Mo_move_48 : decode prog_7_method_13_code 48 = .ok (.return_, 1) := by decide +kernel
def y_Mo_move : MethodName := ⟨"ChannelHallModel", "move", "(II)V"⟩
abbrev rm_Mo_move : Room := { frames := 0, cells := 0, slots := 0, locals := 0 }
def wp_Mo_move (G ca : Nat → Nat) (post : hM → Prop) (M : hM) (a0 : Nat) (x1 : Int32) (x2 : Int32) : Prop := gR M a0 5 19 fun v25 => gR M a0 5 19 fun v26 => nN v26 fun b27 => aI M b27 (ca 5) x1 fun v28 => nN v25 fun b29 => sI M b29 (ca 5) x2 v28 fun M30 => gR M30 a0 5 20 fun v31 => gR M30 a0 5 20 fun v32 => nN v32 fun b33 => aD M30 b33 (ca 4) x1 fun v34 => nN v31 fun b35 => sD M30 b35 (ca 4) x2 v34 fun M36 => gR M36 a0 5 21 fun v37 => gR M36 a0 5 21 fun v38 => nN v38 fun b39 => aD M36 b39 (ca 4) x1 fun v40 => nN v37 fun b41 => sD M36 b41 (ca 4) x2 v40 fun M42 => gR M42 a0 5 22 fun v43 => gR M42 a0 5 22 fun v44 => nN v44 fun b45 => aD M42 b45 (ca 4) x1 fun v46 => nN v43 fun b47 => sD M42 b47 (ca 4) x2 v46 fun M48 => post M48
set_option maxHeartbeats 1000000 in
set_option maxRecDepth 20000 in
theorem l_Mo_move_e {p : Program} {l : Launch} {e : Env} {s : State} {m : MethodId} {args : Array Value} {below : List Frame} {meth : Method} {c : Code} {D : va_G} {ca G : Nat → Nat} {A : Nat → Prop} (C0 : hC p s m args meth c D ca G prog_7_method_13_code 3 (none) "ChannelHallModel" A) {post : hM → Prop} {M : hM} {H : Heap} {locs : List Loc} {ls : Array Slot} (a0 : Nat) (x1 : Int32) (x2 : Int32) (h : wp_Mo_move G ca post M a0 x1 x2) (hW : hw D wCl A M H) (hS : va_S A s.heap H locs) (hl : lv_has ls 3 [(0, .ref a0), (1, .int x1), (2, .int x2)]) : W p l e rm_Mo_move s m args below meth c H locs 0 0 (MQ below (va_Qv post (fun M' t => hw D wCl A M' t.heap) A) args s 0 0 A) (F0 m 0 ls []) := by
  obtain ⟨hx, hb, hr, hml, hown, hts, hlocks, hK, hA, hZ0⟩ := id C0
  refine lv_aload_n hx hb d_Mo_move_0 rfl (lv_at hl 0 rfl) ?_
  obtain ⟨fs, v25, h1, h2, h⟩ := h
  refine va_get (D := D) (ci := 5) (v := va_rf v25) (C := "ChannelHallModel") (T := TMo) (N := 26) hx hb hts uMo hown hK (hw_one hW h1) 0 rfl rfl 19 (by decide) (hts _ bw_993) (fun _ h9 => h9) h2 d_Mo_move_1 ?_
  refine lv_iload_n hx hb d_Mo_move_4 rfl (lv_at hl 2 rfl) ?_
  refine lv_aload_n hx hb d_Mo_move_5 rfl (lv_at hl 0 rfl) ?_
  obtain ⟨fs, v26, h1, h2, h⟩ := h
  refine va_get (D := D) (ci := 5) (v := va_rf v26) (C := "ChannelHallModel") (T := TMo) (N := 26) hx hb hts uMo hown hK (hw_one hW h1) 0 rfl rfl 19 (by decide) (hts _ bw_993) (fun _ h9 => h9) h2 d_Mo_move_6 ?_
  refine lv_iload_n hx hb d_Mo_move_9 rfl (lv_at hl 1 rfl) ?_
  obtain ⟨b27, rfl, h⟩ := h
  obtain ⟨n, f, h1, h2, h⟩ := h
  refine va_iald hx hb hK (hw_one hW h1) 0 5 rfl rfl h2 d_Mo_move_10 ?_
  generalize f (x1).toNatClampNeg = v28 at h ⊢
  obtain ⟨b29, rfl, h⟩ := h
  obtain ⟨n, f, h1, h2, h⟩ := h
  obtain ⟨ws, q0, hq, hP, hD, hback, -⟩ := hw_open hW h1
  refine va_iast hx hb hK hP hD hS q0 5 hq rfl h2 d_Mo_move_11 (fun H locs hP hD hS => ?_)
  have hW := hback _ _ hP hD
  generalize hM2 : va_up M b29 _ = M30 at h hW
  refine lv_aload_n hx hb d_Mo_move_12 rfl (lv_at hl 0 rfl) ?_
  obtain ⟨fs, v31, h1, h2, h⟩ := h
  refine va_get (D := D) (ci := 5) (v := va_rf v31) (C := "ChannelHallModel") (T := TMo) (N := 26) hx hb hts uMo hown hK (hw_one hW h1) 0 rfl rfl 20 (by decide) (hts _ bw_994) (fun _ h9 => h9) h2 d_Mo_move_13 ?_
  refine lv_iload_n hx hb d_Mo_move_16 rfl (lv_at hl 2 rfl) ?_
  refine lv_aload_n hx hb d_Mo_move_17 rfl (lv_at hl 0 rfl) ?_
  obtain ⟨fs, v32, h1, h2, h⟩ := h
  refine va_get (D := D) (ci := 5) (v := va_rf v32) (C := "ChannelHallModel") (T := TMo) (N := 26) hx hb hts uMo hown hK (hw_one hW h1) 0 rfl rfl 20 (by decide) (hts _ bw_994) (fun _ h9 => h9) h2 d_Mo_move_18 ?_
  refine lv_iload_n hx hb d_Mo_move_21 rfl (lv_at hl 1 rfl) ?_
  obtain ⟨b33, rfl, h⟩ := h
  obtain ⟨n, f, h1, h2, h⟩ := h
  refine va_dald hx hb hK (hw_one hW h1) 0 4 rfl rfl h2 d_Mo_move_22 ?_
  generalize f (x1).toNatClampNeg = v34 at h ⊢
  obtain ⟨b35, rfl, h⟩ := h
  obtain ⟨n, f, h1, h2, h⟩ := h
  obtain ⟨ws, q0, hq, hP, hD, hback, -⟩ := hw_open hW h1
  refine va_dast hx hb hK hP hD hS q0 4 hq rfl h2 d_Mo_move_23 (fun H locs hP hD hS => ?_)
  have hW := hback _ _ hP hD
  generalize hM2 : va_up M30 b35 _ = M36 at h hW
  refine lv_aload_n hx hb d_Mo_move_24 rfl (lv_at hl 0 rfl) ?_
  obtain ⟨fs, v37, h1, h2, h⟩ := h
  refine va_get (D := D) (ci := 5) (v := va_rf v37) (C := "ChannelHallModel") (T := TMo) (N := 26) hx hb hts uMo hown hK (hw_one hW h1) 0 rfl rfl 21 (by decide) (hts _ bw_995) (fun _ h9 => h9) h2 d_Mo_move_25 ?_
  refine lv_iload_n hx hb d_Mo_move_28 rfl (lv_at hl 2 rfl) ?_
  refine lv_aload_n hx hb d_Mo_move_29 rfl (lv_at hl 0 rfl) ?_
  obtain ⟨fs, v38, h1, h2, h⟩ := h
  refine va_get (D := D) (ci := 5) (v := va_rf v38) (C := "ChannelHallModel") (T := TMo) (N := 26) hx hb hts uMo hown hK (hw_one hW h1) 0 rfl rfl 21 (by decide) (hts _ bw_995) (fun _ h9 => h9) h2 d_Mo_move_30 ?_
  refine lv_iload_n hx hb d_Mo_move_33 rfl (lv_at hl 1 rfl) ?_
  obtain ⟨b39, rfl, h⟩ := h
  obtain ⟨n, f, h1, h2, h⟩ := h
  refine va_dald hx hb hK (hw_one hW h1) 0 4 rfl rfl h2 d_Mo_move_34 ?_
  generalize f (x1).toNatClampNeg = v40 at h ⊢
  obtain ⟨b41, rfl, h⟩ := h
  obtain ⟨n, f, h1, h2, h⟩ := h
  obtain ⟨ws, q0, hq, hP, hD, hback, -⟩ := hw_open hW h1
  refine va_dast hx hb hK hP hD hS q0 4 hq rfl h2 d_Mo_move_35 (fun H locs hP hD hS => ?_)
  have hW := hback _ _ hP hD
  generalize hM2 : va_up M36 b41 _ = M42 at h hW
  refine lv_aload_n hx hb d_Mo_move_36 rfl (lv_at hl 0 rfl) ?_
  obtain ⟨fs, v43, h1, h2, h⟩ := h
  refine va_get (D := D) (ci := 5) (v := va_rf v43) (C := "ChannelHallModel") (T := TMo) (N := 26) hx hb hts uMo hown hK (hw_one hW h1) 0 rfl rfl 22 (by decide) (hts _ bw_996) (fun _ h9 => h9) h2 d_Mo_move_37 ?_
  refine lv_iload_n hx hb d_Mo_move_40 rfl (lv_at hl 2 rfl) ?_
  refine lv_aload_n hx hb d_Mo_move_41 rfl (lv_at hl 0 rfl) ?_
  obtain ⟨fs, v44, h1, h2, h⟩ := h
  refine va_get (D := D) (ci := 5) (v := va_rf v44) (C := "ChannelHallModel") (T := TMo) (N := 26) hx hb hts uMo hown hK (hw_one hW h1) 0 rfl rfl 22 (by decide) (hts _ bw_996) (fun _ h9 => h9) h2 d_Mo_move_42 ?_
  refine lv_iload_n hx hb d_Mo_move_45 rfl (lv_at hl 1 rfl) ?_
  obtain ⟨b45, rfl, h⟩ := h
  obtain ⟨n, f, h1, h2, h⟩ := h
  refine va_dald hx hb hK (hw_one hW h1) 0 4 rfl rfl h2 d_Mo_move_46 ?_
  generalize f (x1).toNatClampNeg = v46 at h ⊢
  obtain ⟨b47, rfl, h⟩ := h
  obtain ⟨n, f, h1, h2, h⟩ := h
  obtain ⟨ws, q0, hq, hP, hD, hback, -⟩ := hw_open hW h1
  refine va_dast hx hb hK hP hD hS q0 4 hq rfl h2 d_Mo_move_47 (fun H locs hP hD hS => ?_)
  have hW := hback _ _ hP hD
  generalize hM2 : va_up M42 b47 _ = M48 at h hW
  exact W.vret hx hb hr (fun t ht hWm => ⟨⟨_, rfl, h, hw_t ht hW⟩, hS.F ht⟩) hS.2.2 d_Mo_move_48
set_option maxRecDepth 20000 in
theorem c_Mo_move {l : Launch} {D : va_G} {ca G : Nat → Nat} (post : hM → Prop) {M : hM} {sz : Nat} {a0 : Nat} {x1 : Int32} {x2 : Int32} (h : wp_Mo_move G ca post M a0 x1 x2) : Met l y_Mo_move (wz y_Mo_move prog_7_method_13_code 3 (none)) rm_Mo_move (va_Pc [.ref a0, .int x1, .int x2] (hI D ca G sz M)) (va_Qv post (hB D M sz) (hp_A M sz)) 0 0 (hp_A M sz) := by
  refine Met.ofW (cc := prog_7_method_13_code) (maxL := 3) (ret := none) (by decide) rfl ?_
  intro p e s m args below meth c s₁ B hml hv
  obtain ⟨rfl, hsz, hW, hK, hZ0⟩ := hv
  have hts := fun w hw => atoms_spec (ws := wz y_Mo_move prog_7_method_13_code 3 (none)) B.pre w (List.mem_cons_of_mem _ hw)
  have hown : s.vm.findClass "ChannelHallModel" = some m.cls := findClass_of_methodNamed B.named
  subst hsz
  have hl := lv_entry [.ref a0, .int x1, .int x2] (n := 3) (Nat.le_of_ble_eq_true rfl)
  rw [lg_entry_eq]
  exact l_Mo_move_e ⟨B.exec, B.bytes, B.returns, hml, hown, hts, B.notSynchronized, hK, fun q h => Or.inr h, hZ0⟩ a0 x1 x2 h hW va_S.rf hl

theorem d_Mo_lay_0 : decode prog_7_method_12_code 0 = .ok (.aload_n 0, 1) := by decide +kernel
theorem d_Mo_lay_1 : decode prog_7_method_12_code 1 = .ok (.getfield 75, 3) := by decide +kernel
theorem d_Mo_lay_4 : decode prog_7_method_12_code 4 = .ok (.iload_n 1, 1) := by decide +kernel
theorem d_Mo_lay_5 : decode prog_7_method_12_code 5 = .ok (.iaload, 1) := by decide +kernel
theorem d_Mo_lay_6 : decode prog_7_method_12_code 6 = .ok (.istore 7, 2) := by decide +kernel
theorem d_Mo_lay_8 : decode prog_7_method_12_code 8 = .ok (.iload 7, 2) := by decide +kernel
theorem d_Mo_lay_10 : decode prog_7_method_12_code 10 = .ok (.ifCond .le 68, 3) := by decide +kernel
theorem d_Mo_lay_13 : decode prog_7_method_12_code 13 = .ok (.aload_n 0, 1) := by decide +kernel
theorem d_Mo_lay_14 : decode prog_7_method_12_code 14 = .ok (.getfield 45, 3) := by decide +kernel
theorem d_Mo_lay_17 : decode prog_7_method_12_code 17 = .ok (.iload_n 1, 1) := by decide +kernel
theorem d_Mo_lay_18 : decode prog_7_method_12_code 18 = .ok (.iaload, 1) := by decide +kernel
theorem d_Mo_lay_19 : decode prog_7_method_12_code 19 = .ok (.iconst 3, 1) := by decide +kernel
theorem d_Mo_lay_20 : decode prog_7_method_12_code 20 = .ok (.if_icmp .ne 22, 3) := by decide +kernel
theorem d_Mo_lay_23 : decode prog_7_method_12_code 23 = .ok (.aload_n 0, 1) := by decide +kernel
theorem d_Mo_lay_24 : decode prog_7_method_12_code 24 = .ok (.getfield 66, 3) := by decide +kernel
theorem d_Mo_lay_27 : decode prog_7_method_12_code 27 = .ok (.bipush 16, 2) := by decide +kernel
theorem d_Mo_lay_29 : decode prog_7_method_12_code 29 = .ok (.iload_n 1, 1) := by decide +kernel
theorem d_Mo_lay_30 : decode prog_7_method_12_code 30 = .ok (.imul, 1) := by decide +kernel
theorem d_Mo_lay_31 : decode prog_7_method_12_code 31 = .ok (.iload 7, 2) := by decide +kernel
theorem d_Mo_lay_33 : decode prog_7_method_12_code 33 = .ok (.iadd, 1) := by decide +kernel
theorem d_Mo_lay_34 : decode prog_7_method_12_code 34 = .ok (.iconst 1, 1) := by decide +kernel
theorem d_Mo_lay_35 : decode prog_7_method_12_code 35 = .ok (.isub, 1) := by decide +kernel
theorem d_Mo_lay_36 : decode prog_7_method_12_code 36 = .ok (.daload, 1) := by decide +kernel
theorem d_Mo_lay_37 : decode prog_7_method_12_code 37 = .ok (.dload_n 3, 1) := by decide +kernel
theorem d_Mo_lay_38 : decode prog_7_method_12_code 38 = .ok (.dcmp .g, 1) := by decide +kernel
theorem d_Mo_lay_39 : decode prog_7_method_12_code 39 = .ok (.ifCond .lt 33, 3) := by decide +kernel
theorem d_Mo_lay_42 : decode prog_7_method_12_code 42 = .ok (.aload_n 0, 1) := by decide +kernel
theorem d_Mo_lay_43 : decode prog_7_method_12_code 43 = .ok (.getfield 45, 3) := by decide +kernel
theorem d_Mo_lay_46 : decode prog_7_method_12_code 46 = .ok (.iload_n 1, 1) := by decide +kernel
theorem d_Mo_lay_47 : decode prog_7_method_12_code 47 = .ok (.iaload, 1) := by decide +kernel
theorem d_Mo_lay_48 : decode prog_7_method_12_code 48 = .ok (.iconst 4, 1) := by decide +kernel
theorem d_Mo_lay_49 : decode prog_7_method_12_code 49 = .ok (.if_icmp .ne 29, 3) := by decide +kernel
theorem d_Mo_lay_52 : decode prog_7_method_12_code 52 = .ok (.aload_n 0, 1) := by decide +kernel
theorem d_Mo_lay_53 : decode prog_7_method_12_code 53 = .ok (.getfield 69, 3) := by decide +kernel
theorem d_Mo_lay_56 : decode prog_7_method_12_code 56 = .ok (.bipush 16, 2) := by decide +kernel
theorem d_Mo_lay_58 : decode prog_7_method_12_code 58 = .ok (.iload_n 1, 1) := by decide +kernel
theorem d_Mo_lay_59 : decode prog_7_method_12_code 59 = .ok (.imul, 1) := by decide +kernel
theorem d_Mo_lay_60 : decode prog_7_method_12_code 60 = .ok (.iload 7, 2) := by decide +kernel
theorem d_Mo_lay_62 : decode prog_7_method_12_code 62 = .ok (.iadd, 1) := by decide +kernel
theorem d_Mo_lay_63 : decode prog_7_method_12_code 63 = .ok (.iconst 1, 1) := by decide +kernel
theorem d_Mo_lay_64 : decode prog_7_method_12_code 64 = .ok (.isub, 1) := by decide +kernel
theorem d_Mo_lay_65 : decode prog_7_method_12_code 65 = .ok (.daload, 1) := by decide +kernel
theorem d_Mo_lay_66 : decode prog_7_method_12_code 66 = .ok (.dload 5, 2) := by decide +kernel
theorem d_Mo_lay_68 : decode prog_7_method_12_code 68 = .ok (.dcmp .l, 1) := by decide +kernel
theorem d_Mo_lay_69 : decode prog_7_method_12_code 69 = .ok (.ifCond .le 9, 3) := by decide +kernel
theorem d_Mo_lay_72 : decode prog_7_method_12_code 72 = .ok (.iinc 7 (-1), 3) := by decide +kernel
theorem d_Mo_lay_75 : decode prog_7_method_12_code 75 = .ok (.goto (-67), 3) := by decide +kernel
theorem d_Mo_lay_78 : decode prog_7_method_12_code 78 = .ok (.aload_n 0, 1) := by decide +kernel
theorem d_Mo_lay_79 : decode prog_7_method_12_code 79 = .ok (.getfield 75, 3) := by decide +kernel
theorem d_Mo_lay_82 : decode prog_7_method_12_code 82 = .ok (.iload_n 1, 1) := by decide +kernel
theorem d_Mo_lay_83 : decode prog_7_method_12_code 83 = .ok (.iaload, 1) := by decide +kernel
theorem d_Mo_lay_84 : decode prog_7_method_12_code 84 = .ok (.istore 8, 2) := by decide +kernel
theorem d_Mo_lay_86 : decode prog_7_method_12_code 86 = .ok (.iload 8, 2) := by decide +kernel
theorem d_Mo_lay_88 : decode prog_7_method_12_code 88 = .ok (.iload 7, 2) := by decide +kernel
theorem d_Mo_lay_90 : decode prog_7_method_12_code 90 = .ok (.if_icmp .le 29, 3) := by decide +kernel
theorem d_Mo_lay_93 : decode prog_7_method_12_code 93 = .ok (.aload_n 0, 1) := by decide +kernel
theorem d_Mo_lay_94 : decode prog_7_method_12_code 94 = .ok (.bipush 16, 2) := by decide +kernel
theorem d_Mo_lay_96 : decode prog_7_method_12_code 96 = .ok (.iload_n 1, 1) := by decide +kernel
theorem d_Mo_lay_97 : decode prog_7_method_12_code 97 = .ok (.imul, 1) := by decide +kernel
theorem d_Mo_lay_98 : decode prog_7_method_12_code 98 = .ok (.iload 8, 2) := by decide +kernel
theorem d_Mo_lay_100 : decode prog_7_method_12_code 100 = .ok (.iadd, 1) := by decide +kernel
theorem d_Mo_lay_101 : decode prog_7_method_12_code 101 = .ok (.iconst 1, 1) := by decide +kernel
theorem d_Mo_lay_102 : decode prog_7_method_12_code 102 = .ok (.isub, 1) := by decide +kernel
theorem d_Mo_lay_103 : decode prog_7_method_12_code 103 = .ok (.bipush 16, 2) := by decide +kernel
theorem d_Mo_lay_105 : decode prog_7_method_12_code 105 = .ok (.iload_n 1, 1) := by decide +kernel
theorem d_Mo_lay_106 : decode prog_7_method_12_code 106 = .ok (.imul, 1) := by decide +kernel
theorem d_Mo_lay_107 : decode prog_7_method_12_code 107 = .ok (.iload 8, 2) := by decide +kernel
theorem d_Mo_lay_109 : decode prog_7_method_12_code 109 = .ok (.iadd, 1) := by decide +kernel
theorem d_Mo_lay_110 : decode prog_7_method_12_code 110 = .ok (.invokevirtual 117, 3) := by decide +kernel
theorem d_Mo_lay_113 : decode prog_7_method_12_code 113 = .ok (.iinc 8 (-1), 3) := by decide +kernel
theorem d_Mo_lay_116 : decode prog_7_method_12_code 116 = .ok (.goto (-30), 3) := by decide +kernel
theorem d_Mo_lay_119 : decode prog_7_method_12_code 119 = .ok (.aload_n 0, 1) := by decide +kernel
theorem d_Mo_lay_120 : decode prog_7_method_12_code 120 = .ok (.getfield 63, 3) := by decide +kernel
theorem d_Mo_lay_123 : decode prog_7_method_12_code 123 = .ok (.bipush 16, 2) := by decide +kernel
theorem d_Mo_lay_125 : decode prog_7_method_12_code 125 = .ok (.iload_n 1, 1) := by decide +kernel
theorem d_Mo_lay_126 : decode prog_7_method_12_code 126 = .ok (.imul, 1) := by decide +kernel
theorem d_Mo_lay_127 : decode prog_7_method_12_code 127 = .ok (.iload 7, 2) := by decide +kernel
theorem d_Mo_lay_129 : decode prog_7_method_12_code 129 = .ok (.iadd, 1) := by decide +kernel
theorem d_Mo_lay_130 : decode prog_7_method_12_code 130 = .ok (.iload_n 2, 1) := by decide +kernel
theorem d_Mo_lay_131 : decode prog_7_method_12_code 131 = .ok (.iastore, 1) := by decide +kernel
theorem d_Mo_lay_132 : decode prog_7_method_12_code 132 = .ok (.aload_n 0, 1) := by decide +kernel
theorem d_Mo_lay_133 : decode prog_7_method_12_code 133 = .ok (.getfield 66, 3) := by decide +kernel
theorem d_Mo_lay_136 : decode prog_7_method_12_code 136 = .ok (.bipush 16, 2) := by decide +kernel
theorem d_Mo_lay_138 : decode prog_7_method_12_code 138 = .ok (.iload_n 1, 1) := by decide +kernel
theorem d_Mo_lay_139 : decode prog_7_method_12_code 139 = .ok (.imul, 1) := by decide +kernel
theorem d_Mo_lay_140 : decode prog_7_method_12_code 140 = .ok (.iload 7, 2) := by decide +kernel
theorem d_Mo_lay_142 : decode prog_7_method_12_code 142 = .ok (.iadd, 1) := by decide +kernel
theorem d_Mo_lay_143 : decode prog_7_method_12_code 143 = .ok (.dload_n 3, 1) := by decide +kernel
theorem d_Mo_lay_144 : decode prog_7_method_12_code 144 = .ok (.dastore, 1) := by decide +kernel
theorem d_Mo_lay_145 : decode prog_7_method_12_code 145 = .ok (.aload_n 0, 1) := by decide +kernel
theorem d_Mo_lay_146 : decode prog_7_method_12_code 146 = .ok (.getfield 69, 3) := by decide +kernel
theorem d_Mo_lay_149 : decode prog_7_method_12_code 149 = .ok (.bipush 16, 2) := by decide +kernel
theorem d_Mo_lay_151 : decode prog_7_method_12_code 151 = .ok (.iload_n 1, 1) := by decide +kernel
theorem d_Mo_lay_152 : decode prog_7_method_12_code 152 = .ok (.imul, 1) := by decide +kernel
theorem d_Mo_lay_153 : decode prog_7_method_12_code 153 = .ok (.iload 7, 2) := by decide +kernel
theorem d_Mo_lay_155 : decode prog_7_method_12_code 155 = .ok (.iadd, 1) := by decide +kernel
theorem d_Mo_lay_156 : decode prog_7_method_12_code 156 = .ok (.dload 5, 2) := by decide +kernel
theorem d_Mo_lay_158 : decode prog_7_method_12_code 158 = .ok (.dastore, 1) := by decide +kernel
theorem d_Mo_lay_159 : decode prog_7_method_12_code 159 = .ok (.aload_n 0, 1) := by decide +kernel
theorem d_Mo_lay_160 : decode prog_7_method_12_code 160 = .ok (.getfield 72, 3) := by decide +kernel
theorem d_Mo_lay_163 : decode prog_7_method_12_code 163 = .ok (.bipush 16, 2) := by decide +kernel
theorem d_Mo_lay_165 : decode prog_7_method_12_code 165 = .ok (.iload_n 1, 1) := by decide +kernel
theorem d_Mo_lay_166 : decode prog_7_method_12_code 166 = .ok (.imul, 1) := by decide +kernel
theorem d_Mo_lay_167 : decode prog_7_method_12_code 167 = .ok (.iload 7, 2) := by decide +kernel
theorem d_Mo_lay_169 : decode prog_7_method_12_code 169 = .ok (.iadd, 1) := by decide +kernel
theorem d_Mo_lay_170 : decode prog_7_method_12_code 170 = .ok (.aload_n 0, 1) := by decide +kernel
theorem d_Mo_lay_171 : decode prog_7_method_12_code 171 = .ok (.getfield 102, 3) := by decide +kernel
theorem d_Mo_lay_174 : decode prog_7_method_12_code 174 = .ok (.dastore, 1) := by decide +kernel
theorem d_Mo_lay_175 : decode prog_7_method_12_code 175 = .ok (.aload_n 0, 1) := by decide +kernel
theorem d_Mo_lay_176 : decode prog_7_method_12_code 176 = .ok (.getfield 75, 3) := by decide +kernel
theorem d_Mo_lay_179 : decode prog_7_method_12_code 179 = .ok (.iload_n 1, 1) := by decide +kernel
theorem d_Mo_lay_180 : decode prog_7_method_12_code 180 = .ok (.dup2, 1) := by decide +kernel
theorem d_Mo_lay_181 : decode prog_7_method_12_code 181 = .ok (.iaload, 1) := by decide +kernel
theorem d_Mo_lay_182 : decode prog_7_method_12_code 182 = .ok (.iconst 1, 1) := by decide +kernel
theorem d_Mo_lay_183 : decode prog_7_method_12_code 183 = .ok (.iadd, 1) := by decide +kernel
theorem d_Mo_lay_184 : decode prog_7_method_12_code 184 = .ok (.iastore, 1) := by decide +kernel
theorem d_Mo_lay_185 : decode prog_7_method_12_code 185 = .ok (.return_, 1) := by decide +kernel
def y_Mo_lay : MethodName := ⟨"ChannelHallModel", "lay", "(IIDD)V"⟩
abbrev rm_Mo_lay : Room := { frames := 1, cells := 0, slots := 0, locals := 22 }
def wp_Mo_lay_86 (G ca : Nat → Nat) (post : hM → Prop) : Nat → hM → Nat → Int32 → Int32 → UInt64 → UInt64 → Int32 → Int32 → Prop
  | 0, _, _, _, _, _, _, _, _ => False
  | n + 1, M, l0b86, l1b86, l2b86, l3b86, l5b86, l7b86, l8b86 => (l8b86 ≤ l7b86 → gR M l0b86 5 19 fun v44 => nN v44 fun b45 => sI M b45 (ca 5) ((16 * l1b86) + l7b86) l2b86 fun M46 => gR M46 l0b86 5 20 fun v47 => nN v47 fun b48 => sD M46 b48 (ca 4) ((16 * l1b86) + l7b86) l3b86 fun M49 => gR M49 l0b86 5 21 fun v50 => nN v50 fun b51 => sD M49 b51 (ca 4) ((16 * l1b86) + l7b86) l5b86 fun M52 => gR M52 l0b86 5 22 fun v53 => gD M52 l0b86 5 12 fun v54 => nN v53 fun b55 => sD M52 b55 (ca 4) ((16 * l1b86) + l7b86) v54 fun M56 => gR M56 l0b86 5 23 fun v57 => nN v57 fun b58 => aI M56 b58 (ca 5) l1b86 fun v59 => sI M56 b58 (ca 5) l1b86 (v59 + 1) fun M60 => post M60) ∧ (¬ l8b86 ≤ l7b86 → rC M l0b86 5 (wp_Mo_move G ca (fun M61 => (wp_Mo_lay_86 G ca post n) M61 l0b86 l1b86 l2b86 l3b86 l5b86 l7b86 (l8b86 + (-1))) M l0b86 (((16 * l1b86) + l8b86) - 1) ((16 * l1b86) + l8b86)))
def wp_Mo_lay_78 (G ca : Nat → Nat) (post : hM → Prop) (M : hM) (l0b78 : Nat) (l1b78 : Int32) (l2b78 : Int32) (l3b78 : UInt64) (l5b78 : UInt64) (l7b78 : Int32) : Prop := gR M l0b78 5 23 fun v62 => nN v62 fun b63 => aI M b63 (ca 5) l1b78 fun v64 => ∃ n, wp_Mo_lay_86 G ca post n M l0b78 l1b78 l2b78 l3b78 l5b78 l7b78 v64
def wp_Mo_lay_72 (G ca : Nat → Nat) (post : hM → Prop) (k_5 : hM → Nat → Int32 → Int32 → UInt64 → UInt64 → Int32 → Prop) (M : hM) (l0b72 : Nat) (l1b72 : Int32) (l2b72 : Int32) (l3b72 : UInt64) (l5b72 : UInt64) (l7b72 : Int32) : Prop := k_5 M l0b72 l1b72 l2b72 l3b72 l5b72 (l7b72 + (-1))
def wp_Mo_lay_42 (G ca : Nat → Nat) (post : hM → Prop) (k_5 : hM → Nat → Int32 → Int32 → UInt64 → UInt64 → Int32 → Prop) (M : hM) (l0b42 : Nat) (l1b42 : Int32) (l2b42 : Int32) (l3b42 : UInt64) (l5b42 : UInt64) (l7b42 : Int32) : Prop := gR M l0b42 5 13 fun v65 => nN v65 fun b66 => aI M b66 (ca 5) l1b42 fun v67 => (¬ v67 = 4 → wp_Mo_lay_78 G ca post M l0b42 l1b42 l2b42 l3b42 l5b42 l7b42) ∧ (v67 = 4 → gR M l0b42 5 21 fun v69 => nN v69 fun b70 => aD M b70 (ca 4) (((16 * l1b42) + l7b42) - 1) fun v71 => ((Op.cmpValue (FP.dcmp v71 l5b42) .l) ≤ 0 → wp_Mo_lay_78 G ca post M l0b42 l1b42 l2b42 l3b42 l5b42 l7b42) ∧ (¬ (Op.cmpValue (FP.dcmp v71 l5b42) .l) ≤ 0 → wp_Mo_lay_72 G ca post k_5 M l0b42 l1b42 l2b42 l3b42 l5b42 l7b42))
def wp_Mo_lay_8 (G ca : Nat → Nat) (post : hM → Prop) : Nat → hM → Nat → Int32 → Int32 → UInt64 → UInt64 → Int32 → Prop
  | 0, _, _, _, _, _, _, _ => False
  | n + 1, M, l0b8, l1b8, l2b8, l3b8, l5b8, l7b8 => (l7b8 ≤ 0 → wp_Mo_lay_78 G ca post M l0b8 l1b8 l2b8 l3b8 l5b8 l7b8) ∧ (¬ l7b8 ≤ 0 → gR M l0b8 5 13 fun v74 => nN v74 fun b75 => aI M b75 (ca 5) l1b8 fun v76 => (¬ v76 = 3 → wp_Mo_lay_42 G ca post (wp_Mo_lay_8 G ca post n) M l0b8 l1b8 l2b8 l3b8 l5b8 l7b8) ∧ (v76 = 3 → gR M l0b8 5 20 fun v78 => nN v78 fun b79 => aD M b79 (ca 4) (((16 * l1b8) + l7b8) - 1) fun v80 => ((Op.cmpValue (FP.dcmp v80 l3b8) .g) < 0 → wp_Mo_lay_72 G ca post (wp_Mo_lay_8 G ca post n) M l0b8 l1b8 l2b8 l3b8 l5b8 l7b8) ∧ (¬ (Op.cmpValue (FP.dcmp v80 l3b8) .g) < 0 → wp_Mo_lay_42 G ca post (wp_Mo_lay_8 G ca post n) M l0b8 l1b8 l2b8 l3b8 l5b8 l7b8)))
def wp_Mo_lay (G ca : Nat → Nat) (post : hM → Prop) (M : hM) (a0 : Nat) (x1 : Int32) (x2 : Int32) (x3 : UInt64) (x5 : UInt64) : Prop := gR M a0 5 23 fun v82 => nN v82 fun b83 => aI M b83 (ca 5) x1 fun v84 => ∃ n, wp_Mo_lay_8 G ca post n M a0 x1 x2 x3 x5 v84
set_option maxHeartbeats 1000000 in
set_option maxRecDepth 20000 in
theorem l_Mo_lay_86 {p : Program} {l : Launch} {e : Env} {s : State} {m : MethodId} {args : Array Value} {below : List Frame} {meth : Method} {c : Code} {D : va_G} {ca G : Nat → Nat} {A : Nat → Prop} (C0 : hC p s m args meth c D ca G prog_7_method_12_code 9 (none) "ChannelHallModel" A) {post : hM → Prop} : ∀ (n : Nat) {M : hM} {H : Heap} {locs : List Loc} {ls : Array Slot} (l0b86 : Nat) (l1b86 : Int32) (l2b86 : Int32) (l3b86 : UInt64) (l5b86 : UInt64) (l7b86 : Int32) (l8b86 : Int32) (h : wp_Mo_lay_86 G ca post n M l0b86 l1b86 l2b86 l3b86 l5b86 l7b86 l8b86) (hW : hw D wCl A M H) (hS : va_S A s.heap H locs) (hl : lv_has ls 9 [(0, .ref l0b86), (1, .int l1b86), (2, .int l2b86), (3, .double l3b86), (5, .double l5b86), (7, .int l7b86), (8, .int l8b86)]), W p l e rm_Mo_lay s m args below meth c H locs 0 0 (MQ below (va_Qv post (fun M' t => hw D wCl A M' t.heap) A) args s 0 0 A) (F0 m 86 ls []) := by
  obtain ⟨hx, hb, hr, hml, hown, hts, hlocks, hK, hA, hZ0⟩ := id C0
  intro n
  induction n with
  | zero =>
    intro M H locs ls l0b86 l1b86 l2b86 l3b86 l5b86 l7b86 l8b86 h
    exact False.elim h
  | succ n ih =>
    intro M H locs ls l0b86 l1b86 l2b86 l3b86 l5b86 l7b86 l8b86 h hW hS hl
    have hk_52 := fun M H locs ls l0b86 l1b86 l2b86 l3b86 l5b86 l7b86 l8b86 h hW hS hl => @ih M H locs ls l0b86 l1b86 l2b86 l3b86 l5b86 l7b86 l8b86 h hW hS hl
    refine lv_iload hx hb d_Mo_lay_86 (lv_at hl 6 rfl) ?_
    refine lv_iload hx hb d_Mo_lay_88 (lv_at hl 5 rfl) ?_
    obtain ⟨h0, h1⟩ := h
    refine lv_icmp_le (tgt := 119) hx hb d_Mo_lay_90 (by decide) (fun c43 => ?_) (fun c43 => ?_)
    · have h := h0 c43
      refine lv_aload_n hx hb d_Mo_lay_119 rfl (lv_at hl 0 rfl) ?_
      obtain ⟨fs, v44, h1, h2, h⟩ := h
      refine va_get (D := D) (ci := 5) (v := va_rf v44) (C := "ChannelHallModel") (T := TMo) (N := 26) hx hb hts uMo hown hK (hw_one hW h1) 0 rfl rfl 19 (by decide) (hts _ bw_993) (fun _ h9 => h9) h2 d_Mo_lay_120 ?_
      refine lv_bipush (v := 16) hx hb d_Mo_lay_123 (by decide) ?_
      refine lv_iload_n hx hb d_Mo_lay_125 rfl (lv_at hl 1 rfl) ?_
      refine lv_imul hx hb d_Mo_lay_126 ?_
      refine lv_iload hx hb d_Mo_lay_127 (lv_at hl 5 rfl) ?_
      refine lv_iadd hx hb d_Mo_lay_129 ?_
      refine lv_iload_n hx hb d_Mo_lay_130 rfl (lv_at hl 2 rfl) ?_
      obtain ⟨b45, rfl, h⟩ := h
      obtain ⟨n, f, h1, h2, h⟩ := h
      obtain ⟨ws, q0, hq, hP, hD, hback, -⟩ := hw_open hW h1
      refine va_iast hx hb hK hP hD hS q0 5 hq rfl h2 d_Mo_lay_131 (fun H locs hP hD hS => ?_)
      have hW := hback _ _ hP hD
      generalize hM2 : va_up M b45 _ = M46 at h hW
      refine lv_aload_n hx hb d_Mo_lay_132 rfl (lv_at hl 0 rfl) ?_
      obtain ⟨fs, v47, h1, h2, h⟩ := h
      refine va_get (D := D) (ci := 5) (v := va_rf v47) (C := "ChannelHallModel") (T := TMo) (N := 26) hx hb hts uMo hown hK (hw_one hW h1) 0 rfl rfl 20 (by decide) (hts _ bw_994) (fun _ h9 => h9) h2 d_Mo_lay_133 ?_
      refine lv_bipush (v := 16) hx hb d_Mo_lay_136 (by decide) ?_
      refine lv_iload_n hx hb d_Mo_lay_138 rfl (lv_at hl 1 rfl) ?_
      refine lv_imul hx hb d_Mo_lay_139 ?_
      refine lv_iload hx hb d_Mo_lay_140 (lv_at hl 5 rfl) ?_
      refine lv_iadd hx hb d_Mo_lay_142 ?_
      refine lv_dload_n hx hb d_Mo_lay_143 rfl (lv_at hl 3 rfl) ?_
      obtain ⟨b48, rfl, h⟩ := h
      obtain ⟨n, f, h1, h2, h⟩ := h
      obtain ⟨ws, q0, hq, hP, hD, hback, -⟩ := hw_open hW h1
      refine va_dast hx hb hK hP hD hS q0 4 hq rfl h2 d_Mo_lay_144 (fun H locs hP hD hS => ?_)
      have hW := hback _ _ hP hD
      generalize hM2 : va_up M46 b48 _ = M49 at h hW
      refine lv_aload_n hx hb d_Mo_lay_145 rfl (lv_at hl 0 rfl) ?_
      obtain ⟨fs, v50, h1, h2, h⟩ := h
      refine va_get (D := D) (ci := 5) (v := va_rf v50) (C := "ChannelHallModel") (T := TMo) (N := 26) hx hb hts uMo hown hK (hw_one hW h1) 0 rfl rfl 21 (by decide) (hts _ bw_995) (fun _ h9 => h9) h2 d_Mo_lay_146 ?_
      refine lv_bipush (v := 16) hx hb d_Mo_lay_149 (by decide) ?_
      refine lv_iload_n hx hb d_Mo_lay_151 rfl (lv_at hl 1 rfl) ?_
      refine lv_imul hx hb d_Mo_lay_152 ?_
      refine lv_iload hx hb d_Mo_lay_153 (lv_at hl 5 rfl) ?_
      refine lv_iadd hx hb d_Mo_lay_155 ?_
      refine lv_dload hx hb d_Mo_lay_156 (lv_at hl 4 rfl) ?_
      obtain ⟨b51, rfl, h⟩ := h
      obtain ⟨n, f, h1, h2, h⟩ := h
      obtain ⟨ws, q0, hq, hP, hD, hback, -⟩ := hw_open hW h1
      refine va_dast hx hb hK hP hD hS q0 4 hq rfl h2 d_Mo_lay_158 (fun H locs hP hD hS => ?_)
      have hW := hback _ _ hP hD
      generalize hM2 : va_up M49 b51 _ = M52 at h hW
      refine lv_aload_n hx hb d_Mo_lay_159 rfl (lv_at hl 0 rfl) ?_
      obtain ⟨fs, v53, h1, h2, h⟩ := h
      refine va_get (D := D) (ci := 5) (v := va_rf v53) (C := "ChannelHallModel") (T := TMo) (N := 26) hx hb hts uMo hown hK (hw_one hW h1) 0 rfl rfl 22 (by decide) (hts _ bw_996) (fun _ h9 => h9) h2 d_Mo_lay_160 ?_
      refine lv_bipush (v := 16) hx hb d_Mo_lay_163 (by decide) ?_
      refine lv_iload_n hx hb d_Mo_lay_165 rfl (lv_at hl 1 rfl) ?_
      refine lv_imul hx hb d_Mo_lay_166 ?_
      refine lv_iload hx hb d_Mo_lay_167 (lv_at hl 5 rfl) ?_
      refine lv_iadd hx hb d_Mo_lay_169 ?_
      refine lv_aload_n hx hb d_Mo_lay_170 rfl (lv_at hl 0 rfl) ?_
      obtain ⟨fs, v54, h1, h2, h⟩ := h
      refine va_get (D := D) (ci := 5) (v := .double v54) (C := "ChannelHallModel") (T := TMo) (N := 26) hx hb hts uMo hown hK (hw_one hW h1) 0 rfl rfl 12 (by decide) (hts _ bw_986) (fun _ h9 => h9) h2 d_Mo_lay_171 ?_
      obtain ⟨b55, rfl, h⟩ := h
      obtain ⟨n, f, h1, h2, h⟩ := h
      obtain ⟨ws, q0, hq, hP, hD, hback, -⟩ := hw_open hW h1
      refine va_dast hx hb hK hP hD hS q0 4 hq rfl h2 d_Mo_lay_174 (fun H locs hP hD hS => ?_)
      have hW := hback _ _ hP hD
      generalize hM2 : va_up M52 b55 _ = M56 at h hW
      refine lv_aload_n hx hb d_Mo_lay_175 rfl (lv_at hl 0 rfl) ?_
      obtain ⟨fs, v57, h1, h2, h⟩ := h
      refine va_get (D := D) (ci := 5) (v := va_rf v57) (C := "ChannelHallModel") (T := TMo) (N := 26) hx hb hts uMo hown hK (hw_one hW h1) 0 rfl rfl 23 (by decide) (hts _ bw_997) (fun _ h9 => h9) h2 d_Mo_lay_176 ?_
      refine lv_iload_n hx hb d_Mo_lay_179 rfl (lv_at hl 1 rfl) ?_
      refine lv_dup2_11 hx hb d_Mo_lay_180 rfl (by cases v57 <;> rfl) ?_
      obtain ⟨b58, rfl, h⟩ := h
      obtain ⟨n, f, h1, h2, h⟩ := h
      refine va_iald hx hb hK (hw_one hW h1) 0 5 rfl rfl h2 d_Mo_lay_181 ?_
      generalize f (l1b86).toNatClampNeg = v59 at h ⊢
      refine lv_iconst (v := 1) hx hb d_Mo_lay_182 (by decide) ?_
      refine lv_iadd hx hb d_Mo_lay_183 ?_
      obtain ⟨n, f, h1, h2, h⟩ := h
      obtain ⟨ws, q0, hq, hP, hD, hback, -⟩ := hw_open hW h1
      refine va_iast hx hb hK hP hD hS q0 5 hq rfl h2 d_Mo_lay_184 (fun H locs hP hD hS => ?_)
      have hW := hback _ _ hP hD
      generalize hM2 : va_up M56 b58 _ = M60 at h hW
      exact W.vret hx hb hr (fun t ht hWm => ⟨⟨_, rfl, h, hw_t ht hW⟩, hS.F ht⟩) hS.2.2 d_Mo_lay_185
    · have h := h1 c43
      refine lv_aload_n hx hb d_Mo_lay_93 rfl (lv_at hl 0 rfl) ?_
      refine lv_bipush (v := 16) hx hb d_Mo_lay_94 (by decide) ?_
      refine lv_iload_n hx hb d_Mo_lay_96 rfl (lv_at hl 1 rfl) ?_
      refine lv_imul hx hb d_Mo_lay_97 ?_
      refine lv_iload hx hb d_Mo_lay_98 (lv_at hl 6 rfl) ?_
      refine lv_iadd hx hb d_Mo_lay_100 ?_
      refine lv_iconst (v := 1) hx hb d_Mo_lay_101 (by decide) ?_
      refine lv_isub hx hb d_Mo_lay_102 ?_
      refine lv_bipush (v := 16) hx hb d_Mo_lay_103 (by decide) ?_
      refine lv_iload_n hx hb d_Mo_lay_105 rfl (lv_at hl 1 rfl) ?_
      refine lv_imul hx hb d_Mo_lay_106 ?_
      refine lv_iload hx hb d_Mo_lay_107 (lv_at hl 6 rfl) ?_
      refine lv_iadd hx hb d_Mo_lay_109 ?_
      obtain ⟨⟨fs, h1⟩, h⟩ := h
      have h9 := h
      clear h
      have hF := hW.free hS hA
      refine va_callv (va_runV (As := [.int (((16 * l1b86) + l8b86) - 1), .int ((16 * l1b86) + l8b86)]) (rest := []) ⟨hx, hb, hml, hown, hts⟩ (c_Mo_move _ h9) (cwV 2 hts (gi_V bw_1114 bw_1116 bs_30 bw_5 bw_1117) rfl rfl rfl (by decide +kernel) ⟨Nat.le_of_ble_eq_true rfl, Nat.le_of_ble_eq_true rfl⟩) ⟨hI.blind, hw_recv hK hW h1 rfl, hI.give hW hS hA hK hZ0⟩ rfl rfl hl.1 rfl (lv_room (Nat.le_of_ble_eq_true rfl)) d_Mo_lay_110 ⟨(show _ ≤ 0 by omega), (show _ ≤ 0 by omega)⟩) hS (fun q _ z => hF q z) hF (fun M61 t H locs ht _ h hB1 _ _ hS => ?_)
      have hW := hw_back hF ht hB1
      clear h9
      refine lv_iinc (v := l8b86 + (-1)) (lv' := [(8, .int (l8b86 + (-1))), (0, .ref l0b86), (1, .int l1b86), (2, .int l2b86), (3, .double l3b86), (5, .double l5b86), (7, .int l7b86)]) hx hb d_Mo_lay_113 hl (k := 6) rfl rfl (by decide) rfl (fun ls hl => ?_)
      refine lv_goto (tgt := 86) hx hb d_Mo_lay_116 (by decide) ?_
      exact hk_52 _ _ _ _ l0b86 l1b86 l2b86 l3b86 l5b86 l7b86 (l8b86 + (-1)) h hW hS (lv_sub hl [1, 2, 3, 4, 5, 6, 0] rfl)
set_option maxHeartbeats 1000000 in
set_option maxRecDepth 20000 in
theorem l_Mo_lay_78 {p : Program} {l : Launch} {e : Env} {s : State} {m : MethodId} {args : Array Value} {below : List Frame} {meth : Method} {c : Code} {D : va_G} {ca G : Nat → Nat} {A : Nat → Prop} (C0 : hC p s m args meth c D ca G prog_7_method_12_code 9 (none) "ChannelHallModel" A) {post : hM → Prop} {M : hM} {H : Heap} {locs : List Loc} {ls : Array Slot} (l0b78 : Nat) (l1b78 : Int32) (l2b78 : Int32) (l3b78 : UInt64) (l5b78 : UInt64) (l7b78 : Int32) (h : wp_Mo_lay_78 G ca post M l0b78 l1b78 l2b78 l3b78 l5b78 l7b78) (hW : hw D wCl A M H) (hS : va_S A s.heap H locs) (hl : lv_has ls 9 [(0, .ref l0b78), (1, .int l1b78), (2, .int l2b78), (3, .double l3b78), (5, .double l5b78), (7, .int l7b78)]) : W p l e rm_Mo_lay s m args below meth c H locs 0 0 (MQ below (va_Qv post (fun M' t => hw D wCl A M' t.heap) A) args s 0 0 A) (F0 m 78 ls []) := by
  obtain ⟨hx, hb, hr, hml, hown, hts, hlocks, hK, hA, hZ0⟩ := id C0
  refine lv_aload_n hx hb d_Mo_lay_78 rfl (lv_at hl 0 rfl) ?_
  obtain ⟨fs, v62, h1, h2, h⟩ := h
  refine va_get (D := D) (ci := 5) (v := va_rf v62) (C := "ChannelHallModel") (T := TMo) (N := 26) hx hb hts uMo hown hK (hw_one hW h1) 0 rfl rfl 23 (by decide) (hts _ bw_997) (fun _ h9 => h9) h2 d_Mo_lay_79 ?_
  refine lv_iload_n hx hb d_Mo_lay_82 rfl (lv_at hl 1 rfl) ?_
  obtain ⟨b63, rfl, h⟩ := h
  obtain ⟨n, f, h1, h2, h⟩ := h
  refine va_iald hx hb hK (hw_one hW h1) 0 5 rfl rfl h2 d_Mo_lay_83 ?_
  generalize f (l1b78).toNatClampNeg = v64 at h ⊢
  refine lv_istore (lv' := [(8, .int v64), (0, .ref l0b78), (1, .int l1b78), (2, .int l2b78), (3, .double l3b78), (5, .double l5b78), (7, .int l7b78)]) hx hb d_Mo_lay_84 hl (by decide) rfl (fun ls hl => ?_)
  obtain ⟨n, h⟩ := h
  exact l_Mo_lay_86 C0 n l0b78 l1b78 l2b78 l3b78 l5b78 l7b78 v64 h hW hS (lv_sub hl [1, 2, 3, 4, 5, 6, 0] rfl)
set_option maxHeartbeats 1000000 in
set_option maxRecDepth 20000 in
theorem l_Mo_lay_72 {p : Program} {l : Launch} {e : Env} {s : State} {m : MethodId} {args : Array Value} {below : List Frame} {meth : Method} {c : Code} {D : va_G} {ca G : Nat → Nat} {A : Nat → Prop} (C0 : hC p s m args meth c D ca G prog_7_method_12_code 9 (none) "ChannelHallModel" A) {post : hM → Prop} {k_5 : hM → Nat → Int32 → Int32 → UInt64 → UInt64 → Int32 → Prop} (hk_5 : ∀ (M : hM) (H : Heap) (locs : List Loc) (ls : Array Slot) (l0b8 : Nat) (l1b8 : Int32) (l2b8 : Int32) (l3b8 : UInt64) (l5b8 : UInt64) (l7b8 : Int32), k_5 M l0b8 l1b8 l2b8 l3b8 l5b8 l7b8 → hw D wCl A M H → va_S A s.heap H locs → lv_has ls 9 [(0, .ref l0b8), (1, .int l1b8), (2, .int l2b8), (3, .double l3b8), (5, .double l5b8), (7, .int l7b8)] → W p l e rm_Mo_lay s m args below meth c H locs 0 0 (MQ below (va_Qv post (fun M' t => hw D wCl A M' t.heap) A) args s 0 0 A) (F0 m 8 ls [])) {M : hM} {H : Heap} {locs : List Loc} {ls : Array Slot} (l0b72 : Nat) (l1b72 : Int32) (l2b72 : Int32) (l3b72 : UInt64) (l5b72 : UInt64) (l7b72 : Int32) (h : wp_Mo_lay_72 G ca post k_5 M l0b72 l1b72 l2b72 l3b72 l5b72 l7b72) (hW : hw D wCl A M H) (hS : va_S A s.heap H locs) (hl : lv_has ls 9 [(0, .ref l0b72), (1, .int l1b72), (2, .int l2b72), (3, .double l3b72), (5, .double l5b72), (7, .int l7b72)]) : W p l e rm_Mo_lay s m args below meth c H locs 0 0 (MQ below (va_Qv post (fun M' t => hw D wCl A M' t.heap) A) args s 0 0 A) (F0 m 72 ls []) := by
  obtain ⟨hx, hb, hr, hml, hown, hts, hlocks, hK, hA, hZ0⟩ := id C0
  refine lv_iinc (v := l7b72 + (-1)) (lv' := [(7, .int (l7b72 + (-1))), (0, .ref l0b72), (1, .int l1b72), (2, .int l2b72), (3, .double l3b72), (5, .double l5b72)]) hx hb d_Mo_lay_72 hl (k := 5) rfl rfl (by decide) rfl (fun ls hl => ?_)
  refine lv_goto (tgt := 8) hx hb d_Mo_lay_75 (by decide) ?_
  exact hk_5 _ _ _ _ l0b72 l1b72 l2b72 l3b72 l5b72 (l7b72 + (-1)) h hW hS (lv_sub hl [1, 2, 3, 4, 5, 0] rfl)
set_option maxHeartbeats 1000000 in
set_option maxRecDepth 20000 in
theorem l_Mo_lay_42 {p : Program} {l : Launch} {e : Env} {s : State} {m : MethodId} {args : Array Value} {below : List Frame} {meth : Method} {c : Code} {D : va_G} {ca G : Nat → Nat} {A : Nat → Prop} (C0 : hC p s m args meth c D ca G prog_7_method_12_code 9 (none) "ChannelHallModel" A) {post : hM → Prop} {k_5 : hM → Nat → Int32 → Int32 → UInt64 → UInt64 → Int32 → Prop} (hk_5 : ∀ (M : hM) (H : Heap) (locs : List Loc) (ls : Array Slot) (l0b8 : Nat) (l1b8 : Int32) (l2b8 : Int32) (l3b8 : UInt64) (l5b8 : UInt64) (l7b8 : Int32), k_5 M l0b8 l1b8 l2b8 l3b8 l5b8 l7b8 → hw D wCl A M H → va_S A s.heap H locs → lv_has ls 9 [(0, .ref l0b8), (1, .int l1b8), (2, .int l2b8), (3, .double l3b8), (5, .double l5b8), (7, .int l7b8)] → W p l e rm_Mo_lay s m args below meth c H locs 0 0 (MQ below (va_Qv post (fun M' t => hw D wCl A M' t.heap) A) args s 0 0 A) (F0 m 8 ls [])) {M : hM} {H : Heap} {locs : List Loc} {ls : Array Slot} (l0b42 : Nat) (l1b42 : Int32) (l2b42 : Int32) (l3b42 : UInt64) (l5b42 : UInt64) (l7b42 : Int32) (h : wp_Mo_lay_42 G ca post k_5 M l0b42 l1b42 l2b42 l3b42 l5b42 l7b42) (hW : hw D wCl A M H) (hS : va_S A s.heap H locs) (hl : lv_has ls 9 [(0, .ref l0b42), (1, .int l1b42), (2, .int l2b42), (3, .double l3b42), (5, .double l5b42), (7, .int l7b42)]) : W p l e rm_Mo_lay s m args below meth c H locs 0 0 (MQ below (va_Qv post (fun M' t => hw D wCl A M' t.heap) A) args s 0 0 A) (F0 m 42 ls []) := by
  obtain ⟨hx, hb, hr, hml, hown, hts, hlocks, hK, hA, hZ0⟩ := id C0
  refine lv_aload_n hx hb d_Mo_lay_42 rfl (lv_at hl 0 rfl) ?_
  obtain ⟨fs, v65, h1, h2, h⟩ := h
  refine va_get (D := D) (ci := 5) (v := va_rf v65) (C := "ChannelHallModel") (T := TMo) (N := 26) hx hb hts uMo hown hK (hw_one hW h1) 0 rfl rfl 13 (by decide) (hts _ bw_987) (fun _ h9 => h9) h2 d_Mo_lay_43 ?_
  refine lv_iload_n hx hb d_Mo_lay_46 rfl (lv_at hl 1 rfl) ?_
  obtain ⟨b66, rfl, h⟩ := h
  obtain ⟨n, f, h1, h2, h⟩ := h
  refine va_iald hx hb hK (hw_one hW h1) 0 5 rfl rfl h2 d_Mo_lay_47 ?_
  generalize f (l1b42).toNatClampNeg = v67 at h ⊢
  refine lv_iconst (v := 4) hx hb d_Mo_lay_48 (by decide) ?_
  obtain ⟨h0, h1⟩ := h
  refine lv_icmp_ne (tgt := 78) hx hb d_Mo_lay_49 (by decide) (fun c68 => ?_) (fun c68 => ?_)
  · have h := h0 c68
    exact l_Mo_lay_78 C0 l0b42 l1b42 l2b42 l3b42 l5b42 l7b42 h hW hS (lv_sub hl [0, 1, 2, 3, 4, 5] rfl)
  · have h := h1 c68
    refine lv_aload_n hx hb d_Mo_lay_52 rfl (lv_at hl 0 rfl) ?_
    obtain ⟨fs, v69, h1, h2, h⟩ := h
    refine va_get (D := D) (ci := 5) (v := va_rf v69) (C := "ChannelHallModel") (T := TMo) (N := 26) hx hb hts uMo hown hK (hw_one hW h1) 0 rfl rfl 21 (by decide) (hts _ bw_995) (fun _ h9 => h9) h2 d_Mo_lay_53 ?_
    refine lv_bipush (v := 16) hx hb d_Mo_lay_56 (by decide) ?_
    refine lv_iload_n hx hb d_Mo_lay_58 rfl (lv_at hl 1 rfl) ?_
    refine lv_imul hx hb d_Mo_lay_59 ?_
    refine lv_iload hx hb d_Mo_lay_60 (lv_at hl 5 rfl) ?_
    refine lv_iadd hx hb d_Mo_lay_62 ?_
    refine lv_iconst (v := 1) hx hb d_Mo_lay_63 (by decide) ?_
    refine lv_isub hx hb d_Mo_lay_64 ?_
    obtain ⟨b70, rfl, h⟩ := h
    obtain ⟨n, f, h1, h2, h⟩ := h
    refine va_dald hx hb hK (hw_one hW h1) 0 4 rfl rfl h2 d_Mo_lay_65 ?_
    generalize f ((((16 * l1b42) + l7b42) - 1)).toNatClampNeg = v71 at h ⊢
    refine lv_dload hx hb d_Mo_lay_66 (lv_at hl 4 rfl) ?_
    refine lv_dcmp hx hb d_Mo_lay_68 ?_
    obtain ⟨h0, h1⟩ := h
    refine lv_if_le (tgt := 78) hx hb d_Mo_lay_69 (by decide) (fun c72 => ?_) (fun c72 => ?_)
    · have h := h0 c72
      exact l_Mo_lay_78 C0 l0b42 l1b42 l2b42 l3b42 l5b42 l7b42 h hW hS (lv_sub hl [0, 1, 2, 3, 4, 5] rfl)
    · have h := h1 c72
      exact l_Mo_lay_72 C0 hk_5 l0b42 l1b42 l2b42 l3b42 l5b42 l7b42 h hW hS (lv_sub hl [0, 1, 2, 3, 4, 5] rfl)
set_option maxHeartbeats 1000000 in
set_option maxRecDepth 20000 in
theorem l_Mo_lay_8 {p : Program} {l : Launch} {e : Env} {s : State} {m : MethodId} {args : Array Value} {below : List Frame} {meth : Method} {c : Code} {D : va_G} {ca G : Nat → Nat} {A : Nat → Prop} (C0 : hC p s m args meth c D ca G prog_7_method_12_code 9 (none) "ChannelHallModel" A) {post : hM → Prop} : ∀ (n : Nat) {M : hM} {H : Heap} {locs : List Loc} {ls : Array Slot} (l0b8 : Nat) (l1b8 : Int32) (l2b8 : Int32) (l3b8 : UInt64) (l5b8 : UInt64) (l7b8 : Int32) (h : wp_Mo_lay_8 G ca post n M l0b8 l1b8 l2b8 l3b8 l5b8 l7b8) (hW : hw D wCl A M H) (hS : va_S A s.heap H locs) (hl : lv_has ls 9 [(0, .ref l0b8), (1, .int l1b8), (2, .int l2b8), (3, .double l3b8), (5, .double l5b8), (7, .int l7b8)]), W p l e rm_Mo_lay s m args below meth c H locs 0 0 (MQ below (va_Qv post (fun M' t => hw D wCl A M' t.heap) A) args s 0 0 A) (F0 m 8 ls []) := by
  obtain ⟨hx, hb, hr, hml, hown, hts, hlocks, hK, hA, hZ0⟩ := id C0
  intro n
  induction n with
  | zero =>
    intro M H locs ls l0b8 l1b8 l2b8 l3b8 l5b8 l7b8 h
    exact False.elim h
  | succ n ih =>
    intro M H locs ls l0b8 l1b8 l2b8 l3b8 l5b8 l7b8 h hW hS hl
    have hk_5 := fun M H locs ls l0b8 l1b8 l2b8 l3b8 l5b8 l7b8 h hW hS hl => @ih M H locs ls l0b8 l1b8 l2b8 l3b8 l5b8 l7b8 h hW hS hl
    refine lv_iload hx hb d_Mo_lay_8 (lv_at hl 5 rfl) ?_
    obtain ⟨h0, h1⟩ := h
    refine lv_if_le (tgt := 78) hx hb d_Mo_lay_10 (by decide) (fun c73 => ?_) (fun c73 => ?_)
    · have h := h0 c73
      exact l_Mo_lay_78 C0 l0b8 l1b8 l2b8 l3b8 l5b8 l7b8 h hW hS (lv_sub hl [0, 1, 2, 3, 4, 5] rfl)
    · have h := h1 c73
      refine lv_aload_n hx hb d_Mo_lay_13 rfl (lv_at hl 0 rfl) ?_
      obtain ⟨fs, v74, h1, h2, h⟩ := h
      refine va_get (D := D) (ci := 5) (v := va_rf v74) (C := "ChannelHallModel") (T := TMo) (N := 26) hx hb hts uMo hown hK (hw_one hW h1) 0 rfl rfl 13 (by decide) (hts _ bw_987) (fun _ h9 => h9) h2 d_Mo_lay_14 ?_
      refine lv_iload_n hx hb d_Mo_lay_17 rfl (lv_at hl 1 rfl) ?_
      obtain ⟨b75, rfl, h⟩ := h
      obtain ⟨n, f, h1, h2, h⟩ := h
      refine va_iald hx hb hK (hw_one hW h1) 0 5 rfl rfl h2 d_Mo_lay_18 ?_
      generalize f (l1b8).toNatClampNeg = v76 at h ⊢
      refine lv_iconst (v := 3) hx hb d_Mo_lay_19 (by decide) ?_
      obtain ⟨h0, h1⟩ := h
      refine lv_icmp_ne (tgt := 42) hx hb d_Mo_lay_20 (by decide) (fun c77 => ?_) (fun c77 => ?_)
      · have h := h0 c77
        exact l_Mo_lay_42 C0 hk_5 l0b8 l1b8 l2b8 l3b8 l5b8 l7b8 h hW hS (lv_sub hl [0, 1, 2, 3, 4, 5] rfl)
      · have h := h1 c77
        refine lv_aload_n hx hb d_Mo_lay_23 rfl (lv_at hl 0 rfl) ?_
        obtain ⟨fs, v78, h1, h2, h⟩ := h
        refine va_get (D := D) (ci := 5) (v := va_rf v78) (C := "ChannelHallModel") (T := TMo) (N := 26) hx hb hts uMo hown hK (hw_one hW h1) 0 rfl rfl 20 (by decide) (hts _ bw_994) (fun _ h9 => h9) h2 d_Mo_lay_24 ?_
        refine lv_bipush (v := 16) hx hb d_Mo_lay_27 (by decide) ?_
        refine lv_iload_n hx hb d_Mo_lay_29 rfl (lv_at hl 1 rfl) ?_
        refine lv_imul hx hb d_Mo_lay_30 ?_
        refine lv_iload hx hb d_Mo_lay_31 (lv_at hl 5 rfl) ?_
        refine lv_iadd hx hb d_Mo_lay_33 ?_
        refine lv_iconst (v := 1) hx hb d_Mo_lay_34 (by decide) ?_
        refine lv_isub hx hb d_Mo_lay_35 ?_
        obtain ⟨b79, rfl, h⟩ := h
        obtain ⟨n, f, h1, h2, h⟩ := h
        refine va_dald hx hb hK (hw_one hW h1) 0 4 rfl rfl h2 d_Mo_lay_36 ?_
        generalize f ((((16 * l1b8) + l7b8) - 1)).toNatClampNeg = v80 at h ⊢
        refine lv_dload_n hx hb d_Mo_lay_37 rfl (lv_at hl 3 rfl) ?_
        refine lv_dcmp hx hb d_Mo_lay_38 ?_
        obtain ⟨h0, h1⟩ := h
        refine lv_if_lt (tgt := 72) hx hb d_Mo_lay_39 (by decide) (fun c81 => ?_) (fun c81 => ?_)
        · have h := h0 c81
          exact l_Mo_lay_72 C0 hk_5 l0b8 l1b8 l2b8 l3b8 l5b8 l7b8 h hW hS (lv_sub hl [0, 1, 2, 3, 4, 5] rfl)
        · have h := h1 c81
          exact l_Mo_lay_42 C0 hk_5 l0b8 l1b8 l2b8 l3b8 l5b8 l7b8 h hW hS (lv_sub hl [0, 1, 2, 3, 4, 5] rfl)
set_option maxHeartbeats 1000000 in
set_option maxRecDepth 20000 in
theorem l_Mo_lay_e {p : Program} {l : Launch} {e : Env} {s : State} {m : MethodId} {args : Array Value} {below : List Frame} {meth : Method} {c : Code} {D : va_G} {ca G : Nat → Nat} {A : Nat → Prop} (C0 : hC p s m args meth c D ca G prog_7_method_12_code 9 (none) "ChannelHallModel" A) {post : hM → Prop} {M : hM} {H : Heap} {locs : List Loc} {ls : Array Slot} (a0 : Nat) (x1 : Int32) (x2 : Int32) (x3 : UInt64) (x5 : UInt64) (h : wp_Mo_lay G ca post M a0 x1 x2 x3 x5) (hW : hw D wCl A M H) (hS : va_S A s.heap H locs) (hl : lv_has ls 9 [(0, .ref a0), (1, .int x1), (2, .int x2), (3, .double x3), (5, .double x5)]) : W p l e rm_Mo_lay s m args below meth c H locs 0 0 (MQ below (va_Qv post (fun M' t => hw D wCl A M' t.heap) A) args s 0 0 A) (F0 m 0 ls []) := by
  obtain ⟨hx, hb, hr, hml, hown, hts, hlocks, hK, hA, hZ0⟩ := id C0
  refine lv_aload_n hx hb d_Mo_lay_0 rfl (lv_at hl 0 rfl) ?_
  obtain ⟨fs, v82, h1, h2, h⟩ := h
  refine va_get (D := D) (ci := 5) (v := va_rf v82) (C := "ChannelHallModel") (T := TMo) (N := 26) hx hb hts uMo hown hK (hw_one hW h1) 0 rfl rfl 23 (by decide) (hts _ bw_997) (fun _ h9 => h9) h2 d_Mo_lay_1 ?_
  refine lv_iload_n hx hb d_Mo_lay_4 rfl (lv_at hl 1 rfl) ?_
  obtain ⟨b83, rfl, h⟩ := h
  obtain ⟨n, f, h1, h2, h⟩ := h
  refine va_iald hx hb hK (hw_one hW h1) 0 5 rfl rfl h2 d_Mo_lay_5 ?_
  generalize f (x1).toNatClampNeg = v84 at h ⊢
  refine lv_istore (lv' := [(7, .int v84), (0, .ref a0), (1, .int x1), (2, .int x2), (3, .double x3), (5, .double x5)]) hx hb d_Mo_lay_6 hl (by decide) rfl (fun ls hl => ?_)
  obtain ⟨n, h⟩ := h
  exact l_Mo_lay_8 C0 n a0 x1 x2 x3 x5 v84 h hW hS (lv_sub hl [1, 2, 3, 4, 5, 0] rfl)
set_option maxRecDepth 20000 in
theorem c_Mo_lay {l : Launch} {D : va_G} {ca G : Nat → Nat} (post : hM → Prop) {M : hM} {sz : Nat} {a0 : Nat} {x1 : Int32} {x2 : Int32} {x3 : UInt64} {x5 : UInt64} (h : wp_Mo_lay G ca post M a0 x1 x2 x3 x5) : Met l y_Mo_lay (wz y_Mo_lay prog_7_method_12_code 9 (none)) rm_Mo_lay (va_Pc [.ref a0, .int x1, .int x2, .double x3, .double x5] (hI D ca G sz M)) (va_Qv post (hB D M sz) (hp_A M sz)) 0 0 (hp_A M sz) := by
  refine Met.ofW (cc := prog_7_method_12_code) (maxL := 9) (ret := none) (by decide) rfl ?_
  intro p e s m args below meth c s₁ B hml hv
  obtain ⟨rfl, hsz, hW, hK, hZ0⟩ := hv
  have hts := fun w hw => atoms_spec (ws := wz y_Mo_lay prog_7_method_12_code 9 (none)) B.pre w (List.mem_cons_of_mem _ hw)
  have hown : s.vm.findClass "ChannelHallModel" = some m.cls := findClass_of_methodNamed B.named
  subst hsz
  have hl := lv_entry [.ref a0, .int x1, .int x2, .double x3, .double x5] (n := 9) (Nat.le_of_ble_eq_true rfl)
  rw [lg_entry_eq]
  exact l_Mo_lay_e ⟨B.exec, B.bytes, B.returns, hml, hown, hts, B.notSynchronized, hK, fun q h => Or.inr h, hZ0⟩ a0 x1 x2 x3 x5 h hW va_S.rf hl

theorem d_Mo_ready_0 : decode prog_7_method_14_code 0 = .ok (.aload_n 0, 1) := by decide +kernel
theorem d_Mo_ready_1 : decode prog_7_method_14_code 1 = .ok (.getfield 75, 3) := by decide +kernel
theorem d_Mo_ready_4 : decode prog_7_method_14_code 4 = .ok (.iload_n 1, 1) := by decide +kernel
theorem d_Mo_ready_5 : decode prog_7_method_14_code 5 = .ok (.iaload, 1) := by decide +kernel
theorem d_Mo_ready_6 : decode prog_7_method_14_code 6 = .ok (.ifCond .le 34, 3) := by decide +kernel
theorem d_Mo_ready_9 : decode prog_7_method_14_code 9 = .ok (.aload_n 0, 1) := by decide +kernel
theorem d_Mo_ready_10 : decode prog_7_method_14_code 10 = .ok (.getfield 45, 3) := by decide +kernel
theorem d_Mo_ready_13 : decode prog_7_method_14_code 13 = .ok (.iload_n 1, 1) := by decide +kernel
theorem d_Mo_ready_14 : decode prog_7_method_14_code 14 = .ok (.iaload, 1) := by decide +kernel
theorem d_Mo_ready_15 : decode prog_7_method_14_code 15 = .ok (.iconst 4, 1) := by decide +kernel
theorem d_Mo_ready_16 : decode prog_7_method_14_code 16 = .ok (.if_icmp .ne 20, 3) := by decide +kernel
theorem d_Mo_ready_19 : decode prog_7_method_14_code 19 = .ok (.aload_n 0, 1) := by decide +kernel
theorem d_Mo_ready_20 : decode prog_7_method_14_code 20 = .ok (.getfield 69, 3) := by decide +kernel
theorem d_Mo_ready_23 : decode prog_7_method_14_code 23 = .ok (.bipush 16, 2) := by decide +kernel
theorem d_Mo_ready_25 : decode prog_7_method_14_code 25 = .ok (.iload_n 1, 1) := by decide +kernel
theorem d_Mo_ready_26 : decode prog_7_method_14_code 26 = .ok (.imul, 1) := by decide +kernel
theorem d_Mo_ready_27 : decode prog_7_method_14_code 27 = .ok (.daload, 1) := by decide +kernel
theorem d_Mo_ready_28 : decode prog_7_method_14_code 28 = .ok (.aload_n 0, 1) := by decide +kernel
theorem d_Mo_ready_29 : decode prog_7_method_14_code 29 = .ok (.getfield 102, 3) := by decide +kernel
theorem d_Mo_ready_32 : decode prog_7_method_14_code 32 = .ok (.dcmp .g, 1) := by decide +kernel
theorem d_Mo_ready_33 : decode prog_7_method_14_code 33 = .ok (.ifCond .gt 7, 3) := by decide +kernel
theorem d_Mo_ready_36 : decode prog_7_method_14_code 36 = .ok (.iconst 1, 1) := by decide +kernel
theorem d_Mo_ready_37 : decode prog_7_method_14_code 37 = .ok (.goto 4, 3) := by decide +kernel
theorem d_Mo_ready_40 : decode prog_7_method_14_code 40 = .ok (.iconst 0, 1) := by decide +kernel
theorem d_Mo_ready_41 : decode prog_7_method_14_code 41 = .ok (.ireturn, 1) := by decide +kernel
def y_Mo_ready : MethodName := ⟨"ChannelHallModel", "ready", "(I)Z"⟩
abbrev rm_Mo_ready : Room := { frames := 0, cells := 0, slots := 0, locals := 0 }
def wp_Mo_ready_41 (G ca : Nat → Nat) (post : Int32 → hM → Prop) (M : hM) (s0b41 : Int32) : Prop := bZ s0b41 (post s0b41 M)
def wp_Mo_ready_40 (G ca : Nat → Nat) (post : Int32 → hM → Prop) (M : hM)  : Prop := wp_Mo_ready_41 G ca post M 0
def wp_Mo_ready_36 (G ca : Nat → Nat) (post : Int32 → hM → Prop) (M : hM)  : Prop := wp_Mo_ready_41 G ca post M 1
def wp_Mo_ready (G ca : Nat → Nat) (post : Int32 → hM → Prop) (M : hM) (a0 : Nat) (x1 : Int32) : Prop := gR M a0 5 23 fun v14 => nN v14 fun b15 => aI M b15 (ca 5) x1 fun v16 => (v16 ≤ 0 → wp_Mo_ready_40 G ca post M) ∧ (¬ v16 ≤ 0 → gR M a0 5 13 fun v18 => nN v18 fun b19 => aI M b19 (ca 5) x1 fun v20 => (¬ v20 = 4 → wp_Mo_ready_36 G ca post M) ∧ (v20 = 4 → gR M a0 5 21 fun v22 => nN v22 fun b23 => aD M b23 (ca 4) (16 * x1) fun v24 => gD M a0 5 12 fun v25 => (0 < (Op.cmpValue (FP.dcmp v24 v25) .g) → wp_Mo_ready_40 G ca post M) ∧ (¬ 0 < (Op.cmpValue (FP.dcmp v24 v25) .g) → wp_Mo_ready_36 G ca post M)))
set_option maxHeartbeats 1000000 in
set_option maxRecDepth 20000 in
theorem l_Mo_ready_41 {p : Program} {l : Launch} {e : Env} {s : State} {m : MethodId} {args : Array Value} {below : List Frame} {meth : Method} {c : Code} {D : va_G} {ca G : Nat → Nat} {A : Nat → Prop} (C0 : hC p s m args meth c D ca G prog_7_method_14_code 2 (some .boolean) "ChannelHallModel" A) {post : Int32 → hM → Prop} {M : hM} {H : Heap} {locs : List Loc} {ls : Array Slot} (s0b41 : Int32) (h : wp_Mo_ready_41 G ca post M s0b41) (hW : hw D wCl A M H) (hS : va_S A s.heap H locs) (hl : lv_has ls 2 []) : W p l e rm_Mo_ready s m args below meth c H locs 0 0 (MQ below (va_Qi post (fun M' t => hw D wCl A M' t.heap) A) args s 0 0 A) (F0 m 41 ls [.int s0b41]) := by
  obtain ⟨hx, hb, hr, hml, hown, hts, hlocks, hK, hA, hZ0⟩ := id C0
  obtain ⟨hz, h⟩ := h
  exact W.zret hx hb hr (nb_n hz) (fun t ht hWm => ⟨⟨_, _, rfl, h, hw_t ht hW⟩, hS.F ht⟩) hS.2.2 d_Mo_ready_41
set_option maxHeartbeats 1000000 in
set_option maxRecDepth 20000 in
theorem l_Mo_ready_40 {p : Program} {l : Launch} {e : Env} {s : State} {m : MethodId} {args : Array Value} {below : List Frame} {meth : Method} {c : Code} {D : va_G} {ca G : Nat → Nat} {A : Nat → Prop} (C0 : hC p s m args meth c D ca G prog_7_method_14_code 2 (some .boolean) "ChannelHallModel" A) {post : Int32 → hM → Prop} {M : hM} {H : Heap} {locs : List Loc} {ls : Array Slot}  (h : wp_Mo_ready_40 G ca post M) (hW : hw D wCl A M H) (hS : va_S A s.heap H locs) (hl : lv_has ls 2 []) : W p l e rm_Mo_ready s m args below meth c H locs 0 0 (MQ below (va_Qi post (fun M' t => hw D wCl A M' t.heap) A) args s 0 0 A) (F0 m 40 ls []) := by
  obtain ⟨hx, hb, hr, hml, hown, hts, hlocks, hK, hA, hZ0⟩ := id C0
  refine lv_iconst (v := 0) hx hb d_Mo_ready_40 (by decide) ?_
  exact l_Mo_ready_41 C0 0 h hW hS (lv_sub hl [] rfl)
set_option maxHeartbeats 1000000 in
set_option maxRecDepth 20000 in
theorem l_Mo_ready_36 {p : Program} {l : Launch} {e : Env} {s : State} {m : MethodId} {args : Array Value} {below : List Frame} {meth : Method} {c : Code} {D : va_G} {ca G : Nat → Nat} {A : Nat → Prop} (C0 : hC p s m args meth c D ca G prog_7_method_14_code 2 (some .boolean) "ChannelHallModel" A) {post : Int32 → hM → Prop} {M : hM} {H : Heap} {locs : List Loc} {ls : Array Slot}  (h : wp_Mo_ready_36 G ca post M) (hW : hw D wCl A M H) (hS : va_S A s.heap H locs) (hl : lv_has ls 2 []) : W p l e rm_Mo_ready s m args below meth c H locs 0 0 (MQ below (va_Qi post (fun M' t => hw D wCl A M' t.heap) A) args s 0 0 A) (F0 m 36 ls []) := by
  obtain ⟨hx, hb, hr, hml, hown, hts, hlocks, hK, hA, hZ0⟩ := id C0
  refine lv_iconst (v := 1) hx hb d_Mo_ready_36 (by decide) ?_
  refine lv_goto (tgt := 41) hx hb d_Mo_ready_37 (by decide) ?_
  exact l_Mo_ready_41 C0 1 h hW hS (lv_sub hl [] rfl)
set_option maxHeartbeats 1000000 in
set_option maxRecDepth 20000 in
theorem l_Mo_ready_e {p : Program} {l : Launch} {e : Env} {s : State} {m : MethodId} {args : Array Value} {below : List Frame} {meth : Method} {c : Code} {D : va_G} {ca G : Nat → Nat} {A : Nat → Prop} (C0 : hC p s m args meth c D ca G prog_7_method_14_code 2 (some .boolean) "ChannelHallModel" A) {post : Int32 → hM → Prop} {M : hM} {H : Heap} {locs : List Loc} {ls : Array Slot} (a0 : Nat) (x1 : Int32) (h : wp_Mo_ready G ca post M a0 x1) (hW : hw D wCl A M H) (hS : va_S A s.heap H locs) (hl : lv_has ls 2 [(0, .ref a0), (1, .int x1)]) : W p l e rm_Mo_ready s m args below meth c H locs 0 0 (MQ below (va_Qi post (fun M' t => hw D wCl A M' t.heap) A) args s 0 0 A) (F0 m 0 ls []) := by
  obtain ⟨hx, hb, hr, hml, hown, hts, hlocks, hK, hA, hZ0⟩ := id C0
  refine lv_aload_n hx hb d_Mo_ready_0 rfl (lv_at hl 0 rfl) ?_
  obtain ⟨fs, v14, h1, h2, h⟩ := h
  refine va_get (D := D) (ci := 5) (v := va_rf v14) (C := "ChannelHallModel") (T := TMo) (N := 26) hx hb hts uMo hown hK (hw_one hW h1) 0 rfl rfl 23 (by decide) (hts _ bw_997) (fun _ h9 => h9) h2 d_Mo_ready_1 ?_
  refine lv_iload_n hx hb d_Mo_ready_4 rfl (lv_at hl 1 rfl) ?_
  obtain ⟨b15, rfl, h⟩ := h
  obtain ⟨n, f, h1, h2, h⟩ := h
  refine va_iald hx hb hK (hw_one hW h1) 0 5 rfl rfl h2 d_Mo_ready_5 ?_
  generalize f (x1).toNatClampNeg = v16 at h ⊢
  obtain ⟨h0, h1⟩ := h
  refine lv_if_le (tgt := 40) hx hb d_Mo_ready_6 (by decide) (fun c17 => ?_) (fun c17 => ?_)
  · have h := h0 c17
    exact l_Mo_ready_40 C0  h hW hS (lv_sub hl [] rfl)
  · have h := h1 c17
    refine lv_aload_n hx hb d_Mo_ready_9 rfl (lv_at hl 0 rfl) ?_
    obtain ⟨fs, v18, h1, h2, h⟩ := h
    refine va_get (D := D) (ci := 5) (v := va_rf v18) (C := "ChannelHallModel") (T := TMo) (N := 26) hx hb hts uMo hown hK (hw_one hW h1) 0 rfl rfl 13 (by decide) (hts _ bw_987) (fun _ h9 => h9) h2 d_Mo_ready_10 ?_
    refine lv_iload_n hx hb d_Mo_ready_13 rfl (lv_at hl 1 rfl) ?_
    obtain ⟨b19, rfl, h⟩ := h
    obtain ⟨n, f, h1, h2, h⟩ := h
    refine va_iald hx hb hK (hw_one hW h1) 0 5 rfl rfl h2 d_Mo_ready_14 ?_
    generalize f (x1).toNatClampNeg = v20 at h ⊢
    refine lv_iconst (v := 4) hx hb d_Mo_ready_15 (by decide) ?_
    obtain ⟨h0, h1⟩ := h
    refine lv_icmp_ne (tgt := 36) hx hb d_Mo_ready_16 (by decide) (fun c21 => ?_) (fun c21 => ?_)
    · have h := h0 c21
      exact l_Mo_ready_36 C0  h hW hS (lv_sub hl [] rfl)
    · have h := h1 c21
      refine lv_aload_n hx hb d_Mo_ready_19 rfl (lv_at hl 0 rfl) ?_
      obtain ⟨fs, v22, h1, h2, h⟩ := h
      refine va_get (D := D) (ci := 5) (v := va_rf v22) (C := "ChannelHallModel") (T := TMo) (N := 26) hx hb hts uMo hown hK (hw_one hW h1) 0 rfl rfl 21 (by decide) (hts _ bw_995) (fun _ h9 => h9) h2 d_Mo_ready_20 ?_
      refine lv_bipush (v := 16) hx hb d_Mo_ready_23 (by decide) ?_
      refine lv_iload_n hx hb d_Mo_ready_25 rfl (lv_at hl 1 rfl) ?_
      refine lv_imul hx hb d_Mo_ready_26 ?_
      obtain ⟨b23, rfl, h⟩ := h
      obtain ⟨n, f, h1, h2, h⟩ := h
      refine va_dald hx hb hK (hw_one hW h1) 0 4 rfl rfl h2 d_Mo_ready_27 ?_
      generalize f ((16 * x1)).toNatClampNeg = v24 at h ⊢
      refine lv_aload_n hx hb d_Mo_ready_28 rfl (lv_at hl 0 rfl) ?_
      obtain ⟨fs, v25, h1, h2, h⟩ := h
      refine va_get (D := D) (ci := 5) (v := .double v25) (C := "ChannelHallModel") (T := TMo) (N := 26) hx hb hts uMo hown hK (hw_one hW h1) 0 rfl rfl 12 (by decide) (hts _ bw_986) (fun _ h9 => h9) h2 d_Mo_ready_29 ?_
      refine lv_dcmp hx hb d_Mo_ready_32 ?_
      obtain ⟨h0, h1⟩ := h
      refine lv_if_gt (tgt := 40) hx hb d_Mo_ready_33 (by decide) (fun c26 => ?_) (fun c26 => ?_)
      · have h := h0 c26
        exact l_Mo_ready_40 C0  h hW hS (lv_sub hl [] rfl)
      · have h := h1 c26
        exact l_Mo_ready_36 C0  h hW hS (lv_sub hl [] rfl)
set_option maxRecDepth 20000 in
theorem c_Mo_ready {l : Launch} {D : va_G} {ca G : Nat → Nat} (post : Int32 → hM → Prop) {M : hM} {sz : Nat} {a0 : Nat} {x1 : Int32} (h : wp_Mo_ready G ca post M a0 x1) : Met l y_Mo_ready (wz y_Mo_ready prog_7_method_14_code 2 (some .boolean)) rm_Mo_ready (va_Pc [.ref a0, .int x1] (hI D ca G sz M)) (va_Qi post (hB D M sz) (hp_A M sz)) 0 0 (hp_A M sz) := by
  refine Met.ofW (cc := prog_7_method_14_code) (maxL := 2) (ret := some .boolean) (by decide) rfl ?_
  intro p e s m args below meth c s₁ B hml hv
  obtain ⟨rfl, hsz, hW, hK, hZ0⟩ := hv
  have hts := fun w hw => atoms_spec (ws := wz y_Mo_ready prog_7_method_14_code 2 (some .boolean)) B.pre w (List.mem_cons_of_mem _ hw)
  have hown : s.vm.findClass "ChannelHallModel" = some m.cls := findClass_of_methodNamed B.named
  subst hsz
  have hl := lv_entry [.ref a0, .int x1] (n := 2) (Nat.le_of_ble_eq_true rfl)
  rw [lg_entry_eq]
  exact l_Mo_ready_e ⟨B.exec, B.bytes, B.returns, hml, hown, hts, B.notSynchronized, hK, fun q h => Or.inr h, hZ0⟩ a0 x1 h hW va_S.rf hl

theorem d_Mo_obtain_0 : decode prog_7_method_15_code 0 = .ok (.aload_n 0, 1) := by decide +kernel
theorem d_Mo_obtain_1 : decode prog_7_method_15_code 1 = .ok (.getfield 20, 3) := by decide +kernel
theorem d_Mo_obtain_4 : decode prog_7_method_15_code 4 = .ok (.iload_n 1, 1) := by decide +kernel
theorem d_Mo_obtain_5 : decode prog_7_method_15_code 5 = .ok (.iconst 1, 1) := by decide +kernel
theorem d_Mo_obtain_6 : decode prog_7_method_15_code 6 = .ok (.bastore, 1) := by decide +kernel
theorem d_Mo_obtain_7 : decode prog_7_method_15_code 7 = .ok (.aload_n 0, 1) := by decide +kernel
theorem d_Mo_obtain_8 : decode prog_7_method_15_code 8 = .ok (.getfield 23, 3) := by decide +kernel
theorem d_Mo_obtain_11 : decode prog_7_method_15_code 11 = .ok (.iload_n 1, 1) := by decide +kernel
theorem d_Mo_obtain_12 : decode prog_7_method_15_code 12 = .ok (.iload_n 3, 1) := by decide +kernel
theorem d_Mo_obtain_13 : decode prog_7_method_15_code 13 = .ok (.iastore, 1) := by decide +kernel
theorem d_Mo_obtain_14 : decode prog_7_method_15_code 14 = .ok (.aload_n 0, 1) := by decide +kernel
theorem d_Mo_obtain_15 : decode prog_7_method_15_code 15 = .ok (.getfield 78, 3) := by decide +kernel
theorem d_Mo_obtain_18 : decode prog_7_method_15_code 18 = .ok (.iload_n 2, 1) := by decide +kernel
theorem d_Mo_obtain_19 : decode prog_7_method_15_code 19 = .ok (.dup2, 1) := by decide +kernel
theorem d_Mo_obtain_20 : decode prog_7_method_15_code 20 = .ok (.daload, 1) := by decide +kernel
theorem d_Mo_obtain_21 : decode prog_7_method_15_code 21 = .ok (.dload 4, 2) := by decide +kernel
theorem d_Mo_obtain_23 : decode prog_7_method_15_code 23 = .ok (.dadd, 1) := by decide +kernel
theorem d_Mo_obtain_24 : decode prog_7_method_15_code 24 = .ok (.dastore, 1) := by decide +kernel
theorem d_Mo_obtain_25 : decode prog_7_method_15_code 25 = .ok (.aload_n 0, 1) := by decide +kernel
theorem d_Mo_obtain_26 : decode prog_7_method_15_code 26 = .ok (.getfield 81, 3) := by decide +kernel
theorem d_Mo_obtain_29 : decode prog_7_method_15_code 29 = .ok (.iload_n 2, 1) := by decide +kernel
theorem d_Mo_obtain_30 : decode prog_7_method_15_code 30 = .ok (.dup2, 1) := by decide +kernel
theorem d_Mo_obtain_31 : decode prog_7_method_15_code 31 = .ok (.iaload, 1) := by decide +kernel
theorem d_Mo_obtain_32 : decode prog_7_method_15_code 32 = .ok (.iconst 1, 1) := by decide +kernel
theorem d_Mo_obtain_33 : decode prog_7_method_15_code 33 = .ok (.iadd, 1) := by decide +kernel
theorem d_Mo_obtain_34 : decode prog_7_method_15_code 34 = .ok (.iastore, 1) := by decide +kernel
theorem d_Mo_obtain_35 : decode prog_7_method_15_code 35 = .ok (.return_, 1) := by decide +kernel
def y_Mo_obtain : MethodName := ⟨"ChannelHallModel", "obtain", "(IIID)V"⟩
abbrev rm_Mo_obtain : Room := { frames := 0, cells := 0, slots := 0, locals := 0 }
def wp_Mo_obtain (G ca : Nat → Nat) (post : hM → Prop) (M : hM) (a0 : Nat) (x1 : Int32) (x2 : Int32) (x3 : Int32) (x4 : UInt64) : Prop := gR M a0 5 4 fun v15 => nN v15 fun b16 => bZ 1 (sI M b16 (ca 6) x1 1 fun M17 => gR M17 a0 5 5 fun v18 => nN v18 fun b19 => sI M17 b19 (ca 5) x1 x3 fun M20 => gR M20 a0 5 24 fun v21 => nN v21 fun b22 => aD M20 b22 (ca 4) x2 fun v23 => nD (FP.dadd v23 x4) (sD M20 b22 (ca 4) x2 (FP.dadd v23 x4) fun M24 => gR M24 a0 5 25 fun v25 => nN v25 fun b26 => aI M24 b26 (ca 5) x2 fun v27 => sI M24 b26 (ca 5) x2 (v27 + 1) fun M28 => post M28))
set_option maxHeartbeats 1000000 in
set_option maxRecDepth 20000 in
theorem l_Mo_obtain_e {p : Program} {l : Launch} {e : Env} {s : State} {m : MethodId} {args : Array Value} {below : List Frame} {meth : Method} {c : Code} {D : va_G} {ca G : Nat → Nat} {A : Nat → Prop} (C0 : hC p s m args meth c D ca G prog_7_method_15_code 6 (none) "ChannelHallModel" A) {post : hM → Prop} {M : hM} {H : Heap} {locs : List Loc} {ls : Array Slot} (a0 : Nat) (x1 : Int32) (x2 : Int32) (x3 : Int32) (x4 : UInt64) (h : wp_Mo_obtain G ca post M a0 x1 x2 x3 x4) (hW : hw D wCl A M H) (hS : va_S A s.heap H locs) (hl : lv_has ls 6 [(0, .ref a0), (1, .int x1), (2, .int x2), (3, .int x3), (4, .double x4)]) : W p l e rm_Mo_obtain s m args below meth c H locs 0 0 (MQ below (va_Qv post (fun M' t => hw D wCl A M' t.heap) A) args s 0 0 A) (F0 m 0 ls []) := by
  obtain ⟨hx, hb, hr, hml, hown, hts, hlocks, hK, hA, hZ0⟩ := id C0
  refine lv_aload_n hx hb d_Mo_obtain_0 rfl (lv_at hl 0 rfl) ?_
  obtain ⟨fs, v15, h1, h2, h⟩ := h
  refine va_get (D := D) (ci := 5) (v := va_rf v15) (C := "ChannelHallModel") (T := TMo) (N := 26) hx hb hts uMo hown hK (hw_one hW h1) 0 rfl rfl 4 (by decide) (hts _ bw_978) (fun _ h9 => h9) h2 d_Mo_obtain_1 ?_
  refine lv_iload_n hx hb d_Mo_obtain_4 rfl (lv_at hl 1 rfl) ?_
  refine lv_iconst (v := 1) hx hb d_Mo_obtain_5 (by decide) ?_
  obtain ⟨b16, rfl, h⟩ := h
  obtain ⟨hz, n, f, h1, h2, h⟩ := h
  obtain ⟨ws, q0, hq, hP, hD, hback, -⟩ := hw_open hW h1
  refine va_zast (x := 1) hx hb hK hP hD hS q0 6 hq rfl h2 d_Mo_obtain_6 (fun H locs hP hD hS => ?_)
  rw [nb_v hz] at hP hD
  have hW := hback _ _ hP hD
  generalize hM2 : va_up M b16 _ = M17 at h hW
  refine lv_aload_n hx hb d_Mo_obtain_7 rfl (lv_at hl 0 rfl) ?_
  obtain ⟨fs, v18, h1, h2, h⟩ := h
  refine va_get (D := D) (ci := 5) (v := va_rf v18) (C := "ChannelHallModel") (T := TMo) (N := 26) hx hb hts uMo hown hK (hw_one hW h1) 0 rfl rfl 5 (by decide) (hts _ bw_979) (fun _ h9 => h9) h2 d_Mo_obtain_8 ?_
  refine lv_iload_n hx hb d_Mo_obtain_11 rfl (lv_at hl 1 rfl) ?_
  refine lv_iload_n hx hb d_Mo_obtain_12 rfl (lv_at hl 3 rfl) ?_
  obtain ⟨b19, rfl, h⟩ := h
  obtain ⟨n, f, h1, h2, h⟩ := h
  obtain ⟨ws, q0, hq, hP, hD, hback, -⟩ := hw_open hW h1
  refine va_iast hx hb hK hP hD hS q0 5 hq rfl h2 d_Mo_obtain_13 (fun H locs hP hD hS => ?_)
  have hW := hback _ _ hP hD
  generalize hM2 : va_up M17 b19 _ = M20 at h hW
  refine lv_aload_n hx hb d_Mo_obtain_14 rfl (lv_at hl 0 rfl) ?_
  obtain ⟨fs, v21, h1, h2, h⟩ := h
  refine va_get (D := D) (ci := 5) (v := va_rf v21) (C := "ChannelHallModel") (T := TMo) (N := 26) hx hb hts uMo hown hK (hw_one hW h1) 0 rfl rfl 24 (by decide) (hts _ bw_998) (fun _ h9 => h9) h2 d_Mo_obtain_15 ?_
  refine lv_iload_n hx hb d_Mo_obtain_18 rfl (lv_at hl 2 rfl) ?_
  refine lv_dup2_11 hx hb d_Mo_obtain_19 rfl (by cases v21 <;> rfl) ?_
  obtain ⟨b22, rfl, h⟩ := h
  obtain ⟨n, f, h1, h2, h⟩ := h
  refine va_dald hx hb hK (hw_one hW h1) 0 4 rfl rfl h2 d_Mo_obtain_20 ?_
  generalize f (x2).toNatClampNeg = v23 at h ⊢
  refine lv_dload hx hb d_Mo_obtain_21 (lv_at hl 4 rfl) ?_
  obtain ⟨hn, h⟩ := h
  refine lv_dadd hx hb d_Mo_obtain_23 hn ?_
  obtain ⟨n, f, h1, h2, h⟩ := h
  obtain ⟨ws, q0, hq, hP, hD, hback, -⟩ := hw_open hW h1
  refine va_dast hx hb hK hP hD hS q0 4 hq rfl h2 d_Mo_obtain_24 (fun H locs hP hD hS => ?_)
  have hW := hback _ _ hP hD
  generalize hM2 : va_up M20 b22 _ = M24 at h hW
  refine lv_aload_n hx hb d_Mo_obtain_25 rfl (lv_at hl 0 rfl) ?_
  obtain ⟨fs, v25, h1, h2, h⟩ := h
  refine va_get (D := D) (ci := 5) (v := va_rf v25) (C := "ChannelHallModel") (T := TMo) (N := 26) hx hb hts uMo hown hK (hw_one hW h1) 0 rfl rfl 25 (by decide) (hts _ bw_999) (fun _ h9 => h9) h2 d_Mo_obtain_26 ?_
  refine lv_iload_n hx hb d_Mo_obtain_29 rfl (lv_at hl 2 rfl) ?_
  refine lv_dup2_11 hx hb d_Mo_obtain_30 rfl (by cases v25 <;> rfl) ?_
  obtain ⟨b26, rfl, h⟩ := h
  obtain ⟨n, f, h1, h2, h⟩ := h
  refine va_iald hx hb hK (hw_one hW h1) 0 5 rfl rfl h2 d_Mo_obtain_31 ?_
  generalize f (x2).toNatClampNeg = v27 at h ⊢
  refine lv_iconst (v := 1) hx hb d_Mo_obtain_32 (by decide) ?_
  refine lv_iadd hx hb d_Mo_obtain_33 ?_
  obtain ⟨n, f, h1, h2, h⟩ := h
  obtain ⟨ws, q0, hq, hP, hD, hback, -⟩ := hw_open hW h1
  refine va_iast hx hb hK hP hD hS q0 5 hq rfl h2 d_Mo_obtain_34 (fun H locs hP hD hS => ?_)
  have hW := hback _ _ hP hD
  generalize hM2 : va_up M24 b26 _ = M28 at h hW
  exact W.vret hx hb hr (fun t ht hWm => ⟨⟨_, rfl, h, hw_t ht hW⟩, hS.F ht⟩) hS.2.2 d_Mo_obtain_35
set_option maxRecDepth 20000 in
theorem c_Mo_obtain {l : Launch} {D : va_G} {ca G : Nat → Nat} (post : hM → Prop) {M : hM} {sz : Nat} {a0 : Nat} {x1 : Int32} {x2 : Int32} {x3 : Int32} {x4 : UInt64} (h : wp_Mo_obtain G ca post M a0 x1 x2 x3 x4) : Met l y_Mo_obtain (wz y_Mo_obtain prog_7_method_15_code 6 (none)) rm_Mo_obtain (va_Pc [.ref a0, .int x1, .int x2, .int x3, .double x4] (hI D ca G sz M)) (va_Qv post (hB D M sz) (hp_A M sz)) 0 0 (hp_A M sz) := by
  refine Met.ofW (cc := prog_7_method_15_code) (maxL := 6) (ret := none) (by decide) rfl ?_
  intro p e s m args below meth c s₁ B hml hv
  obtain ⟨rfl, hsz, hW, hK, hZ0⟩ := hv
  have hts := fun w hw => atoms_spec (ws := wz y_Mo_obtain prog_7_method_15_code 6 (none)) B.pre w (List.mem_cons_of_mem _ hw)
  have hown : s.vm.findClass "ChannelHallModel" = some m.cls := findClass_of_methodNamed B.named
  subst hsz
  have hl := lv_entry [.ref a0, .int x1, .int x2, .int x3, .double x4] (n := 6) (Nat.le_of_ble_eq_true rfl)
  rw [lg_entry_eq]
  exact l_Mo_obtain_e ⟨B.exec, B.bytes, B.returns, hml, hown, hts, B.notSynchronized, hK, fun q h => Or.inr h, hZ0⟩ a0 x1 x2 x3 x4 h hW va_S.rf hl

theorem d_Mo_takeFirst_0 : decode prog_7_method_16_code 0 = .ok (.aload_n 0, 1) := by decide +kernel
theorem d_Mo_takeFirst_1 : decode prog_7_method_16_code 1 = .ok (.iload_n 1, 1) := by decide +kernel
theorem d_Mo_takeFirst_2 : decode prog_7_method_16_code 2 = .ok (.iload_n 2, 1) := by decide +kernel
theorem d_Mo_takeFirst_3 : decode prog_7_method_16_code 3 = .ok (.aload_n 0, 1) := by decide +kernel
theorem d_Mo_takeFirst_4 : decode prog_7_method_16_code 4 = .ok (.getfield 63, 3) := by decide +kernel
theorem d_Mo_takeFirst_7 : decode prog_7_method_16_code 7 = .ok (.bipush 16, 2) := by decide +kernel
theorem d_Mo_takeFirst_9 : decode prog_7_method_16_code 9 = .ok (.iload_n 2, 1) := by decide +kernel
theorem d_Mo_takeFirst_10 : decode prog_7_method_16_code 10 = .ok (.imul, 1) := by decide +kernel
theorem d_Mo_takeFirst_11 : decode prog_7_method_16_code 11 = .ok (.iaload, 1) := by decide +kernel
theorem d_Mo_takeFirst_12 : decode prog_7_method_16_code 12 = .ok (.aload_n 0, 1) := by decide +kernel
theorem d_Mo_takeFirst_13 : decode prog_7_method_16_code 13 = .ok (.getfield 102, 3) := by decide +kernel
theorem d_Mo_takeFirst_16 : decode prog_7_method_16_code 16 = .ok (.aload_n 0, 1) := by decide +kernel
theorem d_Mo_takeFirst_17 : decode prog_7_method_16_code 17 = .ok (.getfield 72, 3) := by decide +kernel
theorem d_Mo_takeFirst_20 : decode prog_7_method_16_code 20 = .ok (.bipush 16, 2) := by decide +kernel
theorem d_Mo_takeFirst_22 : decode prog_7_method_16_code 22 = .ok (.iload_n 2, 1) := by decide +kernel
theorem d_Mo_takeFirst_23 : decode prog_7_method_16_code 23 = .ok (.imul, 1) := by decide +kernel
theorem d_Mo_takeFirst_24 : decode prog_7_method_16_code 24 = .ok (.daload, 1) := by decide +kernel
theorem d_Mo_takeFirst_25 : decode prog_7_method_16_code 25 = .ok (.dsub, 1) := by decide +kernel
theorem d_Mo_takeFirst_26 : decode prog_7_method_16_code 26 = .ok (.invokevirtual 120, 3) := by decide +kernel
theorem d_Mo_takeFirst_29 : decode prog_7_method_16_code 29 = .ok (.aload_n 0, 1) := by decide +kernel
theorem d_Mo_takeFirst_30 : decode prog_7_method_16_code 30 = .ok (.getfield 75, 3) := by decide +kernel
theorem d_Mo_takeFirst_33 : decode prog_7_method_16_code 33 = .ok (.iload_n 2, 1) := by decide +kernel
theorem d_Mo_takeFirst_34 : decode prog_7_method_16_code 34 = .ok (.dup2, 1) := by decide +kernel
theorem d_Mo_takeFirst_35 : decode prog_7_method_16_code 35 = .ok (.iaload, 1) := by decide +kernel
theorem d_Mo_takeFirst_36 : decode prog_7_method_16_code 36 = .ok (.iconst 1, 1) := by decide +kernel
theorem d_Mo_takeFirst_37 : decode prog_7_method_16_code 37 = .ok (.isub, 1) := by decide +kernel
theorem d_Mo_takeFirst_38 : decode prog_7_method_16_code 38 = .ok (.iastore, 1) := by decide +kernel
theorem d_Mo_takeFirst_39 : decode prog_7_method_16_code 39 = .ok (.iconst 0, 1) := by decide +kernel
theorem d_Mo_takeFirst_40 : decode prog_7_method_16_code 40 = .ok (.istore_n 3, 1) := by decide +kernel
theorem d_Mo_takeFirst_41 : decode prog_7_method_16_code 41 = .ok (.iload_n 3, 1) := by decide +kernel
theorem d_Mo_takeFirst_42 : decode prog_7_method_16_code 42 = .ok (.aload_n 0, 1) := by decide +kernel
theorem d_Mo_takeFirst_43 : decode prog_7_method_16_code 43 = .ok (.getfield 75, 3) := by decide +kernel
theorem d_Mo_takeFirst_46 : decode prog_7_method_16_code 46 = .ok (.iload_n 2, 1) := by decide +kernel
theorem d_Mo_takeFirst_47 : decode prog_7_method_16_code 47 = .ok (.iaload, 1) := by decide +kernel
theorem d_Mo_takeFirst_48 : decode prog_7_method_16_code 48 = .ok (.if_icmp .ge 27, 3) := by decide +kernel
theorem d_Mo_takeFirst_51 : decode prog_7_method_16_code 51 = .ok (.aload_n 0, 1) := by decide +kernel
theorem d_Mo_takeFirst_52 : decode prog_7_method_16_code 52 = .ok (.bipush 16, 2) := by decide +kernel
theorem d_Mo_takeFirst_54 : decode prog_7_method_16_code 54 = .ok (.iload_n 2, 1) := by decide +kernel
theorem d_Mo_takeFirst_55 : decode prog_7_method_16_code 55 = .ok (.imul, 1) := by decide +kernel
theorem d_Mo_takeFirst_56 : decode prog_7_method_16_code 56 = .ok (.iload_n 3, 1) := by decide +kernel
theorem d_Mo_takeFirst_57 : decode prog_7_method_16_code 57 = .ok (.iadd, 1) := by decide +kernel
theorem d_Mo_takeFirst_58 : decode prog_7_method_16_code 58 = .ok (.iconst 1, 1) := by decide +kernel
theorem d_Mo_takeFirst_59 : decode prog_7_method_16_code 59 = .ok (.iadd, 1) := by decide +kernel
theorem d_Mo_takeFirst_60 : decode prog_7_method_16_code 60 = .ok (.bipush 16, 2) := by decide +kernel
theorem d_Mo_takeFirst_62 : decode prog_7_method_16_code 62 = .ok (.iload_n 2, 1) := by decide +kernel
theorem d_Mo_takeFirst_63 : decode prog_7_method_16_code 63 = .ok (.imul, 1) := by decide +kernel
theorem d_Mo_takeFirst_64 : decode prog_7_method_16_code 64 = .ok (.iload_n 3, 1) := by decide +kernel
theorem d_Mo_takeFirst_65 : decode prog_7_method_16_code 65 = .ok (.iadd, 1) := by decide +kernel
theorem d_Mo_takeFirst_66 : decode prog_7_method_16_code 66 = .ok (.invokevirtual 117, 3) := by decide +kernel
theorem d_Mo_takeFirst_69 : decode prog_7_method_16_code 69 = .ok (.iinc 3 1, 3) := by decide +kernel
theorem d_Mo_takeFirst_72 : decode prog_7_method_16_code 72 = .ok (.goto (-31), 3) := by decide +kernel
theorem d_Mo_takeFirst_75 : decode prog_7_method_16_code 75 = .ok (.return_, 1) := by decide +kernel
def y_Mo_takeFirst : MethodName := ⟨"ChannelHallModel", "takeFirst", "(II)V"⟩
abbrev rm_Mo_takeFirst : Room := { frames := 1, cells := 0, slots := 0, locals := 25 }
def wp_Mo_takeFirst_41 (G ca : Nat → Nat) (post : hM → Prop) : Nat → hM → Nat → Int32 → Int32 → Prop
  | 0, _, _, _, _ => False
  | n + 1, M, l0b41, l2b41, l3b41 => gR M l0b41 5 23 fun v18 => nN v18 fun b19 => aI M b19 (ca 5) l2b41 fun v20 => (v20 ≤ l3b41 → post M) ∧ (¬ v20 ≤ l3b41 → rC M l0b41 5 (wp_Mo_move G ca (fun M22 => (wp_Mo_takeFirst_41 G ca post n) M22 l0b41 l2b41 (l3b41 + 1)) M l0b41 (((16 * l2b41) + l3b41) + 1) ((16 * l2b41) + l3b41)))
def wp_Mo_takeFirst (G ca : Nat → Nat) (post : hM → Prop) (M : hM) (a0 : Nat) (x1 : Int32) (x2 : Int32) : Prop := gR M a0 5 19 fun v23 => nN v23 fun b24 => aI M b24 (ca 5) (16 * x2) fun v25 => gD M a0 5 12 fun v26 => gR M a0 5 22 fun v27 => nN v27 fun b28 => aD M b28 (ca 4) (16 * x2) fun v29 => nD (FP.dsub v26 v29) (rC M a0 5 (wp_Mo_obtain G ca (fun M30 => gR M30 a0 5 23 fun v31 => nN v31 fun b32 => aI M30 b32 (ca 5) x2 fun v33 => sI M30 b32 (ca 5) x2 (v33 - 1) fun M34 => ∃ n, wp_Mo_takeFirst_41 G ca post n M34 a0 x2 0) M a0 x1 x2 v25 (FP.dsub v26 v29)))
set_option maxHeartbeats 1000000 in
set_option maxRecDepth 20000 in
theorem l_Mo_takeFirst_41 {p : Program} {l : Launch} {e : Env} {s : State} {m : MethodId} {args : Array Value} {below : List Frame} {meth : Method} {c : Code} {D : va_G} {ca G : Nat → Nat} {A : Nat → Prop} (C0 : hC p s m args meth c D ca G prog_7_method_16_code 4 (none) "ChannelHallModel" A) {post : hM → Prop} : ∀ (n : Nat) {M : hM} {H : Heap} {locs : List Loc} {ls : Array Slot} (l0b41 : Nat) (l2b41 : Int32) (l3b41 : Int32) (h : wp_Mo_takeFirst_41 G ca post n M l0b41 l2b41 l3b41) (hW : hw D wCl A M H) (hS : va_S A s.heap H locs) (hl : lv_has ls 4 [(0, .ref l0b41), (2, .int l2b41), (3, .int l3b41)]), W p l e rm_Mo_takeFirst s m args below meth c H locs 0 0 (MQ below (va_Qv post (fun M' t => hw D wCl A M' t.heap) A) args s 0 0 A) (F0 m 41 ls []) := by
  obtain ⟨hx, hb, hr, hml, hown, hts, hlocks, hK, hA, hZ0⟩ := id C0
  intro n
  induction n with
  | zero =>
    intro M H locs ls l0b41 l2b41 l3b41 h
    exact False.elim h
  | succ n ih =>
    intro M H locs ls l0b41 l2b41 l3b41 h hW hS hl
    have hk_29 := fun M H locs ls l0b41 l2b41 l3b41 h hW hS hl => @ih M H locs ls l0b41 l2b41 l3b41 h hW hS hl
    refine lv_iload_n hx hb d_Mo_takeFirst_41 rfl (lv_at hl 2 rfl) ?_
    refine lv_aload_n hx hb d_Mo_takeFirst_42 rfl (lv_at hl 0 rfl) ?_
    obtain ⟨fs, v18, h1, h2, h⟩ := h
    refine va_get (D := D) (ci := 5) (v := va_rf v18) (C := "ChannelHallModel") (T := TMo) (N := 26) hx hb hts uMo hown hK (hw_one hW h1) 0 rfl rfl 23 (by decide) (hts _ bw_997) (fun _ h9 => h9) h2 d_Mo_takeFirst_43 ?_
    refine lv_iload_n hx hb d_Mo_takeFirst_46 rfl (lv_at hl 1 rfl) ?_
    obtain ⟨b19, rfl, h⟩ := h
    obtain ⟨n, f, h1, h2, h⟩ := h
    refine va_iald hx hb hK (hw_one hW h1) 0 5 rfl rfl h2 d_Mo_takeFirst_47 ?_
    generalize f (l2b41).toNatClampNeg = v20 at h ⊢
    obtain ⟨h0, h1⟩ := h
    refine lv_icmp_ge (tgt := 75) hx hb d_Mo_takeFirst_48 (by decide) (fun c21 => ?_) (fun c21 => ?_)
    · have h := h0 c21
      exact W.vret hx hb hr (fun t ht hWm => ⟨⟨_, rfl, h, hw_t ht hW⟩, hS.F ht⟩) hS.2.2 d_Mo_takeFirst_75
    · have h := h1 c21
      refine lv_aload_n hx hb d_Mo_takeFirst_51 rfl (lv_at hl 0 rfl) ?_
      refine lv_bipush (v := 16) hx hb d_Mo_takeFirst_52 (by decide) ?_
      refine lv_iload_n hx hb d_Mo_takeFirst_54 rfl (lv_at hl 1 rfl) ?_
      refine lv_imul hx hb d_Mo_takeFirst_55 ?_
      refine lv_iload_n hx hb d_Mo_takeFirst_56 rfl (lv_at hl 2 rfl) ?_
      refine lv_iadd hx hb d_Mo_takeFirst_57 ?_
      refine lv_iconst (v := 1) hx hb d_Mo_takeFirst_58 (by decide) ?_
      refine lv_iadd hx hb d_Mo_takeFirst_59 ?_
      refine lv_bipush (v := 16) hx hb d_Mo_takeFirst_60 (by decide) ?_
      refine lv_iload_n hx hb d_Mo_takeFirst_62 rfl (lv_at hl 1 rfl) ?_
      refine lv_imul hx hb d_Mo_takeFirst_63 ?_
      refine lv_iload_n hx hb d_Mo_takeFirst_64 rfl (lv_at hl 2 rfl) ?_
      refine lv_iadd hx hb d_Mo_takeFirst_65 ?_
      obtain ⟨⟨fs, h1⟩, h⟩ := h
      have h9 := h
      clear h
      have hF := hW.free hS hA
      refine va_callv (va_runV (As := [.int (((16 * l2b41) + l3b41) + 1), .int ((16 * l2b41) + l3b41)]) (rest := []) ⟨hx, hb, hml, hown, hts⟩ (c_Mo_move _ h9) (cwV 2 hts (gi_V bw_1114 bw_1116 bs_30 bw_5 bw_1117) rfl rfl rfl (by decide +kernel) ⟨Nat.le_of_ble_eq_true rfl, Nat.le_of_ble_eq_true rfl⟩) ⟨hI.blind, hw_recv hK hW h1 rfl, hI.give hW hS hA hK hZ0⟩ rfl rfl hl.1 rfl (lv_room (Nat.le_of_ble_eq_true rfl)) d_Mo_takeFirst_66 ⟨(show _ ≤ 0 by omega), (show _ ≤ 0 by omega)⟩) hS (fun q _ z => hF q z) hF (fun M22 t H locs ht _ h hB1 _ _ hS => ?_)
      have hW := hw_back hF ht hB1
      clear h9
      refine lv_iinc (v := l3b41 + 1) (lv' := [(3, .int (l3b41 + 1)), (0, .ref l0b41), (2, .int l2b41)]) hx hb d_Mo_takeFirst_69 hl (k := 2) rfl rfl (by decide) rfl (fun ls hl => ?_)
      refine lv_goto (tgt := 41) hx hb d_Mo_takeFirst_72 (by decide) ?_
      exact hk_29 _ _ _ _ l0b41 l2b41 (l3b41 + 1) h hW hS (lv_sub hl [1, 2, 0] rfl)
set_option maxHeartbeats 1000000 in
set_option maxRecDepth 20000 in
theorem l_Mo_takeFirst_e {p : Program} {l : Launch} {e : Env} {s : State} {m : MethodId} {args : Array Value} {below : List Frame} {meth : Method} {c : Code} {D : va_G} {ca G : Nat → Nat} {A : Nat → Prop} (C0 : hC p s m args meth c D ca G prog_7_method_16_code 4 (none) "ChannelHallModel" A) {post : hM → Prop} {M : hM} {H : Heap} {locs : List Loc} {ls : Array Slot} (a0 : Nat) (x1 : Int32) (x2 : Int32) (h : wp_Mo_takeFirst G ca post M a0 x1 x2) (hW : hw D wCl A M H) (hS : va_S A s.heap H locs) (hl : lv_has ls 4 [(0, .ref a0), (1, .int x1), (2, .int x2)]) : W p l e rm_Mo_takeFirst s m args below meth c H locs 0 0 (MQ below (va_Qv post (fun M' t => hw D wCl A M' t.heap) A) args s 0 0 A) (F0 m 0 ls []) := by
  obtain ⟨hx, hb, hr, hml, hown, hts, hlocks, hK, hA, hZ0⟩ := id C0
  refine lv_aload_n hx hb d_Mo_takeFirst_0 rfl (lv_at hl 0 rfl) ?_
  refine lv_iload_n hx hb d_Mo_takeFirst_1 rfl (lv_at hl 1 rfl) ?_
  refine lv_iload_n hx hb d_Mo_takeFirst_2 rfl (lv_at hl 2 rfl) ?_
  refine lv_aload_n hx hb d_Mo_takeFirst_3 rfl (lv_at hl 0 rfl) ?_
  obtain ⟨fs, v23, h1, h2, h⟩ := h
  refine va_get (D := D) (ci := 5) (v := va_rf v23) (C := "ChannelHallModel") (T := TMo) (N := 26) hx hb hts uMo hown hK (hw_one hW h1) 0 rfl rfl 19 (by decide) (hts _ bw_993) (fun _ h9 => h9) h2 d_Mo_takeFirst_4 ?_
  refine lv_bipush (v := 16) hx hb d_Mo_takeFirst_7 (by decide) ?_
  refine lv_iload_n hx hb d_Mo_takeFirst_9 rfl (lv_at hl 2 rfl) ?_
  refine lv_imul hx hb d_Mo_takeFirst_10 ?_
  obtain ⟨b24, rfl, h⟩ := h
  obtain ⟨n, f, h1, h2, h⟩ := h
  refine va_iald hx hb hK (hw_one hW h1) 0 5 rfl rfl h2 d_Mo_takeFirst_11 ?_
  generalize f ((16 * x2)).toNatClampNeg = v25 at h ⊢
  refine lv_aload_n hx hb d_Mo_takeFirst_12 rfl (lv_at hl 0 rfl) ?_
  obtain ⟨fs, v26, h1, h2, h⟩ := h
  refine va_get (D := D) (ci := 5) (v := .double v26) (C := "ChannelHallModel") (T := TMo) (N := 26) hx hb hts uMo hown hK (hw_one hW h1) 0 rfl rfl 12 (by decide) (hts _ bw_986) (fun _ h9 => h9) h2 d_Mo_takeFirst_13 ?_
  refine lv_aload_n hx hb d_Mo_takeFirst_16 rfl (lv_at hl 0 rfl) ?_
  obtain ⟨fs, v27, h1, h2, h⟩ := h
  refine va_get (D := D) (ci := 5) (v := va_rf v27) (C := "ChannelHallModel") (T := TMo) (N := 26) hx hb hts uMo hown hK (hw_one hW h1) 0 rfl rfl 22 (by decide) (hts _ bw_996) (fun _ h9 => h9) h2 d_Mo_takeFirst_17 ?_
  refine lv_bipush (v := 16) hx hb d_Mo_takeFirst_20 (by decide) ?_
  refine lv_iload_n hx hb d_Mo_takeFirst_22 rfl (lv_at hl 2 rfl) ?_
  refine lv_imul hx hb d_Mo_takeFirst_23 ?_
  obtain ⟨b28, rfl, h⟩ := h
  obtain ⟨n, f, h1, h2, h⟩ := h
  refine va_dald hx hb hK (hw_one hW h1) 0 4 rfl rfl h2 d_Mo_takeFirst_24 ?_
  generalize f ((16 * x2)).toNatClampNeg = v29 at h ⊢
  obtain ⟨hn, h⟩ := h
  refine lv_dsub hx hb d_Mo_takeFirst_25 hn ?_
  obtain ⟨⟨fs, h1⟩, h⟩ := h
  have h9 := h
  clear h
  have hF := hW.free hS hA
  refine va_callv (va_runV (As := [.int x1, .int x2, .int v25, .double (FP.dsub v26 v29)]) (rest := []) ⟨hx, hb, hml, hown, hts⟩ (c_Mo_obtain _ h9) (cwV 4 hts (gi_V bw_1102 bw_1104 bs_27 bw_5 bw_1105) rfl rfl rfl (by decide +kernel) ⟨Nat.le_of_ble_eq_true rfl, Nat.le_of_ble_eq_true rfl⟩) ⟨hI.blind, hw_recv hK hW h1 rfl, hI.give hW hS hA hK hZ0⟩ rfl rfl hl.1 rfl (lv_room (Nat.le_of_ble_eq_true rfl)) d_Mo_takeFirst_26 ⟨(show _ ≤ 0 by omega), (show _ ≤ 0 by omega)⟩) hS (fun q _ z => hF q z) hF (fun M30 t H locs ht _ h hB1 _ _ hS => ?_)
  have hW := hw_back hF ht hB1
  clear h9
  refine lv_aload_n hx hb d_Mo_takeFirst_29 rfl (lv_at hl 0 rfl) ?_
  obtain ⟨fs, v31, h1, h2, h⟩ := h
  refine va_get (D := D) (ci := 5) (v := va_rf v31) (C := "ChannelHallModel") (T := TMo) (N := 26) hx hb hts uMo hown hK (hw_one hW h1) 0 rfl rfl 23 (by decide) (hts _ bw_997) (fun _ h9 => h9) h2 d_Mo_takeFirst_30 ?_
  refine lv_iload_n hx hb d_Mo_takeFirst_33 rfl (lv_at hl 2 rfl) ?_
  refine lv_dup2_11 hx hb d_Mo_takeFirst_34 rfl (by cases v31 <;> rfl) ?_
  obtain ⟨b32, rfl, h⟩ := h
  obtain ⟨n, f, h1, h2, h⟩ := h
  refine va_iald hx hb hK (hw_one hW h1) 0 5 rfl rfl h2 d_Mo_takeFirst_35 ?_
  generalize f (x2).toNatClampNeg = v33 at h ⊢
  refine lv_iconst (v := 1) hx hb d_Mo_takeFirst_36 (by decide) ?_
  refine lv_isub hx hb d_Mo_takeFirst_37 ?_
  obtain ⟨n, f, h1, h2, h⟩ := h
  obtain ⟨ws, q0, hq, hP, hD, hback, -⟩ := hw_open hW h1
  refine va_iast hx hb hK hP hD hS q0 5 hq rfl h2 d_Mo_takeFirst_38 (fun H locs hP hD hS => ?_)
  have hW := hback _ _ hP hD
  generalize hM2 : va_up M30 b32 _ = M34 at h hW
  refine lv_iconst (v := 0) hx hb d_Mo_takeFirst_39 (by decide) ?_
  refine lv_istore_n (lv' := [(3, .int 0), (0, .ref a0), (1, .int x1), (2, .int x2)]) hx hb d_Mo_takeFirst_40 rfl hl (by decide) rfl (fun ls hl => ?_)
  obtain ⟨n, h⟩ := h
  exact l_Mo_takeFirst_41 C0 n a0 x2 0 h hW hS (lv_sub hl [1, 3, 0] rfl)
set_option maxRecDepth 20000 in
theorem c_Mo_takeFirst {l : Launch} {D : va_G} {ca G : Nat → Nat} (post : hM → Prop) {M : hM} {sz : Nat} {a0 : Nat} {x1 : Int32} {x2 : Int32} (h : wp_Mo_takeFirst G ca post M a0 x1 x2) : Met l y_Mo_takeFirst (wz y_Mo_takeFirst prog_7_method_16_code 4 (none)) rm_Mo_takeFirst (va_Pc [.ref a0, .int x1, .int x2] (hI D ca G sz M)) (va_Qv post (hB D M sz) (hp_A M sz)) 0 0 (hp_A M sz) := by
  refine Met.ofW (cc := prog_7_method_16_code) (maxL := 4) (ret := none) (by decide) rfl ?_
  intro p e s m args below meth c s₁ B hml hv
  obtain ⟨rfl, hsz, hW, hK, hZ0⟩ := hv
  have hts := fun w hw => atoms_spec (ws := wz y_Mo_takeFirst prog_7_method_16_code 4 (none)) B.pre w (List.mem_cons_of_mem _ hw)
  have hown : s.vm.findClass "ChannelHallModel" = some m.cls := findClass_of_methodNamed B.named
  subst hsz
  have hl := lv_entry [.ref a0, .int x1, .int x2] (n := 4) (Nat.le_of_ble_eq_true rfl)
  rw [lg_entry_eq]
  exact l_Mo_takeFirst_e ⟨B.exec, B.bytes, B.returns, hml, hown, hts, B.notSynchronized, hK, fun q h => Or.inr h, hZ0⟩ a0 x1 x2 h hW va_S.rf hl

theorem d_Mo_serve_0 : decode prog_7_method_17_code 0 = .ok (.aload_n 0, 1) := by decide +kernel
theorem d_Mo_serve_1 : decode prog_7_method_17_code 1 = .ok (.getfield 45, 3) := by decide +kernel
theorem d_Mo_serve_4 : decode prog_7_method_17_code 4 = .ok (.iload_n 1, 1) := by decide +kernel
theorem d_Mo_serve_5 : decode prog_7_method_17_code 5 = .ok (.iaload, 1) := by decide +kernel
theorem d_Mo_serve_6 : decode prog_7_method_17_code 6 = .ok (.ifCond .lt 17, 3) := by decide +kernel
theorem d_Mo_serve_9 : decode prog_7_method_17_code 9 = .ok (.aload_n 0, 1) := by decide +kernel
theorem d_Mo_serve_10 : decode prog_7_method_17_code 10 = .ok (.getfield 45, 3) := by decide +kernel
theorem d_Mo_serve_13 : decode prog_7_method_17_code 13 = .ok (.iload_n 1, 1) := by decide +kernel
theorem d_Mo_serve_14 : decode prog_7_method_17_code 14 = .ok (.iaload, 1) := by decide +kernel
theorem d_Mo_serve_15 : decode prog_7_method_17_code 15 = .ok (.iconst 5, 1) := by decide +kernel
theorem d_Mo_serve_16 : decode prog_7_method_17_code 16 = .ok (.if_icmp .ge 7, 3) := by decide +kernel
theorem d_Mo_serve_19 : decode prog_7_method_17_code 19 = .ok (.iconst 1, 1) := by decide +kernel
theorem d_Mo_serve_20 : decode prog_7_method_17_code 20 = .ok (.goto 4, 3) := by decide +kernel
theorem d_Mo_serve_23 : decode prog_7_method_17_code 23 = .ok (.iconst 0, 1) := by decide +kernel
theorem d_Mo_serve_24 : decode prog_7_method_17_code 24 = .ok (.istore_n 2, 1) := by decide +kernel
theorem d_Mo_serve_25 : decode prog_7_method_17_code 25 = .ok (.iload_n 2, 1) := by decide +kernel
theorem d_Mo_serve_26 : decode prog_7_method_17_code 26 = .ok (.ifCond .eq 153, 3) := by decide +kernel
theorem d_Mo_serve_29 : decode prog_7_method_17_code 29 = .ok (.aload_n 0, 1) := by decide +kernel
theorem d_Mo_serve_30 : decode prog_7_method_17_code 30 = .ok (.iload_n 1, 1) := by decide +kernel
theorem d_Mo_serve_31 : decode prog_7_method_17_code 31 = .ok (.iconst 0, 1) := by decide +kernel
theorem d_Mo_serve_32 : decode prog_7_method_17_code 32 = .ok (.invokevirtual 124, 3) := by decide +kernel
theorem d_Mo_serve_35 : decode prog_7_method_17_code 35 = .ok (.istore_n 3, 1) := by decide +kernel
theorem d_Mo_serve_36 : decode prog_7_method_17_code 36 = .ok (.aload_n 0, 1) := by decide +kernel
theorem d_Mo_serve_37 : decode prog_7_method_17_code 37 = .ok (.iload_n 1, 1) := by decide +kernel
theorem d_Mo_serve_38 : decode prog_7_method_17_code 38 = .ok (.iconst 1, 1) := by decide +kernel
theorem d_Mo_serve_39 : decode prog_7_method_17_code 39 = .ok (.invokevirtual 124, 3) := by decide +kernel
theorem d_Mo_serve_42 : decode prog_7_method_17_code 42 = .ok (.istore 4, 2) := by decide +kernel
theorem d_Mo_serve_44 : decode prog_7_method_17_code 44 = .ok (.iload 4, 2) := by decide +kernel
theorem d_Mo_serve_46 : decode prog_7_method_17_code 46 = .ok (.ifCond .lt 28, 3) := by decide +kernel
theorem d_Mo_serve_49 : decode prog_7_method_17_code 49 = .ok (.aload_n 0, 1) := by decide +kernel
theorem d_Mo_serve_50 : decode prog_7_method_17_code 50 = .ok (.iload_n 1, 1) := by decide +kernel
theorem d_Mo_serve_51 : decode prog_7_method_17_code 51 = .ok (.invokevirtual 127, 3) := by decide +kernel
theorem d_Mo_serve_54 : decode prog_7_method_17_code 54 = .ok (.ifCond .eq 20, 3) := by decide +kernel
theorem d_Mo_serve_57 : decode prog_7_method_17_code 57 = .ok (.aload_n 0, 1) := by decide +kernel
theorem d_Mo_serve_58 : decode prog_7_method_17_code 58 = .ok (.iload 4, 2) := by decide +kernel
theorem d_Mo_serve_60 : decode prog_7_method_17_code 60 = .ok (.iload_n 1, 1) := by decide +kernel
theorem d_Mo_serve_61 : decode prog_7_method_17_code 61 = .ok (.invokevirtual 131, 3) := by decide +kernel
theorem d_Mo_serve_64 : decode prog_7_method_17_code 64 = .ok (.aload_n 0, 1) := by decide +kernel
theorem d_Mo_serve_65 : decode prog_7_method_17_code 65 = .ok (.iload 4, 2) := by decide +kernel
theorem d_Mo_serve_67 : decode prog_7_method_17_code 67 = .ok (.iconst 1, 1) := by decide +kernel
theorem d_Mo_serve_68 : decode prog_7_method_17_code 68 = .ok (.invokevirtual 106, 3) := by decide +kernel
theorem d_Mo_serve_71 : decode prog_7_method_17_code 71 = .ok (.goto 105, 3) := by decide +kernel
theorem d_Mo_serve_74 : decode prog_7_method_17_code 74 = .ok (.iload_n 3, 1) := by decide +kernel
theorem d_Mo_serve_75 : decode prog_7_method_17_code 75 = .ok (.ifCond .lt 50, 3) := by decide +kernel
theorem d_Mo_serve_78 : decode prog_7_method_17_code 78 = .ok (.aload_n 0, 1) := by decide +kernel
theorem d_Mo_serve_79 : decode prog_7_method_17_code 79 = .ok (.getfield 75, 3) := by decide +kernel
theorem d_Mo_serve_82 : decode prog_7_method_17_code 82 = .ok (.iload_n 1, 1) := by decide +kernel
theorem d_Mo_serve_83 : decode prog_7_method_17_code 83 = .ok (.iaload, 1) := by decide +kernel
theorem d_Mo_serve_84 : decode prog_7_method_17_code 84 = .ok (.aload_n 0, 1) := by decide +kernel
theorem d_Mo_serve_85 : decode prog_7_method_17_code 85 = .ok (.getfield 48, 3) := by decide +kernel
theorem d_Mo_serve_88 : decode prog_7_method_17_code 88 = .ok (.iload_n 1, 1) := by decide +kernel
theorem d_Mo_serve_89 : decode prog_7_method_17_code 89 = .ok (.iaload, 1) := by decide +kernel
theorem d_Mo_serve_90 : decode prog_7_method_17_code 90 = .ok (.if_icmp .ge 35, 3) := by decide +kernel
theorem d_Mo_serve_93 : decode prog_7_method_17_code 93 = .ok (.aload_n 0, 1) := by decide +kernel
theorem d_Mo_serve_94 : decode prog_7_method_17_code 94 = .ok (.iload_n 1, 1) := by decide +kernel
theorem d_Mo_serve_95 : decode prog_7_method_17_code 95 = .ok (.aload_n 0, 1) := by decide +kernel
theorem d_Mo_serve_96 : decode prog_7_method_17_code 96 = .ok (.getfield 32, 3) := by decide +kernel
theorem d_Mo_serve_99 : decode prog_7_method_17_code 99 = .ok (.iload_n 3, 1) := by decide +kernel
theorem d_Mo_serve_100 : decode prog_7_method_17_code 100 = .ok (.iaload, 1) := by decide +kernel
theorem d_Mo_serve_101 : decode prog_7_method_17_code 101 = .ok (.aload_n 0, 1) := by decide +kernel
theorem d_Mo_serve_102 : decode prog_7_method_17_code 102 = .ok (.getfield 35, 3) := by decide +kernel
theorem d_Mo_serve_105 : decode prog_7_method_17_code 105 = .ok (.iload_n 3, 1) := by decide +kernel
theorem d_Mo_serve_106 : decode prog_7_method_17_code 106 = .ok (.daload, 1) := by decide +kernel
theorem d_Mo_serve_107 : decode prog_7_method_17_code 107 = .ok (.aload_n 0, 1) := by decide +kernel
theorem d_Mo_serve_108 : decode prog_7_method_17_code 108 = .ok (.getfield 39, 3) := by decide +kernel
theorem d_Mo_serve_111 : decode prog_7_method_17_code 111 = .ok (.iload_n 3, 1) := by decide +kernel
theorem d_Mo_serve_112 : decode prog_7_method_17_code 112 = .ok (.daload, 1) := by decide +kernel
theorem d_Mo_serve_113 : decode prog_7_method_17_code 113 = .ok (.invokevirtual 134, 3) := by decide +kernel
theorem d_Mo_serve_116 : decode prog_7_method_17_code 116 = .ok (.aload_n 0, 1) := by decide +kernel
theorem d_Mo_serve_117 : decode prog_7_method_17_code 117 = .ok (.iload_n 3, 1) := by decide +kernel
theorem d_Mo_serve_118 : decode prog_7_method_17_code 118 = .ok (.iconst 1, 1) := by decide +kernel
theorem d_Mo_serve_119 : decode prog_7_method_17_code 119 = .ok (.invokevirtual 106, 3) := by decide +kernel
theorem d_Mo_serve_122 : decode prog_7_method_17_code 122 = .ok (.goto 54, 3) := by decide +kernel
theorem d_Mo_serve_125 : decode prog_7_method_17_code 125 = .ok (.aload_n 0, 1) := by decide +kernel
theorem d_Mo_serve_126 : decode prog_7_method_17_code 126 = .ok (.getfield 45, 3) := by decide +kernel
theorem d_Mo_serve_129 : decode prog_7_method_17_code 129 = .ok (.iload_n 1, 1) := by decide +kernel
theorem d_Mo_serve_130 : decode prog_7_method_17_code 130 = .ok (.iaload, 1) := by decide +kernel
theorem d_Mo_serve_131 : decode prog_7_method_17_code 131 = .ok (.iconst 2, 1) := by decide +kernel
theorem d_Mo_serve_132 : decode prog_7_method_17_code 132 = .ok (.if_icmp .ne 42, 3) := by decide +kernel
theorem d_Mo_serve_135 : decode prog_7_method_17_code 135 = .ok (.iload_n 3, 1) := by decide +kernel
theorem d_Mo_serve_136 : decode prog_7_method_17_code 136 = .ok (.ifCond .lt 38, 3) := by decide +kernel
theorem d_Mo_serve_139 : decode prog_7_method_17_code 139 = .ok (.iload 4, 2) := by decide +kernel
theorem d_Mo_serve_141 : decode prog_7_method_17_code 141 = .ok (.ifCond .lt 33, 3) := by decide +kernel
theorem d_Mo_serve_144 : decode prog_7_method_17_code 144 = .ok (.aload_n 0, 1) := by decide +kernel
theorem d_Mo_serve_145 : decode prog_7_method_17_code 145 = .ok (.iload 4, 2) := by decide +kernel
theorem d_Mo_serve_147 : decode prog_7_method_17_code 147 = .ok (.iload_n 1, 1) := by decide +kernel
theorem d_Mo_serve_148 : decode prog_7_method_17_code 148 = .ok (.aload_n 0, 1) := by decide +kernel
theorem d_Mo_serve_149 : decode prog_7_method_17_code 149 = .ok (.getfield 32, 3) := by decide +kernel
theorem d_Mo_serve_152 : decode prog_7_method_17_code 152 = .ok (.iload_n 3, 1) := by decide +kernel
theorem d_Mo_serve_153 : decode prog_7_method_17_code 153 = .ok (.iaload, 1) := by decide +kernel
theorem d_Mo_serve_154 : decode prog_7_method_17_code 154 = .ok (.dconst 0, 1) := by decide +kernel
theorem d_Mo_serve_155 : decode prog_7_method_17_code 155 = .ok (.invokevirtual 120, 3) := by decide +kernel
theorem d_Mo_serve_158 : decode prog_7_method_17_code 158 = .ok (.aload_n 0, 1) := by decide +kernel
theorem d_Mo_serve_159 : decode prog_7_method_17_code 159 = .ok (.iload 4, 2) := by decide +kernel
theorem d_Mo_serve_161 : decode prog_7_method_17_code 161 = .ok (.iconst 1, 1) := by decide +kernel
theorem d_Mo_serve_162 : decode prog_7_method_17_code 162 = .ok (.invokevirtual 106, 3) := by decide +kernel
theorem d_Mo_serve_165 : decode prog_7_method_17_code 165 = .ok (.aload_n 0, 1) := by decide +kernel
theorem d_Mo_serve_166 : decode prog_7_method_17_code 166 = .ok (.iload_n 3, 1) := by decide +kernel
theorem d_Mo_serve_167 : decode prog_7_method_17_code 167 = .ok (.iconst 1, 1) := by decide +kernel
theorem d_Mo_serve_168 : decode prog_7_method_17_code 168 = .ok (.invokevirtual 106, 3) := by decide +kernel
theorem d_Mo_serve_171 : decode prog_7_method_17_code 171 = .ok (.goto 5, 3) := by decide +kernel
theorem d_Mo_serve_174 : decode prog_7_method_17_code 174 = .ok (.iconst 0, 1) := by decide +kernel
theorem d_Mo_serve_175 : decode prog_7_method_17_code 175 = .ok (.istore_n 2, 1) := by decide +kernel
theorem d_Mo_serve_176 : decode prog_7_method_17_code 176 = .ok (.goto (-151), 3) := by decide +kernel
theorem d_Mo_serve_179 : decode prog_7_method_17_code 179 = .ok (.return_, 1) := by decide +kernel
def y_Mo_serve : MethodName := ⟨"ChannelHallModel", "serve", "(I)V"⟩
abbrev rm_Mo_serve : Room := { frames := 2, cells := 0, slots := 0, locals := 50 }
def wp_Mo_serve_176 (G ca : Nat → Nat) (post : hM → Prop) (k_15 : hM → Nat → Int32 → Int32 → Prop) (M : hM) (l0b176 : Nat) (l1b176 : Int32) (l2b176 : Int32) : Prop := k_15 M l0b176 l1b176 l2b176
def wp_Mo_serve_174 (G ca : Nat → Nat) (post : hM → Prop) (k_15 : hM → Nat → Int32 → Int32 → Prop) (M : hM) (l0b174 : Nat) (l1b174 : Int32) : Prop := wp_Mo_serve_176 G ca post k_15 M l0b174 l1b174 0
def wp_Mo_serve_125 (G ca : Nat → Nat) (post : hM → Prop) (k_15 : hM → Nat → Int32 → Int32 → Prop) (M : hM) (l0b125 : Nat) (l1b125 : Int32) (l2b125 : Int32) (l3b125 : Int32) (l4b125 : Int32) : Prop := gR M l0b125 5 13 fun v51 => nN v51 fun b52 => aI M b52 (ca 5) l1b125 fun v53 => (¬ v53 = 2 → wp_Mo_serve_174 G ca post k_15 M l0b125 l1b125) ∧ (v53 = 2 → (l3b125 < 0 → wp_Mo_serve_174 G ca post k_15 M l0b125 l1b125) ∧ (¬ l3b125 < 0 → (l4b125 < 0 → wp_Mo_serve_174 G ca post k_15 M l0b125 l1b125) ∧ (¬ l4b125 < 0 → gR M l0b125 5 8 fun v57 => nN v57 fun b58 => aI M b58 (ca 5) l3b125 fun v59 => rC M l0b125 5 (wp_Mo_obtain G ca (fun M60 => rC M60 l0b125 5 (wp_Mo_free G ca (fun M61 => rC M61 l0b125 5 (wp_Mo_free G ca (fun M62 => wp_Mo_serve_176 G ca post k_15 M62 l0b125 l1b125 l2b125) M61 l0b125 l3b125 1)) M60 l0b125 l4b125 1)) M l0b125 l4b125 l1b125 v59 FP.dconst0))))
def wp_Mo_serve_74 (G ca : Nat → Nat) (post : hM → Prop) (k_15 : hM → Nat → Int32 → Int32 → Prop) (M : hM) (l0b74 : Nat) (l1b74 : Int32) (l2b74 : Int32) (l3b74 : Int32) (l4b74 : Int32) : Prop := (l3b74 < 0 → wp_Mo_serve_125 G ca post k_15 M l0b74 l1b74 l2b74 l3b74 l4b74) ∧ (¬ l3b74 < 0 → gR M l0b74 5 23 fun v64 => nN v64 fun b65 => aI M b65 (ca 5) l1b74 fun v66 => gR M l0b74 5 14 fun v67 => nN v67 fun b68 => aI M b68 (ca 5) l1b74 fun v69 => (v69 ≤ v66 → wp_Mo_serve_125 G ca post k_15 M l0b74 l1b74 l2b74 l3b74 l4b74) ∧ (¬ v69 ≤ v66 → gR M l0b74 5 8 fun v71 => nN v71 fun b72 => aI M b72 (ca 5) l3b74 fun v73 => gR M l0b74 5 9 fun v74 => nN v74 fun b75 => aD M b75 (ca 4) l3b74 fun v76 => gR M l0b74 5 10 fun v77 => nN v77 fun b78 => aD M b78 (ca 4) l3b74 fun v79 => rC M l0b74 5 (wp_Mo_lay G ca (fun M80 => rC M80 l0b74 5 (wp_Mo_free G ca (fun M81 => wp_Mo_serve_176 G ca post k_15 M81 l0b74 l1b74 l2b74) M80 l0b74 l3b74 1)) M l0b74 l1b74 v73 v76 v79)))
def wp_Mo_serve_25 (G ca : Nat → Nat) (post : hM → Prop) : Nat → hM → Nat → Int32 → Int32 → Prop
  | 0, _, _, _, _ => False
  | n + 1, M, l0b25, l1b25, l2b25 => (l2b25 = 0 → post M) ∧ (¬ l2b25 = 0 → rC M l0b25 5 (wp_Mo_first G ca (fun r83 M84 => rC M84 l0b25 5 (wp_Mo_first G ca (fun r85 M86 => (r85 < 0 → wp_Mo_serve_74 G ca post (wp_Mo_serve_25 G ca post n) M86 l0b25 l1b25 l2b25 r83 r85) ∧ (¬ r85 < 0 → rC M86 l0b25 5 (wp_Mo_ready G ca (fun r88 M89 => (r88 = 0 → wp_Mo_serve_74 G ca post (wp_Mo_serve_25 G ca post n) M89 l0b25 l1b25 l2b25 r83 r85) ∧ (¬ r88 = 0 → rC M89 l0b25 5 (wp_Mo_takeFirst G ca (fun M91 => rC M91 l0b25 5 (wp_Mo_free G ca (fun M92 => wp_Mo_serve_176 G ca post (wp_Mo_serve_25 G ca post n) M92 l0b25 l1b25 l2b25) M91 l0b25 r85 1)) M89 l0b25 r85 l1b25))) M86 l0b25 l1b25))) M84 l0b25 l1b25 1)) M l0b25 l1b25 0))
def wp_Mo_serve_24 (G ca : Nat → Nat) (post : hM → Prop) (M : hM) (l0b24 : Nat) (l1b24 : Int32) (s0b24 : Int32) : Prop := ∃ n, wp_Mo_serve_25 G ca post n M l0b24 l1b24 s0b24
def wp_Mo_serve_23 (G ca : Nat → Nat) (post : hM → Prop) (M : hM) (l0b23 : Nat) (l1b23 : Int32) : Prop := wp_Mo_serve_24 G ca post M l0b23 l1b23 0
def wp_Mo_serve (G ca : Nat → Nat) (post : hM → Prop) (M : hM) (a0 : Nat) (x1 : Int32) : Prop := gR M a0 5 13 fun v93 => nN v93 fun b94 => aI M b94 (ca 5) x1 fun v95 => (v95 < 0 → wp_Mo_serve_23 G ca post M a0 x1) ∧ (¬ v95 < 0 → gR M a0 5 13 fun v97 => nN v97 fun b98 => aI M b98 (ca 5) x1 fun v99 => (5 ≤ v99 → wp_Mo_serve_23 G ca post M a0 x1) ∧ (¬ 5 ≤ v99 → wp_Mo_serve_24 G ca post M a0 x1 1))
set_option maxHeartbeats 1000000 in
set_option maxRecDepth 20000 in
theorem l_Mo_serve_176 {p : Program} {l : Launch} {e : Env} {s : State} {m : MethodId} {args : Array Value} {below : List Frame} {meth : Method} {c : Code} {D : va_G} {ca G : Nat → Nat} {A : Nat → Prop} (C0 : hC p s m args meth c D ca G prog_7_method_17_code 5 (none) "ChannelHallModel" A) {post : hM → Prop} {k_15 : hM → Nat → Int32 → Int32 → Prop} (hk_15 : ∀ (M : hM) (H : Heap) (locs : List Loc) (ls : Array Slot) (l0b25 : Nat) (l1b25 : Int32) (l2b25 : Int32), k_15 M l0b25 l1b25 l2b25 → hw D wCl A M H → va_S A s.heap H locs → lv_has ls 5 [(0, .ref l0b25), (1, .int l1b25), (2, .int l2b25)] → W p l e rm_Mo_serve s m args below meth c H locs 0 0 (MQ below (va_Qv post (fun M' t => hw D wCl A M' t.heap) A) args s 0 0 A) (F0 m 25 ls [])) {M : hM} {H : Heap} {locs : List Loc} {ls : Array Slot} (l0b176 : Nat) (l1b176 : Int32) (l2b176 : Int32) (h : wp_Mo_serve_176 G ca post k_15 M l0b176 l1b176 l2b176) (hW : hw D wCl A M H) (hS : va_S A s.heap H locs) (hl : lv_has ls 5 [(0, .ref l0b176), (1, .int l1b176), (2, .int l2b176)]) : W p l e rm_Mo_serve s m args below meth c H locs 0 0 (MQ below (va_Qv post (fun M' t => hw D wCl A M' t.heap) A) args s 0 0 A) (F0 m 176 ls []) := by
  obtain ⟨hx, hb, hr, hml, hown, hts, hlocks, hK, hA, hZ0⟩ := id C0
  refine lv_goto (tgt := 25) hx hb d_Mo_serve_176 (by decide) ?_
  exact hk_15 _ _ _ _ l0b176 l1b176 l2b176 h hW hS (lv_sub hl [0, 1, 2] rfl)
set_option maxHeartbeats 1000000 in
set_option maxRecDepth 20000 in
theorem l_Mo_serve_174 {p : Program} {l : Launch} {e : Env} {s : State} {m : MethodId} {args : Array Value} {below : List Frame} {meth : Method} {c : Code} {D : va_G} {ca G : Nat → Nat} {A : Nat → Prop} (C0 : hC p s m args meth c D ca G prog_7_method_17_code 5 (none) "ChannelHallModel" A) {post : hM → Prop} {k_15 : hM → Nat → Int32 → Int32 → Prop} (hk_15 : ∀ (M : hM) (H : Heap) (locs : List Loc) (ls : Array Slot) (l0b25 : Nat) (l1b25 : Int32) (l2b25 : Int32), k_15 M l0b25 l1b25 l2b25 → hw D wCl A M H → va_S A s.heap H locs → lv_has ls 5 [(0, .ref l0b25), (1, .int l1b25), (2, .int l2b25)] → W p l e rm_Mo_serve s m args below meth c H locs 0 0 (MQ below (va_Qv post (fun M' t => hw D wCl A M' t.heap) A) args s 0 0 A) (F0 m 25 ls [])) {M : hM} {H : Heap} {locs : List Loc} {ls : Array Slot} (l0b174 : Nat) (l1b174 : Int32) (h : wp_Mo_serve_174 G ca post k_15 M l0b174 l1b174) (hW : hw D wCl A M H) (hS : va_S A s.heap H locs) (hl : lv_has ls 5 [(0, .ref l0b174), (1, .int l1b174)]) : W p l e rm_Mo_serve s m args below meth c H locs 0 0 (MQ below (va_Qv post (fun M' t => hw D wCl A M' t.heap) A) args s 0 0 A) (F0 m 174 ls []) := by
  obtain ⟨hx, hb, hr, hml, hown, hts, hlocks, hK, hA, hZ0⟩ := id C0
  refine lv_iconst (v := 0) hx hb d_Mo_serve_174 (by decide) ?_
  refine lv_istore_n (lv' := [(2, .int 0), (0, .ref l0b174), (1, .int l1b174)]) hx hb d_Mo_serve_175 rfl hl (by decide) rfl (fun ls hl => ?_)
  exact l_Mo_serve_176 C0 hk_15 l0b174 l1b174 0 h hW hS (lv_sub hl [1, 2, 0] rfl)
set_option maxHeartbeats 1000000 in
set_option maxRecDepth 20000 in
theorem l_Mo_serve_125 {p : Program} {l : Launch} {e : Env} {s : State} {m : MethodId} {args : Array Value} {below : List Frame} {meth : Method} {c : Code} {D : va_G} {ca G : Nat → Nat} {A : Nat → Prop} (C0 : hC p s m args meth c D ca G prog_7_method_17_code 5 (none) "ChannelHallModel" A) {post : hM → Prop} {k_15 : hM → Nat → Int32 → Int32 → Prop} (hk_15 : ∀ (M : hM) (H : Heap) (locs : List Loc) (ls : Array Slot) (l0b25 : Nat) (l1b25 : Int32) (l2b25 : Int32), k_15 M l0b25 l1b25 l2b25 → hw D wCl A M H → va_S A s.heap H locs → lv_has ls 5 [(0, .ref l0b25), (1, .int l1b25), (2, .int l2b25)] → W p l e rm_Mo_serve s m args below meth c H locs 0 0 (MQ below (va_Qv post (fun M' t => hw D wCl A M' t.heap) A) args s 0 0 A) (F0 m 25 ls [])) {M : hM} {H : Heap} {locs : List Loc} {ls : Array Slot} (l0b125 : Nat) (l1b125 : Int32) (l2b125 : Int32) (l3b125 : Int32) (l4b125 : Int32) (h : wp_Mo_serve_125 G ca post k_15 M l0b125 l1b125 l2b125 l3b125 l4b125) (hW : hw D wCl A M H) (hS : va_S A s.heap H locs) (hl : lv_has ls 5 [(0, .ref l0b125), (1, .int l1b125), (2, .int l2b125), (3, .int l3b125), (4, .int l4b125)]) : W p l e rm_Mo_serve s m args below meth c H locs 0 0 (MQ below (va_Qv post (fun M' t => hw D wCl A M' t.heap) A) args s 0 0 A) (F0 m 125 ls []) := by
  obtain ⟨hx, hb, hr, hml, hown, hts, hlocks, hK, hA, hZ0⟩ := id C0
  refine lv_aload_n hx hb d_Mo_serve_125 rfl (lv_at hl 0 rfl) ?_
  obtain ⟨fs, v51, h1, h2, h⟩ := h
  refine va_get (D := D) (ci := 5) (v := va_rf v51) (C := "ChannelHallModel") (T := TMo) (N := 26) hx hb hts uMo hown hK (hw_one hW h1) 0 rfl rfl 13 (by decide) (hts _ bw_987) (fun _ h9 => h9) h2 d_Mo_serve_126 ?_
  refine lv_iload_n hx hb d_Mo_serve_129 rfl (lv_at hl 1 rfl) ?_
  obtain ⟨b52, rfl, h⟩ := h
  obtain ⟨n, f, h1, h2, h⟩ := h
  refine va_iald hx hb hK (hw_one hW h1) 0 5 rfl rfl h2 d_Mo_serve_130 ?_
  generalize f (l1b125).toNatClampNeg = v53 at h ⊢
  refine lv_iconst (v := 2) hx hb d_Mo_serve_131 (by decide) ?_
  obtain ⟨h0, h1⟩ := h
  refine lv_icmp_ne (tgt := 174) hx hb d_Mo_serve_132 (by decide) (fun c54 => ?_) (fun c54 => ?_)
  · have h := h0 c54
    exact l_Mo_serve_174 C0 hk_15 l0b125 l1b125 h hW hS (lv_sub hl [0, 1] rfl)
  · have h := h1 c54
    refine lv_iload_n hx hb d_Mo_serve_135 rfl (lv_at hl 3 rfl) ?_
    obtain ⟨h0, h1⟩ := h
    refine lv_if_lt (tgt := 174) hx hb d_Mo_serve_136 (by decide) (fun c55 => ?_) (fun c55 => ?_)
    · have h := h0 c55
      exact l_Mo_serve_174 C0 hk_15 l0b125 l1b125 h hW hS (lv_sub hl [0, 1] rfl)
    · have h := h1 c55
      refine lv_iload hx hb d_Mo_serve_139 (lv_at hl 4 rfl) ?_
      obtain ⟨h0, h1⟩ := h
      refine lv_if_lt (tgt := 174) hx hb d_Mo_serve_141 (by decide) (fun c56 => ?_) (fun c56 => ?_)
      · have h := h0 c56
        exact l_Mo_serve_174 C0 hk_15 l0b125 l1b125 h hW hS (lv_sub hl [0, 1] rfl)
      · have h := h1 c56
        refine lv_aload_n hx hb d_Mo_serve_144 rfl (lv_at hl 0 rfl) ?_
        refine lv_iload hx hb d_Mo_serve_145 (lv_at hl 4 rfl) ?_
        refine lv_iload_n hx hb d_Mo_serve_147 rfl (lv_at hl 1 rfl) ?_
        refine lv_aload_n hx hb d_Mo_serve_148 rfl (lv_at hl 0 rfl) ?_
        obtain ⟨fs, v57, h1, h2, h⟩ := h
        refine va_get (D := D) (ci := 5) (v := va_rf v57) (C := "ChannelHallModel") (T := TMo) (N := 26) hx hb hts uMo hown hK (hw_one hW h1) 0 rfl rfl 8 (by decide) (hts _ bw_982) (fun _ h9 => h9) h2 d_Mo_serve_149 ?_
        refine lv_iload_n hx hb d_Mo_serve_152 rfl (lv_at hl 3 rfl) ?_
        obtain ⟨b58, rfl, h⟩ := h
        obtain ⟨n, f, h1, h2, h⟩ := h
        refine va_iald hx hb hK (hw_one hW h1) 0 5 rfl rfl h2 d_Mo_serve_153 ?_
        generalize f (l3b125).toNatClampNeg = v59 at h ⊢
        refine lv_dconst0 hx hb d_Mo_serve_154 ?_
        obtain ⟨⟨fs, h1⟩, h⟩ := h
        have h9 := h
        clear h
        have hF := hW.free hS hA
        refine va_callv (va_runV (As := [.int l4b125, .int l1b125, .int v59, .double FP.dconst0]) (rest := []) ⟨hx, hb, hml, hown, hts⟩ (c_Mo_obtain _ h9) (cwV 4 hts (gi_V bw_1102 bw_1104 bs_27 bw_5 bw_1105) rfl rfl rfl (by decide +kernel) ⟨Nat.le_of_ble_eq_true rfl, Nat.le_of_ble_eq_true rfl⟩) ⟨hI.blind, hw_recv hK hW h1 rfl, hI.give hW hS hA hK hZ0⟩ rfl rfl hl.1 rfl (lv_room (Nat.le_of_ble_eq_true rfl)) d_Mo_serve_155 ⟨(show _ ≤ 0 by omega), (show _ ≤ 0 by omega)⟩) hS (fun q _ z => hF q z) hF (fun M60 t H locs ht _ h hB1 _ _ hS => ?_)
        have hW := hw_back hF ht hB1
        clear h9
        refine lv_aload_n hx hb d_Mo_serve_158 rfl (lv_at hl 0 rfl) ?_
        refine lv_iload hx hb d_Mo_serve_159 (lv_at hl 4 rfl) ?_
        refine lv_iconst (v := 1) hx hb d_Mo_serve_161 (by decide) ?_
        obtain ⟨⟨fs, h1⟩, h⟩ := h
        have h9 := h
        clear h
        have hF := hW.free hS hA
        refine va_callv (va_runV (As := [.int l4b125, .int 1]) (rest := []) ⟨hx, hb, hml, hown, hts⟩ (c_Mo_free _ h9) (cwV 2 hts (gi_V bw_1106 bw_1108 bs_28 bw_5 bw_1109) rfl rfl rfl (by decide +kernel) ⟨Nat.le_of_ble_eq_true rfl, Nat.le_of_ble_eq_true rfl⟩) ⟨hI.blind, hw_recv hK hW h1 rfl, hI.give hW hS hA hK hZ0⟩ rfl rfl hl.1 rfl (lv_room (Nat.le_of_ble_eq_true rfl)) d_Mo_serve_162 ⟨(show _ ≤ 0 by omega), (show _ ≤ 0 by omega)⟩) hS (fun q _ z => hF q z) hF (fun M61 t H locs ht _ h hB1 _ _ hS => ?_)
        have hW := hw_back hF ht hB1
        clear h9
        refine lv_aload_n hx hb d_Mo_serve_165 rfl (lv_at hl 0 rfl) ?_
        refine lv_iload_n hx hb d_Mo_serve_166 rfl (lv_at hl 3 rfl) ?_
        refine lv_iconst (v := 1) hx hb d_Mo_serve_167 (by decide) ?_
        obtain ⟨⟨fs, h1⟩, h⟩ := h
        have h9 := h
        clear h
        have hF := hW.free hS hA
        refine va_callv (va_runV (As := [.int l3b125, .int 1]) (rest := []) ⟨hx, hb, hml, hown, hts⟩ (c_Mo_free _ h9) (cwV 2 hts (gi_V bw_1106 bw_1108 bs_28 bw_5 bw_1109) rfl rfl rfl (by decide +kernel) ⟨Nat.le_of_ble_eq_true rfl, Nat.le_of_ble_eq_true rfl⟩) ⟨hI.blind, hw_recv hK hW h1 rfl, hI.give hW hS hA hK hZ0⟩ rfl rfl hl.1 rfl (lv_room (Nat.le_of_ble_eq_true rfl)) d_Mo_serve_168 ⟨(show _ ≤ 0 by omega), (show _ ≤ 0 by omega)⟩) hS (fun q _ z => hF q z) hF (fun M62 t H locs ht _ h hB1 _ _ hS => ?_)
        have hW := hw_back hF ht hB1
        clear h9
        refine lv_goto (tgt := 176) hx hb d_Mo_serve_171 (by decide) ?_
        exact l_Mo_serve_176 C0 hk_15 l0b125 l1b125 l2b125 h hW hS (lv_sub hl [0, 1, 2] rfl)
set_option maxHeartbeats 1000000 in
set_option maxRecDepth 20000 in
theorem l_Mo_serve_74 {p : Program} {l : Launch} {e : Env} {s : State} {m : MethodId} {args : Array Value} {below : List Frame} {meth : Method} {c : Code} {D : va_G} {ca G : Nat → Nat} {A : Nat → Prop} (C0 : hC p s m args meth c D ca G prog_7_method_17_code 5 (none) "ChannelHallModel" A) {post : hM → Prop} {k_15 : hM → Nat → Int32 → Int32 → Prop} (hk_15 : ∀ (M : hM) (H : Heap) (locs : List Loc) (ls : Array Slot) (l0b25 : Nat) (l1b25 : Int32) (l2b25 : Int32), k_15 M l0b25 l1b25 l2b25 → hw D wCl A M H → va_S A s.heap H locs → lv_has ls 5 [(0, .ref l0b25), (1, .int l1b25), (2, .int l2b25)] → W p l e rm_Mo_serve s m args below meth c H locs 0 0 (MQ below (va_Qv post (fun M' t => hw D wCl A M' t.heap) A) args s 0 0 A) (F0 m 25 ls [])) {M : hM} {H : Heap} {locs : List Loc} {ls : Array Slot} (l0b74 : Nat) (l1b74 : Int32) (l2b74 : Int32) (l3b74 : Int32) (l4b74 : Int32) (h : wp_Mo_serve_74 G ca post k_15 M l0b74 l1b74 l2b74 l3b74 l4b74) (hW : hw D wCl A M H) (hS : va_S A s.heap H locs) (hl : lv_has ls 5 [(0, .ref l0b74), (1, .int l1b74), (2, .int l2b74), (3, .int l3b74), (4, .int l4b74)]) : W p l e rm_Mo_serve s m args below meth c H locs 0 0 (MQ below (va_Qv post (fun M' t => hw D wCl A M' t.heap) A) args s 0 0 A) (F0 m 74 ls []) := by
  obtain ⟨hx, hb, hr, hml, hown, hts, hlocks, hK, hA, hZ0⟩ := id C0
  refine lv_iload_n hx hb d_Mo_serve_74 rfl (lv_at hl 3 rfl) ?_
  obtain ⟨h0, h1⟩ := h
  refine lv_if_lt (tgt := 125) hx hb d_Mo_serve_75 (by decide) (fun c63 => ?_) (fun c63 => ?_)
  · have h := h0 c63
    exact l_Mo_serve_125 C0 hk_15 l0b74 l1b74 l2b74 l3b74 l4b74 h hW hS (lv_sub hl [0, 1, 2, 3, 4] rfl)
  · have h := h1 c63
    refine lv_aload_n hx hb d_Mo_serve_78 rfl (lv_at hl 0 rfl) ?_
    obtain ⟨fs, v64, h1, h2, h⟩ := h
    refine va_get (D := D) (ci := 5) (v := va_rf v64) (C := "ChannelHallModel") (T := TMo) (N := 26) hx hb hts uMo hown hK (hw_one hW h1) 0 rfl rfl 23 (by decide) (hts _ bw_997) (fun _ h9 => h9) h2 d_Mo_serve_79 ?_
    refine lv_iload_n hx hb d_Mo_serve_82 rfl (lv_at hl 1 rfl) ?_
    obtain ⟨b65, rfl, h⟩ := h
    obtain ⟨n, f, h1, h2, h⟩ := h
    refine va_iald hx hb hK (hw_one hW h1) 0 5 rfl rfl h2 d_Mo_serve_83 ?_
    generalize f (l1b74).toNatClampNeg = v66 at h ⊢
    refine lv_aload_n hx hb d_Mo_serve_84 rfl (lv_at hl 0 rfl) ?_
    obtain ⟨fs, v67, h1, h2, h⟩ := h
    refine va_get (D := D) (ci := 5) (v := va_rf v67) (C := "ChannelHallModel") (T := TMo) (N := 26) hx hb hts uMo hown hK (hw_one hW h1) 0 rfl rfl 14 (by decide) (hts _ bw_988) (fun _ h9 => h9) h2 d_Mo_serve_85 ?_
    refine lv_iload_n hx hb d_Mo_serve_88 rfl (lv_at hl 1 rfl) ?_
    obtain ⟨b68, rfl, h⟩ := h
    obtain ⟨n, f, h1, h2, h⟩ := h
    refine va_iald hx hb hK (hw_one hW h1) 0 5 rfl rfl h2 d_Mo_serve_89 ?_
    generalize f (l1b74).toNatClampNeg = v69 at h ⊢
    obtain ⟨h0, h1⟩ := h
    refine lv_icmp_ge (tgt := 125) hx hb d_Mo_serve_90 (by decide) (fun c70 => ?_) (fun c70 => ?_)
    · have h := h0 c70
      exact l_Mo_serve_125 C0 hk_15 l0b74 l1b74 l2b74 l3b74 l4b74 h hW hS (lv_sub hl [0, 1, 2, 3, 4] rfl)
    · have h := h1 c70
      refine lv_aload_n hx hb d_Mo_serve_93 rfl (lv_at hl 0 rfl) ?_
      refine lv_iload_n hx hb d_Mo_serve_94 rfl (lv_at hl 1 rfl) ?_
      refine lv_aload_n hx hb d_Mo_serve_95 rfl (lv_at hl 0 rfl) ?_
      obtain ⟨fs, v71, h1, h2, h⟩ := h
      refine va_get (D := D) (ci := 5) (v := va_rf v71) (C := "ChannelHallModel") (T := TMo) (N := 26) hx hb hts uMo hown hK (hw_one hW h1) 0 rfl rfl 8 (by decide) (hts _ bw_982) (fun _ h9 => h9) h2 d_Mo_serve_96 ?_
      refine lv_iload_n hx hb d_Mo_serve_99 rfl (lv_at hl 3 rfl) ?_
      obtain ⟨b72, rfl, h⟩ := h
      obtain ⟨n, f, h1, h2, h⟩ := h
      refine va_iald hx hb hK (hw_one hW h1) 0 5 rfl rfl h2 d_Mo_serve_100 ?_
      generalize f (l3b74).toNatClampNeg = v73 at h ⊢
      refine lv_aload_n hx hb d_Mo_serve_101 rfl (lv_at hl 0 rfl) ?_
      obtain ⟨fs, v74, h1, h2, h⟩ := h
      refine va_get (D := D) (ci := 5) (v := va_rf v74) (C := "ChannelHallModel") (T := TMo) (N := 26) hx hb hts uMo hown hK (hw_one hW h1) 0 rfl rfl 9 (by decide) (hts _ bw_983) (fun _ h9 => h9) h2 d_Mo_serve_102 ?_
      refine lv_iload_n hx hb d_Mo_serve_105 rfl (lv_at hl 3 rfl) ?_
      obtain ⟨b75, rfl, h⟩ := h
      obtain ⟨n, f, h1, h2, h⟩ := h
      refine va_dald hx hb hK (hw_one hW h1) 0 4 rfl rfl h2 d_Mo_serve_106 ?_
      generalize f (l3b74).toNatClampNeg = v76 at h ⊢
      refine lv_aload_n hx hb d_Mo_serve_107 rfl (lv_at hl 0 rfl) ?_
      obtain ⟨fs, v77, h1, h2, h⟩ := h
      refine va_get (D := D) (ci := 5) (v := va_rf v77) (C := "ChannelHallModel") (T := TMo) (N := 26) hx hb hts uMo hown hK (hw_one hW h1) 0 rfl rfl 10 (by decide) (hts _ bw_984) (fun _ h9 => h9) h2 d_Mo_serve_108 ?_
      refine lv_iload_n hx hb d_Mo_serve_111 rfl (lv_at hl 3 rfl) ?_
      obtain ⟨b78, rfl, h⟩ := h
      obtain ⟨n, f, h1, h2, h⟩ := h
      refine va_dald hx hb hK (hw_one hW h1) 0 4 rfl rfl h2 d_Mo_serve_112 ?_
      generalize f (l3b74).toNatClampNeg = v79 at h ⊢
      obtain ⟨⟨fs, h1⟩, h⟩ := h
      have h9 := h
      clear h
      have hF := hW.free hS hA
      refine va_callv (va_runV (As := [.int l1b74, .int v73, .double v76, .double v79]) (rest := []) ⟨hx, hb, hml, hown, hts⟩ (c_Mo_lay _ h9) (cwV 4 hts (gi_V bw_1110 bw_1112 bs_29 bw_5 bw_1113) rfl rfl rfl (by decide +kernel) ⟨Nat.le_of_ble_eq_true rfl, Nat.le_of_ble_eq_true rfl⟩) ⟨hI.blind, hw_recv hK hW h1 rfl, hI.give hW hS hA hK hZ0⟩ rfl rfl hl.1 rfl (lv_room (Nat.le_of_ble_eq_true rfl)) d_Mo_serve_113 ⟨(show _ ≤ 0 by omega), (show _ ≤ 0 by omega)⟩) hS (fun q _ z => hF q z) hF (fun M80 t H locs ht _ h hB1 _ _ hS => ?_)
      have hW := hw_back hF ht hB1
      clear h9
      refine lv_aload_n hx hb d_Mo_serve_116 rfl (lv_at hl 0 rfl) ?_
      refine lv_iload_n hx hb d_Mo_serve_117 rfl (lv_at hl 3 rfl) ?_
      refine lv_iconst (v := 1) hx hb d_Mo_serve_118 (by decide) ?_
      obtain ⟨⟨fs, h1⟩, h⟩ := h
      have h9 := h
      clear h
      have hF := hW.free hS hA
      refine va_callv (va_runV (As := [.int l3b74, .int 1]) (rest := []) ⟨hx, hb, hml, hown, hts⟩ (c_Mo_free _ h9) (cwV 2 hts (gi_V bw_1106 bw_1108 bs_28 bw_5 bw_1109) rfl rfl rfl (by decide +kernel) ⟨Nat.le_of_ble_eq_true rfl, Nat.le_of_ble_eq_true rfl⟩) ⟨hI.blind, hw_recv hK hW h1 rfl, hI.give hW hS hA hK hZ0⟩ rfl rfl hl.1 rfl (lv_room (Nat.le_of_ble_eq_true rfl)) d_Mo_serve_119 ⟨(show _ ≤ 0 by omega), (show _ ≤ 0 by omega)⟩) hS (fun q _ z => hF q z) hF (fun M81 t H locs ht _ h hB1 _ _ hS => ?_)
      have hW := hw_back hF ht hB1
      clear h9
      refine lv_goto (tgt := 176) hx hb d_Mo_serve_122 (by decide) ?_
      exact l_Mo_serve_176 C0 hk_15 l0b74 l1b74 l2b74 h hW hS (lv_sub hl [0, 1, 2] rfl)
set_option maxHeartbeats 1000000 in
set_option maxRecDepth 20000 in
theorem l_Mo_serve_25 {p : Program} {l : Launch} {e : Env} {s : State} {m : MethodId} {args : Array Value} {below : List Frame} {meth : Method} {c : Code} {D : va_G} {ca G : Nat → Nat} {A : Nat → Prop} (C0 : hC p s m args meth c D ca G prog_7_method_17_code 5 (none) "ChannelHallModel" A) {post : hM → Prop} : ∀ (n : Nat) {M : hM} {H : Heap} {locs : List Loc} {ls : Array Slot} (l0b25 : Nat) (l1b25 : Int32) (l2b25 : Int32) (h : wp_Mo_serve_25 G ca post n M l0b25 l1b25 l2b25) (hW : hw D wCl A M H) (hS : va_S A s.heap H locs) (hl : lv_has ls 5 [(0, .ref l0b25), (1, .int l1b25), (2, .int l2b25)]), W p l e rm_Mo_serve s m args below meth c H locs 0 0 (MQ below (va_Qv post (fun M' t => hw D wCl A M' t.heap) A) args s 0 0 A) (F0 m 25 ls []) := by
  obtain ⟨hx, hb, hr, hml, hown, hts, hlocks, hK, hA, hZ0⟩ := id C0
  intro n
  induction n with
  | zero =>
    intro M H locs ls l0b25 l1b25 l2b25 h
    exact False.elim h
  | succ n ih =>
    intro M H locs ls l0b25 l1b25 l2b25 h hW hS hl
    have hk_15 := fun M H locs ls l0b25 l1b25 l2b25 h hW hS hl => @ih M H locs ls l0b25 l1b25 l2b25 h hW hS hl
    refine lv_iload_n hx hb d_Mo_serve_25 rfl (lv_at hl 2 rfl) ?_
    obtain ⟨h0, h1⟩ := h
    refine lv_if_eq (tgt := 179) hx hb d_Mo_serve_26 (by decide) (fun c82 => ?_) (fun c82 => ?_)
    · have h := h0 c82
      exact W.vret hx hb hr (fun t ht hWm => ⟨⟨_, rfl, h, hw_t ht hW⟩, hS.F ht⟩) hS.2.2 d_Mo_serve_179
    · have h := h1 c82
      refine lv_aload_n hx hb d_Mo_serve_29 rfl (lv_at hl 0 rfl) ?_
      refine lv_iload_n hx hb d_Mo_serve_30 rfl (lv_at hl 1 rfl) ?_
      refine lv_iconst (v := 0) hx hb d_Mo_serve_31 (by decide) ?_
      obtain ⟨⟨fs, h1⟩, h⟩ := h
      have h9 := h
      clear h
      have hF := hW.free hS hA
      refine va_calli (va_runV (As := [.int l1b25, .int 0]) (rest := []) ⟨hx, hb, hml, hown, hts⟩ (c_Mo_first _ h9) (cwV 2 hts (gi_V bw_1090 bw_1092 bs_24 bw_5 bw_1093) rfl rfl rfl (by decide +kernel) ⟨Nat.le_of_ble_eq_true rfl, Nat.le_of_ble_eq_true rfl⟩) ⟨hI.blind, hw_recv hK hW h1 rfl, hI.give hW hS hA hK hZ0⟩ rfl rfl hl.1 rfl (lv_room (Nat.le_of_ble_eq_true rfl)) d_Mo_serve_32 ⟨(show _ ≤ 0 by omega), (show _ ≤ 0 by omega)⟩) hS (fun q _ z => hF q z) hF (fun r83 M84 t H locs ht _ h hB1 _ _ hS => ?_)
      have hW := hw_back hF ht hB1
      clear h9
      refine lv_istore_n (lv' := [(3, .int r83), (0, .ref l0b25), (1, .int l1b25), (2, .int l2b25)]) hx hb d_Mo_serve_35 rfl hl (by decide) rfl (fun ls hl => ?_)
      refine lv_aload_n hx hb d_Mo_serve_36 rfl (lv_at hl 1 rfl) ?_
      refine lv_iload_n hx hb d_Mo_serve_37 rfl (lv_at hl 2 rfl) ?_
      refine lv_iconst (v := 1) hx hb d_Mo_serve_38 (by decide) ?_
      obtain ⟨⟨fs, h1⟩, h⟩ := h
      have h9 := h
      clear h
      have hF := hW.free hS hA
      refine va_calli (va_runV (As := [.int l1b25, .int 1]) (rest := []) ⟨hx, hb, hml, hown, hts⟩ (c_Mo_first _ h9) (cwV 2 hts (gi_V bw_1090 bw_1092 bs_24 bw_5 bw_1093) rfl rfl rfl (by decide +kernel) ⟨Nat.le_of_ble_eq_true rfl, Nat.le_of_ble_eq_true rfl⟩) ⟨hI.blind, hw_recv hK hW h1 rfl, hI.give hW hS hA hK hZ0⟩ rfl rfl hl.1 rfl (lv_room (Nat.le_of_ble_eq_true rfl)) d_Mo_serve_39 ⟨(show _ ≤ 0 by omega), (show _ ≤ 0 by omega)⟩) hS (fun q _ z => hF q z) hF (fun r85 M86 t H locs ht _ h hB1 _ _ hS => ?_)
      have hW := hw_back hF ht hB1
      clear h9
      refine lv_istore (lv' := [(4, .int r85), (3, .int r83), (0, .ref l0b25), (1, .int l1b25), (2, .int l2b25)]) hx hb d_Mo_serve_42 hl (by decide) rfl (fun ls hl => ?_)
      refine lv_iload hx hb d_Mo_serve_44 (lv_at hl 0 rfl) ?_
      obtain ⟨h0, h1⟩ := h
      refine lv_if_lt (tgt := 74) hx hb d_Mo_serve_46 (by decide) (fun c87 => ?_) (fun c87 => ?_)
      · have h := h0 c87
        exact l_Mo_serve_74 C0 hk_15 l0b25 l1b25 l2b25 r83 r85 h hW hS (lv_sub hl [2, 3, 4, 1, 0] rfl)
      · have h := h1 c87
        refine lv_aload_n hx hb d_Mo_serve_49 rfl (lv_at hl 2 rfl) ?_
        refine lv_iload_n hx hb d_Mo_serve_50 rfl (lv_at hl 3 rfl) ?_
        obtain ⟨⟨fs, h1⟩, h⟩ := h
        have h9 := h
        clear h
        have hF := hW.free hS hA
        refine va_calli (va_runV (As := [.int l1b25]) (rest := []) ⟨hx, hb, hml, hown, hts⟩ (c_Mo_ready _ h9) (cwV 1 hts (gi_V bw_1122 bw_1124 bs_32 bw_5 bw_1125) rfl rfl rfl (by decide +kernel) ⟨Nat.le_of_ble_eq_true rfl, Nat.le_of_ble_eq_true rfl⟩) ⟨hI.blind, hw_recv hK hW h1 rfl, hI.give hW hS hA hK hZ0⟩ rfl rfl hl.1 rfl (lv_room (Nat.le_of_ble_eq_true rfl)) d_Mo_serve_51 ⟨(show _ ≤ 0 by omega), (show _ ≤ 0 by omega)⟩) hS (fun q _ z => hF q z) hF (fun r88 M89 t H locs ht _ h hB1 _ _ hS => ?_)
        have hW := hw_back hF ht hB1
        clear h9
        obtain ⟨h0, h1⟩ := h
        refine lv_if_eq (tgt := 74) hx hb d_Mo_serve_54 (by decide) (fun c90 => ?_) (fun c90 => ?_)
        · have h := h0 c90
          exact l_Mo_serve_74 C0 hk_15 l0b25 l1b25 l2b25 r83 r85 h hW hS (lv_sub hl [2, 3, 4, 1, 0] rfl)
        · have h := h1 c90
          refine lv_aload_n hx hb d_Mo_serve_57 rfl (lv_at hl 2 rfl) ?_
          refine lv_iload hx hb d_Mo_serve_58 (lv_at hl 0 rfl) ?_
          refine lv_iload_n hx hb d_Mo_serve_60 rfl (lv_at hl 3 rfl) ?_
          obtain ⟨⟨fs, h1⟩, h⟩ := h
          have h9 := h
          clear h
          have hF := hW.free hS hA
          refine va_callv (va_runV (As := [.int r85, .int l1b25]) (rest := []) ⟨hx, hb, hml, hown, hts⟩ (c_Mo_takeFirst _ h9) (cwV 2 hts (gi_V bw_1126 bw_1128 bs_33 bw_5 bw_1129) rfl rfl rfl (by decide +kernel) ⟨Nat.le_of_ble_eq_true rfl, Nat.le_of_ble_eq_true rfl⟩) ⟨hI.blind, hw_recv hK hW h1 rfl, hI.give hW hS hA hK hZ0⟩ rfl rfl hl.1 rfl (lv_room (Nat.le_of_ble_eq_true rfl)) d_Mo_serve_61 ⟨(show _ ≤ 0 by omega), (show _ ≤ 0 by omega)⟩) hS (fun q _ z => hF q z) hF (fun M91 t H locs ht _ h hB1 _ _ hS => ?_)
          have hW := hw_back hF ht hB1
          clear h9
          refine lv_aload_n hx hb d_Mo_serve_64 rfl (lv_at hl 2 rfl) ?_
          refine lv_iload hx hb d_Mo_serve_65 (lv_at hl 0 rfl) ?_
          refine lv_iconst (v := 1) hx hb d_Mo_serve_67 (by decide) ?_
          obtain ⟨⟨fs, h1⟩, h⟩ := h
          have h9 := h
          clear h
          have hF := hW.free hS hA
          refine va_callv (va_runV (As := [.int r85, .int 1]) (rest := []) ⟨hx, hb, hml, hown, hts⟩ (c_Mo_free _ h9) (cwV 2 hts (gi_V bw_1106 bw_1108 bs_28 bw_5 bw_1109) rfl rfl rfl (by decide +kernel) ⟨Nat.le_of_ble_eq_true rfl, Nat.le_of_ble_eq_true rfl⟩) ⟨hI.blind, hw_recv hK hW h1 rfl, hI.give hW hS hA hK hZ0⟩ rfl rfl hl.1 rfl (lv_room (Nat.le_of_ble_eq_true rfl)) d_Mo_serve_68 ⟨(show _ ≤ 0 by omega), (show _ ≤ 0 by omega)⟩) hS (fun q _ z => hF q z) hF (fun M92 t H locs ht _ h hB1 _ _ hS => ?_)
          have hW := hw_back hF ht hB1
          clear h9
          refine lv_goto (tgt := 176) hx hb d_Mo_serve_71 (by decide) ?_
          exact l_Mo_serve_176 C0 hk_15 l0b25 l1b25 l2b25 h hW hS (lv_sub hl [2, 3, 4] rfl)
set_option maxHeartbeats 1000000 in
set_option maxRecDepth 20000 in
theorem l_Mo_serve_24 {p : Program} {l : Launch} {e : Env} {s : State} {m : MethodId} {args : Array Value} {below : List Frame} {meth : Method} {c : Code} {D : va_G} {ca G : Nat → Nat} {A : Nat → Prop} (C0 : hC p s m args meth c D ca G prog_7_method_17_code 5 (none) "ChannelHallModel" A) {post : hM → Prop} {M : hM} {H : Heap} {locs : List Loc} {ls : Array Slot} (l0b24 : Nat) (l1b24 : Int32) (s0b24 : Int32) (h : wp_Mo_serve_24 G ca post M l0b24 l1b24 s0b24) (hW : hw D wCl A M H) (hS : va_S A s.heap H locs) (hl : lv_has ls 5 [(0, .ref l0b24), (1, .int l1b24)]) : W p l e rm_Mo_serve s m args below meth c H locs 0 0 (MQ below (va_Qv post (fun M' t => hw D wCl A M' t.heap) A) args s 0 0 A) (F0 m 24 ls [.int s0b24]) := by
  obtain ⟨hx, hb, hr, hml, hown, hts, hlocks, hK, hA, hZ0⟩ := id C0
  refine lv_istore_n (lv' := [(2, .int s0b24), (0, .ref l0b24), (1, .int l1b24)]) hx hb d_Mo_serve_24 rfl hl (by decide) rfl (fun ls hl => ?_)
  obtain ⟨n, h⟩ := h
  exact l_Mo_serve_25 C0 n l0b24 l1b24 s0b24 h hW hS (lv_sub hl [1, 2, 0] rfl)
set_option maxHeartbeats 1000000 in
set_option maxRecDepth 20000 in
theorem l_Mo_serve_23 {p : Program} {l : Launch} {e : Env} {s : State} {m : MethodId} {args : Array Value} {below : List Frame} {meth : Method} {c : Code} {D : va_G} {ca G : Nat → Nat} {A : Nat → Prop} (C0 : hC p s m args meth c D ca G prog_7_method_17_code 5 (none) "ChannelHallModel" A) {post : hM → Prop} {M : hM} {H : Heap} {locs : List Loc} {ls : Array Slot} (l0b23 : Nat) (l1b23 : Int32) (h : wp_Mo_serve_23 G ca post M l0b23 l1b23) (hW : hw D wCl A M H) (hS : va_S A s.heap H locs) (hl : lv_has ls 5 [(0, .ref l0b23), (1, .int l1b23)]) : W p l e rm_Mo_serve s m args below meth c H locs 0 0 (MQ below (va_Qv post (fun M' t => hw D wCl A M' t.heap) A) args s 0 0 A) (F0 m 23 ls []) := by
  obtain ⟨hx, hb, hr, hml, hown, hts, hlocks, hK, hA, hZ0⟩ := id C0
  refine lv_iconst (v := 0) hx hb d_Mo_serve_23 (by decide) ?_
  exact l_Mo_serve_24 C0 l0b23 l1b23 0 h hW hS (lv_sub hl [0, 1] rfl)
set_option maxHeartbeats 1000000 in
set_option maxRecDepth 20000 in
theorem l_Mo_serve_e {p : Program} {l : Launch} {e : Env} {s : State} {m : MethodId} {args : Array Value} {below : List Frame} {meth : Method} {c : Code} {D : va_G} {ca G : Nat → Nat} {A : Nat → Prop} (C0 : hC p s m args meth c D ca G prog_7_method_17_code 5 (none) "ChannelHallModel" A) {post : hM → Prop} {M : hM} {H : Heap} {locs : List Loc} {ls : Array Slot} (a0 : Nat) (x1 : Int32) (h : wp_Mo_serve G ca post M a0 x1) (hW : hw D wCl A M H) (hS : va_S A s.heap H locs) (hl : lv_has ls 5 [(0, .ref a0), (1, .int x1)]) : W p l e rm_Mo_serve s m args below meth c H locs 0 0 (MQ below (va_Qv post (fun M' t => hw D wCl A M' t.heap) A) args s 0 0 A) (F0 m 0 ls []) := by
  obtain ⟨hx, hb, hr, hml, hown, hts, hlocks, hK, hA, hZ0⟩ := id C0
  refine lv_aload_n hx hb d_Mo_serve_0 rfl (lv_at hl 0 rfl) ?_
  obtain ⟨fs, v93, h1, h2, h⟩ := h
  refine va_get (D := D) (ci := 5) (v := va_rf v93) (C := "ChannelHallModel") (T := TMo) (N := 26) hx hb hts uMo hown hK (hw_one hW h1) 0 rfl rfl 13 (by decide) (hts _ bw_987) (fun _ h9 => h9) h2 d_Mo_serve_1 ?_
  refine lv_iload_n hx hb d_Mo_serve_4 rfl (lv_at hl 1 rfl) ?_
  obtain ⟨b94, rfl, h⟩ := h
  obtain ⟨n, f, h1, h2, h⟩ := h
  refine va_iald hx hb hK (hw_one hW h1) 0 5 rfl rfl h2 d_Mo_serve_5 ?_
  generalize f (x1).toNatClampNeg = v95 at h ⊢
  obtain ⟨h0, h1⟩ := h
  refine lv_if_lt (tgt := 23) hx hb d_Mo_serve_6 (by decide) (fun c96 => ?_) (fun c96 => ?_)
  · have h := h0 c96
    exact l_Mo_serve_23 C0 a0 x1 h hW hS (lv_sub hl [0, 1] rfl)
  · have h := h1 c96
    refine lv_aload_n hx hb d_Mo_serve_9 rfl (lv_at hl 0 rfl) ?_
    obtain ⟨fs, v97, h1, h2, h⟩ := h
    refine va_get (D := D) (ci := 5) (v := va_rf v97) (C := "ChannelHallModel") (T := TMo) (N := 26) hx hb hts uMo hown hK (hw_one hW h1) 0 rfl rfl 13 (by decide) (hts _ bw_987) (fun _ h9 => h9) h2 d_Mo_serve_10 ?_
    refine lv_iload_n hx hb d_Mo_serve_13 rfl (lv_at hl 1 rfl) ?_
    obtain ⟨b98, rfl, h⟩ := h
    obtain ⟨n, f, h1, h2, h⟩ := h
    refine va_iald hx hb hK (hw_one hW h1) 0 5 rfl rfl h2 d_Mo_serve_14 ?_
    generalize f (x1).toNatClampNeg = v99 at h ⊢
    refine lv_iconst (v := 5) hx hb d_Mo_serve_15 (by decide) ?_
    obtain ⟨h0, h1⟩ := h
    refine lv_icmp_ge (tgt := 23) hx hb d_Mo_serve_16 (by decide) (fun c100 => ?_) (fun c100 => ?_)
    · have h := h0 c100
      exact l_Mo_serve_23 C0 a0 x1 h hW hS (lv_sub hl [0, 1] rfl)
    · have h := h1 c100
      refine lv_iconst (v := 1) hx hb d_Mo_serve_19 (by decide) ?_
      refine lv_goto (tgt := 24) hx hb d_Mo_serve_20 (by decide) ?_
      exact l_Mo_serve_24 C0 a0 x1 1 h hW hS (lv_sub hl [0, 1] rfl)
set_option maxRecDepth 20000 in
theorem c_Mo_serve {l : Launch} {D : va_G} {ca G : Nat → Nat} (post : hM → Prop) {M : hM} {sz : Nat} {a0 : Nat} {x1 : Int32} (h : wp_Mo_serve G ca post M a0 x1) : Met l y_Mo_serve (wz y_Mo_serve prog_7_method_17_code 5 (none)) rm_Mo_serve (va_Pc [.ref a0, .int x1] (hI D ca G sz M)) (va_Qv post (hB D M sz) (hp_A M sz)) 0 0 (hp_A M sz) := by
  refine Met.ofW (cc := prog_7_method_17_code) (maxL := 5) (ret := none) (by decide) rfl ?_
  intro p e s m args below meth c s₁ B hml hv
  obtain ⟨rfl, hsz, hW, hK, hZ0⟩ := hv
  have hts := fun w hw => atoms_spec (ws := wz y_Mo_serve prog_7_method_17_code 5 (none)) B.pre w (List.mem_cons_of_mem _ hw)
  have hown : s.vm.findClass "ChannelHallModel" = some m.cls := findClass_of_methodNamed B.named
  subst hsz
  have hl := lv_entry [.ref a0, .int x1] (n := 5) (Nat.le_of_ble_eq_true rfl)
  rw [lg_entry_eq]
  exact l_Mo_serve_e ⟨B.exec, B.bytes, B.returns, hml, hown, hts, B.notSynchronized, hK, fun q h => Or.inr h, hZ0⟩ a0 x1 h hW va_S.rf hl

theorem d_Mo_leave_0 : decode prog_7_method_11_code 0 = .ok (.aload_n 0, 1) := by decide +kernel
theorem d_Mo_leave_1 : decode prog_7_method_11_code 1 = .ok (.getfield 26, 3) := by decide +kernel
theorem d_Mo_leave_4 : decode prog_7_method_11_code 4 = .ok (.iload_n 1, 1) := by decide +kernel
theorem d_Mo_leave_5 : decode prog_7_method_11_code 5 = .ok (.iaload, 1) := by decide +kernel
theorem d_Mo_leave_6 : decode prog_7_method_11_code 6 = .ok (.istore_n 3, 1) := by decide +kernel
theorem d_Mo_leave_7 : decode prog_7_method_11_code 7 = .ok (.aload_n 0, 1) := by decide +kernel
theorem d_Mo_leave_8 : decode prog_7_method_11_code 8 = .ok (.iload_n 1, 1) := by decide +kernel
theorem d_Mo_leave_9 : decode prog_7_method_11_code 9 = .ok (.iload_n 2, 1) := by decide +kernel
theorem d_Mo_leave_10 : decode prog_7_method_11_code 10 = .ok (.invokevirtual 106, 3) := by decide +kernel
theorem d_Mo_leave_13 : decode prog_7_method_11_code 13 = .ok (.aload_n 0, 1) := by decide +kernel
theorem d_Mo_leave_14 : decode prog_7_method_11_code 14 = .ok (.getfield 45, 3) := by decide +kernel
theorem d_Mo_leave_17 : decode prog_7_method_11_code 17 = .ok (.iload_n 3, 1) := by decide +kernel
theorem d_Mo_leave_18 : decode prog_7_method_11_code 18 = .ok (.iaload, 1) := by decide +kernel
theorem d_Mo_leave_19 : decode prog_7_method_11_code 19 = .ok (.bipush 6, 2) := by decide +kernel
theorem d_Mo_leave_21 : decode prog_7_method_11_code 21 = .ok (.if_icmp .ne 16, 3) := by decide +kernel
theorem d_Mo_leave_24 : decode prog_7_method_11_code 24 = .ok (.aload_n 0, 1) := by decide +kernel
theorem d_Mo_leave_25 : decode prog_7_method_11_code 25 = .ok (.getfield 51, 3) := by decide +kernel
theorem d_Mo_leave_28 : decode prog_7_method_11_code 28 = .ok (.iload_n 3, 1) := by decide +kernel
theorem d_Mo_leave_29 : decode prog_7_method_11_code 29 = .ok (.iconst 1, 1) := by decide +kernel
theorem d_Mo_leave_30 : decode prog_7_method_11_code 30 = .ok (.bastore, 1) := by decide +kernel
theorem d_Mo_leave_31 : decode prog_7_method_11_code 31 = .ok (.aload_n 0, 1) := by decide +kernel
theorem d_Mo_leave_32 : decode prog_7_method_11_code 32 = .ok (.iload_n 3, 1) := by decide +kernel
theorem d_Mo_leave_33 : decode prog_7_method_11_code 33 = .ok (.iconst 4, 1) := by decide +kernel
theorem d_Mo_leave_34 : decode prog_7_method_11_code 34 = .ok (.invokevirtual 110, 3) := by decide +kernel
theorem d_Mo_leave_37 : decode prog_7_method_11_code 37 = .ok (.aload_n 0, 1) := by decide +kernel
theorem d_Mo_leave_38 : decode prog_7_method_11_code 38 = .ok (.iload_n 3, 1) := by decide +kernel
theorem d_Mo_leave_39 : decode prog_7_method_11_code 39 = .ok (.invokevirtual 113, 3) := by decide +kernel
theorem d_Mo_leave_42 : decode prog_7_method_11_code 42 = .ok (.return_, 1) := by decide +kernel
def y_Mo_leave : MethodName := ⟨"ChannelHallModel", "leave", "(II)V"⟩
abbrev rm_Mo_leave : Room := { frames := 3, cells := 0, slots := 0, locals := 74 }
def wp_Mo_leave_37 (G ca : Nat → Nat) (post : hM → Prop) (M : hM) (l0b37 : Nat) (l3b37 : Int32) : Prop := rC M l0b37 5 (wp_Mo_serve G ca (fun M14 => post M14) M l0b37 l3b37)
def wp_Mo_leave (G ca : Nat → Nat) (post : hM → Prop) (M : hM) (a0 : Nat) (x1 : Int32) (x2 : Int32) : Prop := gR M a0 5 6 fun v15 => nN v15 fun b16 => aI M b16 (ca 5) x1 fun v17 => rC M a0 5 (wp_Mo_free G ca (fun M18 => gR M18 a0 5 13 fun v19 => nN v19 fun b20 => aI M18 b20 (ca 5) v17 fun v21 => (¬ v21 = 6 → wp_Mo_leave_37 G ca post M18 a0 v17) ∧ (v21 = 6 → gR M18 a0 5 15 fun v23 => nN v23 fun b24 => bZ 1 (sI M18 b24 (ca 6) v17 1 fun M25 => rC M25 a0 5 (wp_Mo_freeAll G ca (fun M26 => wp_Mo_leave_37 G ca post M26 a0 v17) M25 a0 v17 4)))) M a0 x1 x2)
set_option maxHeartbeats 1000000 in
set_option maxRecDepth 20000 in
theorem l_Mo_leave_37 {p : Program} {l : Launch} {e : Env} {s : State} {m : MethodId} {args : Array Value} {below : List Frame} {meth : Method} {c : Code} {D : va_G} {ca G : Nat → Nat} {A : Nat → Prop} (C0 : hC p s m args meth c D ca G prog_7_method_11_code 4 (none) "ChannelHallModel" A) {post : hM → Prop} {M : hM} {H : Heap} {locs : List Loc} {ls : Array Slot} (l0b37 : Nat) (l3b37 : Int32) (h : wp_Mo_leave_37 G ca post M l0b37 l3b37) (hW : hw D wCl A M H) (hS : va_S A s.heap H locs) (hl : lv_has ls 4 [(0, .ref l0b37), (3, .int l3b37)]) : W p l e rm_Mo_leave s m args below meth c H locs 0 0 (MQ below (va_Qv post (fun M' t => hw D wCl A M' t.heap) A) args s 0 0 A) (F0 m 37 ls []) := by
  obtain ⟨hx, hb, hr, hml, hown, hts, hlocks, hK, hA, hZ0⟩ := id C0
  refine lv_aload_n hx hb d_Mo_leave_37 rfl (lv_at hl 0 rfl) ?_
  refine lv_iload_n hx hb d_Mo_leave_38 rfl (lv_at hl 1 rfl) ?_
  obtain ⟨⟨fs, h1⟩, h⟩ := h
  have h9 := h
  clear h
  have hF := hW.free hS hA
  refine va_callv (va_runV (As := [.int l3b37]) (rest := []) ⟨hx, hb, hml, hown, hts⟩ (c_Mo_serve _ h9) (cwV 1 hts (gi_V bw_1118 bw_1120 bs_31 bw_5 bw_1121) rfl rfl rfl (by decide +kernel) ⟨Nat.le_of_ble_eq_true rfl, Nat.le_of_ble_eq_true rfl⟩) ⟨hI.blind, hw_recv hK hW h1 rfl, hI.give hW hS hA hK hZ0⟩ rfl rfl hl.1 rfl (lv_room (Nat.le_of_ble_eq_true rfl)) d_Mo_leave_39 ⟨(show _ ≤ 0 by omega), (show _ ≤ 0 by omega)⟩) hS (fun q _ z => hF q z) hF (fun M14 t H locs ht _ h hB1 _ _ hS => ?_)
  have hW := hw_back hF ht hB1
  clear h9
  exact W.vret hx hb hr (fun t ht hWm => ⟨⟨_, rfl, h, hw_t ht hW⟩, hS.F ht⟩) hS.2.2 d_Mo_leave_42
set_option maxHeartbeats 1000000 in
set_option maxRecDepth 20000 in
theorem l_Mo_leave_e {p : Program} {l : Launch} {e : Env} {s : State} {m : MethodId} {args : Array Value} {below : List Frame} {meth : Method} {c : Code} {D : va_G} {ca G : Nat → Nat} {A : Nat → Prop} (C0 : hC p s m args meth c D ca G prog_7_method_11_code 4 (none) "ChannelHallModel" A) {post : hM → Prop} {M : hM} {H : Heap} {locs : List Loc} {ls : Array Slot} (a0 : Nat) (x1 : Int32) (x2 : Int32) (h : wp_Mo_leave G ca post M a0 x1 x2) (hW : hw D wCl A M H) (hS : va_S A s.heap H locs) (hl : lv_has ls 4 [(0, .ref a0), (1, .int x1), (2, .int x2)]) : W p l e rm_Mo_leave s m args below meth c H locs 0 0 (MQ below (va_Qv post (fun M' t => hw D wCl A M' t.heap) A) args s 0 0 A) (F0 m 0 ls []) := by
  obtain ⟨hx, hb, hr, hml, hown, hts, hlocks, hK, hA, hZ0⟩ := id C0
  refine lv_aload_n hx hb d_Mo_leave_0 rfl (lv_at hl 0 rfl) ?_
  obtain ⟨fs, v15, h1, h2, h⟩ := h
  refine va_get (D := D) (ci := 5) (v := va_rf v15) (C := "ChannelHallModel") (T := TMo) (N := 26) hx hb hts uMo hown hK (hw_one hW h1) 0 rfl rfl 6 (by decide) (hts _ bw_980) (fun _ h9 => h9) h2 d_Mo_leave_1 ?_
  refine lv_iload_n hx hb d_Mo_leave_4 rfl (lv_at hl 1 rfl) ?_
  obtain ⟨b16, rfl, h⟩ := h
  obtain ⟨n, f, h1, h2, h⟩ := h
  refine va_iald hx hb hK (hw_one hW h1) 0 5 rfl rfl h2 d_Mo_leave_5 ?_
  generalize f (x1).toNatClampNeg = v17 at h ⊢
  refine lv_istore_n (lv' := [(3, .int v17), (0, .ref a0), (1, .int x1), (2, .int x2)]) hx hb d_Mo_leave_6 rfl hl (by decide) rfl (fun ls hl => ?_)
  refine lv_aload_n hx hb d_Mo_leave_7 rfl (lv_at hl 1 rfl) ?_
  refine lv_iload_n hx hb d_Mo_leave_8 rfl (lv_at hl 2 rfl) ?_
  refine lv_iload_n hx hb d_Mo_leave_9 rfl (lv_at hl 3 rfl) ?_
  obtain ⟨⟨fs, h1⟩, h⟩ := h
  have h9 := h
  clear h
  have hF := hW.free hS hA
  refine va_callv (va_runV (As := [.int x1, .int x2]) (rest := []) ⟨hx, hb, hml, hown, hts⟩ (c_Mo_free _ h9) (cwV 2 hts (gi_V bw_1106 bw_1108 bs_28 bw_5 bw_1109) rfl rfl rfl (by decide +kernel) ⟨Nat.le_of_ble_eq_true rfl, Nat.le_of_ble_eq_true rfl⟩) ⟨hI.blind, hw_recv hK hW h1 rfl, hI.give hW hS hA hK hZ0⟩ rfl rfl hl.1 rfl (lv_room (Nat.le_of_ble_eq_true rfl)) d_Mo_leave_10 ⟨(show _ ≤ 0 by omega), (show _ ≤ 0 by omega)⟩) hS (fun q _ z => hF q z) hF (fun M18 t H locs ht _ h hB1 _ _ hS => ?_)
  have hW := hw_back hF ht hB1
  clear h9
  refine lv_aload_n hx hb d_Mo_leave_13 rfl (lv_at hl 1 rfl) ?_
  obtain ⟨fs, v19, h1, h2, h⟩ := h
  refine va_get (D := D) (ci := 5) (v := va_rf v19) (C := "ChannelHallModel") (T := TMo) (N := 26) hx hb hts uMo hown hK (hw_one hW h1) 0 rfl rfl 13 (by decide) (hts _ bw_987) (fun _ h9 => h9) h2 d_Mo_leave_14 ?_
  refine lv_iload_n hx hb d_Mo_leave_17 rfl (lv_at hl 0 rfl) ?_
  obtain ⟨b20, rfl, h⟩ := h
  obtain ⟨n, f, h1, h2, h⟩ := h
  refine va_iald hx hb hK (hw_one hW h1) 0 5 rfl rfl h2 d_Mo_leave_18 ?_
  generalize f (v17).toNatClampNeg = v21 at h ⊢
  refine lv_bipush (v := 6) hx hb d_Mo_leave_19 (by decide) ?_
  obtain ⟨h0, h1⟩ := h
  refine lv_icmp_ne (tgt := 37) hx hb d_Mo_leave_21 (by decide) (fun c22 => ?_) (fun c22 => ?_)
  · have h := h0 c22
    exact l_Mo_leave_37 C0 a0 v17 h hW hS (lv_sub hl [1, 0] rfl)
  · have h := h1 c22
    refine lv_aload_n hx hb d_Mo_leave_24 rfl (lv_at hl 1 rfl) ?_
    obtain ⟨fs, v23, h1, h2, h⟩ := h
    refine va_get (D := D) (ci := 5) (v := va_rf v23) (C := "ChannelHallModel") (T := TMo) (N := 26) hx hb hts uMo hown hK (hw_one hW h1) 0 rfl rfl 15 (by decide) (hts _ bw_989) (fun _ h9 => h9) h2 d_Mo_leave_25 ?_
    refine lv_iload_n hx hb d_Mo_leave_28 rfl (lv_at hl 0 rfl) ?_
    refine lv_iconst (v := 1) hx hb d_Mo_leave_29 (by decide) ?_
    obtain ⟨b24, rfl, h⟩ := h
    obtain ⟨hz, n, f, h1, h2, h⟩ := h
    obtain ⟨ws, q0, hq, hP, hD, hback, -⟩ := hw_open hW h1
    refine va_zast (x := 1) hx hb hK hP hD hS q0 6 hq rfl h2 d_Mo_leave_30 (fun H locs hP hD hS => ?_)
    rw [nb_v hz] at hP hD
    have hW := hback _ _ hP hD
    generalize hM2 : va_up M18 b24 _ = M25 at h hW
    refine lv_aload_n hx hb d_Mo_leave_31 rfl (lv_at hl 1 rfl) ?_
    refine lv_iload_n hx hb d_Mo_leave_32 rfl (lv_at hl 0 rfl) ?_
    refine lv_iconst (v := 4) hx hb d_Mo_leave_33 (by decide) ?_
    obtain ⟨⟨fs, h1⟩, h⟩ := h
    have h9 := h
    clear h
    have hF := hW.free hS hA
    refine va_callv (va_runV (As := [.int v17, .int 4]) (rest := []) ⟨hx, hb, hml, hown, hts⟩ (c_Mo_freeAll _ h9) (cwV 2 hts (gi_V bw_1142 bw_1144 bs_34 bw_5 bw_1145) rfl rfl rfl (by decide +kernel) ⟨Nat.le_of_ble_eq_true rfl, Nat.le_of_ble_eq_true rfl⟩) ⟨hI.blind, hw_recv hK hW h1 rfl, hI.give hW hS hA hK hZ0⟩ rfl rfl hl.1 rfl (lv_room (Nat.le_of_ble_eq_true rfl)) d_Mo_leave_34 ⟨(show _ ≤ 0 by omega), (show _ ≤ 0 by omega)⟩) hS (fun q _ z => hF q z) hF (fun M26 t H locs ht _ h hB1 _ _ hS => ?_)
    have hW := hw_back hF ht hB1
    clear h9
    exact l_Mo_leave_37 C0 a0 v17 h hW hS (lv_sub hl [1, 0] rfl)
set_option maxRecDepth 20000 in
theorem c_Mo_leave {l : Launch} {D : va_G} {ca G : Nat → Nat} (post : hM → Prop) {M : hM} {sz : Nat} {a0 : Nat} {x1 : Int32} {x2 : Int32} (h : wp_Mo_leave G ca post M a0 x1 x2) : Met l y_Mo_leave (wz y_Mo_leave prog_7_method_11_code 4 (none)) rm_Mo_leave (va_Pc [.ref a0, .int x1, .int x2] (hI D ca G sz M)) (va_Qv post (hB D M sz) (hp_A M sz)) 0 0 (hp_A M sz) := by
  refine Met.ofW (cc := prog_7_method_11_code) (maxL := 4) (ret := none) (by decide) rfl ?_
  intro p e s m args below meth c s₁ B hml hv
  obtain ⟨rfl, hsz, hW, hK, hZ0⟩ := hv
  have hts := fun w hw => atoms_spec (ws := wz y_Mo_leave prog_7_method_11_code 4 (none)) B.pre w (List.mem_cons_of_mem _ hw)
  have hown : s.vm.findClass "ChannelHallModel" = some m.cls := findClass_of_methodNamed B.named
  subst hsz
  have hl := lv_entry [.ref a0, .int x1, .int x2] (n := 4) (Nat.le_of_ble_eq_true rfl)
  rw [lg_entry_eq]
  exact l_Mo_leave_e ⟨B.exec, B.bytes, B.returns, hml, hown, hts, B.notSynchronized, hK, fun q h => Or.inr h, hZ0⟩ a0 x1 x2 h hW va_S.rf hl

theorem d_Mo_badLimit_0 : decode prog_7_method_18_code 0 = .ok (.dload_n 1, 1) := by decide +kernel
theorem d_Mo_badLimit_1 : decode prog_7_method_18_code 1 = .ok (.ldc2_w 84, 3) := by decide +kernel
theorem d_Mo_badLimit_4 : decode prog_7_method_18_code 4 = .ok (.dcmp .l, 1) := by decide +kernel
theorem d_Mo_badLimit_5 : decode prog_7_method_18_code 5 = .ok (.ifCond .lt 11, 3) := by decide +kernel
theorem d_Mo_badLimit_8 : decode prog_7_method_18_code 8 = .ok (.dload_n 1, 1) := by decide +kernel
theorem d_Mo_badLimit_9 : decode prog_7_method_18_code 9 = .ok (.ldc2_w 138, 3) := by decide +kernel
theorem d_Mo_badLimit_12 : decode prog_7_method_18_code 12 = .ok (.dcmp .g, 1) := by decide +kernel
theorem d_Mo_badLimit_13 : decode prog_7_method_18_code 13 = .ok (.ifCond .le 7, 3) := by decide +kernel
theorem d_Mo_badLimit_16 : decode prog_7_method_18_code 16 = .ok (.iconst 1, 1) := by decide +kernel
theorem d_Mo_badLimit_17 : decode prog_7_method_18_code 17 = .ok (.goto 4, 3) := by decide +kernel
theorem d_Mo_badLimit_20 : decode prog_7_method_18_code 20 = .ok (.iconst 0, 1) := by decide +kernel
theorem d_Mo_badLimit_21 : decode prog_7_method_18_code 21 = .ok (.ireturn, 1) := by decide +kernel
def y_Mo_badLimit : MethodName := ⟨"ChannelHallModel", "badLimit", "(D)Z"⟩
abbrev rm_Mo_badLimit : Room := { frames := 0, cells := 0, slots := 0, locals := 0 }
def wp_Mo_badLimit_21 (G ca : Nat → Nat) (post : Int32 → hM → Prop) (M : hM) (s0b21 : Int32) : Prop := bZ s0b21 (post s0b21 M)
def wp_Mo_badLimit_16 (G ca : Nat → Nat) (post : Int32 → hM → Prop) (M : hM)  : Prop := wp_Mo_badLimit_21 G ca post M 1
def wp_Mo_badLimit (G ca : Nat → Nat) (post : Int32 → hM → Prop) (M : hM) (a0 : Nat) (x1 : UInt64) : Prop := ((Op.cmpValue (FP.dcmp x1 13830554455654793216) .l) < 0 → wp_Mo_badLimit_16 G ca post M) ∧ (¬ (Op.cmpValue (FP.dcmp x1 13830554455654793216) .l) < 0 → ((Op.cmpValue (FP.dcmp x1 4652007308841189376) .g) ≤ 0 → wp_Mo_badLimit_21 G ca post M 0) ∧ (¬ (Op.cmpValue (FP.dcmp x1 4652007308841189376) .g) ≤ 0 → wp_Mo_badLimit_16 G ca post M))
set_option maxHeartbeats 1000000 in
set_option maxRecDepth 20000 in
theorem l_Mo_badLimit_21 {p : Program} {l : Launch} {e : Env} {s : State} {m : MethodId} {args : Array Value} {below : List Frame} {meth : Method} {c : Code} {D : va_G} {ca G : Nat → Nat} {A : Nat → Prop} (C0 : hC p s m args meth c D ca G prog_7_method_18_code 3 (some .boolean) "ChannelHallModel" A) {post : Int32 → hM → Prop} {M : hM} {H : Heap} {locs : List Loc} {ls : Array Slot} (s0b21 : Int32) (h : wp_Mo_badLimit_21 G ca post M s0b21) (hW : hw D wCl A M H) (hS : va_S A s.heap H locs) (hl : lv_has ls 3 []) : W p l e rm_Mo_badLimit s m args below meth c H locs 0 0 (MQ below (va_Qi post (fun M' t => hw D wCl A M' t.heap) A) args s 0 0 A) (F0 m 21 ls [.int s0b21]) := by
  obtain ⟨hx, hb, hr, hml, hown, hts, hlocks, hK, hA, hZ0⟩ := id C0
  obtain ⟨hz, h⟩ := h
  exact W.zret hx hb hr (nb_n hz) (fun t ht hWm => ⟨⟨_, _, rfl, h, hw_t ht hW⟩, hS.F ht⟩) hS.2.2 d_Mo_badLimit_21
set_option maxHeartbeats 1000000 in
set_option maxRecDepth 20000 in
theorem l_Mo_badLimit_16 {p : Program} {l : Launch} {e : Env} {s : State} {m : MethodId} {args : Array Value} {below : List Frame} {meth : Method} {c : Code} {D : va_G} {ca G : Nat → Nat} {A : Nat → Prop} (C0 : hC p s m args meth c D ca G prog_7_method_18_code 3 (some .boolean) "ChannelHallModel" A) {post : Int32 → hM → Prop} {M : hM} {H : Heap} {locs : List Loc} {ls : Array Slot}  (h : wp_Mo_badLimit_16 G ca post M) (hW : hw D wCl A M H) (hS : va_S A s.heap H locs) (hl : lv_has ls 3 []) : W p l e rm_Mo_badLimit s m args below meth c H locs 0 0 (MQ below (va_Qi post (fun M' t => hw D wCl A M' t.heap) A) args s 0 0 A) (F0 m 16 ls []) := by
  obtain ⟨hx, hb, hr, hml, hown, hts, hlocks, hK, hA, hZ0⟩ := id C0
  refine lv_iconst (v := 1) hx hb d_Mo_badLimit_16 (by decide) ?_
  refine lv_goto (tgt := 21) hx hb d_Mo_badLimit_17 (by decide) ?_
  exact l_Mo_badLimit_21 C0 1 h hW hS (lv_sub hl [] rfl)
set_option maxHeartbeats 1000000 in
set_option maxRecDepth 20000 in
theorem l_Mo_badLimit_e {p : Program} {l : Launch} {e : Env} {s : State} {m : MethodId} {args : Array Value} {below : List Frame} {meth : Method} {c : Code} {D : va_G} {ca G : Nat → Nat} {A : Nat → Prop} (C0 : hC p s m args meth c D ca G prog_7_method_18_code 3 (some .boolean) "ChannelHallModel" A) {post : Int32 → hM → Prop} {M : hM} {H : Heap} {locs : List Loc} {ls : Array Slot} (a0 : Nat) (x1 : UInt64) (h : wp_Mo_badLimit G ca post M a0 x1) (hW : hw D wCl A M H) (hS : va_S A s.heap H locs) (hl : lv_has ls 3 [(0, .ref a0), (1, .double x1)]) : W p l e rm_Mo_badLimit s m args below meth c H locs 0 0 (MQ below (va_Qi post (fun M' t => hw D wCl A M' t.heap) A) args s 0 0 A) (F0 m 0 ls []) := by
  obtain ⟨hx, hb, hr, hml, hown, hts, hlocks, hK, hA, hZ0⟩ := id C0
  refine lv_dload_n hx hb d_Mo_badLimit_0 rfl (lv_at hl 1 rfl) ?_
  refine lv_ldc2d (v := 13830554455654793216) hx hb hown (hts _ bw_973) d_Mo_badLimit_1 ?_
  refine lv_dcmp hx hb d_Mo_badLimit_4 ?_
  obtain ⟨h0, h1⟩ := h
  refine lv_if_lt (tgt := 16) hx hb d_Mo_badLimit_5 (by decide) (fun c3 => ?_) (fun c3 => ?_)
  · have h := h0 c3
    exact l_Mo_badLimit_16 C0  h hW hS (lv_sub hl [] rfl)
  · have h := h1 c3
    refine lv_dload_n hx hb d_Mo_badLimit_8 rfl (lv_at hl 1 rfl) ?_
    refine lv_ldc2d (v := 4652007308841189376) hx hb hown (hts _ bw_1077) d_Mo_badLimit_9 ?_
    refine lv_dcmp hx hb d_Mo_badLimit_12 ?_
    obtain ⟨h0, h1⟩ := h
    refine lv_if_le (tgt := 20) hx hb d_Mo_badLimit_13 (by decide) (fun c4 => ?_) (fun c4 => ?_)
    · have h := h0 c4
      refine lv_iconst (v := 0) hx hb d_Mo_badLimit_20 (by decide) ?_
      exact l_Mo_badLimit_21 C0 0 h hW hS (lv_sub hl [] rfl)
    · have h := h1 c4
      exact l_Mo_badLimit_16 C0  h hW hS (lv_sub hl [] rfl)
set_option maxRecDepth 20000 in
theorem c_Mo_badLimit {l : Launch} {D : va_G} {ca G : Nat → Nat} (post : Int32 → hM → Prop) {M : hM} {sz : Nat} {a0 : Nat} {x1 : UInt64} (h : wp_Mo_badLimit G ca post M a0 x1) : Met l y_Mo_badLimit (wz y_Mo_badLimit prog_7_method_18_code 3 (some .boolean)) rm_Mo_badLimit (va_Pc [.ref a0, .double x1] (hI D ca G sz M)) (va_Qi post (hB D M sz) (hp_A M sz)) 0 0 (hp_A M sz) := by
  refine Met.ofW (cc := prog_7_method_18_code) (maxL := 3) (ret := some .boolean) (by decide) rfl ?_
  intro p e s m args below meth c s₁ B hml hv
  obtain ⟨rfl, hsz, hW, hK, hZ0⟩ := hv
  have hts := fun w hw => atoms_spec (ws := wz y_Mo_badLimit prog_7_method_18_code 3 (some .boolean)) B.pre w (List.mem_cons_of_mem _ hw)
  have hown : s.vm.findClass "ChannelHallModel" = some m.cls := findClass_of_methodNamed B.named
  subst hsz
  have hl := lv_entry [.ref a0, .double x1] (n := 3) (Nat.le_of_ble_eq_true rfl)
  rw [lg_entry_eq]
  exact l_Mo_badLimit_e ⟨B.exec, B.bytes, B.returns, hml, hown, hts, B.notSynchronized, hK, fun q h => Or.inr h, hZ0⟩ a0 x1 h hW va_S.rf hl

theorem d_Mo_check_0 : decode prog_7_method_19_code 0 = .ok (.aload_n 0, 1) := by decide +kernel
theorem d_Mo_check_1 : decode prog_7_method_19_code 1 = .ok (.getfield 45, 3) := by decide +kernel
theorem d_Mo_check_4 : decode prog_7_method_19_code 4 = .ok (.iload_n 2, 1) := by decide +kernel
theorem d_Mo_check_5 : decode prog_7_method_19_code 5 = .ok (.iaload, 1) := by decide +kernel
theorem d_Mo_check_6 : decode prog_7_method_19_code 6 = .ok (.ifCond .ge 5, 3) := by decide +kernel
theorem d_Mo_check_9 : decode prog_7_method_19_code 9 = .ok (.iconst 2, 1) := by decide +kernel
theorem d_Mo_check_10 : decode prog_7_method_19_code 10 = .ok (.ireturn, 1) := by decide +kernel
theorem d_Mo_check_11 : decode prog_7_method_19_code 11 = .ok (.aload_n 0, 1) := by decide +kernel
theorem d_Mo_check_12 : decode prog_7_method_19_code 12 = .ok (.getfield 7, 3) := by decide +kernel
theorem d_Mo_check_15 : decode prog_7_method_19_code 15 = .ok (.iload_n 1, 1) := by decide +kernel
theorem d_Mo_check_16 : decode prog_7_method_19_code 16 = .ok (.baload, 1) := by decide +kernel
theorem d_Mo_check_17 : decode prog_7_method_19_code 17 = .ok (.ifCond .eq 5, 3) := by decide +kernel
theorem d_Mo_check_20 : decode prog_7_method_19_code 20 = .ok (.iconst 3, 1) := by decide +kernel
theorem d_Mo_check_21 : decode prog_7_method_19_code 21 = .ok (.ireturn, 1) := by decide +kernel
theorem d_Mo_check_22 : decode prog_7_method_19_code 22 = .ok (.aload_n 0, 1) := by decide +kernel
theorem d_Mo_check_23 : decode prog_7_method_19_code 23 = .ok (.getfield 45, 3) := by decide +kernel
theorem d_Mo_check_26 : decode prog_7_method_19_code 26 = .ok (.iload_n 2, 1) := by decide +kernel
theorem d_Mo_check_27 : decode prog_7_method_19_code 27 = .ok (.iaload, 1) := by decide +kernel
theorem d_Mo_check_28 : decode prog_7_method_19_code 28 = .ok (.iload_n 3, 1) := by decide +kernel
theorem d_Mo_check_29 : decode prog_7_method_19_code 29 = .ok (.if_icmp .lt 14, 3) := by decide +kernel
theorem d_Mo_check_32 : decode prog_7_method_19_code 32 = .ok (.aload_n 0, 1) := by decide +kernel
theorem d_Mo_check_33 : decode prog_7_method_19_code 33 = .ok (.getfield 45, 3) := by decide +kernel
theorem d_Mo_check_36 : decode prog_7_method_19_code 36 = .ok (.iload_n 2, 1) := by decide +kernel
theorem d_Mo_check_37 : decode prog_7_method_19_code 37 = .ok (.iaload, 1) := by decide +kernel
theorem d_Mo_check_38 : decode prog_7_method_19_code 38 = .ok (.iload 4, 2) := by decide +kernel
theorem d_Mo_check_40 : decode prog_7_method_19_code 40 = .ok (.if_icmp .le 7, 3) := by decide +kernel
theorem d_Mo_check_43 : decode prog_7_method_19_code 43 = .ok (.iconst 4, 1) := by decide +kernel
theorem d_Mo_check_44 : decode prog_7_method_19_code 44 = .ok (.goto 4, 3) := by decide +kernel
theorem d_Mo_check_47 : decode prog_7_method_19_code 47 = .ok (.iconst 0, 1) := by decide +kernel
theorem d_Mo_check_48 : decode prog_7_method_19_code 48 = .ok (.ireturn, 1) := by decide +kernel
def y_Mo_check : MethodName := ⟨"ChannelHallModel", "check", "(IIII)I"⟩
abbrev rm_Mo_check : Room := { frames := 0, cells := 0, slots := 0, locals := 0 }
def wp_Mo_check_48 (G ca : Nat → Nat) (post : Int32 → hM → Prop) (M : hM) (s0b48 : Int32) : Prop := post s0b48 M
def wp_Mo_check_43 (G ca : Nat → Nat) (post : Int32 → hM → Prop) (M : hM)  : Prop := wp_Mo_check_48 G ca post M 4
def wp_Mo_check (G ca : Nat → Nat) (post : Int32 → hM → Prop) (M : hM) (a0 : Nat) (x1 : Int32) (x2 : Int32) (x3 : Int32) (x4 : Int32) : Prop := gR M a0 5 13 fun v17 => nN v17 fun b18 => aI M b18 (ca 5) x2 fun v19 => (0 ≤ v19 → gR M a0 5 1 fun v21 => nN v21 fun b22 => aI M b22 (ca 6) x1 fun v23 => (v23 = 0 → gR M a0 5 13 fun v25 => nN v25 fun b26 => aI M b26 (ca 5) x2 fun v27 => (v27 < x3 → wp_Mo_check_43 G ca post M) ∧ (¬ v27 < x3 → gR M a0 5 13 fun v29 => nN v29 fun b30 => aI M b30 (ca 5) x2 fun v31 => (v31 ≤ x4 → wp_Mo_check_48 G ca post M 0) ∧ (¬ v31 ≤ x4 → wp_Mo_check_43 G ca post M))) ∧ (¬ v23 = 0 → post 3 M)) ∧ (¬ 0 ≤ v19 → post 2 M)
set_option maxHeartbeats 1000000 in
set_option maxRecDepth 20000 in
theorem l_Mo_check_48 {p : Program} {l : Launch} {e : Env} {s : State} {m : MethodId} {args : Array Value} {below : List Frame} {meth : Method} {c : Code} {D : va_G} {ca G : Nat → Nat} {A : Nat → Prop} (C0 : hC p s m args meth c D ca G prog_7_method_19_code 5 (some .int) "ChannelHallModel" A) {post : Int32 → hM → Prop} {M : hM} {H : Heap} {locs : List Loc} {ls : Array Slot} (s0b48 : Int32) (h : wp_Mo_check_48 G ca post M s0b48) (hW : hw D wCl A M H) (hS : va_S A s.heap H locs) (hl : lv_has ls 5 []) : W p l e rm_Mo_check s m args below meth c H locs 0 0 (MQ below (va_Qi post (fun M' t => hw D wCl A M' t.heap) A) args s 0 0 A) (F0 m 48 ls [.int s0b48]) := by
  obtain ⟨hx, hb, hr, hml, hown, hts, hlocks, hK, hA, hZ0⟩ := id C0
  exact W.iret hx hb hr (fun t ht hWm => ⟨⟨_, _, rfl, h, hw_t ht hW⟩, hS.F ht⟩) hS.2.2 d_Mo_check_48
set_option maxHeartbeats 1000000 in
set_option maxRecDepth 20000 in
theorem l_Mo_check_43 {p : Program} {l : Launch} {e : Env} {s : State} {m : MethodId} {args : Array Value} {below : List Frame} {meth : Method} {c : Code} {D : va_G} {ca G : Nat → Nat} {A : Nat → Prop} (C0 : hC p s m args meth c D ca G prog_7_method_19_code 5 (some .int) "ChannelHallModel" A) {post : Int32 → hM → Prop} {M : hM} {H : Heap} {locs : List Loc} {ls : Array Slot}  (h : wp_Mo_check_43 G ca post M) (hW : hw D wCl A M H) (hS : va_S A s.heap H locs) (hl : lv_has ls 5 []) : W p l e rm_Mo_check s m args below meth c H locs 0 0 (MQ below (va_Qi post (fun M' t => hw D wCl A M' t.heap) A) args s 0 0 A) (F0 m 43 ls []) := by
  obtain ⟨hx, hb, hr, hml, hown, hts, hlocks, hK, hA, hZ0⟩ := id C0
  refine lv_iconst (v := 4) hx hb d_Mo_check_43 (by decide) ?_
  refine lv_goto (tgt := 48) hx hb d_Mo_check_44 (by decide) ?_
  exact l_Mo_check_48 C0 4 h hW hS (lv_sub hl [] rfl)
set_option maxHeartbeats 1000000 in
set_option maxRecDepth 20000 in
theorem l_Mo_check_e {p : Program} {l : Launch} {e : Env} {s : State} {m : MethodId} {args : Array Value} {below : List Frame} {meth : Method} {c : Code} {D : va_G} {ca G : Nat → Nat} {A : Nat → Prop} (C0 : hC p s m args meth c D ca G prog_7_method_19_code 5 (some .int) "ChannelHallModel" A) {post : Int32 → hM → Prop} {M : hM} {H : Heap} {locs : List Loc} {ls : Array Slot} (a0 : Nat) (x1 : Int32) (x2 : Int32) (x3 : Int32) (x4 : Int32) (h : wp_Mo_check G ca post M a0 x1 x2 x3 x4) (hW : hw D wCl A M H) (hS : va_S A s.heap H locs) (hl : lv_has ls 5 [(0, .ref a0), (1, .int x1), (2, .int x2), (3, .int x3), (4, .int x4)]) : W p l e rm_Mo_check s m args below meth c H locs 0 0 (MQ below (va_Qi post (fun M' t => hw D wCl A M' t.heap) A) args s 0 0 A) (F0 m 0 ls []) := by
  obtain ⟨hx, hb, hr, hml, hown, hts, hlocks, hK, hA, hZ0⟩ := id C0
  refine lv_aload_n hx hb d_Mo_check_0 rfl (lv_at hl 0 rfl) ?_
  obtain ⟨fs, v17, h1, h2, h⟩ := h
  refine va_get (D := D) (ci := 5) (v := va_rf v17) (C := "ChannelHallModel") (T := TMo) (N := 26) hx hb hts uMo hown hK (hw_one hW h1) 0 rfl rfl 13 (by decide) (hts _ bw_987) (fun _ h9 => h9) h2 d_Mo_check_1 ?_
  refine lv_iload_n hx hb d_Mo_check_4 rfl (lv_at hl 2 rfl) ?_
  obtain ⟨b18, rfl, h⟩ := h
  obtain ⟨n, f, h1, h2, h⟩ := h
  refine va_iald hx hb hK (hw_one hW h1) 0 5 rfl rfl h2 d_Mo_check_5 ?_
  generalize f (x2).toNatClampNeg = v19 at h ⊢
  obtain ⟨h0, h1⟩ := h
  refine lv_if_ge (tgt := 11) hx hb d_Mo_check_6 (by decide) (fun c20 => ?_) (fun c20 => ?_)
  · have h := h0 c20
    refine lv_aload_n hx hb d_Mo_check_11 rfl (lv_at hl 0 rfl) ?_
    obtain ⟨fs, v21, h1, h2, h⟩ := h
    refine va_get (D := D) (ci := 5) (v := va_rf v21) (C := "ChannelHallModel") (T := TMo) (N := 26) hx hb hts uMo hown hK (hw_one hW h1) 0 rfl rfl 1 (by decide) (hts _ bw_975) (fun _ h9 => h9) h2 d_Mo_check_12 ?_
    refine lv_iload_n hx hb d_Mo_check_15 rfl (lv_at hl 1 rfl) ?_
    obtain ⟨b22, rfl, h⟩ := h
    obtain ⟨n, f, h1, h2, h⟩ := h
    refine va_zald hx hb hK (hw_one hW h1) 0 6 rfl rfl h2 d_Mo_check_16 ?_
    generalize f (x1).toNatClampNeg = v23 at h ⊢
    obtain ⟨h0, h1⟩ := h
    refine lv_if_eq (tgt := 22) hx hb d_Mo_check_17 (by decide) (fun c24 => ?_) (fun c24 => ?_)
    · have h := h0 c24
      refine lv_aload_n hx hb d_Mo_check_22 rfl (lv_at hl 0 rfl) ?_
      obtain ⟨fs, v25, h1, h2, h⟩ := h
      refine va_get (D := D) (ci := 5) (v := va_rf v25) (C := "ChannelHallModel") (T := TMo) (N := 26) hx hb hts uMo hown hK (hw_one hW h1) 0 rfl rfl 13 (by decide) (hts _ bw_987) (fun _ h9 => h9) h2 d_Mo_check_23 ?_
      refine lv_iload_n hx hb d_Mo_check_26 rfl (lv_at hl 2 rfl) ?_
      obtain ⟨b26, rfl, h⟩ := h
      obtain ⟨n, f, h1, h2, h⟩ := h
      refine va_iald hx hb hK (hw_one hW h1) 0 5 rfl rfl h2 d_Mo_check_27 ?_
      generalize f (x2).toNatClampNeg = v27 at h ⊢
      refine lv_iload_n hx hb d_Mo_check_28 rfl (lv_at hl 3 rfl) ?_
      obtain ⟨h0, h1⟩ := h
      refine lv_icmp_lt (tgt := 43) hx hb d_Mo_check_29 (by decide) (fun c28 => ?_) (fun c28 => ?_)
      · have h := h0 c28
        exact l_Mo_check_43 C0  h hW hS (lv_sub hl [] rfl)
      · have h := h1 c28
        refine lv_aload_n hx hb d_Mo_check_32 rfl (lv_at hl 0 rfl) ?_
        obtain ⟨fs, v29, h1, h2, h⟩ := h
        refine va_get (D := D) (ci := 5) (v := va_rf v29) (C := "ChannelHallModel") (T := TMo) (N := 26) hx hb hts uMo hown hK (hw_one hW h1) 0 rfl rfl 13 (by decide) (hts _ bw_987) (fun _ h9 => h9) h2 d_Mo_check_33 ?_
        refine lv_iload_n hx hb d_Mo_check_36 rfl (lv_at hl 2 rfl) ?_
        obtain ⟨b30, rfl, h⟩ := h
        obtain ⟨n, f, h1, h2, h⟩ := h
        refine va_iald hx hb hK (hw_one hW h1) 0 5 rfl rfl h2 d_Mo_check_37 ?_
        generalize f (x2).toNatClampNeg = v31 at h ⊢
        refine lv_iload hx hb d_Mo_check_38 (lv_at hl 4 rfl) ?_
        obtain ⟨h0, h1⟩ := h
        refine lv_icmp_le (tgt := 47) hx hb d_Mo_check_40 (by decide) (fun c32 => ?_) (fun c32 => ?_)
        · have h := h0 c32
          refine lv_iconst (v := 0) hx hb d_Mo_check_47 (by decide) ?_
          exact l_Mo_check_48 C0 0 h hW hS (lv_sub hl [] rfl)
        · have h := h1 c32
          exact l_Mo_check_43 C0  h hW hS (lv_sub hl [] rfl)
    · have h := h1 c24
      refine lv_iconst (v := 3) hx hb d_Mo_check_20 (by decide) ?_
      exact W.iret hx hb hr (fun t ht hWm => ⟨⟨_, _, rfl, h, hw_t ht hW⟩, hS.F ht⟩) hS.2.2 d_Mo_check_21
  · have h := h1 c20
    refine lv_iconst (v := 2) hx hb d_Mo_check_9 (by decide) ?_
    exact W.iret hx hb hr (fun t ht hWm => ⟨⟨_, _, rfl, h, hw_t ht hW⟩, hS.F ht⟩) hS.2.2 d_Mo_check_10
set_option maxRecDepth 20000 in
theorem c_Mo_check {l : Launch} {D : va_G} {ca G : Nat → Nat} (post : Int32 → hM → Prop) {M : hM} {sz : Nat} {a0 : Nat} {x1 : Int32} {x2 : Int32} {x3 : Int32} {x4 : Int32} (h : wp_Mo_check G ca post M a0 x1 x2 x3 x4) : Met l y_Mo_check (wz y_Mo_check prog_7_method_19_code 5 (some .int)) rm_Mo_check (va_Pc [.ref a0, .int x1, .int x2, .int x3, .int x4] (hI D ca G sz M)) (va_Qi post (hB D M sz) (hp_A M sz)) 0 0 (hp_A M sz) := by
  refine Met.ofW (cc := prog_7_method_19_code) (maxL := 5) (ret := some .int) (by decide) rfl ?_
  intro p e s m args below meth c s₁ B hml hv
  obtain ⟨rfl, hsz, hW, hK, hZ0⟩ := hv
  have hts := fun w hw => atoms_spec (ws := wz y_Mo_check prog_7_method_19_code 5 (some .int)) B.pre w (List.mem_cons_of_mem _ hw)
  have hown : s.vm.findClass "ChannelHallModel" = some m.cls := findClass_of_methodNamed B.named
  subst hsz
  have hl := lv_entry [.ref a0, .int x1, .int x2, .int x3, .int x4] (n := 5) (Nat.le_of_ble_eq_true rfl)
  rw [lg_entry_eq]
  exact l_Mo_check_e ⟨B.exec, B.bytes, B.returns, hml, hown, hts, B.notSynchronized, hK, fun q h => Or.inr h, hZ0⟩ a0 x1 x2 x3 x4 h hW va_S.rf hl

theorem d_Mo_flagged_0 : decode prog_7_method_20_code 0 = .ok (.aload_n 0, 1) := by decide +kernel
theorem d_Mo_flagged_1 : decode prog_7_method_20_code 1 = .ok (.getfield 13, 3) := by decide +kernel
theorem d_Mo_flagged_4 : decode prog_7_method_20_code 4 = .ok (.iload_n 1, 1) := by decide +kernel
theorem d_Mo_flagged_5 : decode prog_7_method_20_code 5 = .ok (.baload, 1) := by decide +kernel
theorem d_Mo_flagged_6 : decode prog_7_method_20_code 6 = .ok (.ifCond .ne 5, 3) := by decide +kernel
theorem d_Mo_flagged_9 : decode prog_7_method_20_code 9 = .ok (.iconst 0, 1) := by decide +kernel
theorem d_Mo_flagged_10 : decode prog_7_method_20_code 10 = .ok (.ireturn, 1) := by decide +kernel
theorem d_Mo_flagged_11 : decode prog_7_method_20_code 11 = .ok (.aload_n 0, 1) := by decide +kernel
theorem d_Mo_flagged_12 : decode prog_7_method_20_code 12 = .ok (.getfield 13, 3) := by decide +kernel
theorem d_Mo_flagged_15 : decode prog_7_method_20_code 15 = .ok (.iload_n 1, 1) := by decide +kernel
theorem d_Mo_flagged_16 : decode prog_7_method_20_code 16 = .ok (.iconst 0, 1) := by decide +kernel
theorem d_Mo_flagged_17 : decode prog_7_method_20_code 17 = .ok (.bastore, 1) := by decide +kernel
theorem d_Mo_flagged_18 : decode prog_7_method_20_code 18 = .ok (.aload_n 0, 1) := by decide +kernel
theorem d_Mo_flagged_19 : decode prog_7_method_20_code 19 = .ok (.getfield 16, 3) := by decide +kernel
theorem d_Mo_flagged_22 : decode prog_7_method_20_code 22 = .ok (.iload_n 1, 1) := by decide +kernel
theorem d_Mo_flagged_23 : decode prog_7_method_20_code 23 = .ok (.iconst 3, 1) := by decide +kernel
theorem d_Mo_flagged_24 : decode prog_7_method_20_code 24 = .ok (.iastore, 1) := by decide +kernel
theorem d_Mo_flagged_25 : decode prog_7_method_20_code 25 = .ok (.iconst 1, 1) := by decide +kernel
theorem d_Mo_flagged_26 : decode prog_7_method_20_code 26 = .ok (.ireturn, 1) := by decide +kernel
def y_Mo_flagged : MethodName := ⟨"ChannelHallModel", "flagged", "(I)Z"⟩
abbrev rm_Mo_flagged : Room := { frames := 0, cells := 0, slots := 0, locals := 0 }
def wp_Mo_flagged (G ca : Nat → Nat) (post : Int32 → hM → Prop) (M : hM) (a0 : Nat) (x1 : Int32) : Prop := gR M a0 5 2 fun v11 => nN v11 fun b12 => aI M b12 (ca 6) x1 fun v13 => (¬ v13 = 0 → gR M a0 5 2 fun v15 => nN v15 fun b16 => bZ 0 (sI M b16 (ca 6) x1 0 fun M17 => gR M17 a0 5 3 fun v18 => nN v18 fun b19 => sI M17 b19 (ca 5) x1 3 fun M20 => post 1 M20)) ∧ (v13 = 0 → post 0 M)
set_option maxHeartbeats 1000000 in
set_option maxRecDepth 20000 in
theorem l_Mo_flagged_e {p : Program} {l : Launch} {e : Env} {s : State} {m : MethodId} {args : Array Value} {below : List Frame} {meth : Method} {c : Code} {D : va_G} {ca G : Nat → Nat} {A : Nat → Prop} (C0 : hC p s m args meth c D ca G prog_7_method_20_code 2 (some .boolean) "ChannelHallModel" A) {post : Int32 → hM → Prop} {M : hM} {H : Heap} {locs : List Loc} {ls : Array Slot} (a0 : Nat) (x1 : Int32) (h : wp_Mo_flagged G ca post M a0 x1) (hW : hw D wCl A M H) (hS : va_S A s.heap H locs) (hl : lv_has ls 2 [(0, .ref a0), (1, .int x1)]) : W p l e rm_Mo_flagged s m args below meth c H locs 0 0 (MQ below (va_Qi post (fun M' t => hw D wCl A M' t.heap) A) args s 0 0 A) (F0 m 0 ls []) := by
  obtain ⟨hx, hb, hr, hml, hown, hts, hlocks, hK, hA, hZ0⟩ := id C0
  refine lv_aload_n hx hb d_Mo_flagged_0 rfl (lv_at hl 0 rfl) ?_
  obtain ⟨fs, v11, h1, h2, h⟩ := h
  refine va_get (D := D) (ci := 5) (v := va_rf v11) (C := "ChannelHallModel") (T := TMo) (N := 26) hx hb hts uMo hown hK (hw_one hW h1) 0 rfl rfl 2 (by decide) (hts _ bw_976) (fun _ h9 => h9) h2 d_Mo_flagged_1 ?_
  refine lv_iload_n hx hb d_Mo_flagged_4 rfl (lv_at hl 1 rfl) ?_
  obtain ⟨b12, rfl, h⟩ := h
  obtain ⟨n, f, h1, h2, h⟩ := h
  refine va_zald hx hb hK (hw_one hW h1) 0 6 rfl rfl h2 d_Mo_flagged_5 ?_
  generalize f (x1).toNatClampNeg = v13 at h ⊢
  obtain ⟨h0, h1⟩ := h
  refine lv_if_ne (tgt := 11) hx hb d_Mo_flagged_6 (by decide) (fun c14 => ?_) (fun c14 => ?_)
  · have h := h0 c14
    refine lv_aload_n hx hb d_Mo_flagged_11 rfl (lv_at hl 0 rfl) ?_
    obtain ⟨fs, v15, h1, h2, h⟩ := h
    refine va_get (D := D) (ci := 5) (v := va_rf v15) (C := "ChannelHallModel") (T := TMo) (N := 26) hx hb hts uMo hown hK (hw_one hW h1) 0 rfl rfl 2 (by decide) (hts _ bw_976) (fun _ h9 => h9) h2 d_Mo_flagged_12 ?_
    refine lv_iload_n hx hb d_Mo_flagged_15 rfl (lv_at hl 1 rfl) ?_
    refine lv_iconst (v := 0) hx hb d_Mo_flagged_16 (by decide) ?_
    obtain ⟨b16, rfl, h⟩ := h
    obtain ⟨hz, n, f, h1, h2, h⟩ := h
    obtain ⟨ws, q0, hq, hP, hD, hback, -⟩ := hw_open hW h1
    refine va_zast (x := 0) hx hb hK hP hD hS q0 6 hq rfl h2 d_Mo_flagged_17 (fun H locs hP hD hS => ?_)
    rw [nb_v hz] at hP hD
    have hW := hback _ _ hP hD
    generalize hM2 : va_up M b16 _ = M17 at h hW
    refine lv_aload_n hx hb d_Mo_flagged_18 rfl (lv_at hl 0 rfl) ?_
    obtain ⟨fs, v18, h1, h2, h⟩ := h
    refine va_get (D := D) (ci := 5) (v := va_rf v18) (C := "ChannelHallModel") (T := TMo) (N := 26) hx hb hts uMo hown hK (hw_one hW h1) 0 rfl rfl 3 (by decide) (hts _ bw_977) (fun _ h9 => h9) h2 d_Mo_flagged_19 ?_
    refine lv_iload_n hx hb d_Mo_flagged_22 rfl (lv_at hl 1 rfl) ?_
    refine lv_iconst (v := 3) hx hb d_Mo_flagged_23 (by decide) ?_
    obtain ⟨b19, rfl, h⟩ := h
    obtain ⟨n, f, h1, h2, h⟩ := h
    obtain ⟨ws, q0, hq, hP, hD, hback, -⟩ := hw_open hW h1
    refine va_iast hx hb hK hP hD hS q0 5 hq rfl h2 d_Mo_flagged_24 (fun H locs hP hD hS => ?_)
    have hW := hback _ _ hP hD
    generalize hM2 : va_up M17 b19 _ = M20 at h hW
    refine lv_iconst (v := 1) hx hb d_Mo_flagged_25 (by decide) ?_
    exact W.zret hx hb hr (by decide) (fun t ht hWm => ⟨⟨_, _, rfl, h, hw_t ht hW⟩, hS.F ht⟩) hS.2.2 d_Mo_flagged_26
  · have h := h1 c14
    refine lv_iconst (v := 0) hx hb d_Mo_flagged_9 (by decide) ?_
    exact W.zret hx hb hr (by decide) (fun t ht hWm => ⟨⟨_, _, rfl, h, hw_t ht hW⟩, hS.F ht⟩) hS.2.2 d_Mo_flagged_10
set_option maxRecDepth 20000 in
theorem c_Mo_flagged {l : Launch} {D : va_G} {ca G : Nat → Nat} (post : Int32 → hM → Prop) {M : hM} {sz : Nat} {a0 : Nat} {x1 : Int32} (h : wp_Mo_flagged G ca post M a0 x1) : Met l y_Mo_flagged (wz y_Mo_flagged prog_7_method_20_code 2 (some .boolean)) rm_Mo_flagged (va_Pc [.ref a0, .int x1] (hI D ca G sz M)) (va_Qi post (hB D M sz) (hp_A M sz)) 0 0 (hp_A M sz) := by
  refine Met.ofW (cc := prog_7_method_20_code) (maxL := 2) (ret := some .boolean) (by decide) rfl ?_
  intro p e s m args below meth c s₁ B hml hv
  obtain ⟨rfl, hsz, hW, hK, hZ0⟩ := hv
  have hts := fun w hw => atoms_spec (ws := wz y_Mo_flagged prog_7_method_20_code 2 (some .boolean)) B.pre w (List.mem_cons_of_mem _ hw)
  have hown : s.vm.findClass "ChannelHallModel" = some m.cls := findClass_of_methodNamed B.named
  subst hsz
  have hl := lv_entry [.ref a0, .int x1] (n := 2) (Nat.le_of_ble_eq_true rfl)
  rw [lg_entry_eq]
  exact l_Mo_flagged_e ⟨B.exec, B.bytes, B.returns, hml, hown, hts, B.notSynchronized, hK, fun q h => Or.inr h, hZ0⟩ a0 x1 h hW va_S.rf hl

theorem d_Mo_time_0 : decode prog_7_method_34_code 0 = .ok (.aload_n 0, 1) := by decide +kernel
theorem d_Mo_time_1 : decode prog_7_method_34_code 1 = .ok (.iconst 0, 1) := by decide +kernel
theorem d_Mo_time_2 : decode prog_7_method_34_code 2 = .ok (.putfield 86, 3) := by decide +kernel
theorem d_Mo_time_5 : decode prog_7_method_34_code 5 = .ok (.aload_n 0, 1) := by decide +kernel
theorem d_Mo_time_6 : decode prog_7_method_34_code 6 = .ok (.getfield 102, 3) := by decide +kernel
theorem d_Mo_time_9 : decode prog_7_method_34_code 9 = .ok (.dreturn, 1) := by decide +kernel
def y_Mo_time : MethodName := ⟨"ChannelHallModel", "time", "()D"⟩
abbrev rm_Mo_time : Room := { frames := 0, cells := 0, slots := 0, locals := 0 }
def wp_Mo_time (G ca : Nat → Nat) (post : UInt64 → hM → Prop) (M : hM) (a0 : Nat) : Prop := pF M a0 5 0 (.int 0) fun M3 => gD M3 a0 5 12 fun v4 => post v4 M3
set_option maxHeartbeats 1000000 in
set_option maxRecDepth 20000 in
theorem l_Mo_time_e {p : Program} {l : Launch} {e : Env} {s : State} {m : MethodId} {args : Array Value} {below : List Frame} {meth : Method} {c : Code} {D : va_G} {ca G : Nat → Nat} {A : Nat → Prop} (C0 : hC p s m args meth c D ca G prog_7_method_34_code 1 (some .double) "ChannelHallModel" A) {post : UInt64 → hM → Prop} {M : hM} {H : Heap} {locs : List Loc} {ls : Array Slot} (a0 : Nat) (h : wp_Mo_time G ca post M a0) (hW : hw D wCl A M H) (hS : va_S A s.heap H locs) (hl : lv_has ls 1 [(0, .ref a0)]) : W p l e rm_Mo_time s m args below meth c H locs 0 0 (MQ below (va_Qd post (fun M' t => hw D wCl A M' t.heap) A) args s 0 0 A) (F0 m 0 ls []) := by
  obtain ⟨hx, hb, hr, hml, hown, hts, hlocks, hK, hA, hZ0⟩ := id C0
  refine lv_aload_n hx hb d_Mo_time_0 rfl (lv_at hl 0 rfl) ?_
  refine lv_iconst (v := 0) hx hb d_Mo_time_1 (by decide) ?_
  obtain ⟨fs, h1, h2, h⟩ := h
  obtain ⟨ws, q0, hq, hP, hD, hback, -⟩ := hw_open hW h1
  refine va_put (D := D) (ci := 5) (v := .int 0) (ty := .int) (C := "ChannelHallModel") (T := TMo) (N := 26) hx hb hts uMo tMo tMo_ok nMo hown hK hP hD hS q0 hq rfl 0 (by decide) (hts _ bw_974) (fun _ h9 => h9) rfl (by decide +kernel) rfl rfl h2 d_Mo_time_2 (fun H locs hP hD hS => ?_)
  have hW := hback _ _ hP hD
  generalize (va_up M a0 (some (.inr (5, fs.set 0 (.int 0))))) = M3 at h hW
  refine lv_aload_n hx hb d_Mo_time_5 rfl (lv_at hl 0 rfl) ?_
  obtain ⟨fs, v4, h1, h2, h⟩ := h
  refine va_get (D := D) (ci := 5) (v := .double v4) (C := "ChannelHallModel") (T := TMo) (N := 26) hx hb hts uMo hown hK (hw_one hW h1) 0 rfl rfl 12 (by decide) (hts _ bw_986) (fun _ h9 => h9) h2 d_Mo_time_6 ?_
  exact W.dret hx hb hr (fun t ht hWm => ⟨⟨_, _, rfl, h, hw_t ht hW⟩, hS.F ht⟩) hS.2.2 d_Mo_time_9
set_option maxRecDepth 20000 in
theorem c_Mo_time {l : Launch} {D : va_G} {ca G : Nat → Nat} (post : UInt64 → hM → Prop) {M : hM} {sz : Nat} {a0 : Nat} (h : wp_Mo_time G ca post M a0) : Met l y_Mo_time (wz y_Mo_time prog_7_method_34_code 1 (some .double)) rm_Mo_time (va_Pc [.ref a0] (hI D ca G sz M)) (va_Qd post (hB D M sz) (hp_A M sz)) 0 0 (hp_A M sz) := by
  refine Met.ofW (cc := prog_7_method_34_code) (maxL := 1) (ret := some .double) (by decide) rfl ?_
  intro p e s m args below meth c s₁ B hml hv
  obtain ⟨rfl, hsz, hW, hK, hZ0⟩ := hv
  have hts := fun w hw => atoms_spec (ws := wz y_Mo_time prog_7_method_34_code 1 (some .double)) B.pre w (List.mem_cons_of_mem _ hw)
  have hown : s.vm.findClass "ChannelHallModel" = some m.cls := findClass_of_methodNamed B.named
  subst hsz
  have hl := lv_entry [.ref a0] (n := 1) (Nat.le_of_ble_eq_true rfl)
  rw [lg_entry_eq]
  exact l_Mo_time_e ⟨B.exec, B.bytes, B.returns, hml, hown, hts, B.notSynchronized, hK, fun q h => Or.inr h, hZ0⟩ a0 h hW va_S.rf hl

theorem d_Mo_stay_0 : decode prog_7_method_33_code 0 = .ok (.aload_n 0, 1) := by decide +kernel
theorem d_Mo_stay_1 : decode prog_7_method_33_code 1 = .ok (.iconst 0, 1) := by decide +kernel
theorem d_Mo_stay_2 : decode prog_7_method_33_code 2 = .ok (.putfield 86, 3) := by decide +kernel
theorem d_Mo_stay_5 : decode prog_7_method_33_code 5 = .ok (.aload_n 0, 1) := by decide +kernel
theorem d_Mo_stay_6 : decode prog_7_method_33_code 6 = .ok (.iload_n 1, 1) := by decide +kernel
theorem d_Mo_stay_7 : decode prog_7_method_33_code 7 = .ok (.bipush 8, 2) := by decide +kernel
theorem d_Mo_stay_9 : decode prog_7_method_33_code 9 = .ok (.invokevirtual 90, 3) := by decide +kernel
theorem d_Mo_stay_12 : decode prog_7_method_33_code 12 = .ok (.ifCond .eq 10, 3) := by decide +kernel
theorem d_Mo_stay_15 : decode prog_7_method_33_code 15 = .ok (.aload_n 0, 1) := by decide +kernel
theorem d_Mo_stay_16 : decode prog_7_method_33_code 16 = .ok (.iconst 1, 1) := by decide +kernel
theorem d_Mo_stay_17 : decode prog_7_method_33_code 17 = .ok (.invokevirtual 94, 3) := by decide +kernel
theorem d_Mo_stay_20 : decode prog_7_method_33_code 20 = .ok (.i2d, 1) := by decide +kernel
theorem d_Mo_stay_21 : decode prog_7_method_33_code 21 = .ok (.dreturn, 1) := by decide +kernel
theorem d_Mo_stay_22 : decode prog_7_method_33_code 22 = .ok (.aload_n 0, 1) := by decide +kernel
theorem d_Mo_stay_23 : decode prog_7_method_33_code 23 = .ok (.getfield 45, 3) := by decide +kernel
theorem d_Mo_stay_26 : decode prog_7_method_33_code 26 = .ok (.iload_n 1, 1) := by decide +kernel
theorem d_Mo_stay_27 : decode prog_7_method_33_code 27 = .ok (.iaload, 1) := by decide +kernel
theorem d_Mo_stay_28 : decode prog_7_method_33_code 28 = .ok (.ifCond .ge 10, 3) := by decide +kernel
theorem d_Mo_stay_31 : decode prog_7_method_33_code 31 = .ok (.aload_n 0, 1) := by decide +kernel
theorem d_Mo_stay_32 : decode prog_7_method_33_code 32 = .ok (.iconst 2, 1) := by decide +kernel
theorem d_Mo_stay_33 : decode prog_7_method_33_code 33 = .ok (.invokevirtual 94, 3) := by decide +kernel
theorem d_Mo_stay_36 : decode prog_7_method_33_code 36 = .ok (.i2d, 1) := by decide +kernel
theorem d_Mo_stay_37 : decode prog_7_method_33_code 37 = .ok (.dreturn, 1) := by decide +kernel
theorem d_Mo_stay_38 : decode prog_7_method_33_code 38 = .ok (.aload_n 0, 1) := by decide +kernel
theorem d_Mo_stay_39 : decode prog_7_method_33_code 39 = .ok (.getfield 81, 3) := by decide +kernel
theorem d_Mo_stay_42 : decode prog_7_method_33_code 42 = .ok (.iload_n 1, 1) := by decide +kernel
theorem d_Mo_stay_43 : decode prog_7_method_33_code 43 = .ok (.iaload, 1) := by decide +kernel
theorem d_Mo_stay_44 : decode prog_7_method_33_code 44 = .ok (.ifCond .ne 10, 3) := by decide +kernel
theorem d_Mo_stay_47 : decode prog_7_method_33_code 47 = .ok (.aload_n 0, 1) := by decide +kernel
theorem d_Mo_stay_48 : decode prog_7_method_33_code 48 = .ok (.iconst 3, 1) := by decide +kernel
theorem d_Mo_stay_49 : decode prog_7_method_33_code 49 = .ok (.invokevirtual 94, 3) := by decide +kernel
theorem d_Mo_stay_52 : decode prog_7_method_33_code 52 = .ok (.i2d, 1) := by decide +kernel
theorem d_Mo_stay_53 : decode prog_7_method_33_code 53 = .ok (.dreturn, 1) := by decide +kernel
theorem d_Mo_stay_54 : decode prog_7_method_33_code 54 = .ok (.aload_n 0, 1) := by decide +kernel
theorem d_Mo_stay_55 : decode prog_7_method_33_code 55 = .ok (.getfield 78, 3) := by decide +kernel
theorem d_Mo_stay_58 : decode prog_7_method_33_code 58 = .ok (.iload_n 1, 1) := by decide +kernel
theorem d_Mo_stay_59 : decode prog_7_method_33_code 59 = .ok (.daload, 1) := by decide +kernel
theorem d_Mo_stay_60 : decode prog_7_method_33_code 60 = .ok (.aload_n 0, 1) := by decide +kernel
theorem d_Mo_stay_61 : decode prog_7_method_33_code 61 = .ok (.getfield 81, 3) := by decide +kernel
theorem d_Mo_stay_64 : decode prog_7_method_33_code 64 = .ok (.iload_n 1, 1) := by decide +kernel
theorem d_Mo_stay_65 : decode prog_7_method_33_code 65 = .ok (.iaload, 1) := by decide +kernel
theorem d_Mo_stay_66 : decode prog_7_method_33_code 66 = .ok (.i2d, 1) := by decide +kernel
theorem d_Mo_stay_67 : decode prog_7_method_33_code 67 = .ok (.ddiv, 1) := by decide +kernel
theorem d_Mo_stay_68 : decode prog_7_method_33_code 68 = .ok (.dreturn, 1) := by decide +kernel
def y_Mo_stay : MethodName := ⟨"ChannelHallModel", "stay", "(I)D"⟩
abbrev rm_Mo_stay : Room := { frames := 1, cells := 0, slots := 0, locals := 22 }
def wp_Mo_stay (G ca : Nat → Nat) (post : UInt64 → hM → Prop) (M : hM) (a0 : Nat) (x1 : Int32) : Prop := pF M a0 5 0 (.int 0) fun M25 => rC M25 a0 5 (wp_Mo_out G ca (fun r26 M27 => (r26 = 0 → gR M27 a0 5 13 fun v29 => nN v29 fun b30 => aI M27 b30 (ca 5) x1 fun v31 => (0 ≤ v31 → gR M27 a0 5 25 fun v33 => nN v33 fun b34 => aI M27 b34 (ca 5) x1 fun v35 => (¬ v35 = 0 → gR M27 a0 5 24 fun v37 => nN v37 fun b38 => aD M27 b38 (ca 4) x1 fun v39 => gR M27 a0 5 25 fun v40 => nN v40 fun b41 => aI M27 b41 (ca 5) x1 fun v42 => nD (FP.ddiv v39 (FP.i2d v42)) (post (FP.ddiv v39 (FP.i2d v42)) M27)) ∧ (v35 = 0 → rC M27 a0 5 (wp_Mo_fail G ca (fun r43 M44 => post (FP.i2d r43) M44) M27 a0 3))) ∧ (¬ 0 ≤ v31 → rC M27 a0 5 (wp_Mo_fail G ca (fun r45 M46 => post (FP.i2d r45) M46) M27 a0 2))) ∧ (¬ r26 = 0 → rC M27 a0 5 (wp_Mo_fail G ca (fun r47 M48 => post (FP.i2d r47) M48) M27 a0 1))) M25 a0 x1 8)
set_option maxHeartbeats 1000000 in
set_option maxRecDepth 20000 in
theorem l_Mo_stay_e {p : Program} {l : Launch} {e : Env} {s : State} {m : MethodId} {args : Array Value} {below : List Frame} {meth : Method} {c : Code} {D : va_G} {ca G : Nat → Nat} {A : Nat → Prop} (C0 : hC p s m args meth c D ca G prog_7_method_33_code 2 (some .double) "ChannelHallModel" A) {post : UInt64 → hM → Prop} {M : hM} {H : Heap} {locs : List Loc} {ls : Array Slot} (a0 : Nat) (x1 : Int32) (h : wp_Mo_stay G ca post M a0 x1) (hW : hw D wCl A M H) (hS : va_S A s.heap H locs) (hl : lv_has ls 2 [(0, .ref a0), (1, .int x1)]) : W p l e rm_Mo_stay s m args below meth c H locs 0 0 (MQ below (va_Qd post (fun M' t => hw D wCl A M' t.heap) A) args s 0 0 A) (F0 m 0 ls []) := by
  obtain ⟨hx, hb, hr, hml, hown, hts, hlocks, hK, hA, hZ0⟩ := id C0
  refine lv_aload_n hx hb d_Mo_stay_0 rfl (lv_at hl 0 rfl) ?_
  refine lv_iconst (v := 0) hx hb d_Mo_stay_1 (by decide) ?_
  obtain ⟨fs, h1, h2, h⟩ := h
  obtain ⟨ws, q0, hq, hP, hD, hback, -⟩ := hw_open hW h1
  refine va_put (D := D) (ci := 5) (v := .int 0) (ty := .int) (C := "ChannelHallModel") (T := TMo) (N := 26) hx hb hts uMo tMo tMo_ok nMo hown hK hP hD hS q0 hq rfl 0 (by decide) (hts _ bw_974) (fun _ h9 => h9) rfl (by decide +kernel) rfl rfl h2 d_Mo_stay_2 (fun H locs hP hD hS => ?_)
  have hW := hback _ _ hP hD
  generalize (va_up M a0 (some (.inr (5, fs.set 0 (.int 0))))) = M25 at h hW
  refine lv_aload_n hx hb d_Mo_stay_5 rfl (lv_at hl 0 rfl) ?_
  refine lv_iload_n hx hb d_Mo_stay_6 rfl (lv_at hl 1 rfl) ?_
  refine lv_bipush (v := 8) hx hb d_Mo_stay_7 (by decide) ?_
  obtain ⟨⟨fs, h1⟩, h⟩ := h
  have h9 := h
  clear h
  have hF := hW.free hS hA
  refine va_calli (va_runV (As := [.int x1, .int 8]) (rest := []) ⟨hx, hb, hml, hown, hts⟩ (c_Mo_out _ h9) (cwV 2 hts (gi_V bw_1064 bw_1066 bs_19 bw_5 bw_1067) rfl rfl rfl (by decide +kernel) ⟨Nat.le_of_ble_eq_true rfl, Nat.le_of_ble_eq_true rfl⟩) ⟨hI.blind, hw_recv hK hW h1 rfl, hI.give hW hS hA hK hZ0⟩ rfl rfl hl.1 rfl (lv_room (Nat.le_of_ble_eq_true rfl)) d_Mo_stay_9 ⟨(show _ ≤ 0 by omega), (show _ ≤ 0 by omega)⟩) hS (fun q _ z => hF q z) hF (fun r26 M27 t H locs ht _ h hB1 _ _ hS => ?_)
  have hW := hw_back hF ht hB1
  clear h9
  obtain ⟨h0, h1⟩ := h
  refine lv_if_eq (tgt := 22) hx hb d_Mo_stay_12 (by decide) (fun c28 => ?_) (fun c28 => ?_)
  · have h := h0 c28
    refine lv_aload_n hx hb d_Mo_stay_22 rfl (lv_at hl 0 rfl) ?_
    obtain ⟨fs, v29, h1, h2, h⟩ := h
    refine va_get (D := D) (ci := 5) (v := va_rf v29) (C := "ChannelHallModel") (T := TMo) (N := 26) hx hb hts uMo hown hK (hw_one hW h1) 0 rfl rfl 13 (by decide) (hts _ bw_987) (fun _ h9 => h9) h2 d_Mo_stay_23 ?_
    refine lv_iload_n hx hb d_Mo_stay_26 rfl (lv_at hl 1 rfl) ?_
    obtain ⟨b30, rfl, h⟩ := h
    obtain ⟨n, f, h1, h2, h⟩ := h
    refine va_iald hx hb hK (hw_one hW h1) 0 5 rfl rfl h2 d_Mo_stay_27 ?_
    generalize f (x1).toNatClampNeg = v31 at h ⊢
    obtain ⟨h0, h1⟩ := h
    refine lv_if_ge (tgt := 38) hx hb d_Mo_stay_28 (by decide) (fun c32 => ?_) (fun c32 => ?_)
    · have h := h0 c32
      refine lv_aload_n hx hb d_Mo_stay_38 rfl (lv_at hl 0 rfl) ?_
      obtain ⟨fs, v33, h1, h2, h⟩ := h
      refine va_get (D := D) (ci := 5) (v := va_rf v33) (C := "ChannelHallModel") (T := TMo) (N := 26) hx hb hts uMo hown hK (hw_one hW h1) 0 rfl rfl 25 (by decide) (hts _ bw_999) (fun _ h9 => h9) h2 d_Mo_stay_39 ?_
      refine lv_iload_n hx hb d_Mo_stay_42 rfl (lv_at hl 1 rfl) ?_
      obtain ⟨b34, rfl, h⟩ := h
      obtain ⟨n, f, h1, h2, h⟩ := h
      refine va_iald hx hb hK (hw_one hW h1) 0 5 rfl rfl h2 d_Mo_stay_43 ?_
      generalize f (x1).toNatClampNeg = v35 at h ⊢
      obtain ⟨h0, h1⟩ := h
      refine lv_if_ne (tgt := 54) hx hb d_Mo_stay_44 (by decide) (fun c36 => ?_) (fun c36 => ?_)
      · have h := h0 c36
        refine lv_aload_n hx hb d_Mo_stay_54 rfl (lv_at hl 0 rfl) ?_
        obtain ⟨fs, v37, h1, h2, h⟩ := h
        refine va_get (D := D) (ci := 5) (v := va_rf v37) (C := "ChannelHallModel") (T := TMo) (N := 26) hx hb hts uMo hown hK (hw_one hW h1) 0 rfl rfl 24 (by decide) (hts _ bw_998) (fun _ h9 => h9) h2 d_Mo_stay_55 ?_
        refine lv_iload_n hx hb d_Mo_stay_58 rfl (lv_at hl 1 rfl) ?_
        obtain ⟨b38, rfl, h⟩ := h
        obtain ⟨n, f, h1, h2, h⟩ := h
        refine va_dald hx hb hK (hw_one hW h1) 0 4 rfl rfl h2 d_Mo_stay_59 ?_
        generalize f (x1).toNatClampNeg = v39 at h ⊢
        refine lv_aload_n hx hb d_Mo_stay_60 rfl (lv_at hl 0 rfl) ?_
        obtain ⟨fs, v40, h1, h2, h⟩ := h
        refine va_get (D := D) (ci := 5) (v := va_rf v40) (C := "ChannelHallModel") (T := TMo) (N := 26) hx hb hts uMo hown hK (hw_one hW h1) 0 rfl rfl 25 (by decide) (hts _ bw_999) (fun _ h9 => h9) h2 d_Mo_stay_61 ?_
        refine lv_iload_n hx hb d_Mo_stay_64 rfl (lv_at hl 1 rfl) ?_
        obtain ⟨b41, rfl, h⟩ := h
        obtain ⟨n, f, h1, h2, h⟩ := h
        refine va_iald hx hb hK (hw_one hW h1) 0 5 rfl rfl h2 d_Mo_stay_65 ?_
        generalize f (x1).toNatClampNeg = v42 at h ⊢
        refine lv_i2d hx hb d_Mo_stay_66 ?_
        obtain ⟨hn, h⟩ := h
        refine lv_ddiv hx hb d_Mo_stay_67 hn ?_
        exact W.dret hx hb hr (fun t ht hWm => ⟨⟨_, _, rfl, h, hw_t ht hW⟩, hS.F ht⟩) hS.2.2 d_Mo_stay_68
      · have h := h1 c36
        refine lv_aload_n hx hb d_Mo_stay_47 rfl (lv_at hl 0 rfl) ?_
        refine lv_iconst (v := 3) hx hb d_Mo_stay_48 (by decide) ?_
        obtain ⟨⟨fs, h1⟩, h⟩ := h
        have h9 := h
        clear h
        have hF := hW.free hS hA
        refine va_calli (va_runV (As := [.int 3]) (rest := []) ⟨hx, hb, hml, hown, hts⟩ (c_Mo_fail _ h9) (cwV 1 hts (gi_V bw_1068 bw_1070 bs_20 bw_5 bw_1071) rfl rfl rfl (by decide +kernel) ⟨Nat.le_of_ble_eq_true rfl, Nat.le_of_ble_eq_true rfl⟩) ⟨hI.blind, hw_recv hK hW h1 rfl, hI.give hW hS hA hK hZ0⟩ rfl rfl hl.1 rfl (lv_room (Nat.le_of_ble_eq_true rfl)) d_Mo_stay_49 ⟨(show _ ≤ 0 by omega), (show _ ≤ 0 by omega)⟩) hS (fun q _ z => hF q z) hF (fun r43 M44 t H locs ht _ h hB1 _ _ hS => ?_)
        have hW := hw_back hF ht hB1
        clear h9
        refine lv_i2d hx hb d_Mo_stay_52 ?_
        exact W.dret hx hb hr (fun t ht hWm => ⟨⟨_, _, rfl, h, hw_t ht hW⟩, hS.F ht⟩) hS.2.2 d_Mo_stay_53
    · have h := h1 c32
      refine lv_aload_n hx hb d_Mo_stay_31 rfl (lv_at hl 0 rfl) ?_
      refine lv_iconst (v := 2) hx hb d_Mo_stay_32 (by decide) ?_
      obtain ⟨⟨fs, h1⟩, h⟩ := h
      have h9 := h
      clear h
      have hF := hW.free hS hA
      refine va_calli (va_runV (As := [.int 2]) (rest := []) ⟨hx, hb, hml, hown, hts⟩ (c_Mo_fail _ h9) (cwV 1 hts (gi_V bw_1068 bw_1070 bs_20 bw_5 bw_1071) rfl rfl rfl (by decide +kernel) ⟨Nat.le_of_ble_eq_true rfl, Nat.le_of_ble_eq_true rfl⟩) ⟨hI.blind, hw_recv hK hW h1 rfl, hI.give hW hS hA hK hZ0⟩ rfl rfl hl.1 rfl (lv_room (Nat.le_of_ble_eq_true rfl)) d_Mo_stay_33 ⟨(show _ ≤ 0 by omega), (show _ ≤ 0 by omega)⟩) hS (fun q _ z => hF q z) hF (fun r45 M46 t H locs ht _ h hB1 _ _ hS => ?_)
      have hW := hw_back hF ht hB1
      clear h9
      refine lv_i2d hx hb d_Mo_stay_36 ?_
      exact W.dret hx hb hr (fun t ht hWm => ⟨⟨_, _, rfl, h, hw_t ht hW⟩, hS.F ht⟩) hS.2.2 d_Mo_stay_37
  · have h := h1 c28
    refine lv_aload_n hx hb d_Mo_stay_15 rfl (lv_at hl 0 rfl) ?_
    refine lv_iconst (v := 1) hx hb d_Mo_stay_16 (by decide) ?_
    obtain ⟨⟨fs, h1⟩, h⟩ := h
    have h9 := h
    clear h
    have hF := hW.free hS hA
    refine va_calli (va_runV (As := [.int 1]) (rest := []) ⟨hx, hb, hml, hown, hts⟩ (c_Mo_fail _ h9) (cwV 1 hts (gi_V bw_1068 bw_1070 bs_20 bw_5 bw_1071) rfl rfl rfl (by decide +kernel) ⟨Nat.le_of_ble_eq_true rfl, Nat.le_of_ble_eq_true rfl⟩) ⟨hI.blind, hw_recv hK hW h1 rfl, hI.give hW hS hA hK hZ0⟩ rfl rfl hl.1 rfl (lv_room (Nat.le_of_ble_eq_true rfl)) d_Mo_stay_17 ⟨(show _ ≤ 0 by omega), (show _ ≤ 0 by omega)⟩) hS (fun q _ z => hF q z) hF (fun r47 M48 t H locs ht _ h hB1 _ _ hS => ?_)
    have hW := hw_back hF ht hB1
    clear h9
    refine lv_i2d hx hb d_Mo_stay_20 ?_
    exact W.dret hx hb hr (fun t ht hWm => ⟨⟨_, _, rfl, h, hw_t ht hW⟩, hS.F ht⟩) hS.2.2 d_Mo_stay_21
set_option maxRecDepth 20000 in
theorem c_Mo_stay {l : Launch} {D : va_G} {ca G : Nat → Nat} (post : UInt64 → hM → Prop) {M : hM} {sz : Nat} {a0 : Nat} {x1 : Int32} (h : wp_Mo_stay G ca post M a0 x1) : Met l y_Mo_stay (wz y_Mo_stay prog_7_method_33_code 2 (some .double)) rm_Mo_stay (va_Pc [.ref a0, .int x1] (hI D ca G sz M)) (va_Qd post (hB D M sz) (hp_A M sz)) 0 0 (hp_A M sz) := by
  refine Met.ofW (cc := prog_7_method_33_code) (maxL := 2) (ret := some .double) (by decide) rfl ?_
  intro p e s m args below meth c s₁ B hml hv
  obtain ⟨rfl, hsz, hW, hK, hZ0⟩ := hv
  have hts := fun w hw => atoms_spec (ws := wz y_Mo_stay prog_7_method_33_code 2 (some .double)) B.pre w (List.mem_cons_of_mem _ hw)
  have hown : s.vm.findClass "ChannelHallModel" = some m.cls := findClass_of_methodNamed B.named
  subst hsz
  have hl := lv_entry [.ref a0, .int x1] (n := 2) (Nat.le_of_ble_eq_true rfl)
  rw [lg_entry_eq]
  exact l_Mo_stay_e ⟨B.exec, B.bytes, B.returns, hml, hown, hts, B.notSynchronized, hK, fun q h => Or.inr h, hZ0⟩ a0 x1 h hW va_S.rf hl

theorem d_Mo_item_0 : decode prog_7_method_32_code 0 = .ok (.aload_n 0, 1) := by decide +kernel
theorem d_Mo_item_1 : decode prog_7_method_32_code 1 = .ok (.iconst 0, 1) := by decide +kernel
theorem d_Mo_item_2 : decode prog_7_method_32_code 2 = .ok (.putfield 86, 3) := by decide +kernel
theorem d_Mo_item_5 : decode prog_7_method_32_code 5 = .ok (.aload_n 0, 1) := by decide +kernel
theorem d_Mo_item_6 : decode prog_7_method_32_code 6 = .ok (.iload_n 1, 1) := by decide +kernel
theorem d_Mo_item_7 : decode prog_7_method_32_code 7 = .ok (.bipush 8, 2) := by decide +kernel
theorem d_Mo_item_9 : decode prog_7_method_32_code 9 = .ok (.invokevirtual 90, 3) := by decide +kernel
theorem d_Mo_item_12 : decode prog_7_method_32_code 12 = .ok (.ifCond .eq 9, 3) := by decide +kernel
theorem d_Mo_item_15 : decode prog_7_method_32_code 15 = .ok (.aload_n 0, 1) := by decide +kernel
theorem d_Mo_item_16 : decode prog_7_method_32_code 16 = .ok (.iconst 1, 1) := by decide +kernel
theorem d_Mo_item_17 : decode prog_7_method_32_code 17 = .ok (.invokevirtual 94, 3) := by decide +kernel
theorem d_Mo_item_20 : decode prog_7_method_32_code 20 = .ok (.ireturn, 1) := by decide +kernel
theorem d_Mo_item_21 : decode prog_7_method_32_code 21 = .ok (.aload_n 0, 1) := by decide +kernel
theorem d_Mo_item_22 : decode prog_7_method_32_code 22 = .ok (.getfield 45, 3) := by decide +kernel
theorem d_Mo_item_25 : decode prog_7_method_32_code 25 = .ok (.iload_n 1, 1) := by decide +kernel
theorem d_Mo_item_26 : decode prog_7_method_32_code 26 = .ok (.iaload, 1) := by decide +kernel
theorem d_Mo_item_27 : decode prog_7_method_32_code 27 = .ok (.ifCond .ge 9, 3) := by decide +kernel
theorem d_Mo_item_30 : decode prog_7_method_32_code 30 = .ok (.aload_n 0, 1) := by decide +kernel
theorem d_Mo_item_31 : decode prog_7_method_32_code 31 = .ok (.iconst 2, 1) := by decide +kernel
theorem d_Mo_item_32 : decode prog_7_method_32_code 32 = .ok (.invokevirtual 94, 3) := by decide +kernel
theorem d_Mo_item_35 : decode prog_7_method_32_code 35 = .ok (.ireturn, 1) := by decide +kernel
theorem d_Mo_item_36 : decode prog_7_method_32_code 36 = .ok (.aload_n 0, 1) := by decide +kernel
theorem d_Mo_item_37 : decode prog_7_method_32_code 37 = .ok (.iload_n 2, 1) := by decide +kernel
theorem d_Mo_item_38 : decode prog_7_method_32_code 38 = .ok (.aload_n 0, 1) := by decide +kernel
theorem d_Mo_item_39 : decode prog_7_method_32_code 39 = .ok (.getfield 75, 3) := by decide +kernel
theorem d_Mo_item_42 : decode prog_7_method_32_code 42 = .ok (.iload_n 1, 1) := by decide +kernel
theorem d_Mo_item_43 : decode prog_7_method_32_code 43 = .ok (.iaload, 1) := by decide +kernel
theorem d_Mo_item_44 : decode prog_7_method_32_code 44 = .ok (.invokevirtual 90, 3) := by decide +kernel
theorem d_Mo_item_47 : decode prog_7_method_32_code 47 = .ok (.ifCond .eq 11, 3) := by decide +kernel
theorem d_Mo_item_50 : decode prog_7_method_32_code 50 = .ok (.aload_n 0, 1) := by decide +kernel
theorem d_Mo_item_51 : decode prog_7_method_32_code 51 = .ok (.iconst 3, 1) := by decide +kernel
theorem d_Mo_item_52 : decode prog_7_method_32_code 52 = .ok (.invokevirtual 94, 3) := by decide +kernel
theorem d_Mo_item_55 : decode prog_7_method_32_code 55 = .ok (.goto 14, 3) := by decide +kernel
theorem d_Mo_item_58 : decode prog_7_method_32_code 58 = .ok (.aload_n 0, 1) := by decide +kernel
theorem d_Mo_item_59 : decode prog_7_method_32_code 59 = .ok (.getfield 63, 3) := by decide +kernel
theorem d_Mo_item_62 : decode prog_7_method_32_code 62 = .ok (.bipush 16, 2) := by decide +kernel
theorem d_Mo_item_64 : decode prog_7_method_32_code 64 = .ok (.iload_n 1, 1) := by decide +kernel
theorem d_Mo_item_65 : decode prog_7_method_32_code 65 = .ok (.imul, 1) := by decide +kernel
theorem d_Mo_item_66 : decode prog_7_method_32_code 66 = .ok (.iload_n 2, 1) := by decide +kernel
theorem d_Mo_item_67 : decode prog_7_method_32_code 67 = .ok (.iadd, 1) := by decide +kernel
theorem d_Mo_item_68 : decode prog_7_method_32_code 68 = .ok (.iaload, 1) := by decide +kernel
theorem d_Mo_item_69 : decode prog_7_method_32_code 69 = .ok (.ireturn, 1) := by decide +kernel
def y_Mo_item : MethodName := ⟨"ChannelHallModel", "item", "(II)I"⟩
abbrev rm_Mo_item : Room := { frames := 1, cells := 0, slots := 0, locals := 22 }
def wp_Mo_item_69 (G ca : Nat → Nat) (post : Int32 → hM → Prop) (M : hM) (s0b69 : Int32) : Prop := post s0b69 M
def wp_Mo_item (G ca : Nat → Nat) (post : Int32 → hM → Prop) (M : hM) (a0 : Nat) (x1 : Int32) (x2 : Int32) : Prop := pF M a0 5 0 (.int 0) fun M24 => rC M24 a0 5 (wp_Mo_out G ca (fun r25 M26 => (r25 = 0 → gR M26 a0 5 13 fun v28 => nN v28 fun b29 => aI M26 b29 (ca 5) x1 fun v30 => (0 ≤ v30 → gR M26 a0 5 23 fun v32 => nN v32 fun b33 => aI M26 b33 (ca 5) x1 fun v34 => rC M26 a0 5 (wp_Mo_out G ca (fun r35 M36 => (r35 = 0 → gR M36 a0 5 19 fun v38 => nN v38 fun b39 => aI M36 b39 (ca 5) ((16 * x1) + x2) fun v40 => wp_Mo_item_69 G ca post M36 v40) ∧ (¬ r35 = 0 → rC M36 a0 5 (wp_Mo_fail G ca (fun r41 M42 => wp_Mo_item_69 G ca post M42 r41) M36 a0 3))) M26 a0 x2 v34)) ∧ (¬ 0 ≤ v30 → rC M26 a0 5 (wp_Mo_fail G ca (fun r43 M44 => post r43 M44) M26 a0 2))) ∧ (¬ r25 = 0 → rC M26 a0 5 (wp_Mo_fail G ca (fun r45 M46 => post r45 M46) M26 a0 1))) M24 a0 x1 8)
set_option maxHeartbeats 1000000 in
set_option maxRecDepth 20000 in
theorem l_Mo_item_69 {p : Program} {l : Launch} {e : Env} {s : State} {m : MethodId} {args : Array Value} {below : List Frame} {meth : Method} {c : Code} {D : va_G} {ca G : Nat → Nat} {A : Nat → Prop} (C0 : hC p s m args meth c D ca G prog_7_method_32_code 3 (some .int) "ChannelHallModel" A) {post : Int32 → hM → Prop} {M : hM} {H : Heap} {locs : List Loc} {ls : Array Slot} (s0b69 : Int32) (h : wp_Mo_item_69 G ca post M s0b69) (hW : hw D wCl A M H) (hS : va_S A s.heap H locs) (hl : lv_has ls 3 []) : W p l e rm_Mo_item s m args below meth c H locs 0 0 (MQ below (va_Qi post (fun M' t => hw D wCl A M' t.heap) A) args s 0 0 A) (F0 m 69 ls [.int s0b69]) := by
  obtain ⟨hx, hb, hr, hml, hown, hts, hlocks, hK, hA, hZ0⟩ := id C0
  exact W.iret hx hb hr (fun t ht hWm => ⟨⟨_, _, rfl, h, hw_t ht hW⟩, hS.F ht⟩) hS.2.2 d_Mo_item_69
set_option maxHeartbeats 1000000 in
set_option maxRecDepth 20000 in
theorem l_Mo_item_e {p : Program} {l : Launch} {e : Env} {s : State} {m : MethodId} {args : Array Value} {below : List Frame} {meth : Method} {c : Code} {D : va_G} {ca G : Nat → Nat} {A : Nat → Prop} (C0 : hC p s m args meth c D ca G prog_7_method_32_code 3 (some .int) "ChannelHallModel" A) {post : Int32 → hM → Prop} {M : hM} {H : Heap} {locs : List Loc} {ls : Array Slot} (a0 : Nat) (x1 : Int32) (x2 : Int32) (h : wp_Mo_item G ca post M a0 x1 x2) (hW : hw D wCl A M H) (hS : va_S A s.heap H locs) (hl : lv_has ls 3 [(0, .ref a0), (1, .int x1), (2, .int x2)]) : W p l e rm_Mo_item s m args below meth c H locs 0 0 (MQ below (va_Qi post (fun M' t => hw D wCl A M' t.heap) A) args s 0 0 A) (F0 m 0 ls []) := by
  obtain ⟨hx, hb, hr, hml, hown, hts, hlocks, hK, hA, hZ0⟩ := id C0
  refine lv_aload_n hx hb d_Mo_item_0 rfl (lv_at hl 0 rfl) ?_
  refine lv_iconst (v := 0) hx hb d_Mo_item_1 (by decide) ?_
  obtain ⟨fs, h1, h2, h⟩ := h
  obtain ⟨ws, q0, hq, hP, hD, hback, -⟩ := hw_open hW h1
  refine va_put (D := D) (ci := 5) (v := .int 0) (ty := .int) (C := "ChannelHallModel") (T := TMo) (N := 26) hx hb hts uMo tMo tMo_ok nMo hown hK hP hD hS q0 hq rfl 0 (by decide) (hts _ bw_974) (fun _ h9 => h9) rfl (by decide +kernel) rfl rfl h2 d_Mo_item_2 (fun H locs hP hD hS => ?_)
  have hW := hback _ _ hP hD
  generalize (va_up M a0 (some (.inr (5, fs.set 0 (.int 0))))) = M24 at h hW
  refine lv_aload_n hx hb d_Mo_item_5 rfl (lv_at hl 0 rfl) ?_
  refine lv_iload_n hx hb d_Mo_item_6 rfl (lv_at hl 1 rfl) ?_
  refine lv_bipush (v := 8) hx hb d_Mo_item_7 (by decide) ?_
  obtain ⟨⟨fs, h1⟩, h⟩ := h
  have h9 := h
  clear h
  have hF := hW.free hS hA
  refine va_calli (va_runV (As := [.int x1, .int 8]) (rest := []) ⟨hx, hb, hml, hown, hts⟩ (c_Mo_out _ h9) (cwV 2 hts (gi_V bw_1064 bw_1066 bs_19 bw_5 bw_1067) rfl rfl rfl (by decide +kernel) ⟨Nat.le_of_ble_eq_true rfl, Nat.le_of_ble_eq_true rfl⟩) ⟨hI.blind, hw_recv hK hW h1 rfl, hI.give hW hS hA hK hZ0⟩ rfl rfl hl.1 rfl (lv_room (Nat.le_of_ble_eq_true rfl)) d_Mo_item_9 ⟨(show _ ≤ 0 by omega), (show _ ≤ 0 by omega)⟩) hS (fun q _ z => hF q z) hF (fun r25 M26 t H locs ht _ h hB1 _ _ hS => ?_)
  have hW := hw_back hF ht hB1
  clear h9
  obtain ⟨h0, h1⟩ := h
  refine lv_if_eq (tgt := 21) hx hb d_Mo_item_12 (by decide) (fun c27 => ?_) (fun c27 => ?_)
  · have h := h0 c27
    refine lv_aload_n hx hb d_Mo_item_21 rfl (lv_at hl 0 rfl) ?_
    obtain ⟨fs, v28, h1, h2, h⟩ := h
    refine va_get (D := D) (ci := 5) (v := va_rf v28) (C := "ChannelHallModel") (T := TMo) (N := 26) hx hb hts uMo hown hK (hw_one hW h1) 0 rfl rfl 13 (by decide) (hts _ bw_987) (fun _ h9 => h9) h2 d_Mo_item_22 ?_
    refine lv_iload_n hx hb d_Mo_item_25 rfl (lv_at hl 1 rfl) ?_
    obtain ⟨b29, rfl, h⟩ := h
    obtain ⟨n, f, h1, h2, h⟩ := h
    refine va_iald hx hb hK (hw_one hW h1) 0 5 rfl rfl h2 d_Mo_item_26 ?_
    generalize f (x1).toNatClampNeg = v30 at h ⊢
    obtain ⟨h0, h1⟩ := h
    refine lv_if_ge (tgt := 36) hx hb d_Mo_item_27 (by decide) (fun c31 => ?_) (fun c31 => ?_)
    · have h := h0 c31
      refine lv_aload_n hx hb d_Mo_item_36 rfl (lv_at hl 0 rfl) ?_
      refine lv_iload_n hx hb d_Mo_item_37 rfl (lv_at hl 2 rfl) ?_
      refine lv_aload_n hx hb d_Mo_item_38 rfl (lv_at hl 0 rfl) ?_
      obtain ⟨fs, v32, h1, h2, h⟩ := h
      refine va_get (D := D) (ci := 5) (v := va_rf v32) (C := "ChannelHallModel") (T := TMo) (N := 26) hx hb hts uMo hown hK (hw_one hW h1) 0 rfl rfl 23 (by decide) (hts _ bw_997) (fun _ h9 => h9) h2 d_Mo_item_39 ?_
      refine lv_iload_n hx hb d_Mo_item_42 rfl (lv_at hl 1 rfl) ?_
      obtain ⟨b33, rfl, h⟩ := h
      obtain ⟨n, f, h1, h2, h⟩ := h
      refine va_iald hx hb hK (hw_one hW h1) 0 5 rfl rfl h2 d_Mo_item_43 ?_
      generalize f (x1).toNatClampNeg = v34 at h ⊢
      obtain ⟨⟨fs, h1⟩, h⟩ := h
      have h9 := h
      clear h
      have hF := hW.free hS hA
      refine va_calli (va_runV (As := [.int x2, .int v34]) (rest := []) ⟨hx, hb, hml, hown, hts⟩ (c_Mo_out _ h9) (cwV 2 hts (gi_V bw_1064 bw_1066 bs_19 bw_5 bw_1067) rfl rfl rfl (by decide +kernel) ⟨Nat.le_of_ble_eq_true rfl, Nat.le_of_ble_eq_true rfl⟩) ⟨hI.blind, hw_recv hK hW h1 rfl, hI.give hW hS hA hK hZ0⟩ rfl rfl hl.1 rfl (lv_room (Nat.le_of_ble_eq_true rfl)) d_Mo_item_44 ⟨(show _ ≤ 0 by omega), (show _ ≤ 0 by omega)⟩) hS (fun q _ z => hF q z) hF (fun r35 M36 t H locs ht _ h hB1 _ _ hS => ?_)
      have hW := hw_back hF ht hB1
      clear h9
      obtain ⟨h0, h1⟩ := h
      refine lv_if_eq (tgt := 58) hx hb d_Mo_item_47 (by decide) (fun c37 => ?_) (fun c37 => ?_)
      · have h := h0 c37
        refine lv_aload_n hx hb d_Mo_item_58 rfl (lv_at hl 0 rfl) ?_
        obtain ⟨fs, v38, h1, h2, h⟩ := h
        refine va_get (D := D) (ci := 5) (v := va_rf v38) (C := "ChannelHallModel") (T := TMo) (N := 26) hx hb hts uMo hown hK (hw_one hW h1) 0 rfl rfl 19 (by decide) (hts _ bw_993) (fun _ h9 => h9) h2 d_Mo_item_59 ?_
        refine lv_bipush (v := 16) hx hb d_Mo_item_62 (by decide) ?_
        refine lv_iload_n hx hb d_Mo_item_64 rfl (lv_at hl 1 rfl) ?_
        refine lv_imul hx hb d_Mo_item_65 ?_
        refine lv_iload_n hx hb d_Mo_item_66 rfl (lv_at hl 2 rfl) ?_
        refine lv_iadd hx hb d_Mo_item_67 ?_
        obtain ⟨b39, rfl, h⟩ := h
        obtain ⟨n, f, h1, h2, h⟩ := h
        refine va_iald hx hb hK (hw_one hW h1) 0 5 rfl rfl h2 d_Mo_item_68 ?_
        generalize f (((16 * x1) + x2)).toNatClampNeg = v40 at h ⊢
        exact l_Mo_item_69 C0 v40 h hW hS (lv_sub hl [] rfl)
      · have h := h1 c37
        refine lv_aload_n hx hb d_Mo_item_50 rfl (lv_at hl 0 rfl) ?_
        refine lv_iconst (v := 3) hx hb d_Mo_item_51 (by decide) ?_
        obtain ⟨⟨fs, h1⟩, h⟩ := h
        have h9 := h
        clear h
        have hF := hW.free hS hA
        refine va_calli (va_runV (As := [.int 3]) (rest := []) ⟨hx, hb, hml, hown, hts⟩ (c_Mo_fail _ h9) (cwV 1 hts (gi_V bw_1068 bw_1070 bs_20 bw_5 bw_1071) rfl rfl rfl (by decide +kernel) ⟨Nat.le_of_ble_eq_true rfl, Nat.le_of_ble_eq_true rfl⟩) ⟨hI.blind, hw_recv hK hW h1 rfl, hI.give hW hS hA hK hZ0⟩ rfl rfl hl.1 rfl (lv_room (Nat.le_of_ble_eq_true rfl)) d_Mo_item_52 ⟨(show _ ≤ 0 by omega), (show _ ≤ 0 by omega)⟩) hS (fun q _ z => hF q z) hF (fun r41 M42 t H locs ht _ h hB1 _ _ hS => ?_)
        have hW := hw_back hF ht hB1
        clear h9
        refine lv_goto (tgt := 69) hx hb d_Mo_item_55 (by decide) ?_
        exact l_Mo_item_69 C0 r41 h hW hS (lv_sub hl [] rfl)
    · have h := h1 c31
      refine lv_aload_n hx hb d_Mo_item_30 rfl (lv_at hl 0 rfl) ?_
      refine lv_iconst (v := 2) hx hb d_Mo_item_31 (by decide) ?_
      obtain ⟨⟨fs, h1⟩, h⟩ := h
      have h9 := h
      clear h
      have hF := hW.free hS hA
      refine va_calli (va_runV (As := [.int 2]) (rest := []) ⟨hx, hb, hml, hown, hts⟩ (c_Mo_fail _ h9) (cwV 1 hts (gi_V bw_1068 bw_1070 bs_20 bw_5 bw_1071) rfl rfl rfl (by decide +kernel) ⟨Nat.le_of_ble_eq_true rfl, Nat.le_of_ble_eq_true rfl⟩) ⟨hI.blind, hw_recv hK hW h1 rfl, hI.give hW hS hA hK hZ0⟩ rfl rfl hl.1 rfl (lv_room (Nat.le_of_ble_eq_true rfl)) d_Mo_item_32 ⟨(show _ ≤ 0 by omega), (show _ ≤ 0 by omega)⟩) hS (fun q _ z => hF q z) hF (fun r43 M44 t H locs ht _ h hB1 _ _ hS => ?_)
      have hW := hw_back hF ht hB1
      clear h9
      exact W.iret hx hb hr (fun t ht hWm => ⟨⟨_, _, rfl, h, hw_t ht hW⟩, hS.F ht⟩) hS.2.2 d_Mo_item_35
  · have h := h1 c27
    refine lv_aload_n hx hb d_Mo_item_15 rfl (lv_at hl 0 rfl) ?_
    refine lv_iconst (v := 1) hx hb d_Mo_item_16 (by decide) ?_
    obtain ⟨⟨fs, h1⟩, h⟩ := h
    have h9 := h
    clear h
    have hF := hW.free hS hA
    refine va_calli (va_runV (As := [.int 1]) (rest := []) ⟨hx, hb, hml, hown, hts⟩ (c_Mo_fail _ h9) (cwV 1 hts (gi_V bw_1068 bw_1070 bs_20 bw_5 bw_1071) rfl rfl rfl (by decide +kernel) ⟨Nat.le_of_ble_eq_true rfl, Nat.le_of_ble_eq_true rfl⟩) ⟨hI.blind, hw_recv hK hW h1 rfl, hI.give hW hS hA hK hZ0⟩ rfl rfl hl.1 rfl (lv_room (Nat.le_of_ble_eq_true rfl)) d_Mo_item_17 ⟨(show _ ≤ 0 by omega), (show _ ≤ 0 by omega)⟩) hS (fun q _ z => hF q z) hF (fun r45 M46 t H locs ht _ h hB1 _ _ hS => ?_)
    have hW := hw_back hF ht hB1
    clear h9
    exact W.iret hx hb hr (fun t ht hWm => ⟨⟨_, _, rfl, h, hw_t ht hW⟩, hS.F ht⟩) hS.2.2 d_Mo_item_20
set_option maxRecDepth 20000 in
theorem c_Mo_item {l : Launch} {D : va_G} {ca G : Nat → Nat} (post : Int32 → hM → Prop) {M : hM} {sz : Nat} {a0 : Nat} {x1 : Int32} {x2 : Int32} (h : wp_Mo_item G ca post M a0 x1 x2) : Met l y_Mo_item (wz y_Mo_item prog_7_method_32_code 3 (some .int)) rm_Mo_item (va_Pc [.ref a0, .int x1, .int x2] (hI D ca G sz M)) (va_Qi post (hB D M sz) (hp_A M sz)) 0 0 (hp_A M sz) := by
  refine Met.ofW (cc := prog_7_method_32_code) (maxL := 3) (ret := some .int) (by decide) rfl ?_
  intro p e s m args below meth c s₁ B hml hv
  obtain ⟨rfl, hsz, hW, hK, hZ0⟩ := hv
  have hts := fun w hw => atoms_spec (ws := wz y_Mo_item prog_7_method_32_code 3 (some .int)) B.pre w (List.mem_cons_of_mem _ hw)
  have hown : s.vm.findClass "ChannelHallModel" = some m.cls := findClass_of_methodNamed B.named
  subst hsz
  have hl := lv_entry [.ref a0, .int x1, .int x2] (n := 3) (Nat.le_of_ble_eq_true rfl)
  rw [lg_entry_eq]
  exact l_Mo_item_e ⟨B.exec, B.bytes, B.returns, hml, hown, hts, B.notSynchronized, hK, fun q h => Or.inr h, hZ0⟩ a0 x1 x2 h hW va_S.rf hl

theorem d_Mo_channel_0 : decode prog_7_method_31_code 0 = .ok (.aload_n 0, 1) := by decide +kernel
theorem d_Mo_channel_1 : decode prog_7_method_31_code 1 = .ok (.iconst 0, 1) := by decide +kernel
theorem d_Mo_channel_2 : decode prog_7_method_31_code 2 = .ok (.putfield 86, 3) := by decide +kernel
theorem d_Mo_channel_5 : decode prog_7_method_31_code 5 = .ok (.aload_n 0, 1) := by decide +kernel
theorem d_Mo_channel_6 : decode prog_7_method_31_code 6 = .ok (.iload_n 1, 1) := by decide +kernel
theorem d_Mo_channel_7 : decode prog_7_method_31_code 7 = .ok (.bipush 8, 2) := by decide +kernel
theorem d_Mo_channel_9 : decode prog_7_method_31_code 9 = .ok (.invokevirtual 90, 3) := by decide +kernel
theorem d_Mo_channel_12 : decode prog_7_method_31_code 12 = .ok (.ifCond .ne 13, 3) := by decide +kernel
theorem d_Mo_channel_15 : decode prog_7_method_31_code 15 = .ok (.aload_n 0, 1) := by decide +kernel
theorem d_Mo_channel_16 : decode prog_7_method_31_code 16 = .ok (.iload_n 2, 1) := by decide +kernel
theorem d_Mo_channel_17 : decode prog_7_method_31_code 17 = .ok (.bipush 11, 2) := by decide +kernel
theorem d_Mo_channel_19 : decode prog_7_method_31_code 19 = .ok (.invokevirtual 90, 3) := by decide +kernel
theorem d_Mo_channel_22 : decode prog_7_method_31_code 22 = .ok (.ifCond .eq 9, 3) := by decide +kernel
theorem d_Mo_channel_25 : decode prog_7_method_31_code 25 = .ok (.aload_n 0, 1) := by decide +kernel
theorem d_Mo_channel_26 : decode prog_7_method_31_code 26 = .ok (.iconst 1, 1) := by decide +kernel
theorem d_Mo_channel_27 : decode prog_7_method_31_code 27 = .ok (.invokevirtual 94, 3) := by decide +kernel
theorem d_Mo_channel_30 : decode prog_7_method_31_code 30 = .ok (.ireturn, 1) := by decide +kernel
theorem d_Mo_channel_31 : decode prog_7_method_31_code 31 = .ok (.aload_n 0, 1) := by decide +kernel
theorem d_Mo_channel_32 : decode prog_7_method_31_code 32 = .ok (.getfield 45, 3) := by decide +kernel
theorem d_Mo_channel_35 : decode prog_7_method_31_code 35 = .ok (.iload_n 1, 1) := by decide +kernel
theorem d_Mo_channel_36 : decode prog_7_method_31_code 36 = .ok (.iaload, 1) := by decide +kernel
theorem d_Mo_channel_37 : decode prog_7_method_31_code 37 = .ok (.ifCond .ge 9, 3) := by decide +kernel
theorem d_Mo_channel_40 : decode prog_7_method_31_code 40 = .ok (.aload_n 0, 1) := by decide +kernel
theorem d_Mo_channel_41 : decode prog_7_method_31_code 41 = .ok (.iconst 2, 1) := by decide +kernel
theorem d_Mo_channel_42 : decode prog_7_method_31_code 42 = .ok (.invokevirtual 94, 3) := by decide +kernel
theorem d_Mo_channel_45 : decode prog_7_method_31_code 45 = .ok (.ireturn, 1) := by decide +kernel
theorem d_Mo_channel_46 : decode prog_7_method_31_code 46 = .ok (.iload_n 2, 1) := by decide +kernel
theorem d_Mo_channel_47 : decode prog_7_method_31_code 47 = .ok (.tableswitch 95 0 4 #[33, 40, 47, 54, 88], 33) := by decide +kernel
theorem d_Mo_channel_80 : decode prog_7_method_31_code 80 = .ok (.aload_n 0, 1) := by decide +kernel
theorem d_Mo_channel_81 : decode prog_7_method_31_code 81 = .ok (.getfield 45, 3) := by decide +kernel
theorem d_Mo_channel_84 : decode prog_7_method_31_code 84 = .ok (.iload_n 1, 1) := by decide +kernel
theorem d_Mo_channel_85 : decode prog_7_method_31_code 85 = .ok (.iaload, 1) := by decide +kernel
theorem d_Mo_channel_86 : decode prog_7_method_31_code 86 = .ok (.ireturn, 1) := by decide +kernel
theorem d_Mo_channel_87 : decode prog_7_method_31_code 87 = .ok (.aload_n 0, 1) := by decide +kernel
theorem d_Mo_channel_88 : decode prog_7_method_31_code 88 = .ok (.getfield 75, 3) := by decide +kernel
theorem d_Mo_channel_91 : decode prog_7_method_31_code 91 = .ok (.iload_n 1, 1) := by decide +kernel
theorem d_Mo_channel_92 : decode prog_7_method_31_code 92 = .ok (.iaload, 1) := by decide +kernel
theorem d_Mo_channel_93 : decode prog_7_method_31_code 93 = .ok (.ireturn, 1) := by decide +kernel
theorem d_Mo_channel_94 : decode prog_7_method_31_code 94 = .ok (.aload_n 0, 1) := by decide +kernel
theorem d_Mo_channel_95 : decode prog_7_method_31_code 95 = .ok (.getfield 60, 3) := by decide +kernel
theorem d_Mo_channel_98 : decode prog_7_method_31_code 98 = .ok (.iload_n 1, 1) := by decide +kernel
theorem d_Mo_channel_99 : decode prog_7_method_31_code 99 = .ok (.iaload, 1) := by decide +kernel
theorem d_Mo_channel_100 : decode prog_7_method_31_code 100 = .ok (.ireturn, 1) := by decide +kernel
theorem d_Mo_channel_101 : decode prog_7_method_31_code 101 = .ok (.aload_n 0, 1) := by decide +kernel
theorem d_Mo_channel_102 : decode prog_7_method_31_code 102 = .ok (.iload_n 1, 1) := by decide +kernel
theorem d_Mo_channel_103 : decode prog_7_method_31_code 103 = .ok (.invokevirtual 127, 3) := by decide +kernel
theorem d_Mo_channel_106 : decode prog_7_method_31_code 106 = .ok (.ifCond .ne 23, 3) := by decide +kernel
theorem d_Mo_channel_109 : decode prog_7_method_31_code 109 = .ok (.aload_n 0, 1) := by decide +kernel
theorem d_Mo_channel_110 : decode prog_7_method_31_code 110 = .ok (.getfield 45, 3) := by decide +kernel
theorem d_Mo_channel_113 : decode prog_7_method_31_code 113 = .ok (.iload_n 1, 1) := by decide +kernel
theorem d_Mo_channel_114 : decode prog_7_method_31_code 114 = .ok (.iaload, 1) := by decide +kernel
theorem d_Mo_channel_115 : decode prog_7_method_31_code 115 = .ok (.bipush 6, 2) := by decide +kernel
theorem d_Mo_channel_117 : decode prog_7_method_31_code 117 = .ok (.if_icmp .ne 16, 3) := by decide +kernel
theorem d_Mo_channel_120 : decode prog_7_method_31_code 120 = .ok (.aload_n 0, 1) := by decide +kernel
theorem d_Mo_channel_121 : decode prog_7_method_31_code 121 = .ok (.getfield 51, 3) := by decide +kernel
theorem d_Mo_channel_124 : decode prog_7_method_31_code 124 = .ok (.iload_n 1, 1) := by decide +kernel
theorem d_Mo_channel_125 : decode prog_7_method_31_code 125 = .ok (.baload, 1) := by decide +kernel
theorem d_Mo_channel_126 : decode prog_7_method_31_code 126 = .ok (.ifCond .ne 7, 3) := by decide +kernel
theorem d_Mo_channel_129 : decode prog_7_method_31_code 129 = .ok (.iconst 1, 1) := by decide +kernel
theorem d_Mo_channel_130 : decode prog_7_method_31_code 130 = .ok (.goto 4, 3) := by decide +kernel
theorem d_Mo_channel_133 : decode prog_7_method_31_code 133 = .ok (.iconst 0, 1) := by decide +kernel
theorem d_Mo_channel_134 : decode prog_7_method_31_code 134 = .ok (.ireturn, 1) := by decide +kernel
theorem d_Mo_channel_135 : decode prog_7_method_31_code 135 = .ok (.aload_n 0, 1) := by decide +kernel
theorem d_Mo_channel_136 : decode prog_7_method_31_code 136 = .ok (.getfield 54, 3) := by decide +kernel
theorem d_Mo_channel_139 : decode prog_7_method_31_code 139 = .ok (.iload_n 1, 1) := by decide +kernel
theorem d_Mo_channel_140 : decode prog_7_method_31_code 140 = .ok (.iaload, 1) := by decide +kernel
theorem d_Mo_channel_141 : decode prog_7_method_31_code 141 = .ok (.ireturn, 1) := by decide +kernel
theorem d_Mo_channel_142 : decode prog_7_method_31_code 142 = .ok (.iload_n 2, 1) := by decide +kernel
theorem d_Mo_channel_143 : decode prog_7_method_31_code 143 = .ok (.iconst 5, 1) := by decide +kernel
theorem d_Mo_channel_144 : decode prog_7_method_31_code 144 = .ok (.isub, 1) := by decide +kernel
theorem d_Mo_channel_145 : decode prog_7_method_31_code 145 = .ok (.aload_n 0, 1) := by decide +kernel
theorem d_Mo_channel_146 : decode prog_7_method_31_code 146 = .ok (.getfield 60, 3) := by decide +kernel
theorem d_Mo_channel_149 : decode prog_7_method_31_code 149 = .ok (.iload_n 1, 1) := by decide +kernel
theorem d_Mo_channel_150 : decode prog_7_method_31_code 150 = .ok (.iaload, 1) := by decide +kernel
theorem d_Mo_channel_151 : decode prog_7_method_31_code 151 = .ok (.if_icmp .ge 19, 3) := by decide +kernel
theorem d_Mo_channel_154 : decode prog_7_method_31_code 154 = .ok (.aload_n 0, 1) := by decide +kernel
theorem d_Mo_channel_155 : decode prog_7_method_31_code 155 = .ok (.getfield 57, 3) := by decide +kernel
theorem d_Mo_channel_158 : decode prog_7_method_31_code 158 = .ok (.bipush 6, 2) := by decide +kernel
theorem d_Mo_channel_160 : decode prog_7_method_31_code 160 = .ok (.iload_n 1, 1) := by decide +kernel
theorem d_Mo_channel_161 : decode prog_7_method_31_code 161 = .ok (.imul, 1) := by decide +kernel
theorem d_Mo_channel_162 : decode prog_7_method_31_code 162 = .ok (.iload_n 2, 1) := by decide +kernel
theorem d_Mo_channel_163 : decode prog_7_method_31_code 163 = .ok (.iadd, 1) := by decide +kernel
theorem d_Mo_channel_164 : decode prog_7_method_31_code 164 = .ok (.iconst 5, 1) := by decide +kernel
theorem d_Mo_channel_165 : decode prog_7_method_31_code 165 = .ok (.isub, 1) := by decide +kernel
theorem d_Mo_channel_166 : decode prog_7_method_31_code 166 = .ok (.iaload, 1) := by decide +kernel
theorem d_Mo_channel_167 : decode prog_7_method_31_code 167 = .ok (.goto 4, 3) := by decide +kernel
theorem d_Mo_channel_170 : decode prog_7_method_31_code 170 = .ok (.iconst (-1), 1) := by decide +kernel
theorem d_Mo_channel_171 : decode prog_7_method_31_code 171 = .ok (.ireturn, 1) := by decide +kernel
def y_Mo_channel : MethodName := ⟨"ChannelHallModel", "channel", "(II)I"⟩
abbrev rm_Mo_channel : Room := { frames := 1, cells := 0, slots := 0, locals := 22 }
def wp_Mo_channel_171 (G ca : Nat → Nat) (post : Int32 → hM → Prop) (M : hM) (s0b171 : Int32) : Prop := post s0b171 M
def wp_Mo_channel_134 (G ca : Nat → Nat) (post : Int32 → hM → Prop) (M : hM) (s0b134 : Int32) : Prop := post s0b134 M
def wp_Mo_channel_133 (G ca : Nat → Nat) (post : Int32 → hM → Prop) (M : hM)  : Prop := wp_Mo_channel_134 G ca post M 0
def wp_Mo_channel_129 (G ca : Nat → Nat) (post : Int32 → hM → Prop) (M : hM)  : Prop := wp_Mo_channel_134 G ca post M 1
def wp_Mo_channel_25 (G ca : Nat → Nat) (post : Int32 → hM → Prop) (M : hM) (l0b25 : Nat) : Prop := rC M l0b25 5 (wp_Mo_fail G ca (fun r46 M47 => post r46 M47) M l0b25 1)
def wp_Mo_channel (G ca : Nat → Nat) (post : Int32 → hM → Prop) (M : hM) (a0 : Nat) (x1 : Int32) (x2 : Int32) : Prop := pF M a0 5 0 (.int 0) fun M48 => rC M48 a0 5 (wp_Mo_out G ca (fun r49 M50 => (¬ r49 = 0 → wp_Mo_channel_25 G ca post M50 a0) ∧ (r49 = 0 → rC M50 a0 5 (wp_Mo_out G ca (fun r52 M53 => (r52 = 0 → gR M53 a0 5 13 fun v55 => nN v55 fun b56 => aI M53 b56 (ca 5) x1 fun v57 => (0 ≤ v57 → (x2 = 0 → gR M53 a0 5 13 fun v59 => nN v59 fun b60 => aI M53 b60 (ca 5) x1 fun v61 => post v61 M53) ∧ (¬ x2 = 0 → (x2 = 1 → gR M53 a0 5 23 fun v62 => nN v62 fun b63 => aI M53 b63 (ca 5) x1 fun v64 => post v64 M53) ∧ (¬ x2 = 1 → (x2 = 2 → gR M53 a0 5 18 fun v65 => nN v65 fun b66 => aI M53 b66 (ca 5) x1 fun v67 => post v67 M53) ∧ (¬ x2 = 2 → (x2 = 3 → rC M53 a0 5 (wp_Mo_ready G ca (fun r68 M69 => (¬ r68 = 0 → wp_Mo_channel_129 G ca post M69) ∧ (r68 = 0 → gR M69 a0 5 13 fun v71 => nN v71 fun b72 => aI M69 b72 (ca 5) x1 fun v73 => (¬ v73 = 6 → wp_Mo_channel_133 G ca post M69) ∧ (v73 = 6 → gR M69 a0 5 15 fun v75 => nN v75 fun b76 => aI M69 b76 (ca 6) x1 fun v77 => (¬ v77 = 0 → wp_Mo_channel_133 G ca post M69) ∧ (v77 = 0 → wp_Mo_channel_129 G ca post M69)))) M53 a0 x1)) ∧ (¬ x2 = 3 → (x2 = 4 → gR M53 a0 5 16 fun v79 => nN v79 fun b80 => aI M53 b80 (ca 5) x1 fun v81 => post v81 M53) ∧ (¬ x2 = 4 → gR M53 a0 5 18 fun v82 => nN v82 fun b83 => aI M53 b83 (ca 5) x1 fun v84 => (v84 ≤ (x2 - 5) → wp_Mo_channel_171 G ca post M53 (-1)) ∧ (¬ v84 ≤ (x2 - 5) → gR M53 a0 5 17 fun v86 => nN v86 fun b87 => aI M53 b87 (ca 5) (((6 * x1) + x2) - 5) fun v88 => wp_Mo_channel_171 G ca post M53 v88))))))) ∧ (¬ 0 ≤ v57 → rC M53 a0 5 (wp_Mo_fail G ca (fun r89 M90 => post r89 M90) M53 a0 2))) ∧ (¬ r52 = 0 → wp_Mo_channel_25 G ca post M53 a0)) M50 a0 x2 11))) M48 a0 x1 8)
set_option maxHeartbeats 1000000 in
set_option maxRecDepth 20000 in
theorem l_Mo_channel_171 {p : Program} {l : Launch} {e : Env} {s : State} {m : MethodId} {args : Array Value} {below : List Frame} {meth : Method} {c : Code} {D : va_G} {ca G : Nat → Nat} {A : Nat → Prop} (C0 : hC p s m args meth c D ca G prog_7_method_31_code 3 (some .int) "ChannelHallModel" A) {post : Int32 → hM → Prop} {M : hM} {H : Heap} {locs : List Loc} {ls : Array Slot} (s0b171 : Int32) (h : wp_Mo_channel_171 G ca post M s0b171) (hW : hw D wCl A M H) (hS : va_S A s.heap H locs) (hl : lv_has ls 3 []) : W p l e rm_Mo_channel s m args below meth c H locs 0 0 (MQ below (va_Qi post (fun M' t => hw D wCl A M' t.heap) A) args s 0 0 A) (F0 m 171 ls [.int s0b171]) := by
  obtain ⟨hx, hb, hr, hml, hown, hts, hlocks, hK, hA, hZ0⟩ := id C0
  exact W.iret hx hb hr (fun t ht hWm => ⟨⟨_, _, rfl, h, hw_t ht hW⟩, hS.F ht⟩) hS.2.2 d_Mo_channel_171
set_option maxHeartbeats 1000000 in
set_option maxRecDepth 20000 in
theorem l_Mo_channel_134 {p : Program} {l : Launch} {e : Env} {s : State} {m : MethodId} {args : Array Value} {below : List Frame} {meth : Method} {c : Code} {D : va_G} {ca G : Nat → Nat} {A : Nat → Prop} (C0 : hC p s m args meth c D ca G prog_7_method_31_code 3 (some .int) "ChannelHallModel" A) {post : Int32 → hM → Prop} {M : hM} {H : Heap} {locs : List Loc} {ls : Array Slot} (s0b134 : Int32) (h : wp_Mo_channel_134 G ca post M s0b134) (hW : hw D wCl A M H) (hS : va_S A s.heap H locs) (hl : lv_has ls 3 []) : W p l e rm_Mo_channel s m args below meth c H locs 0 0 (MQ below (va_Qi post (fun M' t => hw D wCl A M' t.heap) A) args s 0 0 A) (F0 m 134 ls [.int s0b134]) := by
  obtain ⟨hx, hb, hr, hml, hown, hts, hlocks, hK, hA, hZ0⟩ := id C0
  exact W.iret hx hb hr (fun t ht hWm => ⟨⟨_, _, rfl, h, hw_t ht hW⟩, hS.F ht⟩) hS.2.2 d_Mo_channel_134
set_option maxHeartbeats 1000000 in
set_option maxRecDepth 20000 in
theorem l_Mo_channel_133 {p : Program} {l : Launch} {e : Env} {s : State} {m : MethodId} {args : Array Value} {below : List Frame} {meth : Method} {c : Code} {D : va_G} {ca G : Nat → Nat} {A : Nat → Prop} (C0 : hC p s m args meth c D ca G prog_7_method_31_code 3 (some .int) "ChannelHallModel" A) {post : Int32 → hM → Prop} {M : hM} {H : Heap} {locs : List Loc} {ls : Array Slot}  (h : wp_Mo_channel_133 G ca post M) (hW : hw D wCl A M H) (hS : va_S A s.heap H locs) (hl : lv_has ls 3 []) : W p l e rm_Mo_channel s m args below meth c H locs 0 0 (MQ below (va_Qi post (fun M' t => hw D wCl A M' t.heap) A) args s 0 0 A) (F0 m 133 ls []) := by
  obtain ⟨hx, hb, hr, hml, hown, hts, hlocks, hK, hA, hZ0⟩ := id C0
  refine lv_iconst (v := 0) hx hb d_Mo_channel_133 (by decide) ?_
  exact l_Mo_channel_134 C0 0 h hW hS (lv_sub hl [] rfl)
set_option maxHeartbeats 1000000 in
set_option maxRecDepth 20000 in
theorem l_Mo_channel_129 {p : Program} {l : Launch} {e : Env} {s : State} {m : MethodId} {args : Array Value} {below : List Frame} {meth : Method} {c : Code} {D : va_G} {ca G : Nat → Nat} {A : Nat → Prop} (C0 : hC p s m args meth c D ca G prog_7_method_31_code 3 (some .int) "ChannelHallModel" A) {post : Int32 → hM → Prop} {M : hM} {H : Heap} {locs : List Loc} {ls : Array Slot}  (h : wp_Mo_channel_129 G ca post M) (hW : hw D wCl A M H) (hS : va_S A s.heap H locs) (hl : lv_has ls 3 []) : W p l e rm_Mo_channel s m args below meth c H locs 0 0 (MQ below (va_Qi post (fun M' t => hw D wCl A M' t.heap) A) args s 0 0 A) (F0 m 129 ls []) := by
  obtain ⟨hx, hb, hr, hml, hown, hts, hlocks, hK, hA, hZ0⟩ := id C0
  refine lv_iconst (v := 1) hx hb d_Mo_channel_129 (by decide) ?_
  refine lv_goto (tgt := 134) hx hb d_Mo_channel_130 (by decide) ?_
  exact l_Mo_channel_134 C0 1 h hW hS (lv_sub hl [] rfl)
set_option maxHeartbeats 1000000 in
set_option maxRecDepth 20000 in
theorem l_Mo_channel_25 {p : Program} {l : Launch} {e : Env} {s : State} {m : MethodId} {args : Array Value} {below : List Frame} {meth : Method} {c : Code} {D : va_G} {ca G : Nat → Nat} {A : Nat → Prop} (C0 : hC p s m args meth c D ca G prog_7_method_31_code 3 (some .int) "ChannelHallModel" A) {post : Int32 → hM → Prop} {M : hM} {H : Heap} {locs : List Loc} {ls : Array Slot} (l0b25 : Nat) (h : wp_Mo_channel_25 G ca post M l0b25) (hW : hw D wCl A M H) (hS : va_S A s.heap H locs) (hl : lv_has ls 3 [(0, .ref l0b25)]) : W p l e rm_Mo_channel s m args below meth c H locs 0 0 (MQ below (va_Qi post (fun M' t => hw D wCl A M' t.heap) A) args s 0 0 A) (F0 m 25 ls []) := by
  obtain ⟨hx, hb, hr, hml, hown, hts, hlocks, hK, hA, hZ0⟩ := id C0
  refine lv_aload_n hx hb d_Mo_channel_25 rfl (lv_at hl 0 rfl) ?_
  refine lv_iconst (v := 1) hx hb d_Mo_channel_26 (by decide) ?_
  obtain ⟨⟨fs, h1⟩, h⟩ := h
  have h9 := h
  clear h
  have hF := hW.free hS hA
  refine va_calli (va_runV (As := [.int 1]) (rest := []) ⟨hx, hb, hml, hown, hts⟩ (c_Mo_fail _ h9) (cwV 1 hts (gi_V bw_1068 bw_1070 bs_20 bw_5 bw_1071) rfl rfl rfl (by decide +kernel) ⟨Nat.le_of_ble_eq_true rfl, Nat.le_of_ble_eq_true rfl⟩) ⟨hI.blind, hw_recv hK hW h1 rfl, hI.give hW hS hA hK hZ0⟩ rfl rfl hl.1 rfl (lv_room (Nat.le_of_ble_eq_true rfl)) d_Mo_channel_27 ⟨(show _ ≤ 0 by omega), (show _ ≤ 0 by omega)⟩) hS (fun q _ z => hF q z) hF (fun r46 M47 t H locs ht _ h hB1 _ _ hS => ?_)
  have hW := hw_back hF ht hB1
  clear h9
  exact W.iret hx hb hr (fun t ht hWm => ⟨⟨_, _, rfl, h, hw_t ht hW⟩, hS.F ht⟩) hS.2.2 d_Mo_channel_30
set_option maxHeartbeats 1000000 in
set_option maxRecDepth 20000 in
theorem l_Mo_channel_e {p : Program} {l : Launch} {e : Env} {s : State} {m : MethodId} {args : Array Value} {below : List Frame} {meth : Method} {c : Code} {D : va_G} {ca G : Nat → Nat} {A : Nat → Prop} (C0 : hC p s m args meth c D ca G prog_7_method_31_code 3 (some .int) "ChannelHallModel" A) {post : Int32 → hM → Prop} {M : hM} {H : Heap} {locs : List Loc} {ls : Array Slot} (a0 : Nat) (x1 : Int32) (x2 : Int32) (h : wp_Mo_channel G ca post M a0 x1 x2) (hW : hw D wCl A M H) (hS : va_S A s.heap H locs) (hl : lv_has ls 3 [(0, .ref a0), (1, .int x1), (2, .int x2)]) : W p l e rm_Mo_channel s m args below meth c H locs 0 0 (MQ below (va_Qi post (fun M' t => hw D wCl A M' t.heap) A) args s 0 0 A) (F0 m 0 ls []) := by
  obtain ⟨hx, hb, hr, hml, hown, hts, hlocks, hK, hA, hZ0⟩ := id C0
  refine lv_aload_n hx hb d_Mo_channel_0 rfl (lv_at hl 0 rfl) ?_
  refine lv_iconst (v := 0) hx hb d_Mo_channel_1 (by decide) ?_
  obtain ⟨fs, h1, h2, h⟩ := h
  obtain ⟨ws, q0, hq, hP, hD, hback, -⟩ := hw_open hW h1
  refine va_put (D := D) (ci := 5) (v := .int 0) (ty := .int) (C := "ChannelHallModel") (T := TMo) (N := 26) hx hb hts uMo tMo tMo_ok nMo hown hK hP hD hS q0 hq rfl 0 (by decide) (hts _ bw_974) (fun _ h9 => h9) rfl (by decide +kernel) rfl rfl h2 d_Mo_channel_2 (fun H locs hP hD hS => ?_)
  have hW := hback _ _ hP hD
  generalize (va_up M a0 (some (.inr (5, fs.set 0 (.int 0))))) = M48 at h hW
  refine lv_aload_n hx hb d_Mo_channel_5 rfl (lv_at hl 0 rfl) ?_
  refine lv_iload_n hx hb d_Mo_channel_6 rfl (lv_at hl 1 rfl) ?_
  refine lv_bipush (v := 8) hx hb d_Mo_channel_7 (by decide) ?_
  obtain ⟨⟨fs, h1⟩, h⟩ := h
  have h9 := h
  clear h
  have hF := hW.free hS hA
  refine va_calli (va_runV (As := [.int x1, .int 8]) (rest := []) ⟨hx, hb, hml, hown, hts⟩ (c_Mo_out _ h9) (cwV 2 hts (gi_V bw_1064 bw_1066 bs_19 bw_5 bw_1067) rfl rfl rfl (by decide +kernel) ⟨Nat.le_of_ble_eq_true rfl, Nat.le_of_ble_eq_true rfl⟩) ⟨hI.blind, hw_recv hK hW h1 rfl, hI.give hW hS hA hK hZ0⟩ rfl rfl hl.1 rfl (lv_room (Nat.le_of_ble_eq_true rfl)) d_Mo_channel_9 ⟨(show _ ≤ 0 by omega), (show _ ≤ 0 by omega)⟩) hS (fun q _ z => hF q z) hF (fun r49 M50 t H locs ht _ h hB1 _ _ hS => ?_)
  have hW := hw_back hF ht hB1
  clear h9
  obtain ⟨h0, h1⟩ := h
  refine lv_if_ne (tgt := 25) hx hb d_Mo_channel_12 (by decide) (fun c51 => ?_) (fun c51 => ?_)
  · have h := h0 c51
    exact l_Mo_channel_25 C0 a0 h hW hS (lv_sub hl [0] rfl)
  · have h := h1 c51
    refine lv_aload_n hx hb d_Mo_channel_15 rfl (lv_at hl 0 rfl) ?_
    refine lv_iload_n hx hb d_Mo_channel_16 rfl (lv_at hl 2 rfl) ?_
    refine lv_bipush (v := 11) hx hb d_Mo_channel_17 (by decide) ?_
    obtain ⟨⟨fs, h1⟩, h⟩ := h
    have h9 := h
    clear h
    have hF := hW.free hS hA
    refine va_calli (va_runV (As := [.int x2, .int 11]) (rest := []) ⟨hx, hb, hml, hown, hts⟩ (c_Mo_out _ h9) (cwV 2 hts (gi_V bw_1064 bw_1066 bs_19 bw_5 bw_1067) rfl rfl rfl (by decide +kernel) ⟨Nat.le_of_ble_eq_true rfl, Nat.le_of_ble_eq_true rfl⟩) ⟨hI.blind, hw_recv hK hW h1 rfl, hI.give hW hS hA hK hZ0⟩ rfl rfl hl.1 rfl (lv_room (Nat.le_of_ble_eq_true rfl)) d_Mo_channel_19 ⟨(show _ ≤ 0 by omega), (show _ ≤ 0 by omega)⟩) hS (fun q _ z => hF q z) hF (fun r52 M53 t H locs ht _ h hB1 _ _ hS => ?_)
    have hW := hw_back hF ht hB1
    clear h9
    obtain ⟨h0, h1⟩ := h
    refine lv_if_eq (tgt := 31) hx hb d_Mo_channel_22 (by decide) (fun c54 => ?_) (fun c54 => ?_)
    · have h := h0 c54
      refine lv_aload_n hx hb d_Mo_channel_31 rfl (lv_at hl 0 rfl) ?_
      obtain ⟨fs, v55, h1, h2, h⟩ := h
      refine va_get (D := D) (ci := 5) (v := va_rf v55) (C := "ChannelHallModel") (T := TMo) (N := 26) hx hb hts uMo hown hK (hw_one hW h1) 0 rfl rfl 13 (by decide) (hts _ bw_987) (fun _ h9 => h9) h2 d_Mo_channel_32 ?_
      refine lv_iload_n hx hb d_Mo_channel_35 rfl (lv_at hl 1 rfl) ?_
      obtain ⟨b56, rfl, h⟩ := h
      obtain ⟨n, f, h1, h2, h⟩ := h
      refine va_iald hx hb hK (hw_one hW h1) 0 5 rfl rfl h2 d_Mo_channel_36 ?_
      generalize f (x1).toNatClampNeg = v57 at h ⊢
      obtain ⟨h0, h1⟩ := h
      refine lv_if_ge (tgt := 46) hx hb d_Mo_channel_37 (by decide) (fun c58 => ?_) (fun c58 => ?_)
      · have h := h0 c58
        refine lv_iload_n hx hb d_Mo_channel_46 rfl (lv_at hl 2 rfl) ?_
        obtain ⟨h0, h1⟩ := h
        by_cases c0 : x2 = 0
        · have h := h0 c0
          rw [c0]
          refine lv_tableIn (off := 33) (tgt := 80) hx hb d_Mo_channel_47 (by decide) (by decide) (by decide) (by decide) ?_
          refine lv_aload_n hx hb d_Mo_channel_80 rfl (lv_at hl 0 rfl) ?_
          obtain ⟨fs, v59, h1, h2, h⟩ := h
          refine va_get (D := D) (ci := 5) (v := va_rf v59) (C := "ChannelHallModel") (T := TMo) (N := 26) hx hb hts uMo hown hK (hw_one hW h1) 0 rfl rfl 13 (by decide) (hts _ bw_987) (fun _ h9 => h9) h2 d_Mo_channel_81 ?_
          refine lv_iload_n hx hb d_Mo_channel_84 rfl (lv_at hl 1 rfl) ?_
          obtain ⟨b60, rfl, h⟩ := h
          obtain ⟨n, f, h1, h2, h⟩ := h
          refine va_iald hx hb hK (hw_one hW h1) 0 5 rfl rfl h2 d_Mo_channel_85 ?_
          generalize f (x1).toNatClampNeg = v61 at h ⊢
          exact W.iret hx hb hr (fun t ht hWm => ⟨⟨_, _, rfl, h, hw_t ht hW⟩, hS.F ht⟩) hS.2.2 d_Mo_channel_86
        · have h := h1 c0
          obtain ⟨h0, h1⟩ := h
          by_cases c1 : x2 = 1
          · have h := h0 c1
            rw [c1]
            refine lv_tableIn (off := 40) (tgt := 87) hx hb d_Mo_channel_47 (by decide) (by decide) (by decide) (by decide) ?_
            refine lv_aload_n hx hb d_Mo_channel_87 rfl (lv_at hl 0 rfl) ?_
            obtain ⟨fs, v62, h1, h2, h⟩ := h
            refine va_get (D := D) (ci := 5) (v := va_rf v62) (C := "ChannelHallModel") (T := TMo) (N := 26) hx hb hts uMo hown hK (hw_one hW h1) 0 rfl rfl 23 (by decide) (hts _ bw_997) (fun _ h9 => h9) h2 d_Mo_channel_88 ?_
            refine lv_iload_n hx hb d_Mo_channel_91 rfl (lv_at hl 1 rfl) ?_
            obtain ⟨b63, rfl, h⟩ := h
            obtain ⟨n, f, h1, h2, h⟩ := h
            refine va_iald hx hb hK (hw_one hW h1) 0 5 rfl rfl h2 d_Mo_channel_92 ?_
            generalize f (x1).toNatClampNeg = v64 at h ⊢
            exact W.iret hx hb hr (fun t ht hWm => ⟨⟨_, _, rfl, h, hw_t ht hW⟩, hS.F ht⟩) hS.2.2 d_Mo_channel_93
          · have h := h1 c1
            obtain ⟨h0, h1⟩ := h
            by_cases c2 : x2 = 2
            · have h := h0 c2
              rw [c2]
              refine lv_tableIn (off := 47) (tgt := 94) hx hb d_Mo_channel_47 (by decide) (by decide) (by decide) (by decide) ?_
              refine lv_aload_n hx hb d_Mo_channel_94 rfl (lv_at hl 0 rfl) ?_
              obtain ⟨fs, v65, h1, h2, h⟩ := h
              refine va_get (D := D) (ci := 5) (v := va_rf v65) (C := "ChannelHallModel") (T := TMo) (N := 26) hx hb hts uMo hown hK (hw_one hW h1) 0 rfl rfl 18 (by decide) (hts _ bw_992) (fun _ h9 => h9) h2 d_Mo_channel_95 ?_
              refine lv_iload_n hx hb d_Mo_channel_98 rfl (lv_at hl 1 rfl) ?_
              obtain ⟨b66, rfl, h⟩ := h
              obtain ⟨n, f, h1, h2, h⟩ := h
              refine va_iald hx hb hK (hw_one hW h1) 0 5 rfl rfl h2 d_Mo_channel_99 ?_
              generalize f (x1).toNatClampNeg = v67 at h ⊢
              exact W.iret hx hb hr (fun t ht hWm => ⟨⟨_, _, rfl, h, hw_t ht hW⟩, hS.F ht⟩) hS.2.2 d_Mo_channel_100
            · have h := h1 c2
              obtain ⟨h0, h1⟩ := h
              by_cases c3 : x2 = 3
              · have h := h0 c3
                rw [c3]
                refine lv_tableIn (off := 54) (tgt := 101) hx hb d_Mo_channel_47 (by decide) (by decide) (by decide) (by decide) ?_
                refine lv_aload_n hx hb d_Mo_channel_101 rfl (lv_at hl 0 rfl) ?_
                refine lv_iload_n hx hb d_Mo_channel_102 rfl (lv_at hl 1 rfl) ?_
                obtain ⟨⟨fs, h1⟩, h⟩ := h
                have h9 := h
                clear h
                have hF := hW.free hS hA
                refine va_calli (va_runV (As := [.int x1]) (rest := []) ⟨hx, hb, hml, hown, hts⟩ (c_Mo_ready _ h9) (cwV 1 hts (gi_V bw_1122 bw_1124 bs_32 bw_5 bw_1125) rfl rfl rfl (by decide +kernel) ⟨Nat.le_of_ble_eq_true rfl, Nat.le_of_ble_eq_true rfl⟩) ⟨hI.blind, hw_recv hK hW h1 rfl, hI.give hW hS hA hK hZ0⟩ rfl rfl hl.1 rfl (lv_room (Nat.le_of_ble_eq_true rfl)) d_Mo_channel_103 ⟨(show _ ≤ 0 by omega), (show _ ≤ 0 by omega)⟩) hS (fun q _ z => hF q z) hF (fun r68 M69 t H locs ht _ h hB1 _ _ hS => ?_)
                have hW := hw_back hF ht hB1
                clear h9
                obtain ⟨h0, h1⟩ := h
                refine lv_if_ne (tgt := 129) hx hb d_Mo_channel_106 (by decide) (fun c70 => ?_) (fun c70 => ?_)
                · have h := h0 c70
                  exact l_Mo_channel_129 C0  h hW hS (lv_sub hl [] rfl)
                · have h := h1 c70
                  refine lv_aload_n hx hb d_Mo_channel_109 rfl (lv_at hl 0 rfl) ?_
                  obtain ⟨fs, v71, h1, h2, h⟩ := h
                  refine va_get (D := D) (ci := 5) (v := va_rf v71) (C := "ChannelHallModel") (T := TMo) (N := 26) hx hb hts uMo hown hK (hw_one hW h1) 0 rfl rfl 13 (by decide) (hts _ bw_987) (fun _ h9 => h9) h2 d_Mo_channel_110 ?_
                  refine lv_iload_n hx hb d_Mo_channel_113 rfl (lv_at hl 1 rfl) ?_
                  obtain ⟨b72, rfl, h⟩ := h
                  obtain ⟨n, f, h1, h2, h⟩ := h
                  refine va_iald hx hb hK (hw_one hW h1) 0 5 rfl rfl h2 d_Mo_channel_114 ?_
                  generalize f (x1).toNatClampNeg = v73 at h ⊢
                  refine lv_bipush (v := 6) hx hb d_Mo_channel_115 (by decide) ?_
                  obtain ⟨h0, h1⟩ := h
                  refine lv_icmp_ne (tgt := 133) hx hb d_Mo_channel_117 (by decide) (fun c74 => ?_) (fun c74 => ?_)
                  · have h := h0 c74
                    exact l_Mo_channel_133 C0  h hW hS (lv_sub hl [] rfl)
                  · have h := h1 c74
                    refine lv_aload_n hx hb d_Mo_channel_120 rfl (lv_at hl 0 rfl) ?_
                    obtain ⟨fs, v75, h1, h2, h⟩ := h
                    refine va_get (D := D) (ci := 5) (v := va_rf v75) (C := "ChannelHallModel") (T := TMo) (N := 26) hx hb hts uMo hown hK (hw_one hW h1) 0 rfl rfl 15 (by decide) (hts _ bw_989) (fun _ h9 => h9) h2 d_Mo_channel_121 ?_
                    refine lv_iload_n hx hb d_Mo_channel_124 rfl (lv_at hl 1 rfl) ?_
                    obtain ⟨b76, rfl, h⟩ := h
                    obtain ⟨n, f, h1, h2, h⟩ := h
                    refine va_zald hx hb hK (hw_one hW h1) 0 6 rfl rfl h2 d_Mo_channel_125 ?_
                    generalize f (x1).toNatClampNeg = v77 at h ⊢
                    obtain ⟨h0, h1⟩ := h
                    refine lv_if_ne (tgt := 133) hx hb d_Mo_channel_126 (by decide) (fun c78 => ?_) (fun c78 => ?_)
                    · have h := h0 c78
                      exact l_Mo_channel_133 C0  h hW hS (lv_sub hl [] rfl)
                    · have h := h1 c78
                      exact l_Mo_channel_129 C0  h hW hS (lv_sub hl [] rfl)
              · have h := h1 c3
                obtain ⟨h0, h1⟩ := h
                by_cases c4 : x2 = 4
                · have h := h0 c4
                  rw [c4]
                  refine lv_tableIn (off := 88) (tgt := 135) hx hb d_Mo_channel_47 (by decide) (by decide) (by decide) (by decide) ?_
                  refine lv_aload_n hx hb d_Mo_channel_135 rfl (lv_at hl 0 rfl) ?_
                  obtain ⟨fs, v79, h1, h2, h⟩ := h
                  refine va_get (D := D) (ci := 5) (v := va_rf v79) (C := "ChannelHallModel") (T := TMo) (N := 26) hx hb hts uMo hown hK (hw_one hW h1) 0 rfl rfl 16 (by decide) (hts _ bw_990) (fun _ h9 => h9) h2 d_Mo_channel_136 ?_
                  refine lv_iload_n hx hb d_Mo_channel_139 rfl (lv_at hl 1 rfl) ?_
                  obtain ⟨b80, rfl, h⟩ := h
                  obtain ⟨n, f, h1, h2, h⟩ := h
                  refine va_iald hx hb hK (hw_one hW h1) 0 5 rfl rfl h2 d_Mo_channel_140 ?_
                  generalize f (x1).toNatClampNeg = v81 at h ⊢
                  exact W.iret hx hb hr (fun t ht hWm => ⟨⟨_, _, rfl, h, hw_t ht hW⟩, hS.F ht⟩) hS.2.2 d_Mo_channel_141
                · have h := h1 c4
                  have n0 := lv_neT c0 (a := 0) (by decide); have n1 := lv_neT c1 (a := 1) (by decide); have n2 := lv_neT c2 (a := 2) (by decide); have n3 := lv_neT c3 (a := 3) (by decide); have n4 := lv_neT c4 (a := 4) (by decide)
                  refine lv_tableOut (tgt := 142) hx hb d_Mo_channel_47 (by omega) (by decide) ?_
                  refine lv_iload_n hx hb d_Mo_channel_142 rfl (lv_at hl 2 rfl) ?_
                  refine lv_iconst (v := 5) hx hb d_Mo_channel_143 (by decide) ?_
                  refine lv_isub hx hb d_Mo_channel_144 ?_
                  refine lv_aload_n hx hb d_Mo_channel_145 rfl (lv_at hl 0 rfl) ?_
                  obtain ⟨fs, v82, h1, h2, h⟩ := h
                  refine va_get (D := D) (ci := 5) (v := va_rf v82) (C := "ChannelHallModel") (T := TMo) (N := 26) hx hb hts uMo hown hK (hw_one hW h1) 0 rfl rfl 18 (by decide) (hts _ bw_992) (fun _ h9 => h9) h2 d_Mo_channel_146 ?_
                  refine lv_iload_n hx hb d_Mo_channel_149 rfl (lv_at hl 1 rfl) ?_
                  obtain ⟨b83, rfl, h⟩ := h
                  obtain ⟨n, f, h1, h2, h⟩ := h
                  refine va_iald hx hb hK (hw_one hW h1) 0 5 rfl rfl h2 d_Mo_channel_150 ?_
                  generalize f (x1).toNatClampNeg = v84 at h ⊢
                  obtain ⟨h0, h1⟩ := h
                  refine lv_icmp_ge (tgt := 170) hx hb d_Mo_channel_151 (by decide) (fun c85 => ?_) (fun c85 => ?_)
                  · have h := h0 c85
                    refine lv_iconst (v := (-1)) hx hb d_Mo_channel_170 (by decide) ?_
                    exact l_Mo_channel_171 C0 (-1) h hW hS (lv_sub hl [] rfl)
                  · have h := h1 c85
                    refine lv_aload_n hx hb d_Mo_channel_154 rfl (lv_at hl 0 rfl) ?_
                    obtain ⟨fs, v86, h1, h2, h⟩ := h
                    refine va_get (D := D) (ci := 5) (v := va_rf v86) (C := "ChannelHallModel") (T := TMo) (N := 26) hx hb hts uMo hown hK (hw_one hW h1) 0 rfl rfl 17 (by decide) (hts _ bw_991) (fun _ h9 => h9) h2 d_Mo_channel_155 ?_
                    refine lv_bipush (v := 6) hx hb d_Mo_channel_158 (by decide) ?_
                    refine lv_iload_n hx hb d_Mo_channel_160 rfl (lv_at hl 1 rfl) ?_
                    refine lv_imul hx hb d_Mo_channel_161 ?_
                    refine lv_iload_n hx hb d_Mo_channel_162 rfl (lv_at hl 2 rfl) ?_
                    refine lv_iadd hx hb d_Mo_channel_163 ?_
                    refine lv_iconst (v := 5) hx hb d_Mo_channel_164 (by decide) ?_
                    refine lv_isub hx hb d_Mo_channel_165 ?_
                    obtain ⟨b87, rfl, h⟩ := h
                    obtain ⟨n, f, h1, h2, h⟩ := h
                    refine va_iald hx hb hK (hw_one hW h1) 0 5 rfl rfl h2 d_Mo_channel_166 ?_
                    generalize f ((((6 * x1) + x2) - 5)).toNatClampNeg = v88 at h ⊢
                    refine lv_goto (tgt := 171) hx hb d_Mo_channel_167 (by decide) ?_
                    exact l_Mo_channel_171 C0 v88 h hW hS (lv_sub hl [] rfl)
      · have h := h1 c58
        refine lv_aload_n hx hb d_Mo_channel_40 rfl (lv_at hl 0 rfl) ?_
        refine lv_iconst (v := 2) hx hb d_Mo_channel_41 (by decide) ?_
        obtain ⟨⟨fs, h1⟩, h⟩ := h
        have h9 := h
        clear h
        have hF := hW.free hS hA
        refine va_calli (va_runV (As := [.int 2]) (rest := []) ⟨hx, hb, hml, hown, hts⟩ (c_Mo_fail _ h9) (cwV 1 hts (gi_V bw_1068 bw_1070 bs_20 bw_5 bw_1071) rfl rfl rfl (by decide +kernel) ⟨Nat.le_of_ble_eq_true rfl, Nat.le_of_ble_eq_true rfl⟩) ⟨hI.blind, hw_recv hK hW h1 rfl, hI.give hW hS hA hK hZ0⟩ rfl rfl hl.1 rfl (lv_room (Nat.le_of_ble_eq_true rfl)) d_Mo_channel_42 ⟨(show _ ≤ 0 by omega), (show _ ≤ 0 by omega)⟩) hS (fun q _ z => hF q z) hF (fun r89 M90 t H locs ht _ h hB1 _ _ hS => ?_)
        have hW := hw_back hF ht hB1
        clear h9
        exact W.iret hx hb hr (fun t ht hWm => ⟨⟨_, _, rfl, h, hw_t ht hW⟩, hS.F ht⟩) hS.2.2 d_Mo_channel_45
    · have h := h1 c54
      exact l_Mo_channel_25 C0 a0 h hW hS (lv_sub hl [0] rfl)
set_option maxRecDepth 20000 in
theorem c_Mo_channel {l : Launch} {D : va_G} {ca G : Nat → Nat} (post : Int32 → hM → Prop) {M : hM} {sz : Nat} {a0 : Nat} {x1 : Int32} {x2 : Int32} (h : wp_Mo_channel G ca post M a0 x1 x2) : Met l y_Mo_channel (wz y_Mo_channel prog_7_method_31_code 3 (some .int)) rm_Mo_channel (va_Pc [.ref a0, .int x1, .int x2] (hI D ca G sz M)) (va_Qi post (hB D M sz) (hp_A M sz)) 0 0 (hp_A M sz) := by
  refine Met.ofW (cc := prog_7_method_31_code) (maxL := 3) (ret := some .int) (by decide) rfl ?_
  intro p e s m args below meth c s₁ B hml hv
  obtain ⟨rfl, hsz, hW, hK, hZ0⟩ := hv
  have hts := fun w hw => atoms_spec (ws := wz y_Mo_channel prog_7_method_31_code 3 (some .int)) B.pre w (List.mem_cons_of_mem _ hw)
  have hown : s.vm.findClass "ChannelHallModel" = some m.cls := findClass_of_methodNamed B.named
  subst hsz
  have hl := lv_entry [.ref a0, .int x1, .int x2] (n := 3) (Nat.le_of_ble_eq_true rfl)
  rw [lg_entry_eq]
  exact l_Mo_channel_e ⟨B.exec, B.bytes, B.returns, hml, hown, hts, B.notSynchronized, hK, fun q h => Or.inr h, hZ0⟩ a0 x1 x2 h hW va_S.rf hl

theorem d_Mo_thread_0 : decode prog_7_method_30_code 0 = .ok (.aload_n 0, 1) := by decide +kernel
theorem d_Mo_thread_1 : decode prog_7_method_30_code 1 = .ok (.iconst 0, 1) := by decide +kernel
theorem d_Mo_thread_2 : decode prog_7_method_30_code 2 = .ok (.putfield 86, 3) := by decide +kernel
theorem d_Mo_thread_5 : decode prog_7_method_30_code 5 = .ok (.aload_n 0, 1) := by decide +kernel
theorem d_Mo_thread_6 : decode prog_7_method_30_code 6 = .ok (.iload_n 1, 1) := by decide +kernel
theorem d_Mo_thread_7 : decode prog_7_method_30_code 7 = .ok (.bipush 6, 2) := by decide +kernel
theorem d_Mo_thread_9 : decode prog_7_method_30_code 9 = .ok (.invokevirtual 90, 3) := by decide +kernel
theorem d_Mo_thread_12 : decode prog_7_method_30_code 12 = .ok (.ifCond .ne 12, 3) := by decide +kernel
theorem d_Mo_thread_15 : decode prog_7_method_30_code 15 = .ok (.aload_n 0, 1) := by decide +kernel
theorem d_Mo_thread_16 : decode prog_7_method_30_code 16 = .ok (.iload_n 2, 1) := by decide +kernel
theorem d_Mo_thread_17 : decode prog_7_method_30_code 17 = .ok (.iconst 4, 1) := by decide +kernel
theorem d_Mo_thread_18 : decode prog_7_method_30_code 18 = .ok (.invokevirtual 90, 3) := by decide +kernel
theorem d_Mo_thread_21 : decode prog_7_method_30_code 21 = .ok (.ifCond .eq 9, 3) := by decide +kernel
theorem d_Mo_thread_24 : decode prog_7_method_30_code 24 = .ok (.aload_n 0, 1) := by decide +kernel
theorem d_Mo_thread_25 : decode prog_7_method_30_code 25 = .ok (.iconst 1, 1) := by decide +kernel
theorem d_Mo_thread_26 : decode prog_7_method_30_code 26 = .ok (.invokevirtual 94, 3) := by decide +kernel
theorem d_Mo_thread_29 : decode prog_7_method_30_code 29 = .ok (.ireturn, 1) := by decide +kernel
theorem d_Mo_thread_30 : decode prog_7_method_30_code 30 = .ok (.iload_n 2, 1) := by decide +kernel
theorem d_Mo_thread_31 : decode prog_7_method_30_code 31 = .ok (.ifCond .ne 18, 3) := by decide +kernel
theorem d_Mo_thread_34 : decode prog_7_method_30_code 34 = .ok (.aload_n 0, 1) := by decide +kernel
theorem d_Mo_thread_35 : decode prog_7_method_30_code 35 = .ok (.getfield 7, 3) := by decide +kernel
theorem d_Mo_thread_38 : decode prog_7_method_30_code 38 = .ok (.iload_n 1, 1) := by decide +kernel
theorem d_Mo_thread_39 : decode prog_7_method_30_code 39 = .ok (.baload, 1) := by decide +kernel
theorem d_Mo_thread_40 : decode prog_7_method_30_code 40 = .ok (.ifCond .eq 7, 3) := by decide +kernel
theorem d_Mo_thread_43 : decode prog_7_method_30_code 43 = .ok (.iconst 1, 1) := by decide +kernel
theorem d_Mo_thread_44 : decode prog_7_method_30_code 44 = .ok (.goto 4, 3) := by decide +kernel
theorem d_Mo_thread_47 : decode prog_7_method_30_code 47 = .ok (.iconst 0, 1) := by decide +kernel
theorem d_Mo_thread_48 : decode prog_7_method_30_code 48 = .ok (.ireturn, 1) := by decide +kernel
theorem d_Mo_thread_49 : decode prog_7_method_30_code 49 = .ok (.iload_n 2, 1) := by decide +kernel
theorem d_Mo_thread_50 : decode prog_7_method_30_code 50 = .ok (.iconst 1, 1) := by decide +kernel
theorem d_Mo_thread_51 : decode prog_7_method_30_code 51 = .ok (.if_icmp .ne 10, 3) := by decide +kernel
theorem d_Mo_thread_54 : decode prog_7_method_30_code 54 = .ok (.aload_n 0, 1) := by decide +kernel
theorem d_Mo_thread_55 : decode prog_7_method_30_code 55 = .ok (.getfield 16, 3) := by decide +kernel
theorem d_Mo_thread_58 : decode prog_7_method_30_code 58 = .ok (.iload_n 1, 1) := by decide +kernel
theorem d_Mo_thread_59 : decode prog_7_method_30_code 59 = .ok (.iaload, 1) := by decide +kernel
theorem d_Mo_thread_60 : decode prog_7_method_30_code 60 = .ok (.ireturn, 1) := by decide +kernel
theorem d_Mo_thread_61 : decode prog_7_method_30_code 61 = .ok (.iload_n 2, 1) := by decide +kernel
theorem d_Mo_thread_62 : decode prog_7_method_30_code 62 = .ok (.iconst 2, 1) := by decide +kernel
theorem d_Mo_thread_63 : decode prog_7_method_30_code 63 = .ok (.if_icmp .ne 20, 3) := by decide +kernel
theorem d_Mo_thread_66 : decode prog_7_method_30_code 66 = .ok (.aload_n 0, 1) := by decide +kernel
theorem d_Mo_thread_67 : decode prog_7_method_30_code 67 = .ok (.getfield 13, 3) := by decide +kernel
theorem d_Mo_thread_70 : decode prog_7_method_30_code 70 = .ok (.iload_n 1, 1) := by decide +kernel
theorem d_Mo_thread_71 : decode prog_7_method_30_code 71 = .ok (.baload, 1) := by decide +kernel
theorem d_Mo_thread_72 : decode prog_7_method_30_code 72 = .ok (.ifCond .eq 7, 3) := by decide +kernel
theorem d_Mo_thread_75 : decode prog_7_method_30_code 75 = .ok (.iconst 1, 1) := by decide +kernel
theorem d_Mo_thread_76 : decode prog_7_method_30_code 76 = .ok (.goto 13, 3) := by decide +kernel
theorem d_Mo_thread_79 : decode prog_7_method_30_code 79 = .ok (.iconst 0, 1) := by decide +kernel
theorem d_Mo_thread_80 : decode prog_7_method_30_code 80 = .ok (.goto 9, 3) := by decide +kernel
theorem d_Mo_thread_83 : decode prog_7_method_30_code 83 = .ok (.aload_n 0, 1) := by decide +kernel
theorem d_Mo_thread_84 : decode prog_7_method_30_code 84 = .ok (.getfield 26, 3) := by decide +kernel
theorem d_Mo_thread_87 : decode prog_7_method_30_code 87 = .ok (.iload_n 1, 1) := by decide +kernel
theorem d_Mo_thread_88 : decode prog_7_method_30_code 88 = .ok (.iaload, 1) := by decide +kernel
theorem d_Mo_thread_89 : decode prog_7_method_30_code 89 = .ok (.ireturn, 1) := by decide +kernel
def y_Mo_thread : MethodName := ⟨"ChannelHallModel", "thread", "(II)I"⟩
abbrev rm_Mo_thread : Room := { frames := 1, cells := 0, slots := 0, locals := 22 }
def wp_Mo_thread_89 (G ca : Nat → Nat) (post : Int32 → hM → Prop) (M : hM) (s0b89 : Int32) : Prop := post s0b89 M
def wp_Mo_thread_48 (G ca : Nat → Nat) (post : Int32 → hM → Prop) (M : hM) (s0b48 : Int32) : Prop := post s0b48 M
def wp_Mo_thread_24 (G ca : Nat → Nat) (post : Int32 → hM → Prop) (M : hM) (l0b24 : Nat) : Prop := rC M l0b24 5 (wp_Mo_fail G ca (fun r27 M28 => post r27 M28) M l0b24 1)
def wp_Mo_thread (G ca : Nat → Nat) (post : Int32 → hM → Prop) (M : hM) (a0 : Nat) (x1 : Int32) (x2 : Int32) : Prop := pF M a0 5 0 (.int 0) fun M29 => rC M29 a0 5 (wp_Mo_out G ca (fun r30 M31 => (¬ r30 = 0 → wp_Mo_thread_24 G ca post M31 a0) ∧ (r30 = 0 → rC M31 a0 5 (wp_Mo_out G ca (fun r33 M34 => (r33 = 0 → (¬ x2 = 0 → (¬ x2 = 1 → (¬ x2 = 2 → gR M34 a0 5 6 fun v39 => nN v39 fun b40 => aI M34 b40 (ca 5) x1 fun v41 => wp_Mo_thread_89 G ca post M34 v41) ∧ (x2 = 2 → gR M34 a0 5 2 fun v42 => nN v42 fun b43 => aI M34 b43 (ca 6) x1 fun v44 => (v44 = 0 → wp_Mo_thread_89 G ca post M34 0) ∧ (¬ v44 = 0 → wp_Mo_thread_89 G ca post M34 1))) ∧ (x2 = 1 → gR M34 a0 5 3 fun v46 => nN v46 fun b47 => aI M34 b47 (ca 5) x1 fun v48 => post v48 M34)) ∧ (x2 = 0 → gR M34 a0 5 1 fun v49 => nN v49 fun b50 => aI M34 b50 (ca 6) x1 fun v51 => (v51 = 0 → wp_Mo_thread_48 G ca post M34 0) ∧ (¬ v51 = 0 → wp_Mo_thread_48 G ca post M34 1))) ∧ (¬ r33 = 0 → wp_Mo_thread_24 G ca post M34 a0)) M31 a0 x2 4))) M29 a0 x1 6)
set_option maxHeartbeats 1000000 in
set_option maxRecDepth 20000 in
theorem l_Mo_thread_89 {p : Program} {l : Launch} {e : Env} {s : State} {m : MethodId} {args : Array Value} {below : List Frame} {meth : Method} {c : Code} {D : va_G} {ca G : Nat → Nat} {A : Nat → Prop} (C0 : hC p s m args meth c D ca G prog_7_method_30_code 3 (some .int) "ChannelHallModel" A) {post : Int32 → hM → Prop} {M : hM} {H : Heap} {locs : List Loc} {ls : Array Slot} (s0b89 : Int32) (h : wp_Mo_thread_89 G ca post M s0b89) (hW : hw D wCl A M H) (hS : va_S A s.heap H locs) (hl : lv_has ls 3 []) : W p l e rm_Mo_thread s m args below meth c H locs 0 0 (MQ below (va_Qi post (fun M' t => hw D wCl A M' t.heap) A) args s 0 0 A) (F0 m 89 ls [.int s0b89]) := by
  obtain ⟨hx, hb, hr, hml, hown, hts, hlocks, hK, hA, hZ0⟩ := id C0
  exact W.iret hx hb hr (fun t ht hWm => ⟨⟨_, _, rfl, h, hw_t ht hW⟩, hS.F ht⟩) hS.2.2 d_Mo_thread_89
set_option maxHeartbeats 1000000 in
set_option maxRecDepth 20000 in
theorem l_Mo_thread_48 {p : Program} {l : Launch} {e : Env} {s : State} {m : MethodId} {args : Array Value} {below : List Frame} {meth : Method} {c : Code} {D : va_G} {ca G : Nat → Nat} {A : Nat → Prop} (C0 : hC p s m args meth c D ca G prog_7_method_30_code 3 (some .int) "ChannelHallModel" A) {post : Int32 → hM → Prop} {M : hM} {H : Heap} {locs : List Loc} {ls : Array Slot} (s0b48 : Int32) (h : wp_Mo_thread_48 G ca post M s0b48) (hW : hw D wCl A M H) (hS : va_S A s.heap H locs) (hl : lv_has ls 3 []) : W p l e rm_Mo_thread s m args below meth c H locs 0 0 (MQ below (va_Qi post (fun M' t => hw D wCl A M' t.heap) A) args s 0 0 A) (F0 m 48 ls [.int s0b48]) := by
  obtain ⟨hx, hb, hr, hml, hown, hts, hlocks, hK, hA, hZ0⟩ := id C0
  exact W.iret hx hb hr (fun t ht hWm => ⟨⟨_, _, rfl, h, hw_t ht hW⟩, hS.F ht⟩) hS.2.2 d_Mo_thread_48
set_option maxHeartbeats 1000000 in
set_option maxRecDepth 20000 in
theorem l_Mo_thread_24 {p : Program} {l : Launch} {e : Env} {s : State} {m : MethodId} {args : Array Value} {below : List Frame} {meth : Method} {c : Code} {D : va_G} {ca G : Nat → Nat} {A : Nat → Prop} (C0 : hC p s m args meth c D ca G prog_7_method_30_code 3 (some .int) "ChannelHallModel" A) {post : Int32 → hM → Prop} {M : hM} {H : Heap} {locs : List Loc} {ls : Array Slot} (l0b24 : Nat) (h : wp_Mo_thread_24 G ca post M l0b24) (hW : hw D wCl A M H) (hS : va_S A s.heap H locs) (hl : lv_has ls 3 [(0, .ref l0b24)]) : W p l e rm_Mo_thread s m args below meth c H locs 0 0 (MQ below (va_Qi post (fun M' t => hw D wCl A M' t.heap) A) args s 0 0 A) (F0 m 24 ls []) := by
  obtain ⟨hx, hb, hr, hml, hown, hts, hlocks, hK, hA, hZ0⟩ := id C0
  refine lv_aload_n hx hb d_Mo_thread_24 rfl (lv_at hl 0 rfl) ?_
  refine lv_iconst (v := 1) hx hb d_Mo_thread_25 (by decide) ?_
  obtain ⟨⟨fs, h1⟩, h⟩ := h
  have h9 := h
  clear h
  have hF := hW.free hS hA
  refine va_calli (va_runV (As := [.int 1]) (rest := []) ⟨hx, hb, hml, hown, hts⟩ (c_Mo_fail _ h9) (cwV 1 hts (gi_V bw_1068 bw_1070 bs_20 bw_5 bw_1071) rfl rfl rfl (by decide +kernel) ⟨Nat.le_of_ble_eq_true rfl, Nat.le_of_ble_eq_true rfl⟩) ⟨hI.blind, hw_recv hK hW h1 rfl, hI.give hW hS hA hK hZ0⟩ rfl rfl hl.1 rfl (lv_room (Nat.le_of_ble_eq_true rfl)) d_Mo_thread_26 ⟨(show _ ≤ 0 by omega), (show _ ≤ 0 by omega)⟩) hS (fun q _ z => hF q z) hF (fun r27 M28 t H locs ht _ h hB1 _ _ hS => ?_)
  have hW := hw_back hF ht hB1
  clear h9
  exact W.iret hx hb hr (fun t ht hWm => ⟨⟨_, _, rfl, h, hw_t ht hW⟩, hS.F ht⟩) hS.2.2 d_Mo_thread_29
set_option maxHeartbeats 1000000 in
set_option maxRecDepth 20000 in
theorem l_Mo_thread_e {p : Program} {l : Launch} {e : Env} {s : State} {m : MethodId} {args : Array Value} {below : List Frame} {meth : Method} {c : Code} {D : va_G} {ca G : Nat → Nat} {A : Nat → Prop} (C0 : hC p s m args meth c D ca G prog_7_method_30_code 3 (some .int) "ChannelHallModel" A) {post : Int32 → hM → Prop} {M : hM} {H : Heap} {locs : List Loc} {ls : Array Slot} (a0 : Nat) (x1 : Int32) (x2 : Int32) (h : wp_Mo_thread G ca post M a0 x1 x2) (hW : hw D wCl A M H) (hS : va_S A s.heap H locs) (hl : lv_has ls 3 [(0, .ref a0), (1, .int x1), (2, .int x2)]) : W p l e rm_Mo_thread s m args below meth c H locs 0 0 (MQ below (va_Qi post (fun M' t => hw D wCl A M' t.heap) A) args s 0 0 A) (F0 m 0 ls []) := by
  obtain ⟨hx, hb, hr, hml, hown, hts, hlocks, hK, hA, hZ0⟩ := id C0
  refine lv_aload_n hx hb d_Mo_thread_0 rfl (lv_at hl 0 rfl) ?_
  refine lv_iconst (v := 0) hx hb d_Mo_thread_1 (by decide) ?_
  obtain ⟨fs, h1, h2, h⟩ := h
  obtain ⟨ws, q0, hq, hP, hD, hback, -⟩ := hw_open hW h1
  refine va_put (D := D) (ci := 5) (v := .int 0) (ty := .int) (C := "ChannelHallModel") (T := TMo) (N := 26) hx hb hts uMo tMo tMo_ok nMo hown hK hP hD hS q0 hq rfl 0 (by decide) (hts _ bw_974) (fun _ h9 => h9) rfl (by decide +kernel) rfl rfl h2 d_Mo_thread_2 (fun H locs hP hD hS => ?_)
  have hW := hback _ _ hP hD
  generalize (va_up M a0 (some (.inr (5, fs.set 0 (.int 0))))) = M29 at h hW
  refine lv_aload_n hx hb d_Mo_thread_5 rfl (lv_at hl 0 rfl) ?_
  refine lv_iload_n hx hb d_Mo_thread_6 rfl (lv_at hl 1 rfl) ?_
  refine lv_bipush (v := 6) hx hb d_Mo_thread_7 (by decide) ?_
  obtain ⟨⟨fs, h1⟩, h⟩ := h
  have h9 := h
  clear h
  have hF := hW.free hS hA
  refine va_calli (va_runV (As := [.int x1, .int 6]) (rest := []) ⟨hx, hb, hml, hown, hts⟩ (c_Mo_out _ h9) (cwV 2 hts (gi_V bw_1064 bw_1066 bs_19 bw_5 bw_1067) rfl rfl rfl (by decide +kernel) ⟨Nat.le_of_ble_eq_true rfl, Nat.le_of_ble_eq_true rfl⟩) ⟨hI.blind, hw_recv hK hW h1 rfl, hI.give hW hS hA hK hZ0⟩ rfl rfl hl.1 rfl (lv_room (Nat.le_of_ble_eq_true rfl)) d_Mo_thread_9 ⟨(show _ ≤ 0 by omega), (show _ ≤ 0 by omega)⟩) hS (fun q _ z => hF q z) hF (fun r30 M31 t H locs ht _ h hB1 _ _ hS => ?_)
  have hW := hw_back hF ht hB1
  clear h9
  obtain ⟨h0, h1⟩ := h
  refine lv_if_ne (tgt := 24) hx hb d_Mo_thread_12 (by decide) (fun c32 => ?_) (fun c32 => ?_)
  · have h := h0 c32
    exact l_Mo_thread_24 C0 a0 h hW hS (lv_sub hl [0] rfl)
  · have h := h1 c32
    refine lv_aload_n hx hb d_Mo_thread_15 rfl (lv_at hl 0 rfl) ?_
    refine lv_iload_n hx hb d_Mo_thread_16 rfl (lv_at hl 2 rfl) ?_
    refine lv_iconst (v := 4) hx hb d_Mo_thread_17 (by decide) ?_
    obtain ⟨⟨fs, h1⟩, h⟩ := h
    have h9 := h
    clear h
    have hF := hW.free hS hA
    refine va_calli (va_runV (As := [.int x2, .int 4]) (rest := []) ⟨hx, hb, hml, hown, hts⟩ (c_Mo_out _ h9) (cwV 2 hts (gi_V bw_1064 bw_1066 bs_19 bw_5 bw_1067) rfl rfl rfl (by decide +kernel) ⟨Nat.le_of_ble_eq_true rfl, Nat.le_of_ble_eq_true rfl⟩) ⟨hI.blind, hw_recv hK hW h1 rfl, hI.give hW hS hA hK hZ0⟩ rfl rfl hl.1 rfl (lv_room (Nat.le_of_ble_eq_true rfl)) d_Mo_thread_18 ⟨(show _ ≤ 0 by omega), (show _ ≤ 0 by omega)⟩) hS (fun q _ z => hF q z) hF (fun r33 M34 t H locs ht _ h hB1 _ _ hS => ?_)
    have hW := hw_back hF ht hB1
    clear h9
    obtain ⟨h0, h1⟩ := h
    refine lv_if_eq (tgt := 30) hx hb d_Mo_thread_21 (by decide) (fun c35 => ?_) (fun c35 => ?_)
    · have h := h0 c35
      refine lv_iload_n hx hb d_Mo_thread_30 rfl (lv_at hl 2 rfl) ?_
      obtain ⟨h0, h1⟩ := h
      refine lv_if_ne (tgt := 49) hx hb d_Mo_thread_31 (by decide) (fun c36 => ?_) (fun c36 => ?_)
      · have h := h0 c36
        refine lv_iload_n hx hb d_Mo_thread_49 rfl (lv_at hl 2 rfl) ?_
        refine lv_iconst (v := 1) hx hb d_Mo_thread_50 (by decide) ?_
        obtain ⟨h0, h1⟩ := h
        refine lv_icmp_ne (tgt := 61) hx hb d_Mo_thread_51 (by decide) (fun c37 => ?_) (fun c37 => ?_)
        · have h := h0 c37
          refine lv_iload_n hx hb d_Mo_thread_61 rfl (lv_at hl 2 rfl) ?_
          refine lv_iconst (v := 2) hx hb d_Mo_thread_62 (by decide) ?_
          obtain ⟨h0, h1⟩ := h
          refine lv_icmp_ne (tgt := 83) hx hb d_Mo_thread_63 (by decide) (fun c38 => ?_) (fun c38 => ?_)
          · have h := h0 c38
            refine lv_aload_n hx hb d_Mo_thread_83 rfl (lv_at hl 0 rfl) ?_
            obtain ⟨fs, v39, h1, h2, h⟩ := h
            refine va_get (D := D) (ci := 5) (v := va_rf v39) (C := "ChannelHallModel") (T := TMo) (N := 26) hx hb hts uMo hown hK (hw_one hW h1) 0 rfl rfl 6 (by decide) (hts _ bw_980) (fun _ h9 => h9) h2 d_Mo_thread_84 ?_
            refine lv_iload_n hx hb d_Mo_thread_87 rfl (lv_at hl 1 rfl) ?_
            obtain ⟨b40, rfl, h⟩ := h
            obtain ⟨n, f, h1, h2, h⟩ := h
            refine va_iald hx hb hK (hw_one hW h1) 0 5 rfl rfl h2 d_Mo_thread_88 ?_
            generalize f (x1).toNatClampNeg = v41 at h ⊢
            exact l_Mo_thread_89 C0 v41 h hW hS (lv_sub hl [] rfl)
          · have h := h1 c38
            refine lv_aload_n hx hb d_Mo_thread_66 rfl (lv_at hl 0 rfl) ?_
            obtain ⟨fs, v42, h1, h2, h⟩ := h
            refine va_get (D := D) (ci := 5) (v := va_rf v42) (C := "ChannelHallModel") (T := TMo) (N := 26) hx hb hts uMo hown hK (hw_one hW h1) 0 rfl rfl 2 (by decide) (hts _ bw_976) (fun _ h9 => h9) h2 d_Mo_thread_67 ?_
            refine lv_iload_n hx hb d_Mo_thread_70 rfl (lv_at hl 1 rfl) ?_
            obtain ⟨b43, rfl, h⟩ := h
            obtain ⟨n, f, h1, h2, h⟩ := h
            refine va_zald hx hb hK (hw_one hW h1) 0 6 rfl rfl h2 d_Mo_thread_71 ?_
            generalize f (x1).toNatClampNeg = v44 at h ⊢
            obtain ⟨h0, h1⟩ := h
            refine lv_if_eq (tgt := 79) hx hb d_Mo_thread_72 (by decide) (fun c45 => ?_) (fun c45 => ?_)
            · have h := h0 c45
              refine lv_iconst (v := 0) hx hb d_Mo_thread_79 (by decide) ?_
              refine lv_goto (tgt := 89) hx hb d_Mo_thread_80 (by decide) ?_
              exact l_Mo_thread_89 C0 0 h hW hS (lv_sub hl [] rfl)
            · have h := h1 c45
              refine lv_iconst (v := 1) hx hb d_Mo_thread_75 (by decide) ?_
              refine lv_goto (tgt := 89) hx hb d_Mo_thread_76 (by decide) ?_
              exact l_Mo_thread_89 C0 1 h hW hS (lv_sub hl [] rfl)
        · have h := h1 c37
          refine lv_aload_n hx hb d_Mo_thread_54 rfl (lv_at hl 0 rfl) ?_
          obtain ⟨fs, v46, h1, h2, h⟩ := h
          refine va_get (D := D) (ci := 5) (v := va_rf v46) (C := "ChannelHallModel") (T := TMo) (N := 26) hx hb hts uMo hown hK (hw_one hW h1) 0 rfl rfl 3 (by decide) (hts _ bw_977) (fun _ h9 => h9) h2 d_Mo_thread_55 ?_
          refine lv_iload_n hx hb d_Mo_thread_58 rfl (lv_at hl 1 rfl) ?_
          obtain ⟨b47, rfl, h⟩ := h
          obtain ⟨n, f, h1, h2, h⟩ := h
          refine va_iald hx hb hK (hw_one hW h1) 0 5 rfl rfl h2 d_Mo_thread_59 ?_
          generalize f (x1).toNatClampNeg = v48 at h ⊢
          exact W.iret hx hb hr (fun t ht hWm => ⟨⟨_, _, rfl, h, hw_t ht hW⟩, hS.F ht⟩) hS.2.2 d_Mo_thread_60
      · have h := h1 c36
        refine lv_aload_n hx hb d_Mo_thread_34 rfl (lv_at hl 0 rfl) ?_
        obtain ⟨fs, v49, h1, h2, h⟩ := h
        refine va_get (D := D) (ci := 5) (v := va_rf v49) (C := "ChannelHallModel") (T := TMo) (N := 26) hx hb hts uMo hown hK (hw_one hW h1) 0 rfl rfl 1 (by decide) (hts _ bw_975) (fun _ h9 => h9) h2 d_Mo_thread_35 ?_
        refine lv_iload_n hx hb d_Mo_thread_38 rfl (lv_at hl 1 rfl) ?_
        obtain ⟨b50, rfl, h⟩ := h
        obtain ⟨n, f, h1, h2, h⟩ := h
        refine va_zald hx hb hK (hw_one hW h1) 0 6 rfl rfl h2 d_Mo_thread_39 ?_
        generalize f (x1).toNatClampNeg = v51 at h ⊢
        obtain ⟨h0, h1⟩ := h
        refine lv_if_eq (tgt := 47) hx hb d_Mo_thread_40 (by decide) (fun c52 => ?_) (fun c52 => ?_)
        · have h := h0 c52
          refine lv_iconst (v := 0) hx hb d_Mo_thread_47 (by decide) ?_
          exact l_Mo_thread_48 C0 0 h hW hS (lv_sub hl [] rfl)
        · have h := h1 c52
          refine lv_iconst (v := 1) hx hb d_Mo_thread_43 (by decide) ?_
          refine lv_goto (tgt := 48) hx hb d_Mo_thread_44 (by decide) ?_
          exact l_Mo_thread_48 C0 1 h hW hS (lv_sub hl [] rfl)
    · have h := h1 c35
      exact l_Mo_thread_24 C0 a0 h hW hS (lv_sub hl [0] rfl)
set_option maxRecDepth 20000 in
theorem c_Mo_thread {l : Launch} {D : va_G} {ca G : Nat → Nat} (post : Int32 → hM → Prop) {M : hM} {sz : Nat} {a0 : Nat} {x1 : Int32} {x2 : Int32} (h : wp_Mo_thread G ca post M a0 x1 x2) : Met l y_Mo_thread (wz y_Mo_thread prog_7_method_30_code 3 (some .int)) rm_Mo_thread (va_Pc [.ref a0, .int x1, .int x2] (hI D ca G sz M)) (va_Qi post (hB D M sz) (hp_A M sz)) 0 0 (hp_A M sz) := by
  refine Met.ofW (cc := prog_7_method_30_code) (maxL := 3) (ret := some .int) (by decide) rfl ?_
  intro p e s m args below meth c s₁ B hml hv
  obtain ⟨rfl, hsz, hW, hK, hZ0⟩ := hv
  have hts := fun w hw => atoms_spec (ws := wz y_Mo_thread prog_7_method_30_code 3 (some .int)) B.pre w (List.mem_cons_of_mem _ hw)
  have hown : s.vm.findClass "ChannelHallModel" = some m.cls := findClass_of_methodNamed B.named
  subst hsz
  have hl := lv_entry [.ref a0, .int x1, .int x2] (n := 3) (Nat.le_of_ble_eq_true rfl)
  rw [lg_entry_eq]
  exact l_Mo_thread_e ⟨B.exec, B.bytes, B.returns, hml, hown, hts, B.notSynchronized, hK, fun q h => Or.inr h, hZ0⟩ a0 x1 x2 h hW va_S.rf hl

theorem d_Mo_got_0 : decode prog_7_method_29_code 0 = .ok (.aload_n 0, 1) := by decide +kernel
theorem d_Mo_got_1 : decode prog_7_method_29_code 1 = .ok (.iconst 0, 1) := by decide +kernel
theorem d_Mo_got_2 : decode prog_7_method_29_code 2 = .ok (.putfield 86, 3) := by decide +kernel
theorem d_Mo_got_5 : decode prog_7_method_29_code 5 = .ok (.aload_n 0, 1) := by decide +kernel
theorem d_Mo_got_6 : decode prog_7_method_29_code 6 = .ok (.iload_n 1, 1) := by decide +kernel
theorem d_Mo_got_7 : decode prog_7_method_29_code 7 = .ok (.bipush 6, 2) := by decide +kernel
theorem d_Mo_got_9 : decode prog_7_method_29_code 9 = .ok (.invokevirtual 90, 3) := by decide +kernel
theorem d_Mo_got_12 : decode prog_7_method_29_code 12 = .ok (.ifCond .eq 9, 3) := by decide +kernel
theorem d_Mo_got_15 : decode prog_7_method_29_code 15 = .ok (.aload_n 0, 1) := by decide +kernel
theorem d_Mo_got_16 : decode prog_7_method_29_code 16 = .ok (.iconst 1, 1) := by decide +kernel
theorem d_Mo_got_17 : decode prog_7_method_29_code 17 = .ok (.invokevirtual 94, 3) := by decide +kernel
theorem d_Mo_got_20 : decode prog_7_method_29_code 20 = .ok (.ireturn, 1) := by decide +kernel
theorem d_Mo_got_21 : decode prog_7_method_29_code 21 = .ok (.aload_n 0, 1) := by decide +kernel
theorem d_Mo_got_22 : decode prog_7_method_29_code 22 = .ok (.getfield 20, 3) := by decide +kernel
theorem d_Mo_got_25 : decode prog_7_method_29_code 25 = .ok (.iload_n 1, 1) := by decide +kernel
theorem d_Mo_got_26 : decode prog_7_method_29_code 26 = .ok (.baload, 1) := by decide +kernel
theorem d_Mo_got_27 : decode prog_7_method_29_code 27 = .ok (.ifCond .eq 12, 3) := by decide +kernel
theorem d_Mo_got_30 : decode prog_7_method_29_code 30 = .ok (.aload_n 0, 1) := by decide +kernel
theorem d_Mo_got_31 : decode prog_7_method_29_code 31 = .ok (.getfield 23, 3) := by decide +kernel
theorem d_Mo_got_34 : decode prog_7_method_29_code 34 = .ok (.iload_n 1, 1) := by decide +kernel
theorem d_Mo_got_35 : decode prog_7_method_29_code 35 = .ok (.iaload, 1) := by decide +kernel
theorem d_Mo_got_36 : decode prog_7_method_29_code 36 = .ok (.goto 8, 3) := by decide +kernel
theorem d_Mo_got_39 : decode prog_7_method_29_code 39 = .ok (.aload_n 0, 1) := by decide +kernel
theorem d_Mo_got_40 : decode prog_7_method_29_code 40 = .ok (.iconst 2, 1) := by decide +kernel
theorem d_Mo_got_41 : decode prog_7_method_29_code 41 = .ok (.invokevirtual 94, 3) := by decide +kernel
theorem d_Mo_got_44 : decode prog_7_method_29_code 44 = .ok (.ireturn, 1) := by decide +kernel
def y_Mo_got : MethodName := ⟨"ChannelHallModel", "got", "(I)I"⟩
abbrev rm_Mo_got : Room := { frames := 1, cells := 0, slots := 0, locals := 22 }
def wp_Mo_got_44 (G ca : Nat → Nat) (post : Int32 → hM → Prop) (M : hM) (s0b44 : Int32) : Prop := post s0b44 M
def wp_Mo_got (G ca : Nat → Nat) (post : Int32 → hM → Prop) (M : hM) (a0 : Nat) (x1 : Int32) : Prop := pF M a0 5 0 (.int 0) fun M16 => rC M16 a0 5 (wp_Mo_out G ca (fun r17 M18 => (r17 = 0 → gR M18 a0 5 4 fun v20 => nN v20 fun b21 => aI M18 b21 (ca 6) x1 fun v22 => (v22 = 0 → rC M18 a0 5 (wp_Mo_fail G ca (fun r24 M25 => wp_Mo_got_44 G ca post M25 r24) M18 a0 2)) ∧ (¬ v22 = 0 → gR M18 a0 5 5 fun v26 => nN v26 fun b27 => aI M18 b27 (ca 5) x1 fun v28 => wp_Mo_got_44 G ca post M18 v28)) ∧ (¬ r17 = 0 → rC M18 a0 5 (wp_Mo_fail G ca (fun r29 M30 => post r29 M30) M18 a0 1))) M16 a0 x1 6)
set_option maxHeartbeats 1000000 in
set_option maxRecDepth 20000 in
theorem l_Mo_got_44 {p : Program} {l : Launch} {e : Env} {s : State} {m : MethodId} {args : Array Value} {below : List Frame} {meth : Method} {c : Code} {D : va_G} {ca G : Nat → Nat} {A : Nat → Prop} (C0 : hC p s m args meth c D ca G prog_7_method_29_code 2 (some .int) "ChannelHallModel" A) {post : Int32 → hM → Prop} {M : hM} {H : Heap} {locs : List Loc} {ls : Array Slot} (s0b44 : Int32) (h : wp_Mo_got_44 G ca post M s0b44) (hW : hw D wCl A M H) (hS : va_S A s.heap H locs) (hl : lv_has ls 2 []) : W p l e rm_Mo_got s m args below meth c H locs 0 0 (MQ below (va_Qi post (fun M' t => hw D wCl A M' t.heap) A) args s 0 0 A) (F0 m 44 ls [.int s0b44]) := by
  obtain ⟨hx, hb, hr, hml, hown, hts, hlocks, hK, hA, hZ0⟩ := id C0
  exact W.iret hx hb hr (fun t ht hWm => ⟨⟨_, _, rfl, h, hw_t ht hW⟩, hS.F ht⟩) hS.2.2 d_Mo_got_44
set_option maxHeartbeats 1000000 in
set_option maxRecDepth 20000 in
theorem l_Mo_got_e {p : Program} {l : Launch} {e : Env} {s : State} {m : MethodId} {args : Array Value} {below : List Frame} {meth : Method} {c : Code} {D : va_G} {ca G : Nat → Nat} {A : Nat → Prop} (C0 : hC p s m args meth c D ca G prog_7_method_29_code 2 (some .int) "ChannelHallModel" A) {post : Int32 → hM → Prop} {M : hM} {H : Heap} {locs : List Loc} {ls : Array Slot} (a0 : Nat) (x1 : Int32) (h : wp_Mo_got G ca post M a0 x1) (hW : hw D wCl A M H) (hS : va_S A s.heap H locs) (hl : lv_has ls 2 [(0, .ref a0), (1, .int x1)]) : W p l e rm_Mo_got s m args below meth c H locs 0 0 (MQ below (va_Qi post (fun M' t => hw D wCl A M' t.heap) A) args s 0 0 A) (F0 m 0 ls []) := by
  obtain ⟨hx, hb, hr, hml, hown, hts, hlocks, hK, hA, hZ0⟩ := id C0
  refine lv_aload_n hx hb d_Mo_got_0 rfl (lv_at hl 0 rfl) ?_
  refine lv_iconst (v := 0) hx hb d_Mo_got_1 (by decide) ?_
  obtain ⟨fs, h1, h2, h⟩ := h
  obtain ⟨ws, q0, hq, hP, hD, hback, -⟩ := hw_open hW h1
  refine va_put (D := D) (ci := 5) (v := .int 0) (ty := .int) (C := "ChannelHallModel") (T := TMo) (N := 26) hx hb hts uMo tMo tMo_ok nMo hown hK hP hD hS q0 hq rfl 0 (by decide) (hts _ bw_974) (fun _ h9 => h9) rfl (by decide +kernel) rfl rfl h2 d_Mo_got_2 (fun H locs hP hD hS => ?_)
  have hW := hback _ _ hP hD
  generalize (va_up M a0 (some (.inr (5, fs.set 0 (.int 0))))) = M16 at h hW
  refine lv_aload_n hx hb d_Mo_got_5 rfl (lv_at hl 0 rfl) ?_
  refine lv_iload_n hx hb d_Mo_got_6 rfl (lv_at hl 1 rfl) ?_
  refine lv_bipush (v := 6) hx hb d_Mo_got_7 (by decide) ?_
  obtain ⟨⟨fs, h1⟩, h⟩ := h
  have h9 := h
  clear h
  have hF := hW.free hS hA
  refine va_calli (va_runV (As := [.int x1, .int 6]) (rest := []) ⟨hx, hb, hml, hown, hts⟩ (c_Mo_out _ h9) (cwV 2 hts (gi_V bw_1064 bw_1066 bs_19 bw_5 bw_1067) rfl rfl rfl (by decide +kernel) ⟨Nat.le_of_ble_eq_true rfl, Nat.le_of_ble_eq_true rfl⟩) ⟨hI.blind, hw_recv hK hW h1 rfl, hI.give hW hS hA hK hZ0⟩ rfl rfl hl.1 rfl (lv_room (Nat.le_of_ble_eq_true rfl)) d_Mo_got_9 ⟨(show _ ≤ 0 by omega), (show _ ≤ 0 by omega)⟩) hS (fun q _ z => hF q z) hF (fun r17 M18 t H locs ht _ h hB1 _ _ hS => ?_)
  have hW := hw_back hF ht hB1
  clear h9
  obtain ⟨h0, h1⟩ := h
  refine lv_if_eq (tgt := 21) hx hb d_Mo_got_12 (by decide) (fun c19 => ?_) (fun c19 => ?_)
  · have h := h0 c19
    refine lv_aload_n hx hb d_Mo_got_21 rfl (lv_at hl 0 rfl) ?_
    obtain ⟨fs, v20, h1, h2, h⟩ := h
    refine va_get (D := D) (ci := 5) (v := va_rf v20) (C := "ChannelHallModel") (T := TMo) (N := 26) hx hb hts uMo hown hK (hw_one hW h1) 0 rfl rfl 4 (by decide) (hts _ bw_978) (fun _ h9 => h9) h2 d_Mo_got_22 ?_
    refine lv_iload_n hx hb d_Mo_got_25 rfl (lv_at hl 1 rfl) ?_
    obtain ⟨b21, rfl, h⟩ := h
    obtain ⟨n, f, h1, h2, h⟩ := h
    refine va_zald hx hb hK (hw_one hW h1) 0 6 rfl rfl h2 d_Mo_got_26 ?_
    generalize f (x1).toNatClampNeg = v22 at h ⊢
    obtain ⟨h0, h1⟩ := h
    refine lv_if_eq (tgt := 39) hx hb d_Mo_got_27 (by decide) (fun c23 => ?_) (fun c23 => ?_)
    · have h := h0 c23
      refine lv_aload_n hx hb d_Mo_got_39 rfl (lv_at hl 0 rfl) ?_
      refine lv_iconst (v := 2) hx hb d_Mo_got_40 (by decide) ?_
      obtain ⟨⟨fs, h1⟩, h⟩ := h
      have h9 := h
      clear h
      have hF := hW.free hS hA
      refine va_calli (va_runV (As := [.int 2]) (rest := []) ⟨hx, hb, hml, hown, hts⟩ (c_Mo_fail _ h9) (cwV 1 hts (gi_V bw_1068 bw_1070 bs_20 bw_5 bw_1071) rfl rfl rfl (by decide +kernel) ⟨Nat.le_of_ble_eq_true rfl, Nat.le_of_ble_eq_true rfl⟩) ⟨hI.blind, hw_recv hK hW h1 rfl, hI.give hW hS hA hK hZ0⟩ rfl rfl hl.1 rfl (lv_room (Nat.le_of_ble_eq_true rfl)) d_Mo_got_41 ⟨(show _ ≤ 0 by omega), (show _ ≤ 0 by omega)⟩) hS (fun q _ z => hF q z) hF (fun r24 M25 t H locs ht _ h hB1 _ _ hS => ?_)
      have hW := hw_back hF ht hB1
      clear h9
      exact l_Mo_got_44 C0 r24 h hW hS (lv_sub hl [] rfl)
    · have h := h1 c23
      refine lv_aload_n hx hb d_Mo_got_30 rfl (lv_at hl 0 rfl) ?_
      obtain ⟨fs, v26, h1, h2, h⟩ := h
      refine va_get (D := D) (ci := 5) (v := va_rf v26) (C := "ChannelHallModel") (T := TMo) (N := 26) hx hb hts uMo hown hK (hw_one hW h1) 0 rfl rfl 5 (by decide) (hts _ bw_979) (fun _ h9 => h9) h2 d_Mo_got_31 ?_
      refine lv_iload_n hx hb d_Mo_got_34 rfl (lv_at hl 1 rfl) ?_
      obtain ⟨b27, rfl, h⟩ := h
      obtain ⟨n, f, h1, h2, h⟩ := h
      refine va_iald hx hb hK (hw_one hW h1) 0 5 rfl rfl h2 d_Mo_got_35 ?_
      generalize f (x1).toNatClampNeg = v28 at h ⊢
      refine lv_goto (tgt := 44) hx hb d_Mo_got_36 (by decide) ?_
      exact l_Mo_got_44 C0 v28 h hW hS (lv_sub hl [] rfl)
  · have h := h1 c19
    refine lv_aload_n hx hb d_Mo_got_15 rfl (lv_at hl 0 rfl) ?_
    refine lv_iconst (v := 1) hx hb d_Mo_got_16 (by decide) ?_
    obtain ⟨⟨fs, h1⟩, h⟩ := h
    have h9 := h
    clear h
    have hF := hW.free hS hA
    refine va_calli (va_runV (As := [.int 1]) (rest := []) ⟨hx, hb, hml, hown, hts⟩ (c_Mo_fail _ h9) (cwV 1 hts (gi_V bw_1068 bw_1070 bs_20 bw_5 bw_1071) rfl rfl rfl (by decide +kernel) ⟨Nat.le_of_ble_eq_true rfl, Nat.le_of_ble_eq_true rfl⟩) ⟨hI.blind, hw_recv hK hW h1 rfl, hI.give hW hS hA hK hZ0⟩ rfl rfl hl.1 rfl (lv_room (Nat.le_of_ble_eq_true rfl)) d_Mo_got_17 ⟨(show _ ≤ 0 by omega), (show _ ≤ 0 by omega)⟩) hS (fun q _ z => hF q z) hF (fun r29 M30 t H locs ht _ h hB1 _ _ hS => ?_)
    have hW := hw_back hF ht hB1
    clear h9
    exact W.iret hx hb hr (fun t ht hWm => ⟨⟨_, _, rfl, h, hw_t ht hW⟩, hS.F ht⟩) hS.2.2 d_Mo_got_20
set_option maxRecDepth 20000 in
theorem c_Mo_got {l : Launch} {D : va_G} {ca G : Nat → Nat} (post : Int32 → hM → Prop) {M : hM} {sz : Nat} {a0 : Nat} {x1 : Int32} (h : wp_Mo_got G ca post M a0 x1) : Met l y_Mo_got (wz y_Mo_got prog_7_method_29_code 2 (some .int)) rm_Mo_got (va_Pc [.ref a0, .int x1] (hI D ca G sz M)) (va_Qi post (hB D M sz) (hp_A M sz)) 0 0 (hp_A M sz) := by
  refine Met.ofW (cc := prog_7_method_29_code) (maxL := 2) (ret := some .int) (by decide) rfl ?_
  intro p e s m args below meth c s₁ B hml hv
  obtain ⟨rfl, hsz, hW, hK, hZ0⟩ := hv
  have hts := fun w hw => atoms_spec (ws := wz y_Mo_got prog_7_method_29_code 2 (some .int)) B.pre w (List.mem_cons_of_mem _ hw)
  have hown : s.vm.findClass "ChannelHallModel" = some m.cls := findClass_of_methodNamed B.named
  subst hsz
  have hl := lv_entry [.ref a0, .int x1] (n := 2) (Nat.le_of_ble_eq_true rfl)
  rw [lg_entry_eq]
  exact l_Mo_got_e ⟨B.exec, B.bytes, B.returns, hml, hown, hts, B.notSynchronized, hK, fun q h => Or.inr h, hZ0⟩ a0 x1 h hW va_S.rf hl

theorem d_Mo_coming_0 : decode prog_7_method_27_code 0 = .ok (.ldc2_w 84, 3) := by decide +kernel
theorem d_Mo_coming_3 : decode prog_7_method_27_code 3 = .ok (.dstore_n 1, 1) := by decide +kernel
theorem d_Mo_coming_4 : decode prog_7_method_27_code 4 = .ok (.iconst 0, 1) := by decide +kernel
theorem d_Mo_coming_5 : decode prog_7_method_27_code 5 = .ok (.istore_n 3, 1) := by decide +kernel
theorem d_Mo_coming_6 : decode prog_7_method_27_code 6 = .ok (.iload_n 3, 1) := by decide +kernel
theorem d_Mo_coming_7 : decode prog_7_method_27_code 7 = .ok (.bipush 6, 2) := by decide +kernel
theorem d_Mo_coming_9 : decode prog_7_method_27_code 9 = .ok (.if_icmp .ge 53, 3) := by decide +kernel
theorem d_Mo_coming_12 : decode prog_7_method_27_code 12 = .ok (.aload_n 0, 1) := by decide +kernel
theorem d_Mo_coming_13 : decode prog_7_method_27_code 13 = .ok (.getfield 7, 3) := by decide +kernel
theorem d_Mo_coming_16 : decode prog_7_method_27_code 16 = .ok (.iload_n 3, 1) := by decide +kernel
theorem d_Mo_coming_17 : decode prog_7_method_27_code 17 = .ok (.baload, 1) := by decide +kernel
theorem d_Mo_coming_18 : decode prog_7_method_27_code 18 = .ok (.ifCond .eq 38, 3) := by decide +kernel
theorem d_Mo_coming_21 : decode prog_7_method_27_code 21 = .ok (.aload_n 0, 1) := by decide +kernel
theorem d_Mo_coming_22 : decode prog_7_method_27_code 22 = .ok (.getfield 42, 3) := by decide +kernel
theorem d_Mo_coming_25 : decode prog_7_method_27_code 25 = .ok (.iload_n 3, 1) := by decide +kernel
theorem d_Mo_coming_26 : decode prog_7_method_27_code 26 = .ok (.daload, 1) := by decide +kernel
theorem d_Mo_coming_27 : decode prog_7_method_27_code 27 = .ok (.dconst 0, 1) := by decide +kernel
theorem d_Mo_coming_28 : decode prog_7_method_27_code 28 = .ok (.dcmp .l, 1) := by decide +kernel
theorem d_Mo_coming_29 : decode prog_7_method_27_code 29 = .ok (.ifCond .lt 27, 3) := by decide +kernel
theorem d_Mo_coming_32 : decode prog_7_method_27_code 32 = .ok (.dload_n 1, 1) := by decide +kernel
theorem d_Mo_coming_33 : decode prog_7_method_27_code 33 = .ok (.dconst 0, 1) := by decide +kernel
theorem d_Mo_coming_34 : decode prog_7_method_27_code 34 = .ok (.dcmp .g, 1) := by decide +kernel
theorem d_Mo_coming_35 : decode prog_7_method_27_code 35 = .ok (.ifCond .lt 14, 3) := by decide +kernel
theorem d_Mo_coming_38 : decode prog_7_method_27_code 38 = .ok (.aload_n 0, 1) := by decide +kernel
theorem d_Mo_coming_39 : decode prog_7_method_27_code 39 = .ok (.getfield 42, 3) := by decide +kernel
theorem d_Mo_coming_42 : decode prog_7_method_27_code 42 = .ok (.iload_n 3, 1) := by decide +kernel
theorem d_Mo_coming_43 : decode prog_7_method_27_code 43 = .ok (.daload, 1) := by decide +kernel
theorem d_Mo_coming_44 : decode prog_7_method_27_code 44 = .ok (.dload_n 1, 1) := by decide +kernel
theorem d_Mo_coming_45 : decode prog_7_method_27_code 45 = .ok (.dcmp .g, 1) := by decide +kernel
theorem d_Mo_coming_46 : decode prog_7_method_27_code 46 = .ok (.ifCond .ge 10, 3) := by decide +kernel
theorem d_Mo_coming_49 : decode prog_7_method_27_code 49 = .ok (.aload_n 0, 1) := by decide +kernel
theorem d_Mo_coming_50 : decode prog_7_method_27_code 50 = .ok (.getfield 42, 3) := by decide +kernel
theorem d_Mo_coming_53 : decode prog_7_method_27_code 53 = .ok (.iload_n 3, 1) := by decide +kernel
theorem d_Mo_coming_54 : decode prog_7_method_27_code 54 = .ok (.daload, 1) := by decide +kernel
theorem d_Mo_coming_55 : decode prog_7_method_27_code 55 = .ok (.dstore_n 1, 1) := by decide +kernel
theorem d_Mo_coming_56 : decode prog_7_method_27_code 56 = .ok (.iinc 3 1, 3) := by decide +kernel
theorem d_Mo_coming_59 : decode prog_7_method_27_code 59 = .ok (.goto (-53), 3) := by decide +kernel
theorem d_Mo_coming_62 : decode prog_7_method_27_code 62 = .ok (.iconst 0, 1) := by decide +kernel
theorem d_Mo_coming_63 : decode prog_7_method_27_code 63 = .ok (.istore_n 3, 1) := by decide +kernel
theorem d_Mo_coming_64 : decode prog_7_method_27_code 64 = .ok (.iload_n 3, 1) := by decide +kernel
theorem d_Mo_coming_65 : decode prog_7_method_27_code 65 = .ok (.bipush 8, 2) := by decide +kernel
theorem d_Mo_coming_67 : decode prog_7_method_27_code 67 = .ok (.if_icmp .ge 96, 3) := by decide +kernel
theorem d_Mo_coming_70 : decode prog_7_method_27_code 70 = .ok (.aload_n 0, 1) := by decide +kernel
theorem d_Mo_coming_71 : decode prog_7_method_27_code 71 = .ok (.getfield 45, 3) := by decide +kernel
theorem d_Mo_coming_74 : decode prog_7_method_27_code 74 = .ok (.iload_n 3, 1) := by decide +kernel
theorem d_Mo_coming_75 : decode prog_7_method_27_code 75 = .ok (.iaload, 1) := by decide +kernel
theorem d_Mo_coming_76 : decode prog_7_method_27_code 76 = .ok (.iconst 4, 1) := by decide +kernel
theorem d_Mo_coming_77 : decode prog_7_method_27_code 77 = .ok (.if_icmp .ne 42, 3) := by decide +kernel
theorem d_Mo_coming_80 : decode prog_7_method_27_code 80 = .ok (.aload_n 0, 1) := by decide +kernel
theorem d_Mo_coming_81 : decode prog_7_method_27_code 81 = .ok (.getfield 75, 3) := by decide +kernel
theorem d_Mo_coming_84 : decode prog_7_method_27_code 84 = .ok (.iload_n 3, 1) := by decide +kernel
theorem d_Mo_coming_85 : decode prog_7_method_27_code 85 = .ok (.iaload, 1) := by decide +kernel
theorem d_Mo_coming_86 : decode prog_7_method_27_code 86 = .ok (.ifCond .le 33, 3) := by decide +kernel
theorem d_Mo_coming_89 : decode prog_7_method_27_code 89 = .ok (.aload_n 0, 1) := by decide +kernel
theorem d_Mo_coming_90 : decode prog_7_method_27_code 90 = .ok (.iload_n 3, 1) := by decide +kernel
theorem d_Mo_coming_91 : decode prog_7_method_27_code 91 = .ok (.iconst 1, 1) := by decide +kernel
theorem d_Mo_coming_92 : decode prog_7_method_27_code 92 = .ok (.invokevirtual 124, 3) := by decide +kernel
theorem d_Mo_coming_95 : decode prog_7_method_27_code 95 = .ok (.ifCond .lt 24, 3) := by decide +kernel
theorem d_Mo_coming_98 : decode prog_7_method_27_code 98 = .ok (.aload_n 0, 1) := by decide +kernel
theorem d_Mo_coming_99 : decode prog_7_method_27_code 99 = .ok (.getfield 69, 3) := by decide +kernel
theorem d_Mo_coming_102 : decode prog_7_method_27_code 102 = .ok (.bipush 16, 2) := by decide +kernel
theorem d_Mo_coming_104 : decode prog_7_method_27_code 104 = .ok (.iload_n 3, 1) := by decide +kernel
theorem d_Mo_coming_105 : decode prog_7_method_27_code 105 = .ok (.imul, 1) := by decide +kernel
theorem d_Mo_coming_106 : decode prog_7_method_27_code 106 = .ok (.daload, 1) := by decide +kernel
theorem d_Mo_coming_107 : decode prog_7_method_27_code 107 = .ok (.aload_n 0, 1) := by decide +kernel
theorem d_Mo_coming_108 : decode prog_7_method_27_code 108 = .ok (.getfield 102, 3) := by decide +kernel
theorem d_Mo_coming_111 : decode prog_7_method_27_code 111 = .ok (.dcmp .l, 1) := by decide +kernel
theorem d_Mo_coming_112 : decode prog_7_method_27_code 112 = .ok (.ifCond .le 7, 3) := by decide +kernel
theorem d_Mo_coming_115 : decode prog_7_method_27_code 115 = .ok (.iconst 1, 1) := by decide +kernel
theorem d_Mo_coming_116 : decode prog_7_method_27_code 116 = .ok (.goto 4, 3) := by decide +kernel
theorem d_Mo_coming_119 : decode prog_7_method_27_code 119 = .ok (.iconst 0, 1) := by decide +kernel
theorem d_Mo_coming_120 : decode prog_7_method_27_code 120 = .ok (.istore 4, 2) := by decide +kernel
theorem d_Mo_coming_122 : decode prog_7_method_27_code 122 = .ok (.iload 4, 2) := by decide +kernel
theorem d_Mo_coming_124 : decode prog_7_method_27_code 124 = .ok (.ifCond .eq 33, 3) := by decide +kernel
theorem d_Mo_coming_127 : decode prog_7_method_27_code 127 = .ok (.dload_n 1, 1) := by decide +kernel
theorem d_Mo_coming_128 : decode prog_7_method_27_code 128 = .ok (.dconst 0, 1) := by decide +kernel
theorem d_Mo_coming_129 : decode prog_7_method_27_code 129 = .ok (.dcmp .g, 1) := by decide +kernel
theorem d_Mo_coming_130 : decode prog_7_method_27_code 130 = .ok (.ifCond .lt 17, 3) := by decide +kernel
theorem d_Mo_coming_133 : decode prog_7_method_27_code 133 = .ok (.aload_n 0, 1) := by decide +kernel
theorem d_Mo_coming_134 : decode prog_7_method_27_code 134 = .ok (.getfield 69, 3) := by decide +kernel
theorem d_Mo_coming_137 : decode prog_7_method_27_code 137 = .ok (.bipush 16, 2) := by decide +kernel
theorem d_Mo_coming_139 : decode prog_7_method_27_code 139 = .ok (.iload_n 3, 1) := by decide +kernel
theorem d_Mo_coming_140 : decode prog_7_method_27_code 140 = .ok (.imul, 1) := by decide +kernel
theorem d_Mo_coming_141 : decode prog_7_method_27_code 141 = .ok (.daload, 1) := by decide +kernel
theorem d_Mo_coming_142 : decode prog_7_method_27_code 142 = .ok (.dload_n 1, 1) := by decide +kernel
theorem d_Mo_coming_143 : decode prog_7_method_27_code 143 = .ok (.dcmp .g, 1) := by decide +kernel
theorem d_Mo_coming_144 : decode prog_7_method_27_code 144 = .ok (.ifCond .ge 13, 3) := by decide +kernel
theorem d_Mo_coming_147 : decode prog_7_method_27_code 147 = .ok (.aload_n 0, 1) := by decide +kernel
theorem d_Mo_coming_148 : decode prog_7_method_27_code 148 = .ok (.getfield 69, 3) := by decide +kernel
theorem d_Mo_coming_151 : decode prog_7_method_27_code 151 = .ok (.bipush 16, 2) := by decide +kernel
theorem d_Mo_coming_153 : decode prog_7_method_27_code 153 = .ok (.iload_n 3, 1) := by decide +kernel
theorem d_Mo_coming_154 : decode prog_7_method_27_code 154 = .ok (.imul, 1) := by decide +kernel
theorem d_Mo_coming_155 : decode prog_7_method_27_code 155 = .ok (.daload, 1) := by decide +kernel
theorem d_Mo_coming_156 : decode prog_7_method_27_code 156 = .ok (.dstore_n 1, 1) := by decide +kernel
theorem d_Mo_coming_157 : decode prog_7_method_27_code 157 = .ok (.iinc 3 1, 3) := by decide +kernel
theorem d_Mo_coming_160 : decode prog_7_method_27_code 160 = .ok (.goto (-96), 3) := by decide +kernel
theorem d_Mo_coming_163 : decode prog_7_method_27_code 163 = .ok (.dload_n 1, 1) := by decide +kernel
theorem d_Mo_coming_164 : decode prog_7_method_27_code 164 = .ok (.dreturn, 1) := by decide +kernel
def y_Mo_coming : MethodName := ⟨"ChannelHallModel", "coming", "()D"⟩
abbrev rm_Mo_coming : Room := { frames := 1, cells := 0, slots := 0, locals := 23 }
def wp_Mo_coming_157 (G ca : Nat → Nat) (post : UInt64 → hM → Prop) (k_39 : hM → Nat → UInt64 → Int32 → Prop) (M : hM) (l0b157 : Nat) (l1b157 : UInt64) (l3b157 : Int32) : Prop := k_39 M l0b157 l1b157 (l3b157 + 1)
def wp_Mo_coming_147 (G ca : Nat → Nat) (post : UInt64 → hM → Prop) (k_39 : hM → Nat → UInt64 → Int32 → Prop) (M : hM) (l0b147 : Nat) (l3b147 : Int32) : Prop := gR M l0b147 5 21 fun v44 => nN v44 fun b45 => aD M b45 (ca 4) (16 * l3b147) fun v46 => wp_Mo_coming_157 G ca post k_39 M l0b147 v46 l3b147
def wp_Mo_coming_120 (G ca : Nat → Nat) (post : UInt64 → hM → Prop) (k_39 : hM → Nat → UInt64 → Int32 → Prop) (M : hM) (l0b120 : Nat) (l1b120 : UInt64) (l3b120 : Int32) (s0b120 : Int32) : Prop := (s0b120 = 0 → wp_Mo_coming_157 G ca post k_39 M l0b120 l1b120 l3b120) ∧ (¬ s0b120 = 0 → ((Op.cmpValue (FP.dcmp l1b120 FP.dconst0) .g) < 0 → wp_Mo_coming_147 G ca post k_39 M l0b120 l3b120) ∧ (¬ (Op.cmpValue (FP.dcmp l1b120 FP.dconst0) .g) < 0 → gR M l0b120 5 21 fun v49 => nN v49 fun b50 => aD M b50 (ca 4) (16 * l3b120) fun v51 => (0 ≤ (Op.cmpValue (FP.dcmp v51 l1b120) .g) → wp_Mo_coming_157 G ca post k_39 M l0b120 l1b120 l3b120) ∧ (¬ 0 ≤ (Op.cmpValue (FP.dcmp v51 l1b120) .g) → wp_Mo_coming_147 G ca post k_39 M l0b120 l3b120)))
def wp_Mo_coming_119 (G ca : Nat → Nat) (post : UInt64 → hM → Prop) (k_39 : hM → Nat → UInt64 → Int32 → Prop) (M : hM) (l0b119 : Nat) (l1b119 : UInt64) (l3b119 : Int32) : Prop := wp_Mo_coming_120 G ca post k_39 M l0b119 l1b119 l3b119 0
def wp_Mo_coming_64 (G ca : Nat → Nat) (post : UInt64 → hM → Prop) : Nat → hM → Nat → UInt64 → Int32 → Prop
  | 0, _, _, _, _ => False
  | n + 1, M, l0b64, l1b64, l3b64 => (8 ≤ l3b64 → post l1b64 M) ∧ (¬ 8 ≤ l3b64 → gR M l0b64 5 13 fun v54 => nN v54 fun b55 => aI M b55 (ca 5) l3b64 fun v56 => (¬ v56 = 4 → wp_Mo_coming_119 G ca post (wp_Mo_coming_64 G ca post n) M l0b64 l1b64 l3b64) ∧ (v56 = 4 → gR M l0b64 5 23 fun v58 => nN v58 fun b59 => aI M b59 (ca 5) l3b64 fun v60 => (v60 ≤ 0 → wp_Mo_coming_119 G ca post (wp_Mo_coming_64 G ca post n) M l0b64 l1b64 l3b64) ∧ (¬ v60 ≤ 0 → rC M l0b64 5 (wp_Mo_first G ca (fun r62 M63 => (r62 < 0 → wp_Mo_coming_119 G ca post (wp_Mo_coming_64 G ca post n) M63 l0b64 l1b64 l3b64) ∧ (¬ r62 < 0 → gR M63 l0b64 5 21 fun v65 => nN v65 fun b66 => aD M63 b66 (ca 4) (16 * l3b64) fun v67 => gD M63 l0b64 5 12 fun v68 => ((Op.cmpValue (FP.dcmp v67 v68) .l) ≤ 0 → wp_Mo_coming_119 G ca post (wp_Mo_coming_64 G ca post n) M63 l0b64 l1b64 l3b64) ∧ (¬ (Op.cmpValue (FP.dcmp v67 v68) .l) ≤ 0 → wp_Mo_coming_120 G ca post (wp_Mo_coming_64 G ca post n) M63 l0b64 l1b64 l3b64 1))) M l0b64 l3b64 1))))
def wp_Mo_coming_56 (G ca : Nat → Nat) (post : UInt64 → hM → Prop) (k_4 : hM → Nat → UInt64 → Int32 → Prop) (M : hM) (l0b56 : Nat) (l1b56 : UInt64) (l3b56 : Int32) : Prop := k_4 M l0b56 l1b56 (l3b56 + 1)
def wp_Mo_coming_49 (G ca : Nat → Nat) (post : UInt64 → hM → Prop) (k_4 : hM → Nat → UInt64 → Int32 → Prop) (M : hM) (l0b49 : Nat) (l3b49 : Int32) : Prop := gR M l0b49 5 11 fun v70 => nN v70 fun b71 => aD M b71 (ca 4) l3b49 fun v72 => wp_Mo_coming_56 G ca post k_4 M l0b49 v72 l3b49
def wp_Mo_coming_6 (G ca : Nat → Nat) (post : UInt64 → hM → Prop) : Nat → hM → Nat → UInt64 → Int32 → Prop
  | 0, _, _, _, _ => False
  | n + 1, M, l0b6, l1b6, l3b6 => (6 ≤ l3b6 → ∃ n, wp_Mo_coming_64 G ca post n M l0b6 l1b6 0) ∧ (¬ 6 ≤ l3b6 → gR M l0b6 5 1 fun v74 => nN v74 fun b75 => aI M b75 (ca 6) l3b6 fun v76 => (v76 = 0 → wp_Mo_coming_56 G ca post (wp_Mo_coming_6 G ca post n) M l0b6 l1b6 l3b6) ∧ (¬ v76 = 0 → gR M l0b6 5 11 fun v78 => nN v78 fun b79 => aD M b79 (ca 4) l3b6 fun v80 => ((Op.cmpValue (FP.dcmp v80 FP.dconst0) .l) < 0 → wp_Mo_coming_56 G ca post (wp_Mo_coming_6 G ca post n) M l0b6 l1b6 l3b6) ∧ (¬ (Op.cmpValue (FP.dcmp v80 FP.dconst0) .l) < 0 → ((Op.cmpValue (FP.dcmp l1b6 FP.dconst0) .g) < 0 → wp_Mo_coming_49 G ca post (wp_Mo_coming_6 G ca post n) M l0b6 l3b6) ∧ (¬ (Op.cmpValue (FP.dcmp l1b6 FP.dconst0) .g) < 0 → gR M l0b6 5 11 fun v83 => nN v83 fun b84 => aD M b84 (ca 4) l3b6 fun v85 => (0 ≤ (Op.cmpValue (FP.dcmp v85 l1b6) .g) → wp_Mo_coming_56 G ca post (wp_Mo_coming_6 G ca post n) M l0b6 l1b6 l3b6) ∧ (¬ 0 ≤ (Op.cmpValue (FP.dcmp v85 l1b6) .g) → wp_Mo_coming_49 G ca post (wp_Mo_coming_6 G ca post n) M l0b6 l3b6)))))
def wp_Mo_coming (G ca : Nat → Nat) (post : UInt64 → hM → Prop) (M : hM) (a0 : Nat) : Prop := ∃ n, wp_Mo_coming_6 G ca post n M a0 13830554455654793216 0
set_option maxHeartbeats 1000000 in
set_option maxRecDepth 20000 in
theorem l_Mo_coming_157 {p : Program} {l : Launch} {e : Env} {s : State} {m : MethodId} {args : Array Value} {below : List Frame} {meth : Method} {c : Code} {D : va_G} {ca G : Nat → Nat} {A : Nat → Prop} (C0 : hC p s m args meth c D ca G prog_7_method_27_code 5 (some .double) "ChannelHallModel" A) {post : UInt64 → hM → Prop} {k_39 : hM → Nat → UInt64 → Int32 → Prop} (hk_39 : ∀ (M : hM) (H : Heap) (locs : List Loc) (ls : Array Slot) (l0b64 : Nat) (l1b64 : UInt64) (l3b64 : Int32), k_39 M l0b64 l1b64 l3b64 → hw D wCl A M H → va_S A s.heap H locs → lv_has ls 5 [(0, .ref l0b64), (1, .double l1b64), (3, .int l3b64)] → W p l e rm_Mo_coming s m args below meth c H locs 0 0 (MQ below (va_Qd post (fun M' t => hw D wCl A M' t.heap) A) args s 0 0 A) (F0 m 64 ls [])) {M : hM} {H : Heap} {locs : List Loc} {ls : Array Slot} (l0b157 : Nat) (l1b157 : UInt64) (l3b157 : Int32) (h : wp_Mo_coming_157 G ca post k_39 M l0b157 l1b157 l3b157) (hW : hw D wCl A M H) (hS : va_S A s.heap H locs) (hl : lv_has ls 5 [(0, .ref l0b157), (1, .double l1b157), (3, .int l3b157)]) : W p l e rm_Mo_coming s m args below meth c H locs 0 0 (MQ below (va_Qd post (fun M' t => hw D wCl A M' t.heap) A) args s 0 0 A) (F0 m 157 ls []) := by
  obtain ⟨hx, hb, hr, hml, hown, hts, hlocks, hK, hA, hZ0⟩ := id C0
  refine lv_iinc (v := l3b157 + 1) (lv' := [(3, .int (l3b157 + 1)), (0, .ref l0b157), (1, .double l1b157)]) hx hb d_Mo_coming_157 hl (k := 2) rfl rfl (by decide) rfl (fun ls hl => ?_)
  refine lv_goto (tgt := 64) hx hb d_Mo_coming_160 (by decide) ?_
  exact hk_39 _ _ _ _ l0b157 l1b157 (l3b157 + 1) h hW hS (lv_sub hl [1, 2, 0] rfl)
set_option maxHeartbeats 1000000 in
set_option maxRecDepth 20000 in
theorem l_Mo_coming_147 {p : Program} {l : Launch} {e : Env} {s : State} {m : MethodId} {args : Array Value} {below : List Frame} {meth : Method} {c : Code} {D : va_G} {ca G : Nat → Nat} {A : Nat → Prop} (C0 : hC p s m args meth c D ca G prog_7_method_27_code 5 (some .double) "ChannelHallModel" A) {post : UInt64 → hM → Prop} {k_39 : hM → Nat → UInt64 → Int32 → Prop} (hk_39 : ∀ (M : hM) (H : Heap) (locs : List Loc) (ls : Array Slot) (l0b64 : Nat) (l1b64 : UInt64) (l3b64 : Int32), k_39 M l0b64 l1b64 l3b64 → hw D wCl A M H → va_S A s.heap H locs → lv_has ls 5 [(0, .ref l0b64), (1, .double l1b64), (3, .int l3b64)] → W p l e rm_Mo_coming s m args below meth c H locs 0 0 (MQ below (va_Qd post (fun M' t => hw D wCl A M' t.heap) A) args s 0 0 A) (F0 m 64 ls [])) {M : hM} {H : Heap} {locs : List Loc} {ls : Array Slot} (l0b147 : Nat) (l3b147 : Int32) (h : wp_Mo_coming_147 G ca post k_39 M l0b147 l3b147) (hW : hw D wCl A M H) (hS : va_S A s.heap H locs) (hl : lv_has ls 5 [(0, .ref l0b147), (3, .int l3b147)]) : W p l e rm_Mo_coming s m args below meth c H locs 0 0 (MQ below (va_Qd post (fun M' t => hw D wCl A M' t.heap) A) args s 0 0 A) (F0 m 147 ls []) := by
  obtain ⟨hx, hb, hr, hml, hown, hts, hlocks, hK, hA, hZ0⟩ := id C0
  refine lv_aload_n hx hb d_Mo_coming_147 rfl (lv_at hl 0 rfl) ?_
  obtain ⟨fs, v44, h1, h2, h⟩ := h
  refine va_get (D := D) (ci := 5) (v := va_rf v44) (C := "ChannelHallModel") (T := TMo) (N := 26) hx hb hts uMo hown hK (hw_one hW h1) 0 rfl rfl 21 (by decide) (hts _ bw_995) (fun _ h9 => h9) h2 d_Mo_coming_148 ?_
  refine lv_bipush (v := 16) hx hb d_Mo_coming_151 (by decide) ?_
  refine lv_iload_n hx hb d_Mo_coming_153 rfl (lv_at hl 1 rfl) ?_
  refine lv_imul hx hb d_Mo_coming_154 ?_
  obtain ⟨b45, rfl, h⟩ := h
  obtain ⟨n, f, h1, h2, h⟩ := h
  refine va_dald hx hb hK (hw_one hW h1) 0 4 rfl rfl h2 d_Mo_coming_155 ?_
  generalize f ((16 * l3b147)).toNatClampNeg = v46 at h ⊢
  refine lv_dstore_n (lv' := [(1, .double v46), (0, .ref l0b147), (3, .int l3b147)]) hx hb d_Mo_coming_156 rfl hl (by decide) rfl (fun ls hl => ?_)
  exact l_Mo_coming_157 C0 hk_39 l0b147 v46 l3b147 h hW hS (lv_sub hl [1, 0, 2] rfl)
set_option maxHeartbeats 1000000 in
set_option maxRecDepth 20000 in
theorem l_Mo_coming_120 {p : Program} {l : Launch} {e : Env} {s : State} {m : MethodId} {args : Array Value} {below : List Frame} {meth : Method} {c : Code} {D : va_G} {ca G : Nat → Nat} {A : Nat → Prop} (C0 : hC p s m args meth c D ca G prog_7_method_27_code 5 (some .double) "ChannelHallModel" A) {post : UInt64 → hM → Prop} {k_39 : hM → Nat → UInt64 → Int32 → Prop} (hk_39 : ∀ (M : hM) (H : Heap) (locs : List Loc) (ls : Array Slot) (l0b64 : Nat) (l1b64 : UInt64) (l3b64 : Int32), k_39 M l0b64 l1b64 l3b64 → hw D wCl A M H → va_S A s.heap H locs → lv_has ls 5 [(0, .ref l0b64), (1, .double l1b64), (3, .int l3b64)] → W p l e rm_Mo_coming s m args below meth c H locs 0 0 (MQ below (va_Qd post (fun M' t => hw D wCl A M' t.heap) A) args s 0 0 A) (F0 m 64 ls [])) {M : hM} {H : Heap} {locs : List Loc} {ls : Array Slot} (l0b120 : Nat) (l1b120 : UInt64) (l3b120 : Int32) (s0b120 : Int32) (h : wp_Mo_coming_120 G ca post k_39 M l0b120 l1b120 l3b120 s0b120) (hW : hw D wCl A M H) (hS : va_S A s.heap H locs) (hl : lv_has ls 5 [(0, .ref l0b120), (1, .double l1b120), (3, .int l3b120)]) : W p l e rm_Mo_coming s m args below meth c H locs 0 0 (MQ below (va_Qd post (fun M' t => hw D wCl A M' t.heap) A) args s 0 0 A) (F0 m 120 ls [.int s0b120]) := by
  obtain ⟨hx, hb, hr, hml, hown, hts, hlocks, hK, hA, hZ0⟩ := id C0
  refine lv_istore (lv' := [(4, .int s0b120), (0, .ref l0b120), (1, .double l1b120), (3, .int l3b120)]) hx hb d_Mo_coming_120 hl (by decide) rfl (fun ls hl => ?_)
  refine lv_iload hx hb d_Mo_coming_122 (lv_at hl 0 rfl) ?_
  obtain ⟨h0, h1⟩ := h
  refine lv_if_eq (tgt := 157) hx hb d_Mo_coming_124 (by decide) (fun c47 => ?_) (fun c47 => ?_)
  · have h := h0 c47
    exact l_Mo_coming_157 C0 hk_39 l0b120 l1b120 l3b120 h hW hS (lv_sub hl [1, 2, 3] rfl)
  · have h := h1 c47
    refine lv_dload_n hx hb d_Mo_coming_127 rfl (lv_at hl 2 rfl) ?_
    refine lv_dconst0 hx hb d_Mo_coming_128 ?_
    refine lv_dcmp hx hb d_Mo_coming_129 ?_
    obtain ⟨h0, h1⟩ := h
    refine lv_if_lt (tgt := 147) hx hb d_Mo_coming_130 (by decide) (fun c48 => ?_) (fun c48 => ?_)
    · have h := h0 c48
      exact l_Mo_coming_147 C0 hk_39 l0b120 l3b120 h hW hS (lv_sub hl [1, 3] rfl)
    · have h := h1 c48
      refine lv_aload_n hx hb d_Mo_coming_133 rfl (lv_at hl 1 rfl) ?_
      obtain ⟨fs, v49, h1, h2, h⟩ := h
      refine va_get (D := D) (ci := 5) (v := va_rf v49) (C := "ChannelHallModel") (T := TMo) (N := 26) hx hb hts uMo hown hK (hw_one hW h1) 0 rfl rfl 21 (by decide) (hts _ bw_995) (fun _ h9 => h9) h2 d_Mo_coming_134 ?_
      refine lv_bipush (v := 16) hx hb d_Mo_coming_137 (by decide) ?_
      refine lv_iload_n hx hb d_Mo_coming_139 rfl (lv_at hl 3 rfl) ?_
      refine lv_imul hx hb d_Mo_coming_140 ?_
      obtain ⟨b50, rfl, h⟩ := h
      obtain ⟨n, f, h1, h2, h⟩ := h
      refine va_dald hx hb hK (hw_one hW h1) 0 4 rfl rfl h2 d_Mo_coming_141 ?_
      generalize f ((16 * l3b120)).toNatClampNeg = v51 at h ⊢
      refine lv_dload_n hx hb d_Mo_coming_142 rfl (lv_at hl 2 rfl) ?_
      refine lv_dcmp hx hb d_Mo_coming_143 ?_
      obtain ⟨h0, h1⟩ := h
      refine lv_if_ge (tgt := 157) hx hb d_Mo_coming_144 (by decide) (fun c52 => ?_) (fun c52 => ?_)
      · have h := h0 c52
        exact l_Mo_coming_157 C0 hk_39 l0b120 l1b120 l3b120 h hW hS (lv_sub hl [1, 2, 3] rfl)
      · have h := h1 c52
        exact l_Mo_coming_147 C0 hk_39 l0b120 l3b120 h hW hS (lv_sub hl [1, 3] rfl)
set_option maxHeartbeats 1000000 in
set_option maxRecDepth 20000 in
theorem l_Mo_coming_119 {p : Program} {l : Launch} {e : Env} {s : State} {m : MethodId} {args : Array Value} {below : List Frame} {meth : Method} {c : Code} {D : va_G} {ca G : Nat → Nat} {A : Nat → Prop} (C0 : hC p s m args meth c D ca G prog_7_method_27_code 5 (some .double) "ChannelHallModel" A) {post : UInt64 → hM → Prop} {k_39 : hM → Nat → UInt64 → Int32 → Prop} (hk_39 : ∀ (M : hM) (H : Heap) (locs : List Loc) (ls : Array Slot) (l0b64 : Nat) (l1b64 : UInt64) (l3b64 : Int32), k_39 M l0b64 l1b64 l3b64 → hw D wCl A M H → va_S A s.heap H locs → lv_has ls 5 [(0, .ref l0b64), (1, .double l1b64), (3, .int l3b64)] → W p l e rm_Mo_coming s m args below meth c H locs 0 0 (MQ below (va_Qd post (fun M' t => hw D wCl A M' t.heap) A) args s 0 0 A) (F0 m 64 ls [])) {M : hM} {H : Heap} {locs : List Loc} {ls : Array Slot} (l0b119 : Nat) (l1b119 : UInt64) (l3b119 : Int32) (h : wp_Mo_coming_119 G ca post k_39 M l0b119 l1b119 l3b119) (hW : hw D wCl A M H) (hS : va_S A s.heap H locs) (hl : lv_has ls 5 [(0, .ref l0b119), (1, .double l1b119), (3, .int l3b119)]) : W p l e rm_Mo_coming s m args below meth c H locs 0 0 (MQ below (va_Qd post (fun M' t => hw D wCl A M' t.heap) A) args s 0 0 A) (F0 m 119 ls []) := by
  obtain ⟨hx, hb, hr, hml, hown, hts, hlocks, hK, hA, hZ0⟩ := id C0
  refine lv_iconst (v := 0) hx hb d_Mo_coming_119 (by decide) ?_
  exact l_Mo_coming_120 C0 hk_39 l0b119 l1b119 l3b119 0 h hW hS (lv_sub hl [0, 1, 2] rfl)
set_option maxHeartbeats 1000000 in
set_option maxRecDepth 20000 in
theorem l_Mo_coming_64 {p : Program} {l : Launch} {e : Env} {s : State} {m : MethodId} {args : Array Value} {below : List Frame} {meth : Method} {c : Code} {D : va_G} {ca G : Nat → Nat} {A : Nat → Prop} (C0 : hC p s m args meth c D ca G prog_7_method_27_code 5 (some .double) "ChannelHallModel" A) {post : UInt64 → hM → Prop} : ∀ (n : Nat) {M : hM} {H : Heap} {locs : List Loc} {ls : Array Slot} (l0b64 : Nat) (l1b64 : UInt64) (l3b64 : Int32) (h : wp_Mo_coming_64 G ca post n M l0b64 l1b64 l3b64) (hW : hw D wCl A M H) (hS : va_S A s.heap H locs) (hl : lv_has ls 5 [(0, .ref l0b64), (1, .double l1b64), (3, .int l3b64)]), W p l e rm_Mo_coming s m args below meth c H locs 0 0 (MQ below (va_Qd post (fun M' t => hw D wCl A M' t.heap) A) args s 0 0 A) (F0 m 64 ls []) := by
  obtain ⟨hx, hb, hr, hml, hown, hts, hlocks, hK, hA, hZ0⟩ := id C0
  intro n
  induction n with
  | zero =>
    intro M H locs ls l0b64 l1b64 l3b64 h
    exact False.elim h
  | succ n ih =>
    intro M H locs ls l0b64 l1b64 l3b64 h hW hS hl
    have hk_39 := fun M H locs ls l0b64 l1b64 l3b64 h hW hS hl => @ih M H locs ls l0b64 l1b64 l3b64 h hW hS hl
    refine lv_iload_n hx hb d_Mo_coming_64 rfl (lv_at hl 2 rfl) ?_
    refine lv_bipush (v := 8) hx hb d_Mo_coming_65 (by decide) ?_
    obtain ⟨h0, h1⟩ := h
    refine lv_icmp_ge (tgt := 163) hx hb d_Mo_coming_67 (by decide) (fun c53 => ?_) (fun c53 => ?_)
    · have h := h0 c53
      refine lv_dload_n hx hb d_Mo_coming_163 rfl (lv_at hl 1 rfl) ?_
      exact W.dret hx hb hr (fun t ht hWm => ⟨⟨_, _, rfl, h, hw_t ht hW⟩, hS.F ht⟩) hS.2.2 d_Mo_coming_164
    · have h := h1 c53
      refine lv_aload_n hx hb d_Mo_coming_70 rfl (lv_at hl 0 rfl) ?_
      obtain ⟨fs, v54, h1, h2, h⟩ := h
      refine va_get (D := D) (ci := 5) (v := va_rf v54) (C := "ChannelHallModel") (T := TMo) (N := 26) hx hb hts uMo hown hK (hw_one hW h1) 0 rfl rfl 13 (by decide) (hts _ bw_987) (fun _ h9 => h9) h2 d_Mo_coming_71 ?_
      refine lv_iload_n hx hb d_Mo_coming_74 rfl (lv_at hl 2 rfl) ?_
      obtain ⟨b55, rfl, h⟩ := h
      obtain ⟨n, f, h1, h2, h⟩ := h
      refine va_iald hx hb hK (hw_one hW h1) 0 5 rfl rfl h2 d_Mo_coming_75 ?_
      generalize f (l3b64).toNatClampNeg = v56 at h ⊢
      refine lv_iconst (v := 4) hx hb d_Mo_coming_76 (by decide) ?_
      obtain ⟨h0, h1⟩ := h
      refine lv_icmp_ne (tgt := 119) hx hb d_Mo_coming_77 (by decide) (fun c57 => ?_) (fun c57 => ?_)
      · have h := h0 c57
        exact l_Mo_coming_119 C0 hk_39 l0b64 l1b64 l3b64 h hW hS (lv_sub hl [0, 1, 2] rfl)
      · have h := h1 c57
        refine lv_aload_n hx hb d_Mo_coming_80 rfl (lv_at hl 0 rfl) ?_
        obtain ⟨fs, v58, h1, h2, h⟩ := h
        refine va_get (D := D) (ci := 5) (v := va_rf v58) (C := "ChannelHallModel") (T := TMo) (N := 26) hx hb hts uMo hown hK (hw_one hW h1) 0 rfl rfl 23 (by decide) (hts _ bw_997) (fun _ h9 => h9) h2 d_Mo_coming_81 ?_
        refine lv_iload_n hx hb d_Mo_coming_84 rfl (lv_at hl 2 rfl) ?_
        obtain ⟨b59, rfl, h⟩ := h
        obtain ⟨n, f, h1, h2, h⟩ := h
        refine va_iald hx hb hK (hw_one hW h1) 0 5 rfl rfl h2 d_Mo_coming_85 ?_
        generalize f (l3b64).toNatClampNeg = v60 at h ⊢
        obtain ⟨h0, h1⟩ := h
        refine lv_if_le (tgt := 119) hx hb d_Mo_coming_86 (by decide) (fun c61 => ?_) (fun c61 => ?_)
        · have h := h0 c61
          exact l_Mo_coming_119 C0 hk_39 l0b64 l1b64 l3b64 h hW hS (lv_sub hl [0, 1, 2] rfl)
        · have h := h1 c61
          refine lv_aload_n hx hb d_Mo_coming_89 rfl (lv_at hl 0 rfl) ?_
          refine lv_iload_n hx hb d_Mo_coming_90 rfl (lv_at hl 2 rfl) ?_
          refine lv_iconst (v := 1) hx hb d_Mo_coming_91 (by decide) ?_
          obtain ⟨⟨fs, h1⟩, h⟩ := h
          have h9 := h
          clear h
          have hF := hW.free hS hA
          refine va_calli (va_runV (As := [.int l3b64, .int 1]) (rest := []) ⟨hx, hb, hml, hown, hts⟩ (c_Mo_first _ h9) (cwV 2 hts (gi_V bw_1090 bw_1092 bs_24 bw_5 bw_1093) rfl rfl rfl (by decide +kernel) ⟨Nat.le_of_ble_eq_true rfl, Nat.le_of_ble_eq_true rfl⟩) ⟨hI.blind, hw_recv hK hW h1 rfl, hI.give hW hS hA hK hZ0⟩ rfl rfl hl.1 rfl (lv_room (Nat.le_of_ble_eq_true rfl)) d_Mo_coming_92 ⟨(show _ ≤ 0 by omega), (show _ ≤ 0 by omega)⟩) hS (fun q _ z => hF q z) hF (fun r62 M63 t H locs ht _ h hB1 _ _ hS => ?_)
          have hW := hw_back hF ht hB1
          clear h9
          obtain ⟨h0, h1⟩ := h
          refine lv_if_lt (tgt := 119) hx hb d_Mo_coming_95 (by decide) (fun c64 => ?_) (fun c64 => ?_)
          · have h := h0 c64
            exact l_Mo_coming_119 C0 hk_39 l0b64 l1b64 l3b64 h hW hS (lv_sub hl [0, 1, 2] rfl)
          · have h := h1 c64
            refine lv_aload_n hx hb d_Mo_coming_98 rfl (lv_at hl 0 rfl) ?_
            obtain ⟨fs, v65, h1, h2, h⟩ := h
            refine va_get (D := D) (ci := 5) (v := va_rf v65) (C := "ChannelHallModel") (T := TMo) (N := 26) hx hb hts uMo hown hK (hw_one hW h1) 0 rfl rfl 21 (by decide) (hts _ bw_995) (fun _ h9 => h9) h2 d_Mo_coming_99 ?_
            refine lv_bipush (v := 16) hx hb d_Mo_coming_102 (by decide) ?_
            refine lv_iload_n hx hb d_Mo_coming_104 rfl (lv_at hl 2 rfl) ?_
            refine lv_imul hx hb d_Mo_coming_105 ?_
            obtain ⟨b66, rfl, h⟩ := h
            obtain ⟨n, f, h1, h2, h⟩ := h
            refine va_dald hx hb hK (hw_one hW h1) 0 4 rfl rfl h2 d_Mo_coming_106 ?_
            generalize f ((16 * l3b64)).toNatClampNeg = v67 at h ⊢
            refine lv_aload_n hx hb d_Mo_coming_107 rfl (lv_at hl 0 rfl) ?_
            obtain ⟨fs, v68, h1, h2, h⟩ := h
            refine va_get (D := D) (ci := 5) (v := .double v68) (C := "ChannelHallModel") (T := TMo) (N := 26) hx hb hts uMo hown hK (hw_one hW h1) 0 rfl rfl 12 (by decide) (hts _ bw_986) (fun _ h9 => h9) h2 d_Mo_coming_108 ?_
            refine lv_dcmp hx hb d_Mo_coming_111 ?_
            obtain ⟨h0, h1⟩ := h
            refine lv_if_le (tgt := 119) hx hb d_Mo_coming_112 (by decide) (fun c69 => ?_) (fun c69 => ?_)
            · have h := h0 c69
              exact l_Mo_coming_119 C0 hk_39 l0b64 l1b64 l3b64 h hW hS (lv_sub hl [0, 1, 2] rfl)
            · have h := h1 c69
              refine lv_iconst (v := 1) hx hb d_Mo_coming_115 (by decide) ?_
              refine lv_goto (tgt := 120) hx hb d_Mo_coming_116 (by decide) ?_
              exact l_Mo_coming_120 C0 hk_39 l0b64 l1b64 l3b64 1 h hW hS (lv_sub hl [0, 1, 2] rfl)
set_option maxHeartbeats 1000000 in
set_option maxRecDepth 20000 in
theorem l_Mo_coming_56 {p : Program} {l : Launch} {e : Env} {s : State} {m : MethodId} {args : Array Value} {below : List Frame} {meth : Method} {c : Code} {D : va_G} {ca G : Nat → Nat} {A : Nat → Prop} (C0 : hC p s m args meth c D ca G prog_7_method_27_code 5 (some .double) "ChannelHallModel" A) {post : UInt64 → hM → Prop} {k_4 : hM → Nat → UInt64 → Int32 → Prop} (hk_4 : ∀ (M : hM) (H : Heap) (locs : List Loc) (ls : Array Slot) (l0b6 : Nat) (l1b6 : UInt64) (l3b6 : Int32), k_4 M l0b6 l1b6 l3b6 → hw D wCl A M H → va_S A s.heap H locs → lv_has ls 5 [(0, .ref l0b6), (1, .double l1b6), (3, .int l3b6)] → W p l e rm_Mo_coming s m args below meth c H locs 0 0 (MQ below (va_Qd post (fun M' t => hw D wCl A M' t.heap) A) args s 0 0 A) (F0 m 6 ls [])) {M : hM} {H : Heap} {locs : List Loc} {ls : Array Slot} (l0b56 : Nat) (l1b56 : UInt64) (l3b56 : Int32) (h : wp_Mo_coming_56 G ca post k_4 M l0b56 l1b56 l3b56) (hW : hw D wCl A M H) (hS : va_S A s.heap H locs) (hl : lv_has ls 5 [(0, .ref l0b56), (1, .double l1b56), (3, .int l3b56)]) : W p l e rm_Mo_coming s m args below meth c H locs 0 0 (MQ below (va_Qd post (fun M' t => hw D wCl A M' t.heap) A) args s 0 0 A) (F0 m 56 ls []) := by
  obtain ⟨hx, hb, hr, hml, hown, hts, hlocks, hK, hA, hZ0⟩ := id C0
  refine lv_iinc (v := l3b56 + 1) (lv' := [(3, .int (l3b56 + 1)), (0, .ref l0b56), (1, .double l1b56)]) hx hb d_Mo_coming_56 hl (k := 2) rfl rfl (by decide) rfl (fun ls hl => ?_)
  refine lv_goto (tgt := 6) hx hb d_Mo_coming_59 (by decide) ?_
  exact hk_4 _ _ _ _ l0b56 l1b56 (l3b56 + 1) h hW hS (lv_sub hl [1, 2, 0] rfl)
set_option maxHeartbeats 1000000 in
set_option maxRecDepth 20000 in
theorem l_Mo_coming_49 {p : Program} {l : Launch} {e : Env} {s : State} {m : MethodId} {args : Array Value} {below : List Frame} {meth : Method} {c : Code} {D : va_G} {ca G : Nat → Nat} {A : Nat → Prop} (C0 : hC p s m args meth c D ca G prog_7_method_27_code 5 (some .double) "ChannelHallModel" A) {post : UInt64 → hM → Prop} {k_4 : hM → Nat → UInt64 → Int32 → Prop} (hk_4 : ∀ (M : hM) (H : Heap) (locs : List Loc) (ls : Array Slot) (l0b6 : Nat) (l1b6 : UInt64) (l3b6 : Int32), k_4 M l0b6 l1b6 l3b6 → hw D wCl A M H → va_S A s.heap H locs → lv_has ls 5 [(0, .ref l0b6), (1, .double l1b6), (3, .int l3b6)] → W p l e rm_Mo_coming s m args below meth c H locs 0 0 (MQ below (va_Qd post (fun M' t => hw D wCl A M' t.heap) A) args s 0 0 A) (F0 m 6 ls [])) {M : hM} {H : Heap} {locs : List Loc} {ls : Array Slot} (l0b49 : Nat) (l3b49 : Int32) (h : wp_Mo_coming_49 G ca post k_4 M l0b49 l3b49) (hW : hw D wCl A M H) (hS : va_S A s.heap H locs) (hl : lv_has ls 5 [(0, .ref l0b49), (3, .int l3b49)]) : W p l e rm_Mo_coming s m args below meth c H locs 0 0 (MQ below (va_Qd post (fun M' t => hw D wCl A M' t.heap) A) args s 0 0 A) (F0 m 49 ls []) := by
  obtain ⟨hx, hb, hr, hml, hown, hts, hlocks, hK, hA, hZ0⟩ := id C0
  refine lv_aload_n hx hb d_Mo_coming_49 rfl (lv_at hl 0 rfl) ?_
  obtain ⟨fs, v70, h1, h2, h⟩ := h
  refine va_get (D := D) (ci := 5) (v := va_rf v70) (C := "ChannelHallModel") (T := TMo) (N := 26) hx hb hts uMo hown hK (hw_one hW h1) 0 rfl rfl 11 (by decide) (hts _ bw_985) (fun _ h9 => h9) h2 d_Mo_coming_50 ?_
  refine lv_iload_n hx hb d_Mo_coming_53 rfl (lv_at hl 1 rfl) ?_
  obtain ⟨b71, rfl, h⟩ := h
  obtain ⟨n, f, h1, h2, h⟩ := h
  refine va_dald hx hb hK (hw_one hW h1) 0 4 rfl rfl h2 d_Mo_coming_54 ?_
  generalize f (l3b49).toNatClampNeg = v72 at h ⊢
  refine lv_dstore_n (lv' := [(1, .double v72), (0, .ref l0b49), (3, .int l3b49)]) hx hb d_Mo_coming_55 rfl hl (by decide) rfl (fun ls hl => ?_)
  exact l_Mo_coming_56 C0 hk_4 l0b49 v72 l3b49 h hW hS (lv_sub hl [1, 0, 2] rfl)
set_option maxHeartbeats 1000000 in
set_option maxRecDepth 20000 in
theorem l_Mo_coming_6 {p : Program} {l : Launch} {e : Env} {s : State} {m : MethodId} {args : Array Value} {below : List Frame} {meth : Method} {c : Code} {D : va_G} {ca G : Nat → Nat} {A : Nat → Prop} (C0 : hC p s m args meth c D ca G prog_7_method_27_code 5 (some .double) "ChannelHallModel" A) {post : UInt64 → hM → Prop} : ∀ (n : Nat) {M : hM} {H : Heap} {locs : List Loc} {ls : Array Slot} (l0b6 : Nat) (l1b6 : UInt64) (l3b6 : Int32) (h : wp_Mo_coming_6 G ca post n M l0b6 l1b6 l3b6) (hW : hw D wCl A M H) (hS : va_S A s.heap H locs) (hl : lv_has ls 5 [(0, .ref l0b6), (1, .double l1b6), (3, .int l3b6)]), W p l e rm_Mo_coming s m args below meth c H locs 0 0 (MQ below (va_Qd post (fun M' t => hw D wCl A M' t.heap) A) args s 0 0 A) (F0 m 6 ls []) := by
  obtain ⟨hx, hb, hr, hml, hown, hts, hlocks, hK, hA, hZ0⟩ := id C0
  intro n
  induction n with
  | zero =>
    intro M H locs ls l0b6 l1b6 l3b6 h
    exact False.elim h
  | succ n ih =>
    intro M H locs ls l0b6 l1b6 l3b6 h hW hS hl
    have hk_4 := fun M H locs ls l0b6 l1b6 l3b6 h hW hS hl => @ih M H locs ls l0b6 l1b6 l3b6 h hW hS hl
    refine lv_iload_n hx hb d_Mo_coming_6 rfl (lv_at hl 2 rfl) ?_
    refine lv_bipush (v := 6) hx hb d_Mo_coming_7 (by decide) ?_
    obtain ⟨h0, h1⟩ := h
    refine lv_icmp_ge (tgt := 62) hx hb d_Mo_coming_9 (by decide) (fun c73 => ?_) (fun c73 => ?_)
    · have h := h0 c73
      refine lv_iconst (v := 0) hx hb d_Mo_coming_62 (by decide) ?_
      refine lv_istore_n (lv' := [(3, .int 0), (0, .ref l0b6), (1, .double l1b6)]) hx hb d_Mo_coming_63 rfl hl (by decide) rfl (fun ls hl => ?_)
      obtain ⟨n, h⟩ := h
      exact l_Mo_coming_64 C0 n l0b6 l1b6 0 h hW hS (lv_sub hl [1, 2, 0] rfl)
    · have h := h1 c73
      refine lv_aload_n hx hb d_Mo_coming_12 rfl (lv_at hl 0 rfl) ?_
      obtain ⟨fs, v74, h1, h2, h⟩ := h
      refine va_get (D := D) (ci := 5) (v := va_rf v74) (C := "ChannelHallModel") (T := TMo) (N := 26) hx hb hts uMo hown hK (hw_one hW h1) 0 rfl rfl 1 (by decide) (hts _ bw_975) (fun _ h9 => h9) h2 d_Mo_coming_13 ?_
      refine lv_iload_n hx hb d_Mo_coming_16 rfl (lv_at hl 2 rfl) ?_
      obtain ⟨b75, rfl, h⟩ := h
      obtain ⟨n, f, h1, h2, h⟩ := h
      refine va_zald hx hb hK (hw_one hW h1) 0 6 rfl rfl h2 d_Mo_coming_17 ?_
      generalize f (l3b6).toNatClampNeg = v76 at h ⊢
      obtain ⟨h0, h1⟩ := h
      refine lv_if_eq (tgt := 56) hx hb d_Mo_coming_18 (by decide) (fun c77 => ?_) (fun c77 => ?_)
      · have h := h0 c77
        exact l_Mo_coming_56 C0 hk_4 l0b6 l1b6 l3b6 h hW hS (lv_sub hl [0, 1, 2] rfl)
      · have h := h1 c77
        refine lv_aload_n hx hb d_Mo_coming_21 rfl (lv_at hl 0 rfl) ?_
        obtain ⟨fs, v78, h1, h2, h⟩ := h
        refine va_get (D := D) (ci := 5) (v := va_rf v78) (C := "ChannelHallModel") (T := TMo) (N := 26) hx hb hts uMo hown hK (hw_one hW h1) 0 rfl rfl 11 (by decide) (hts _ bw_985) (fun _ h9 => h9) h2 d_Mo_coming_22 ?_
        refine lv_iload_n hx hb d_Mo_coming_25 rfl (lv_at hl 2 rfl) ?_
        obtain ⟨b79, rfl, h⟩ := h
        obtain ⟨n, f, h1, h2, h⟩ := h
        refine va_dald hx hb hK (hw_one hW h1) 0 4 rfl rfl h2 d_Mo_coming_26 ?_
        generalize f (l3b6).toNatClampNeg = v80 at h ⊢
        refine lv_dconst0 hx hb d_Mo_coming_27 ?_
        refine lv_dcmp hx hb d_Mo_coming_28 ?_
        obtain ⟨h0, h1⟩ := h
        refine lv_if_lt (tgt := 56) hx hb d_Mo_coming_29 (by decide) (fun c81 => ?_) (fun c81 => ?_)
        · have h := h0 c81
          exact l_Mo_coming_56 C0 hk_4 l0b6 l1b6 l3b6 h hW hS (lv_sub hl [0, 1, 2] rfl)
        · have h := h1 c81
          refine lv_dload_n hx hb d_Mo_coming_32 rfl (lv_at hl 1 rfl) ?_
          refine lv_dconst0 hx hb d_Mo_coming_33 ?_
          refine lv_dcmp hx hb d_Mo_coming_34 ?_
          obtain ⟨h0, h1⟩ := h
          refine lv_if_lt (tgt := 49) hx hb d_Mo_coming_35 (by decide) (fun c82 => ?_) (fun c82 => ?_)
          · have h := h0 c82
            exact l_Mo_coming_49 C0 hk_4 l0b6 l3b6 h hW hS (lv_sub hl [0, 2] rfl)
          · have h := h1 c82
            refine lv_aload_n hx hb d_Mo_coming_38 rfl (lv_at hl 0 rfl) ?_
            obtain ⟨fs, v83, h1, h2, h⟩ := h
            refine va_get (D := D) (ci := 5) (v := va_rf v83) (C := "ChannelHallModel") (T := TMo) (N := 26) hx hb hts uMo hown hK (hw_one hW h1) 0 rfl rfl 11 (by decide) (hts _ bw_985) (fun _ h9 => h9) h2 d_Mo_coming_39 ?_
            refine lv_iload_n hx hb d_Mo_coming_42 rfl (lv_at hl 2 rfl) ?_
            obtain ⟨b84, rfl, h⟩ := h
            obtain ⟨n, f, h1, h2, h⟩ := h
            refine va_dald hx hb hK (hw_one hW h1) 0 4 rfl rfl h2 d_Mo_coming_43 ?_
            generalize f (l3b6).toNatClampNeg = v85 at h ⊢
            refine lv_dload_n hx hb d_Mo_coming_44 rfl (lv_at hl 1 rfl) ?_
            refine lv_dcmp hx hb d_Mo_coming_45 ?_
            obtain ⟨h0, h1⟩ := h
            refine lv_if_ge (tgt := 56) hx hb d_Mo_coming_46 (by decide) (fun c86 => ?_) (fun c86 => ?_)
            · have h := h0 c86
              exact l_Mo_coming_56 C0 hk_4 l0b6 l1b6 l3b6 h hW hS (lv_sub hl [0, 1, 2] rfl)
            · have h := h1 c86
              exact l_Mo_coming_49 C0 hk_4 l0b6 l3b6 h hW hS (lv_sub hl [0, 2] rfl)
set_option maxHeartbeats 1000000 in
set_option maxRecDepth 20000 in
theorem l_Mo_coming_e {p : Program} {l : Launch} {e : Env} {s : State} {m : MethodId} {args : Array Value} {below : List Frame} {meth : Method} {c : Code} {D : va_G} {ca G : Nat → Nat} {A : Nat → Prop} (C0 : hC p s m args meth c D ca G prog_7_method_27_code 5 (some .double) "ChannelHallModel" A) {post : UInt64 → hM → Prop} {M : hM} {H : Heap} {locs : List Loc} {ls : Array Slot} (a0 : Nat) (h : wp_Mo_coming G ca post M a0) (hW : hw D wCl A M H) (hS : va_S A s.heap H locs) (hl : lv_has ls 5 [(0, .ref a0)]) : W p l e rm_Mo_coming s m args below meth c H locs 0 0 (MQ below (va_Qd post (fun M' t => hw D wCl A M' t.heap) A) args s 0 0 A) (F0 m 0 ls []) := by
  obtain ⟨hx, hb, hr, hml, hown, hts, hlocks, hK, hA, hZ0⟩ := id C0
  refine lv_ldc2d (v := 13830554455654793216) hx hb hown (hts _ bw_973) d_Mo_coming_0 ?_
  refine lv_dstore_n (lv' := [(1, .double 13830554455654793216), (0, .ref a0)]) hx hb d_Mo_coming_3 rfl hl (by decide) rfl (fun ls hl => ?_)
  refine lv_iconst (v := 0) hx hb d_Mo_coming_4 (by decide) ?_
  refine lv_istore_n (lv' := [(3, .int 0), (1, .double 13830554455654793216), (0, .ref a0)]) hx hb d_Mo_coming_5 rfl hl (by decide) rfl (fun ls hl => ?_)
  obtain ⟨n, h⟩ := h
  exact l_Mo_coming_6 C0 n a0 13830554455654793216 0 h hW hS (lv_sub hl [2, 1, 0] rfl)
set_option maxRecDepth 20000 in
theorem c_Mo_coming {l : Launch} {D : va_G} {ca G : Nat → Nat} (post : UInt64 → hM → Prop) {M : hM} {sz : Nat} {a0 : Nat} (h : wp_Mo_coming G ca post M a0) : Met l y_Mo_coming (wz y_Mo_coming prog_7_method_27_code 5 (some .double)) rm_Mo_coming (va_Pc [.ref a0] (hI D ca G sz M)) (va_Qd post (hB D M sz) (hp_A M sz)) 0 0 (hp_A M sz) := by
  refine Met.ofW (cc := prog_7_method_27_code) (maxL := 5) (ret := some .double) (by decide) rfl ?_
  intro p e s m args below meth c s₁ B hml hv
  obtain ⟨rfl, hsz, hW, hK, hZ0⟩ := hv
  have hts := fun w hw => atoms_spec (ws := wz y_Mo_coming prog_7_method_27_code 5 (some .double)) B.pre w (List.mem_cons_of_mem _ hw)
  have hown : s.vm.findClass "ChannelHallModel" = some m.cls := findClass_of_methodNamed B.named
  subst hsz
  have hl := lv_entry [.ref a0] (n := 5) (Nat.le_of_ble_eq_true rfl)
  rw [lg_entry_eq]
  exact l_Mo_coming_e ⟨B.exec, B.bytes, B.returns, hml, hown, hts, B.notSynchronized, hK, fun q h => Or.inr h, hZ0⟩ a0 h hW va_S.rf hl

theorem d_Mo_interrupt_0 : decode prog_7_method_26_code 0 = .ok (.aload_n 0, 1) := by decide +kernel
theorem d_Mo_interrupt_1 : decode prog_7_method_26_code 1 = .ok (.iconst 0, 1) := by decide +kernel
theorem d_Mo_interrupt_2 : decode prog_7_method_26_code 2 = .ok (.putfield 86, 3) := by decide +kernel
theorem d_Mo_interrupt_5 : decode prog_7_method_26_code 5 = .ok (.aload_n 0, 1) := by decide +kernel
theorem d_Mo_interrupt_6 : decode prog_7_method_26_code 6 = .ok (.iload_n 1, 1) := by decide +kernel
theorem d_Mo_interrupt_7 : decode prog_7_method_26_code 7 = .ok (.bipush 6, 2) := by decide +kernel
theorem d_Mo_interrupt_9 : decode prog_7_method_26_code 9 = .ok (.invokevirtual 90, 3) := by decide +kernel
theorem d_Mo_interrupt_12 : decode prog_7_method_26_code 12 = .ok (.ifCond .eq 9, 3) := by decide +kernel
theorem d_Mo_interrupt_15 : decode prog_7_method_26_code 15 = .ok (.aload_n 0, 1) := by decide +kernel
theorem d_Mo_interrupt_16 : decode prog_7_method_26_code 16 = .ok (.iconst 1, 1) := by decide +kernel
theorem d_Mo_interrupt_17 : decode prog_7_method_26_code 17 = .ok (.invokevirtual 94, 3) := by decide +kernel
theorem d_Mo_interrupt_20 : decode prog_7_method_26_code 20 = .ok (.ireturn, 1) := by decide +kernel
theorem d_Mo_interrupt_21 : decode prog_7_method_26_code 21 = .ok (.aload_n 0, 1) := by decide +kernel
theorem d_Mo_interrupt_22 : decode prog_7_method_26_code 22 = .ok (.getfield 7, 3) := by decide +kernel
theorem d_Mo_interrupt_25 : decode prog_7_method_26_code 25 = .ok (.iload_n 1, 1) := by decide +kernel
theorem d_Mo_interrupt_26 : decode prog_7_method_26_code 26 = .ok (.baload, 1) := by decide +kernel
theorem d_Mo_interrupt_27 : decode prog_7_method_26_code 27 = .ok (.ifCond .eq 12, 3) := by decide +kernel
theorem d_Mo_interrupt_30 : decode prog_7_method_26_code 30 = .ok (.aload_n 0, 1) := by decide +kernel
theorem d_Mo_interrupt_31 : decode prog_7_method_26_code 31 = .ok (.iload_n 1, 1) := by decide +kernel
theorem d_Mo_interrupt_32 : decode prog_7_method_26_code 32 = .ok (.iconst 3, 1) := by decide +kernel
theorem d_Mo_interrupt_33 : decode prog_7_method_26_code 33 = .ok (.invokevirtual 157, 3) := by decide +kernel
theorem d_Mo_interrupt_36 : decode prog_7_method_26_code 36 = .ok (.goto 10, 3) := by decide +kernel
theorem d_Mo_interrupt_39 : decode prog_7_method_26_code 39 = .ok (.aload_n 0, 1) := by decide +kernel
theorem d_Mo_interrupt_40 : decode prog_7_method_26_code 40 = .ok (.getfield 13, 3) := by decide +kernel
theorem d_Mo_interrupt_43 : decode prog_7_method_26_code 43 = .ok (.iload_n 1, 1) := by decide +kernel
theorem d_Mo_interrupt_44 : decode prog_7_method_26_code 44 = .ok (.iconst 1, 1) := by decide +kernel
theorem d_Mo_interrupt_45 : decode prog_7_method_26_code 45 = .ok (.bastore, 1) := by decide +kernel
theorem d_Mo_interrupt_46 : decode prog_7_method_26_code 46 = .ok (.aload_n 0, 1) := by decide +kernel
theorem d_Mo_interrupt_47 : decode prog_7_method_26_code 47 = .ok (.getfield 16, 3) := by decide +kernel
theorem d_Mo_interrupt_50 : decode prog_7_method_26_code 50 = .ok (.iload_n 1, 1) := by decide +kernel
theorem d_Mo_interrupt_51 : decode prog_7_method_26_code 51 = .ok (.iaload, 1) := by decide +kernel
theorem d_Mo_interrupt_52 : decode prog_7_method_26_code 52 = .ok (.ireturn, 1) := by decide +kernel
def y_Mo_interrupt : MethodName := ⟨"ChannelHallModel", "interrupt", "(I)I"⟩
abbrev rm_Mo_interrupt : Room := { frames := 4, cells := 0, slots := 0, locals := 97 }
def wp_Mo_interrupt_46 (G ca : Nat → Nat) (post : Int32 → hM → Prop) (M : hM) (l0b46 : Nat) (l1b46 : Int32) : Prop := gR M l0b46 5 3 fun v18 => nN v18 fun b19 => aI M b19 (ca 5) l1b46 fun v20 => post v20 M
def wp_Mo_interrupt (G ca : Nat → Nat) (post : Int32 → hM → Prop) (M : hM) (a0 : Nat) (x1 : Int32) : Prop := pF M a0 5 0 (.int 0) fun M21 => rC M21 a0 5 (wp_Mo_out G ca (fun r22 M23 => (r22 = 0 → gR M23 a0 5 1 fun v25 => nN v25 fun b26 => aI M23 b26 (ca 6) x1 fun v27 => (v27 = 0 → gR M23 a0 5 2 fun v29 => nN v29 fun b30 => bZ 1 (sI M23 b30 (ca 6) x1 1 fun M31 => wp_Mo_interrupt_46 G ca post M31 a0 x1)) ∧ (¬ v27 = 0 → rC M23 a0 5 (wp_Mo_leave G ca (fun M32 => wp_Mo_interrupt_46 G ca post M32 a0 x1) M23 a0 x1 3))) ∧ (¬ r22 = 0 → rC M23 a0 5 (wp_Mo_fail G ca (fun r33 M34 => post r33 M34) M23 a0 1))) M21 a0 x1 6)
set_option maxHeartbeats 1000000 in
set_option maxRecDepth 20000 in
theorem l_Mo_interrupt_46 {p : Program} {l : Launch} {e : Env} {s : State} {m : MethodId} {args : Array Value} {below : List Frame} {meth : Method} {c : Code} {D : va_G} {ca G : Nat → Nat} {A : Nat → Prop} (C0 : hC p s m args meth c D ca G prog_7_method_26_code 2 (some .int) "ChannelHallModel" A) {post : Int32 → hM → Prop} {M : hM} {H : Heap} {locs : List Loc} {ls : Array Slot} (l0b46 : Nat) (l1b46 : Int32) (h : wp_Mo_interrupt_46 G ca post M l0b46 l1b46) (hW : hw D wCl A M H) (hS : va_S A s.heap H locs) (hl : lv_has ls 2 [(0, .ref l0b46), (1, .int l1b46)]) : W p l e rm_Mo_interrupt s m args below meth c H locs 0 0 (MQ below (va_Qi post (fun M' t => hw D wCl A M' t.heap) A) args s 0 0 A) (F0 m 46 ls []) := by
  obtain ⟨hx, hb, hr, hml, hown, hts, hlocks, hK, hA, hZ0⟩ := id C0
  refine lv_aload_n hx hb d_Mo_interrupt_46 rfl (lv_at hl 0 rfl) ?_
  obtain ⟨fs, v18, h1, h2, h⟩ := h
  refine va_get (D := D) (ci := 5) (v := va_rf v18) (C := "ChannelHallModel") (T := TMo) (N := 26) hx hb hts uMo hown hK (hw_one hW h1) 0 rfl rfl 3 (by decide) (hts _ bw_977) (fun _ h9 => h9) h2 d_Mo_interrupt_47 ?_
  refine lv_iload_n hx hb d_Mo_interrupt_50 rfl (lv_at hl 1 rfl) ?_
  obtain ⟨b19, rfl, h⟩ := h
  obtain ⟨n, f, h1, h2, h⟩ := h
  refine va_iald hx hb hK (hw_one hW h1) 0 5 rfl rfl h2 d_Mo_interrupt_51 ?_
  generalize f (l1b46).toNatClampNeg = v20 at h ⊢
  exact W.iret hx hb hr (fun t ht hWm => ⟨⟨_, _, rfl, h, hw_t ht hW⟩, hS.F ht⟩) hS.2.2 d_Mo_interrupt_52
set_option maxHeartbeats 1000000 in
set_option maxRecDepth 20000 in
theorem l_Mo_interrupt_e {p : Program} {l : Launch} {e : Env} {s : State} {m : MethodId} {args : Array Value} {below : List Frame} {meth : Method} {c : Code} {D : va_G} {ca G : Nat → Nat} {A : Nat → Prop} (C0 : hC p s m args meth c D ca G prog_7_method_26_code 2 (some .int) "ChannelHallModel" A) {post : Int32 → hM → Prop} {M : hM} {H : Heap} {locs : List Loc} {ls : Array Slot} (a0 : Nat) (x1 : Int32) (h : wp_Mo_interrupt G ca post M a0 x1) (hW : hw D wCl A M H) (hS : va_S A s.heap H locs) (hl : lv_has ls 2 [(0, .ref a0), (1, .int x1)]) : W p l e rm_Mo_interrupt s m args below meth c H locs 0 0 (MQ below (va_Qi post (fun M' t => hw D wCl A M' t.heap) A) args s 0 0 A) (F0 m 0 ls []) := by
  obtain ⟨hx, hb, hr, hml, hown, hts, hlocks, hK, hA, hZ0⟩ := id C0
  refine lv_aload_n hx hb d_Mo_interrupt_0 rfl (lv_at hl 0 rfl) ?_
  refine lv_iconst (v := 0) hx hb d_Mo_interrupt_1 (by decide) ?_
  obtain ⟨fs, h1, h2, h⟩ := h
  obtain ⟨ws, q0, hq, hP, hD, hback, -⟩ := hw_open hW h1
  refine va_put (D := D) (ci := 5) (v := .int 0) (ty := .int) (C := "ChannelHallModel") (T := TMo) (N := 26) hx hb hts uMo tMo tMo_ok nMo hown hK hP hD hS q0 hq rfl 0 (by decide) (hts _ bw_974) (fun _ h9 => h9) rfl (by decide +kernel) rfl rfl h2 d_Mo_interrupt_2 (fun H locs hP hD hS => ?_)
  have hW := hback _ _ hP hD
  generalize (va_up M a0 (some (.inr (5, fs.set 0 (.int 0))))) = M21 at h hW
  refine lv_aload_n hx hb d_Mo_interrupt_5 rfl (lv_at hl 0 rfl) ?_
  refine lv_iload_n hx hb d_Mo_interrupt_6 rfl (lv_at hl 1 rfl) ?_
  refine lv_bipush (v := 6) hx hb d_Mo_interrupt_7 (by decide) ?_
  obtain ⟨⟨fs, h1⟩, h⟩ := h
  have h9 := h
  clear h
  have hF := hW.free hS hA
  refine va_calli (va_runV (As := [.int x1, .int 6]) (rest := []) ⟨hx, hb, hml, hown, hts⟩ (c_Mo_out _ h9) (cwV 2 hts (gi_V bw_1064 bw_1066 bs_19 bw_5 bw_1067) rfl rfl rfl (by decide +kernel) ⟨Nat.le_of_ble_eq_true rfl, Nat.le_of_ble_eq_true rfl⟩) ⟨hI.blind, hw_recv hK hW h1 rfl, hI.give hW hS hA hK hZ0⟩ rfl rfl hl.1 rfl (lv_room (Nat.le_of_ble_eq_true rfl)) d_Mo_interrupt_9 ⟨(show _ ≤ 0 by omega), (show _ ≤ 0 by omega)⟩) hS (fun q _ z => hF q z) hF (fun r22 M23 t H locs ht _ h hB1 _ _ hS => ?_)
  have hW := hw_back hF ht hB1
  clear h9
  obtain ⟨h0, h1⟩ := h
  refine lv_if_eq (tgt := 21) hx hb d_Mo_interrupt_12 (by decide) (fun c24 => ?_) (fun c24 => ?_)
  · have h := h0 c24
    refine lv_aload_n hx hb d_Mo_interrupt_21 rfl (lv_at hl 0 rfl) ?_
    obtain ⟨fs, v25, h1, h2, h⟩ := h
    refine va_get (D := D) (ci := 5) (v := va_rf v25) (C := "ChannelHallModel") (T := TMo) (N := 26) hx hb hts uMo hown hK (hw_one hW h1) 0 rfl rfl 1 (by decide) (hts _ bw_975) (fun _ h9 => h9) h2 d_Mo_interrupt_22 ?_
    refine lv_iload_n hx hb d_Mo_interrupt_25 rfl (lv_at hl 1 rfl) ?_
    obtain ⟨b26, rfl, h⟩ := h
    obtain ⟨n, f, h1, h2, h⟩ := h
    refine va_zald hx hb hK (hw_one hW h1) 0 6 rfl rfl h2 d_Mo_interrupt_26 ?_
    generalize f (x1).toNatClampNeg = v27 at h ⊢
    obtain ⟨h0, h1⟩ := h
    refine lv_if_eq (tgt := 39) hx hb d_Mo_interrupt_27 (by decide) (fun c28 => ?_) (fun c28 => ?_)
    · have h := h0 c28
      refine lv_aload_n hx hb d_Mo_interrupt_39 rfl (lv_at hl 0 rfl) ?_
      obtain ⟨fs, v29, h1, h2, h⟩ := h
      refine va_get (D := D) (ci := 5) (v := va_rf v29) (C := "ChannelHallModel") (T := TMo) (N := 26) hx hb hts uMo hown hK (hw_one hW h1) 0 rfl rfl 2 (by decide) (hts _ bw_976) (fun _ h9 => h9) h2 d_Mo_interrupt_40 ?_
      refine lv_iload_n hx hb d_Mo_interrupt_43 rfl (lv_at hl 1 rfl) ?_
      refine lv_iconst (v := 1) hx hb d_Mo_interrupt_44 (by decide) ?_
      obtain ⟨b30, rfl, h⟩ := h
      obtain ⟨hz, n, f, h1, h2, h⟩ := h
      obtain ⟨ws, q0, hq, hP, hD, hback, -⟩ := hw_open hW h1
      refine va_zast (x := 1) hx hb hK hP hD hS q0 6 hq rfl h2 d_Mo_interrupt_45 (fun H locs hP hD hS => ?_)
      rw [nb_v hz] at hP hD
      have hW := hback _ _ hP hD
      generalize hM2 : va_up M23 b30 _ = M31 at h hW
      exact l_Mo_interrupt_46 C0 a0 x1 h hW hS (lv_sub hl [0, 1] rfl)
    · have h := h1 c28
      refine lv_aload_n hx hb d_Mo_interrupt_30 rfl (lv_at hl 0 rfl) ?_
      refine lv_iload_n hx hb d_Mo_interrupt_31 rfl (lv_at hl 1 rfl) ?_
      refine lv_iconst (v := 3) hx hb d_Mo_interrupt_32 (by decide) ?_
      obtain ⟨⟨fs, h1⟩, h⟩ := h
      have h9 := h
      clear h
      have hF := hW.free hS hA
      refine va_callv (va_runV (As := [.int x1, .int 3]) (rest := []) ⟨hx, hb, hml, hown, hts⟩ (c_Mo_leave _ h9) (cwV 2 hts (gi_V bw_1154 bw_1156 bs_35 bw_5 bw_1157) rfl rfl rfl (by decide +kernel) ⟨Nat.le_of_ble_eq_true rfl, Nat.le_of_ble_eq_true rfl⟩) ⟨hI.blind, hw_recv hK hW h1 rfl, hI.give hW hS hA hK hZ0⟩ rfl rfl hl.1 rfl (lv_room (Nat.le_of_ble_eq_true rfl)) d_Mo_interrupt_33 ⟨(show _ ≤ 0 by omega), (show _ ≤ 0 by omega)⟩) hS (fun q _ z => hF q z) hF (fun M32 t H locs ht _ h hB1 _ _ hS => ?_)
      have hW := hw_back hF ht hB1
      clear h9
      refine lv_goto (tgt := 46) hx hb d_Mo_interrupt_36 (by decide) ?_
      exact l_Mo_interrupt_46 C0 a0 x1 h hW hS (lv_sub hl [0, 1] rfl)
  · have h := h1 c24
    refine lv_aload_n hx hb d_Mo_interrupt_15 rfl (lv_at hl 0 rfl) ?_
    refine lv_iconst (v := 1) hx hb d_Mo_interrupt_16 (by decide) ?_
    obtain ⟨⟨fs, h1⟩, h⟩ := h
    have h9 := h
    clear h
    have hF := hW.free hS hA
    refine va_calli (va_runV (As := [.int 1]) (rest := []) ⟨hx, hb, hml, hown, hts⟩ (c_Mo_fail _ h9) (cwV 1 hts (gi_V bw_1068 bw_1070 bs_20 bw_5 bw_1071) rfl rfl rfl (by decide +kernel) ⟨Nat.le_of_ble_eq_true rfl, Nat.le_of_ble_eq_true rfl⟩) ⟨hI.blind, hw_recv hK hW h1 rfl, hI.give hW hS hA hK hZ0⟩ rfl rfl hl.1 rfl (lv_room (Nat.le_of_ble_eq_true rfl)) d_Mo_interrupt_17 ⟨(show _ ≤ 0 by omega), (show _ ≤ 0 by omega)⟩) hS (fun q _ z => hF q z) hF (fun r33 M34 t H locs ht _ h hB1 _ _ hS => ?_)
    have hW := hw_back hF ht hB1
    clear h9
    exact W.iret hx hb hr (fun t ht hWm => ⟨⟨_, _, rfl, h, hw_t ht hW⟩, hS.F ht⟩) hS.2.2 d_Mo_interrupt_20
set_option maxRecDepth 20000 in
theorem c_Mo_interrupt {l : Launch} {D : va_G} {ca G : Nat → Nat} (post : Int32 → hM → Prop) {M : hM} {sz : Nat} {a0 : Nat} {x1 : Int32} (h : wp_Mo_interrupt G ca post M a0 x1) : Met l y_Mo_interrupt (wz y_Mo_interrupt prog_7_method_26_code 2 (some .int)) rm_Mo_interrupt (va_Pc [.ref a0, .int x1] (hI D ca G sz M)) (va_Qi post (hB D M sz) (hp_A M sz)) 0 0 (hp_A M sz) := by
  refine Met.ofW (cc := prog_7_method_26_code) (maxL := 2) (ret := some .int) (by decide) rfl ?_
  intro p e s m args below meth c s₁ B hml hv
  obtain ⟨rfl, hsz, hW, hK, hZ0⟩ := hv
  have hts := fun w hw => atoms_spec (ws := wz y_Mo_interrupt prog_7_method_26_code 2 (some .int)) B.pre w (List.mem_cons_of_mem _ hw)
  have hown : s.vm.findClass "ChannelHallModel" = some m.cls := findClass_of_methodNamed B.named
  subst hsz
  have hl := lv_entry [.ref a0, .int x1] (n := 2) (Nat.le_of_ble_eq_true rfl)
  rw [lg_entry_eq]
  exact l_Mo_interrupt_e ⟨B.exec, B.bytes, B.returns, hml, hown, hts, B.notSynchronized, hK, fun q h => Or.inr h, hZ0⟩ a0 x1 h hW va_S.rf hl

theorem d_Mo_reset_0 : decode prog_7_method_25_code 0 = .ok (.aload_n 0, 1) := by decide +kernel
theorem d_Mo_reset_1 : decode prog_7_method_25_code 1 = .ok (.iconst 0, 1) := by decide +kernel
theorem d_Mo_reset_2 : decode prog_7_method_25_code 2 = .ok (.putfield 86, 3) := by decide +kernel
theorem d_Mo_reset_5 : decode prog_7_method_25_code 5 = .ok (.aload_n 0, 1) := by decide +kernel
theorem d_Mo_reset_6 : decode prog_7_method_25_code 6 = .ok (.iload_n 1, 1) := by decide +kernel
theorem d_Mo_reset_7 : decode prog_7_method_25_code 7 = .ok (.bipush 8, 2) := by decide +kernel
theorem d_Mo_reset_9 : decode prog_7_method_25_code 9 = .ok (.invokevirtual 90, 3) := by decide +kernel
theorem d_Mo_reset_12 : decode prog_7_method_25_code 12 = .ok (.ifCond .eq 9, 3) := by decide +kernel
theorem d_Mo_reset_15 : decode prog_7_method_25_code 15 = .ok (.aload_n 0, 1) := by decide +kernel
theorem d_Mo_reset_16 : decode prog_7_method_25_code 16 = .ok (.iconst 1, 1) := by decide +kernel
theorem d_Mo_reset_17 : decode prog_7_method_25_code 17 = .ok (.invokevirtual 94, 3) := by decide +kernel
theorem d_Mo_reset_20 : decode prog_7_method_25_code 20 = .ok (.ireturn, 1) := by decide +kernel
theorem d_Mo_reset_21 : decode prog_7_method_25_code 21 = .ok (.aload_n 0, 1) := by decide +kernel
theorem d_Mo_reset_22 : decode prog_7_method_25_code 22 = .ok (.getfield 45, 3) := by decide +kernel
theorem d_Mo_reset_25 : decode prog_7_method_25_code 25 = .ok (.iload_n 1, 1) := by decide +kernel
theorem d_Mo_reset_26 : decode prog_7_method_25_code 26 = .ok (.iaload, 1) := by decide +kernel
theorem d_Mo_reset_27 : decode prog_7_method_25_code 27 = .ok (.ifCond .ge 9, 3) := by decide +kernel
theorem d_Mo_reset_30 : decode prog_7_method_25_code 30 = .ok (.aload_n 0, 1) := by decide +kernel
theorem d_Mo_reset_31 : decode prog_7_method_25_code 31 = .ok (.iconst 2, 1) := by decide +kernel
theorem d_Mo_reset_32 : decode prog_7_method_25_code 32 = .ok (.invokevirtual 94, 3) := by decide +kernel
theorem d_Mo_reset_35 : decode prog_7_method_25_code 35 = .ok (.ireturn, 1) := by decide +kernel
theorem d_Mo_reset_36 : decode prog_7_method_25_code 36 = .ok (.aload_n 0, 1) := by decide +kernel
theorem d_Mo_reset_37 : decode prog_7_method_25_code 37 = .ok (.getfield 45, 3) := by decide +kernel
theorem d_Mo_reset_40 : decode prog_7_method_25_code 40 = .ok (.iload_n 1, 1) := by decide +kernel
theorem d_Mo_reset_41 : decode prog_7_method_25_code 41 = .ok (.iaload, 1) := by decide +kernel
theorem d_Mo_reset_42 : decode prog_7_method_25_code 42 = .ok (.bipush 6, 2) := by decide +kernel
theorem d_Mo_reset_44 : decode prog_7_method_25_code 44 = .ok (.if_icmp .eq 9, 3) := by decide +kernel
theorem d_Mo_reset_47 : decode prog_7_method_25_code 47 = .ok (.aload_n 0, 1) := by decide +kernel
theorem d_Mo_reset_48 : decode prog_7_method_25_code 48 = .ok (.iconst 3, 1) := by decide +kernel
theorem d_Mo_reset_49 : decode prog_7_method_25_code 49 = .ok (.invokevirtual 94, 3) := by decide +kernel
theorem d_Mo_reset_52 : decode prog_7_method_25_code 52 = .ok (.ireturn, 1) := by decide +kernel
theorem d_Mo_reset_53 : decode prog_7_method_25_code 53 = .ok (.aload_n 0, 1) := by decide +kernel
theorem d_Mo_reset_54 : decode prog_7_method_25_code 54 = .ok (.getfield 60, 3) := by decide +kernel
theorem d_Mo_reset_57 : decode prog_7_method_25_code 57 = .ok (.iload_n 1, 1) := by decide +kernel
theorem d_Mo_reset_58 : decode prog_7_method_25_code 58 = .ok (.iaload, 1) := by decide +kernel
theorem d_Mo_reset_59 : decode prog_7_method_25_code 59 = .ok (.istore_n 2, 1) := by decide +kernel
theorem d_Mo_reset_60 : decode prog_7_method_25_code 60 = .ok (.aload_n 0, 1) := by decide +kernel
theorem d_Mo_reset_61 : decode prog_7_method_25_code 61 = .ok (.iload_n 1, 1) := by decide +kernel
theorem d_Mo_reset_62 : decode prog_7_method_25_code 62 = .ok (.iconst 4, 1) := by decide +kernel
theorem d_Mo_reset_63 : decode prog_7_method_25_code 63 = .ok (.invokevirtual 110, 3) := by decide +kernel
theorem d_Mo_reset_66 : decode prog_7_method_25_code 66 = .ok (.aload_n 0, 1) := by decide +kernel
theorem d_Mo_reset_67 : decode prog_7_method_25_code 67 = .ok (.getfield 51, 3) := by decide +kernel
theorem d_Mo_reset_70 : decode prog_7_method_25_code 70 = .ok (.iload_n 1, 1) := by decide +kernel
theorem d_Mo_reset_71 : decode prog_7_method_25_code 71 = .ok (.iconst 0, 1) := by decide +kernel
theorem d_Mo_reset_72 : decode prog_7_method_25_code 72 = .ok (.bastore, 1) := by decide +kernel
theorem d_Mo_reset_73 : decode prog_7_method_25_code 73 = .ok (.iload_n 2, 1) := by decide +kernel
theorem d_Mo_reset_74 : decode prog_7_method_25_code 74 = .ok (.ireturn, 1) := by decide +kernel
def y_Mo_reset : MethodName := ⟨"ChannelHallModel", "reset", "(I)I"⟩
abbrev rm_Mo_reset : Room := { frames := 2, cells := 0, slots := 0, locals := 47 }
def wp_Mo_reset (G ca : Nat → Nat) (post : Int32 → hM → Prop) (M : hM) (a0 : Nat) (x1 : Int32) : Prop := pF M a0 5 0 (.int 0) fun M26 => rC M26 a0 5 (wp_Mo_out G ca (fun r27 M28 => (r27 = 0 → gR M28 a0 5 13 fun v30 => nN v30 fun b31 => aI M28 b31 (ca 5) x1 fun v32 => (0 ≤ v32 → gR M28 a0 5 13 fun v34 => nN v34 fun b35 => aI M28 b35 (ca 5) x1 fun v36 => (v36 = 6 → gR M28 a0 5 18 fun v38 => nN v38 fun b39 => aI M28 b39 (ca 5) x1 fun v40 => rC M28 a0 5 (wp_Mo_freeAll G ca (fun M41 => gR M41 a0 5 15 fun v42 => nN v42 fun b43 => bZ 0 (sI M41 b43 (ca 6) x1 0 fun M44 => post v40 M44)) M28 a0 x1 4)) ∧ (¬ v36 = 6 → rC M28 a0 5 (wp_Mo_fail G ca (fun r45 M46 => post r45 M46) M28 a0 3))) ∧ (¬ 0 ≤ v32 → rC M28 a0 5 (wp_Mo_fail G ca (fun r47 M48 => post r47 M48) M28 a0 2))) ∧ (¬ r27 = 0 → rC M28 a0 5 (wp_Mo_fail G ca (fun r49 M50 => post r49 M50) M28 a0 1))) M26 a0 x1 8)
set_option maxHeartbeats 1000000 in
set_option maxRecDepth 20000 in
theorem l_Mo_reset_e {p : Program} {l : Launch} {e : Env} {s : State} {m : MethodId} {args : Array Value} {below : List Frame} {meth : Method} {c : Code} {D : va_G} {ca G : Nat → Nat} {A : Nat → Prop} (C0 : hC p s m args meth c D ca G prog_7_method_25_code 3 (some .int) "ChannelHallModel" A) {post : Int32 → hM → Prop} {M : hM} {H : Heap} {locs : List Loc} {ls : Array Slot} (a0 : Nat) (x1 : Int32) (h : wp_Mo_reset G ca post M a0 x1) (hW : hw D wCl A M H) (hS : va_S A s.heap H locs) (hl : lv_has ls 3 [(0, .ref a0), (1, .int x1)]) : W p l e rm_Mo_reset s m args below meth c H locs 0 0 (MQ below (va_Qi post (fun M' t => hw D wCl A M' t.heap) A) args s 0 0 A) (F0 m 0 ls []) := by
  obtain ⟨hx, hb, hr, hml, hown, hts, hlocks, hK, hA, hZ0⟩ := id C0
  refine lv_aload_n hx hb d_Mo_reset_0 rfl (lv_at hl 0 rfl) ?_
  refine lv_iconst (v := 0) hx hb d_Mo_reset_1 (by decide) ?_
  obtain ⟨fs, h1, h2, h⟩ := h
  obtain ⟨ws, q0, hq, hP, hD, hback, -⟩ := hw_open hW h1
  refine va_put (D := D) (ci := 5) (v := .int 0) (ty := .int) (C := "ChannelHallModel") (T := TMo) (N := 26) hx hb hts uMo tMo tMo_ok nMo hown hK hP hD hS q0 hq rfl 0 (by decide) (hts _ bw_974) (fun _ h9 => h9) rfl (by decide +kernel) rfl rfl h2 d_Mo_reset_2 (fun H locs hP hD hS => ?_)
  have hW := hback _ _ hP hD
  generalize (va_up M a0 (some (.inr (5, fs.set 0 (.int 0))))) = M26 at h hW
  refine lv_aload_n hx hb d_Mo_reset_5 rfl (lv_at hl 0 rfl) ?_
  refine lv_iload_n hx hb d_Mo_reset_6 rfl (lv_at hl 1 rfl) ?_
  refine lv_bipush (v := 8) hx hb d_Mo_reset_7 (by decide) ?_
  obtain ⟨⟨fs, h1⟩, h⟩ := h
  have h9 := h
  clear h
  have hF := hW.free hS hA
  refine va_calli (va_runV (As := [.int x1, .int 8]) (rest := []) ⟨hx, hb, hml, hown, hts⟩ (c_Mo_out _ h9) (cwV 2 hts (gi_V bw_1064 bw_1066 bs_19 bw_5 bw_1067) rfl rfl rfl (by decide +kernel) ⟨Nat.le_of_ble_eq_true rfl, Nat.le_of_ble_eq_true rfl⟩) ⟨hI.blind, hw_recv hK hW h1 rfl, hI.give hW hS hA hK hZ0⟩ rfl rfl hl.1 rfl (lv_room (Nat.le_of_ble_eq_true rfl)) d_Mo_reset_9 ⟨(show _ ≤ 0 by omega), (show _ ≤ 0 by omega)⟩) hS (fun q _ z => hF q z) hF (fun r27 M28 t H locs ht _ h hB1 _ _ hS => ?_)
  have hW := hw_back hF ht hB1
  clear h9
  obtain ⟨h0, h1⟩ := h
  refine lv_if_eq (tgt := 21) hx hb d_Mo_reset_12 (by decide) (fun c29 => ?_) (fun c29 => ?_)
  · have h := h0 c29
    refine lv_aload_n hx hb d_Mo_reset_21 rfl (lv_at hl 0 rfl) ?_
    obtain ⟨fs, v30, h1, h2, h⟩ := h
    refine va_get (D := D) (ci := 5) (v := va_rf v30) (C := "ChannelHallModel") (T := TMo) (N := 26) hx hb hts uMo hown hK (hw_one hW h1) 0 rfl rfl 13 (by decide) (hts _ bw_987) (fun _ h9 => h9) h2 d_Mo_reset_22 ?_
    refine lv_iload_n hx hb d_Mo_reset_25 rfl (lv_at hl 1 rfl) ?_
    obtain ⟨b31, rfl, h⟩ := h
    obtain ⟨n, f, h1, h2, h⟩ := h
    refine va_iald hx hb hK (hw_one hW h1) 0 5 rfl rfl h2 d_Mo_reset_26 ?_
    generalize f (x1).toNatClampNeg = v32 at h ⊢
    obtain ⟨h0, h1⟩ := h
    refine lv_if_ge (tgt := 36) hx hb d_Mo_reset_27 (by decide) (fun c33 => ?_) (fun c33 => ?_)
    · have h := h0 c33
      refine lv_aload_n hx hb d_Mo_reset_36 rfl (lv_at hl 0 rfl) ?_
      obtain ⟨fs, v34, h1, h2, h⟩ := h
      refine va_get (D := D) (ci := 5) (v := va_rf v34) (C := "ChannelHallModel") (T := TMo) (N := 26) hx hb hts uMo hown hK (hw_one hW h1) 0 rfl rfl 13 (by decide) (hts _ bw_987) (fun _ h9 => h9) h2 d_Mo_reset_37 ?_
      refine lv_iload_n hx hb d_Mo_reset_40 rfl (lv_at hl 1 rfl) ?_
      obtain ⟨b35, rfl, h⟩ := h
      obtain ⟨n, f, h1, h2, h⟩ := h
      refine va_iald hx hb hK (hw_one hW h1) 0 5 rfl rfl h2 d_Mo_reset_41 ?_
      generalize f (x1).toNatClampNeg = v36 at h ⊢
      refine lv_bipush (v := 6) hx hb d_Mo_reset_42 (by decide) ?_
      obtain ⟨h0, h1⟩ := h
      refine lv_icmp_eq (tgt := 53) hx hb d_Mo_reset_44 (by decide) (fun c37 => ?_) (fun c37 => ?_)
      · have h := h0 c37
        refine lv_aload_n hx hb d_Mo_reset_53 rfl (lv_at hl 0 rfl) ?_
        obtain ⟨fs, v38, h1, h2, h⟩ := h
        refine va_get (D := D) (ci := 5) (v := va_rf v38) (C := "ChannelHallModel") (T := TMo) (N := 26) hx hb hts uMo hown hK (hw_one hW h1) 0 rfl rfl 18 (by decide) (hts _ bw_992) (fun _ h9 => h9) h2 d_Mo_reset_54 ?_
        refine lv_iload_n hx hb d_Mo_reset_57 rfl (lv_at hl 1 rfl) ?_
        obtain ⟨b39, rfl, h⟩ := h
        obtain ⟨n, f, h1, h2, h⟩ := h
        refine va_iald hx hb hK (hw_one hW h1) 0 5 rfl rfl h2 d_Mo_reset_58 ?_
        generalize f (x1).toNatClampNeg = v40 at h ⊢
        refine lv_istore_n (lv' := [(2, .int v40), (0, .ref a0), (1, .int x1)]) hx hb d_Mo_reset_59 rfl hl (by decide) rfl (fun ls hl => ?_)
        refine lv_aload_n hx hb d_Mo_reset_60 rfl (lv_at hl 1 rfl) ?_
        refine lv_iload_n hx hb d_Mo_reset_61 rfl (lv_at hl 2 rfl) ?_
        refine lv_iconst (v := 4) hx hb d_Mo_reset_62 (by decide) ?_
        obtain ⟨⟨fs, h1⟩, h⟩ := h
        have h9 := h
        clear h
        have hF := hW.free hS hA
        refine va_callv (va_runV (As := [.int x1, .int 4]) (rest := []) ⟨hx, hb, hml, hown, hts⟩ (c_Mo_freeAll _ h9) (cwV 2 hts (gi_V bw_1142 bw_1144 bs_34 bw_5 bw_1145) rfl rfl rfl (by decide +kernel) ⟨Nat.le_of_ble_eq_true rfl, Nat.le_of_ble_eq_true rfl⟩) ⟨hI.blind, hw_recv hK hW h1 rfl, hI.give hW hS hA hK hZ0⟩ rfl rfl hl.1 rfl (lv_room (Nat.le_of_ble_eq_true rfl)) d_Mo_reset_63 ⟨(show _ ≤ 0 by omega), (show _ ≤ 0 by omega)⟩) hS (fun q _ z => hF q z) hF (fun M41 t H locs ht _ h hB1 _ _ hS => ?_)
        have hW := hw_back hF ht hB1
        clear h9
        refine lv_aload_n hx hb d_Mo_reset_66 rfl (lv_at hl 1 rfl) ?_
        obtain ⟨fs, v42, h1, h2, h⟩ := h
        refine va_get (D := D) (ci := 5) (v := va_rf v42) (C := "ChannelHallModel") (T := TMo) (N := 26) hx hb hts uMo hown hK (hw_one hW h1) 0 rfl rfl 15 (by decide) (hts _ bw_989) (fun _ h9 => h9) h2 d_Mo_reset_67 ?_
        refine lv_iload_n hx hb d_Mo_reset_70 rfl (lv_at hl 2 rfl) ?_
        refine lv_iconst (v := 0) hx hb d_Mo_reset_71 (by decide) ?_
        obtain ⟨b43, rfl, h⟩ := h
        obtain ⟨hz, n, f, h1, h2, h⟩ := h
        obtain ⟨ws, q0, hq, hP, hD, hback, -⟩ := hw_open hW h1
        refine va_zast (x := 0) hx hb hK hP hD hS q0 6 hq rfl h2 d_Mo_reset_72 (fun H locs hP hD hS => ?_)
        rw [nb_v hz] at hP hD
        have hW := hback _ _ hP hD
        generalize hM2 : va_up M41 b43 _ = M44 at h hW
        refine lv_iload_n hx hb d_Mo_reset_73 rfl (lv_at hl 0 rfl) ?_
        exact W.iret hx hb hr (fun t ht hWm => ⟨⟨_, _, rfl, h, hw_t ht hW⟩, hS.F ht⟩) hS.2.2 d_Mo_reset_74
      · have h := h1 c37
        refine lv_aload_n hx hb d_Mo_reset_47 rfl (lv_at hl 0 rfl) ?_
        refine lv_iconst (v := 3) hx hb d_Mo_reset_48 (by decide) ?_
        obtain ⟨⟨fs, h1⟩, h⟩ := h
        have h9 := h
        clear h
        have hF := hW.free hS hA
        refine va_calli (va_runV (As := [.int 3]) (rest := []) ⟨hx, hb, hml, hown, hts⟩ (c_Mo_fail _ h9) (cwV 1 hts (gi_V bw_1068 bw_1070 bs_20 bw_5 bw_1071) rfl rfl rfl (by decide +kernel) ⟨Nat.le_of_ble_eq_true rfl, Nat.le_of_ble_eq_true rfl⟩) ⟨hI.blind, hw_recv hK hW h1 rfl, hI.give hW hS hA hK hZ0⟩ rfl rfl hl.1 rfl (lv_room (Nat.le_of_ble_eq_true rfl)) d_Mo_reset_49 ⟨(show _ ≤ 0 by omega), (show _ ≤ 0 by omega)⟩) hS (fun q _ z => hF q z) hF (fun r45 M46 t H locs ht _ h hB1 _ _ hS => ?_)
        have hW := hw_back hF ht hB1
        clear h9
        exact W.iret hx hb hr (fun t ht hWm => ⟨⟨_, _, rfl, h, hw_t ht hW⟩, hS.F ht⟩) hS.2.2 d_Mo_reset_52
    · have h := h1 c33
      refine lv_aload_n hx hb d_Mo_reset_30 rfl (lv_at hl 0 rfl) ?_
      refine lv_iconst (v := 2) hx hb d_Mo_reset_31 (by decide) ?_
      obtain ⟨⟨fs, h1⟩, h⟩ := h
      have h9 := h
      clear h
      have hF := hW.free hS hA
      refine va_calli (va_runV (As := [.int 2]) (rest := []) ⟨hx, hb, hml, hown, hts⟩ (c_Mo_fail _ h9) (cwV 1 hts (gi_V bw_1068 bw_1070 bs_20 bw_5 bw_1071) rfl rfl rfl (by decide +kernel) ⟨Nat.le_of_ble_eq_true rfl, Nat.le_of_ble_eq_true rfl⟩) ⟨hI.blind, hw_recv hK hW h1 rfl, hI.give hW hS hA hK hZ0⟩ rfl rfl hl.1 rfl (lv_room (Nat.le_of_ble_eq_true rfl)) d_Mo_reset_32 ⟨(show _ ≤ 0 by omega), (show _ ≤ 0 by omega)⟩) hS (fun q _ z => hF q z) hF (fun r47 M48 t H locs ht _ h hB1 _ _ hS => ?_)
      have hW := hw_back hF ht hB1
      clear h9
      exact W.iret hx hb hr (fun t ht hWm => ⟨⟨_, _, rfl, h, hw_t ht hW⟩, hS.F ht⟩) hS.2.2 d_Mo_reset_35
  · have h := h1 c29
    refine lv_aload_n hx hb d_Mo_reset_15 rfl (lv_at hl 0 rfl) ?_
    refine lv_iconst (v := 1) hx hb d_Mo_reset_16 (by decide) ?_
    obtain ⟨⟨fs, h1⟩, h⟩ := h
    have h9 := h
    clear h
    have hF := hW.free hS hA
    refine va_calli (va_runV (As := [.int 1]) (rest := []) ⟨hx, hb, hml, hown, hts⟩ (c_Mo_fail _ h9) (cwV 1 hts (gi_V bw_1068 bw_1070 bs_20 bw_5 bw_1071) rfl rfl rfl (by decide +kernel) ⟨Nat.le_of_ble_eq_true rfl, Nat.le_of_ble_eq_true rfl⟩) ⟨hI.blind, hw_recv hK hW h1 rfl, hI.give hW hS hA hK hZ0⟩ rfl rfl hl.1 rfl (lv_room (Nat.le_of_ble_eq_true rfl)) d_Mo_reset_17 ⟨(show _ ≤ 0 by omega), (show _ ≤ 0 by omega)⟩) hS (fun q _ z => hF q z) hF (fun r49 M50 t H locs ht _ h hB1 _ _ hS => ?_)
    have hW := hw_back hF ht hB1
    clear h9
    exact W.iret hx hb hr (fun t ht hWm => ⟨⟨_, _, rfl, h, hw_t ht hW⟩, hS.F ht⟩) hS.2.2 d_Mo_reset_20
set_option maxRecDepth 20000 in
theorem c_Mo_reset {l : Launch} {D : va_G} {ca G : Nat → Nat} (post : Int32 → hM → Prop) {M : hM} {sz : Nat} {a0 : Nat} {x1 : Int32} (h : wp_Mo_reset G ca post M a0 x1) : Met l y_Mo_reset (wz y_Mo_reset prog_7_method_25_code 3 (some .int)) rm_Mo_reset (va_Pc [.ref a0, .int x1] (hI D ca G sz M)) (va_Qi post (hB D M sz) (hp_A M sz)) 0 0 (hp_A M sz) := by
  refine Met.ofW (cc := prog_7_method_25_code) (maxL := 3) (ret := some .int) (by decide) rfl ?_
  intro p e s m args below meth c s₁ B hml hv
  obtain ⟨rfl, hsz, hW, hK, hZ0⟩ := hv
  have hts := fun w hw => atoms_spec (ws := wz y_Mo_reset prog_7_method_25_code 3 (some .int)) B.pre w (List.mem_cons_of_mem _ hw)
  have hown : s.vm.findClass "ChannelHallModel" = some m.cls := findClass_of_methodNamed B.named
  subst hsz
  have hl := lv_entry [.ref a0, .int x1] (n := 3) (Nat.le_of_ble_eq_true rfl)
  rw [lg_entry_eq]
  exact l_Mo_reset_e ⟨B.exec, B.bytes, B.returns, hml, hown, hts, B.notSynchronized, hK, fun q h => Or.inr h, hZ0⟩ a0 x1 h hW va_S.rf hl

theorem d_Mo_make_0 : decode prog_7_method_5_code 0 = .ok (.aload_n 0, 1) := by decide +kernel
theorem d_Mo_make_1 : decode prog_7_method_5_code 1 = .ok (.iconst 0, 1) := by decide +kernel
theorem d_Mo_make_2 : decode prog_7_method_5_code 2 = .ok (.putfield 86, 3) := by decide +kernel
theorem d_Mo_make_5 : decode prog_7_method_5_code 5 = .ok (.aload_n 0, 1) := by decide +kernel
theorem d_Mo_make_6 : decode prog_7_method_5_code 6 = .ok (.iload_n 1, 1) := by decide +kernel
theorem d_Mo_make_7 : decode prog_7_method_5_code 7 = .ok (.bipush 8, 2) := by decide +kernel
theorem d_Mo_make_9 : decode prog_7_method_5_code 9 = .ok (.invokevirtual 90, 3) := by decide +kernel
theorem d_Mo_make_12 : decode prog_7_method_5_code 12 = .ok (.ifCond .ne 13, 3) := by decide +kernel
theorem d_Mo_make_15 : decode prog_7_method_5_code 15 = .ok (.aload_n 0, 1) := by decide +kernel
theorem d_Mo_make_16 : decode prog_7_method_5_code 16 = .ok (.iload_n 2, 1) := by decide +kernel
theorem d_Mo_make_17 : decode prog_7_method_5_code 17 = .ok (.bipush 7, 2) := by decide +kernel
theorem d_Mo_make_19 : decode prog_7_method_5_code 19 = .ok (.invokevirtual 90, 3) := by decide +kernel
theorem d_Mo_make_22 : decode prog_7_method_5_code 22 = .ok (.ifCond .eq 9, 3) := by decide +kernel
theorem d_Mo_make_25 : decode prog_7_method_5_code 25 = .ok (.aload_n 0, 1) := by decide +kernel
theorem d_Mo_make_26 : decode prog_7_method_5_code 26 = .ok (.iconst 1, 1) := by decide +kernel
theorem d_Mo_make_27 : decode prog_7_method_5_code 27 = .ok (.invokevirtual 94, 3) := by decide +kernel
theorem d_Mo_make_30 : decode prog_7_method_5_code 30 = .ok (.ireturn, 1) := by decide +kernel
theorem d_Mo_make_31 : decode prog_7_method_5_code 31 = .ok (.iload_n 2, 1) := by decide +kernel
theorem d_Mo_make_32 : decode prog_7_method_5_code 32 = .ok (.ifCond .ne 17, 3) := by decide +kernel
theorem d_Mo_make_35 : decode prog_7_method_5_code 35 = .ok (.aload_n 0, 1) := by decide +kernel
theorem d_Mo_make_36 : decode prog_7_method_5_code 36 = .ok (.iload_n 3, 1) := by decide +kernel
theorem d_Mo_make_37 : decode prog_7_method_5_code 37 = .ok (.iconst 1, 1) := by decide +kernel
theorem d_Mo_make_38 : decode prog_7_method_5_code 38 = .ok (.isub, 1) := by decide +kernel
theorem d_Mo_make_39 : decode prog_7_method_5_code 39 = .ok (.iconst 4, 1) := by decide +kernel
theorem d_Mo_make_40 : decode prog_7_method_5_code 40 = .ok (.invokevirtual 90, 3) := by decide +kernel
theorem d_Mo_make_43 : decode prog_7_method_5_code 43 = .ok (.ifCond .eq 36, 3) := by decide +kernel
theorem d_Mo_make_46 : decode prog_7_method_5_code 46 = .ok (.goto 27, 3) := by decide +kernel
theorem d_Mo_make_49 : decode prog_7_method_5_code 49 = .ok (.iload_n 2, 1) := by decide +kernel
theorem d_Mo_make_50 : decode prog_7_method_5_code 50 = .ok (.bipush 6, 2) := by decide +kernel
theorem d_Mo_make_52 : decode prog_7_method_5_code 52 = .ok (.if_icmp .ne 17, 3) := by decide +kernel
theorem d_Mo_make_55 : decode prog_7_method_5_code 55 = .ok (.aload_n 0, 1) := by decide +kernel
theorem d_Mo_make_56 : decode prog_7_method_5_code 56 = .ok (.iload_n 3, 1) := by decide +kernel
theorem d_Mo_make_57 : decode prog_7_method_5_code 57 = .ok (.iconst 2, 1) := by decide +kernel
theorem d_Mo_make_58 : decode prog_7_method_5_code 58 = .ok (.isub, 1) := by decide +kernel
theorem d_Mo_make_59 : decode prog_7_method_5_code 59 = .ok (.iconst 4, 1) := by decide +kernel
theorem d_Mo_make_60 : decode prog_7_method_5_code 60 = .ok (.invokevirtual 90, 3) := by decide +kernel
theorem d_Mo_make_63 : decode prog_7_method_5_code 63 = .ok (.ifCond .eq 16, 3) := by decide +kernel
theorem d_Mo_make_66 : decode prog_7_method_5_code 66 = .ok (.goto 7, 3) := by decide +kernel
theorem d_Mo_make_69 : decode prog_7_method_5_code 69 = .ok (.iload_n 3, 1) := by decide +kernel
theorem d_Mo_make_70 : decode prog_7_method_5_code 70 = .ok (.ifCond .eq 9, 3) := by decide +kernel
theorem d_Mo_make_73 : decode prog_7_method_5_code 73 = .ok (.aload_n 0, 1) := by decide +kernel
theorem d_Mo_make_74 : decode prog_7_method_5_code 74 = .ok (.iconst 1, 1) := by decide +kernel
theorem d_Mo_make_75 : decode prog_7_method_5_code 75 = .ok (.invokevirtual 94, 3) := by decide +kernel
theorem d_Mo_make_78 : decode prog_7_method_5_code 78 = .ok (.ireturn, 1) := by decide +kernel
theorem d_Mo_make_79 : decode prog_7_method_5_code 79 = .ok (.aload_n 0, 1) := by decide +kernel
theorem d_Mo_make_80 : decode prog_7_method_5_code 80 = .ok (.getfield 45, 3) := by decide +kernel
theorem d_Mo_make_83 : decode prog_7_method_5_code 83 = .ok (.iload_n 1, 1) := by decide +kernel
theorem d_Mo_make_84 : decode prog_7_method_5_code 84 = .ok (.iaload, 1) := by decide +kernel
theorem d_Mo_make_85 : decode prog_7_method_5_code 85 = .ok (.ifCond .lt 9, 3) := by decide +kernel
theorem d_Mo_make_88 : decode prog_7_method_5_code 88 = .ok (.aload_n 0, 1) := by decide +kernel
theorem d_Mo_make_89 : decode prog_7_method_5_code 89 = .ok (.iconst 2, 1) := by decide +kernel
theorem d_Mo_make_90 : decode prog_7_method_5_code 90 = .ok (.invokevirtual 94, 3) := by decide +kernel
theorem d_Mo_make_93 : decode prog_7_method_5_code 93 = .ok (.ireturn, 1) := by decide +kernel
theorem d_Mo_make_94 : decode prog_7_method_5_code 94 = .ok (.aload_n 0, 1) := by decide +kernel
theorem d_Mo_make_95 : decode prog_7_method_5_code 95 = .ok (.getfield 45, 3) := by decide +kernel
theorem d_Mo_make_98 : decode prog_7_method_5_code 98 = .ok (.iload_n 1, 1) := by decide +kernel
theorem d_Mo_make_99 : decode prog_7_method_5_code 99 = .ok (.iload_n 2, 1) := by decide +kernel
theorem d_Mo_make_100 : decode prog_7_method_5_code 100 = .ok (.iastore, 1) := by decide +kernel
theorem d_Mo_make_101 : decode prog_7_method_5_code 101 = .ok (.aload_n 0, 1) := by decide +kernel
theorem d_Mo_make_102 : decode prog_7_method_5_code 102 = .ok (.getfield 48, 3) := by decide +kernel
theorem d_Mo_make_105 : decode prog_7_method_5_code 105 = .ok (.iload_n 1, 1) := by decide +kernel
theorem d_Mo_make_106 : decode prog_7_method_5_code 106 = .ok (.iload_n 2, 1) := by decide +kernel
theorem d_Mo_make_107 : decode prog_7_method_5_code 107 = .ok (.ifCond .eq 9, 3) := by decide +kernel
theorem d_Mo_make_110 : decode prog_7_method_5_code 110 = .ok (.iload_n 2, 1) := by decide +kernel
theorem d_Mo_make_111 : decode prog_7_method_5_code 111 = .ok (.bipush 6, 2) := by decide +kernel
theorem d_Mo_make_113 : decode prog_7_method_5_code 113 = .ok (.if_icmp .ne 7, 3) := by decide +kernel
theorem d_Mo_make_116 : decode prog_7_method_5_code 116 = .ok (.iload_n 3, 1) := by decide +kernel
theorem d_Mo_make_117 : decode prog_7_method_5_code 117 = .ok (.goto 29, 3) := by decide +kernel
theorem d_Mo_make_120 : decode prog_7_method_5_code 120 = .ok (.iload_n 2, 1) := by decide +kernel
theorem d_Mo_make_121 : decode prog_7_method_5_code 121 = .ok (.iconst 1, 1) := by decide +kernel
theorem d_Mo_make_122 : decode prog_7_method_5_code 122 = .ok (.if_icmp .ne 8, 3) := by decide +kernel
theorem d_Mo_make_125 : decode prog_7_method_5_code 125 = .ok (.bipush 16, 2) := by decide +kernel
theorem d_Mo_make_127 : decode prog_7_method_5_code 127 = .ok (.goto 19, 3) := by decide +kernel
theorem d_Mo_make_130 : decode prog_7_method_5_code 130 = .ok (.iload_n 2, 1) := by decide +kernel
theorem d_Mo_make_131 : decode prog_7_method_5_code 131 = .ok (.iconst 3, 1) := by decide +kernel
theorem d_Mo_make_132 : decode prog_7_method_5_code 132 = .ok (.if_icmp .eq 8, 3) := by decide +kernel
theorem d_Mo_make_135 : decode prog_7_method_5_code 135 = .ok (.iload_n 2, 1) := by decide +kernel
theorem d_Mo_make_136 : decode prog_7_method_5_code 136 = .ok (.iconst 4, 1) := by decide +kernel
theorem d_Mo_make_137 : decode prog_7_method_5_code 137 = .ok (.if_icmp .ne 8, 3) := by decide +kernel
theorem d_Mo_make_140 : decode prog_7_method_5_code 140 = .ok (.bipush 6, 2) := by decide +kernel
theorem d_Mo_make_142 : decode prog_7_method_5_code 142 = .ok (.goto 4, 3) := by decide +kernel
theorem d_Mo_make_145 : decode prog_7_method_5_code 145 = .ok (.iconst 0, 1) := by decide +kernel
theorem d_Mo_make_146 : decode prog_7_method_5_code 146 = .ok (.iastore, 1) := by decide +kernel
theorem d_Mo_make_147 : decode prog_7_method_5_code 147 = .ok (.iconst 0, 1) := by decide +kernel
theorem d_Mo_make_148 : decode prog_7_method_5_code 148 = .ok (.istore 4, 2) := by decide +kernel
theorem d_Mo_make_150 : decode prog_7_method_5_code 150 = .ok (.iconst 0, 1) := by decide +kernel
theorem d_Mo_make_151 : decode prog_7_method_5_code 151 = .ok (.istore 5, 2) := by decide +kernel
theorem d_Mo_make_153 : decode prog_7_method_5_code 153 = .ok (.iload 5, 2) := by decide +kernel
theorem d_Mo_make_155 : decode prog_7_method_5_code 155 = .ok (.bipush 8, 2) := by decide +kernel
theorem d_Mo_make_157 : decode prog_7_method_5_code 157 = .ok (.if_icmp .ge 29, 3) := by decide +kernel
theorem d_Mo_make_160 : decode prog_7_method_5_code 160 = .ok (.iload 4, 2) := by decide +kernel
theorem d_Mo_make_162 : decode prog_7_method_5_code 162 = .ok (.aload_n 0, 1) := by decide +kernel
theorem d_Mo_make_163 : decode prog_7_method_5_code 163 = .ok (.getfield 45, 3) := by decide +kernel
theorem d_Mo_make_166 : decode prog_7_method_5_code 166 = .ok (.iload 5, 2) := by decide +kernel
theorem d_Mo_make_168 : decode prog_7_method_5_code 168 = .ok (.iaload, 1) := by decide +kernel
theorem d_Mo_make_169 : decode prog_7_method_5_code 169 = .ok (.ifCond .lt 7, 3) := by decide +kernel
theorem d_Mo_make_172 : decode prog_7_method_5_code 172 = .ok (.iconst 1, 1) := by decide +kernel
theorem d_Mo_make_173 : decode prog_7_method_5_code 173 = .ok (.goto 4, 3) := by decide +kernel
theorem d_Mo_make_176 : decode prog_7_method_5_code 176 = .ok (.iconst 0, 1) := by decide +kernel
theorem d_Mo_make_177 : decode prog_7_method_5_code 177 = .ok (.iadd, 1) := by decide +kernel
theorem d_Mo_make_178 : decode prog_7_method_5_code 178 = .ok (.istore 4, 2) := by decide +kernel
theorem d_Mo_make_180 : decode prog_7_method_5_code 180 = .ok (.iinc 5 1, 3) := by decide +kernel
theorem d_Mo_make_183 : decode prog_7_method_5_code 183 = .ok (.goto (-30), 3) := by decide +kernel
theorem d_Mo_make_186 : decode prog_7_method_5_code 186 = .ok (.iload 4, 2) := by decide +kernel
theorem d_Mo_make_188 : decode prog_7_method_5_code 188 = .ok (.ireturn, 1) := by decide +kernel
def y_Mo_make : MethodName := ⟨"ChannelHallModel", "make", "(III)I"⟩
abbrev rm_Mo_make : Room := { frames := 1, cells := 0, slots := 0, locals := 22 }
def wp_Mo_make_177 (G ca : Nat → Nat) (post : Int32 → hM → Prop) (k_87 : hM → Nat → Int32 → Int32 → Prop) (M : hM) (l0b177 : Nat) (l5b177 : Int32) (s0b177 : Int32) (s1b177 : Int32) : Prop := k_87 M l0b177 (s1b177 + s0b177) (l5b177 + 1)
def wp_Mo_make_153 (G ca : Nat → Nat) (post : Int32 → hM → Prop) : Nat → hM → Nat → Int32 → Int32 → Prop
  | 0, _, _, _, _ => False
  | n + 1, M, l0b153, l4b153, l5b153 => (8 ≤ l5b153 → post l4b153 M) ∧ (¬ 8 ≤ l5b153 → gR M l0b153 5 13 fun v44 => nN v44 fun b45 => aI M b45 (ca 5) l5b153 fun v46 => (v46 < 0 → wp_Mo_make_177 G ca post (wp_Mo_make_153 G ca post n) M l0b153 l5b153 0 l4b153) ∧ (¬ v46 < 0 → wp_Mo_make_177 G ca post (wp_Mo_make_153 G ca post n) M l0b153 l5b153 1 l4b153))
def wp_Mo_make_146 (G ca : Nat → Nat) (post : Int32 → hM → Prop) (M : hM) (l0b146 : Nat) (s0b146 : Int32) (s1b146 : Int32) (s2b146 : Option Nat) : Prop := nN s2b146 fun b48 => sI M b48 (ca 5) s1b146 s0b146 fun M49 => ∃ n, wp_Mo_make_153 G ca post n M49 l0b146 0 0
def wp_Mo_make_140 (G ca : Nat → Nat) (post : Int32 → hM → Prop) (M : hM) (l0b140 : Nat) (s0b140 : Int32) (s1b140 : Option Nat) : Prop := wp_Mo_make_146 G ca post M l0b140 6 s0b140 s1b140
def wp_Mo_make_116 (G ca : Nat → Nat) (post : Int32 → hM → Prop) (M : hM) (l0b116 : Nat) (l3b116 : Int32) (s0b116 : Int32) (s1b116 : Option Nat) : Prop := wp_Mo_make_146 G ca post M l0b116 l3b116 s0b116 s1b116
def wp_Mo_make_79 (G ca : Nat → Nat) (post : Int32 → hM → Prop) (M : hM) (l0b79 : Nat) (l1b79 : Int32) (l2b79 : Int32) (l3b79 : Int32) : Prop := gR M l0b79 5 13 fun v50 => nN v50 fun b51 => aI M b51 (ca 5) l1b79 fun v52 => (v52 < 0 → gR M l0b79 5 13 fun v54 => nN v54 fun b55 => sI M b55 (ca 5) l1b79 l2b79 fun M56 => gR M56 l0b79 5 14 fun v57 => (l2b79 = 0 → wp_Mo_make_116 G ca post M56 l0b79 l3b79 l1b79 v57) ∧ (¬ l2b79 = 0 → (¬ l2b79 = 6 → (¬ l2b79 = 1 → (l2b79 = 3 → wp_Mo_make_140 G ca post M56 l0b79 l1b79 v57) ∧ (¬ l2b79 = 3 → (¬ l2b79 = 4 → wp_Mo_make_146 G ca post M56 l0b79 0 l1b79 v57) ∧ (l2b79 = 4 → wp_Mo_make_140 G ca post M56 l0b79 l1b79 v57))) ∧ (l2b79 = 1 → wp_Mo_make_146 G ca post M56 l0b79 16 l1b79 v57)) ∧ (l2b79 = 6 → wp_Mo_make_116 G ca post M56 l0b79 l3b79 l1b79 v57))) ∧ (¬ v52 < 0 → rC M l0b79 5 (wp_Mo_fail G ca (fun r63 M64 => post r63 M64) M l0b79 2))
def wp_Mo_make_73 (G ca : Nat → Nat) (post : Int32 → hM → Prop) (M : hM) (l0b73 : Nat) : Prop := rC M l0b73 5 (wp_Mo_fail G ca (fun r65 M66 => post r65 M66) M l0b73 1)
def wp_Mo_make_25 (G ca : Nat → Nat) (post : Int32 → hM → Prop) (M : hM) (l0b25 : Nat) : Prop := rC M l0b25 5 (wp_Mo_fail G ca (fun r67 M68 => post r67 M68) M l0b25 1)
def wp_Mo_make (G ca : Nat → Nat) (post : Int32 → hM → Prop) (M : hM) (a0 : Nat) (x1 : Int32) (x2 : Int32) (x3 : Int32) : Prop := pF M a0 5 0 (.int 0) fun M69 => rC M69 a0 5 (wp_Mo_out G ca (fun r70 M71 => (¬ r70 = 0 → wp_Mo_make_25 G ca post M71 a0) ∧ (r70 = 0 → rC M71 a0 5 (wp_Mo_out G ca (fun r73 M74 => (r73 = 0 → (¬ x2 = 0 → (¬ x2 = 6 → (x3 = 0 → wp_Mo_make_79 G ca post M74 a0 x1 x2 x3) ∧ (¬ x3 = 0 → wp_Mo_make_73 G ca post M74 a0)) ∧ (x2 = 6 → rC M74 a0 5 (wp_Mo_out G ca (fun r79 M80 => (r79 = 0 → wp_Mo_make_79 G ca post M80 a0 x1 x2 x3) ∧ (¬ r79 = 0 → wp_Mo_make_73 G ca post M80 a0)) M74 a0 (x3 - 2) 4))) ∧ (x2 = 0 → rC M74 a0 5 (wp_Mo_out G ca (fun r82 M83 => (r82 = 0 → wp_Mo_make_79 G ca post M83 a0 x1 x2 x3) ∧ (¬ r82 = 0 → wp_Mo_make_73 G ca post M83 a0)) M74 a0 (x3 - 1) 4))) ∧ (¬ r73 = 0 → wp_Mo_make_25 G ca post M74 a0)) M71 a0 x2 7))) M69 a0 x1 8)
set_option maxHeartbeats 1000000 in
set_option maxRecDepth 20000 in
theorem l_Mo_make_177 {p : Program} {l : Launch} {e : Env} {s : State} {m : MethodId} {args : Array Value} {below : List Frame} {meth : Method} {c : Code} {D : va_G} {ca G : Nat → Nat} {A : Nat → Prop} (C0 : hC p s m args meth c D ca G prog_7_method_5_code 6 (some .int) "ChannelHallModel" A) {post : Int32 → hM → Prop} {k_87 : hM → Nat → Int32 → Int32 → Prop} (hk_87 : ∀ (M : hM) (H : Heap) (locs : List Loc) (ls : Array Slot) (l0b153 : Nat) (l4b153 : Int32) (l5b153 : Int32), k_87 M l0b153 l4b153 l5b153 → hw D wCl A M H → va_S A s.heap H locs → lv_has ls 6 [(0, .ref l0b153), (4, .int l4b153), (5, .int l5b153)] → W p l e rm_Mo_make s m args below meth c H locs 0 0 (MQ below (va_Qi post (fun M' t => hw D wCl A M' t.heap) A) args s 0 0 A) (F0 m 153 ls [])) {M : hM} {H : Heap} {locs : List Loc} {ls : Array Slot} (l0b177 : Nat) (l5b177 : Int32) (s0b177 : Int32) (s1b177 : Int32) (h : wp_Mo_make_177 G ca post k_87 M l0b177 l5b177 s0b177 s1b177) (hW : hw D wCl A M H) (hS : va_S A s.heap H locs) (hl : lv_has ls 6 [(0, .ref l0b177), (5, .int l5b177)]) : W p l e rm_Mo_make s m args below meth c H locs 0 0 (MQ below (va_Qi post (fun M' t => hw D wCl A M' t.heap) A) args s 0 0 A) (F0 m 177 ls [.int s0b177, .int s1b177]) := by
  obtain ⟨hx, hb, hr, hml, hown, hts, hlocks, hK, hA, hZ0⟩ := id C0
  refine lv_iadd hx hb d_Mo_make_177 ?_
  refine lv_istore (lv' := [(4, .int (s1b177 + s0b177)), (0, .ref l0b177), (5, .int l5b177)]) hx hb d_Mo_make_178 hl (by decide) rfl (fun ls hl => ?_)
  refine lv_iinc (v := l5b177 + 1) (lv' := [(5, .int (l5b177 + 1)), (4, .int (s1b177 + s0b177)), (0, .ref l0b177)]) hx hb d_Mo_make_180 hl (k := 2) rfl rfl (by decide) rfl (fun ls hl => ?_)
  refine lv_goto (tgt := 153) hx hb d_Mo_make_183 (by decide) ?_
  exact hk_87 _ _ _ _ l0b177 (s1b177 + s0b177) (l5b177 + 1) h hW hS (lv_sub hl [2, 1, 0] rfl)
set_option maxHeartbeats 1000000 in
set_option maxRecDepth 20000 in
theorem l_Mo_make_153 {p : Program} {l : Launch} {e : Env} {s : State} {m : MethodId} {args : Array Value} {below : List Frame} {meth : Method} {c : Code} {D : va_G} {ca G : Nat → Nat} {A : Nat → Prop} (C0 : hC p s m args meth c D ca G prog_7_method_5_code 6 (some .int) "ChannelHallModel" A) {post : Int32 → hM → Prop} : ∀ (n : Nat) {M : hM} {H : Heap} {locs : List Loc} {ls : Array Slot} (l0b153 : Nat) (l4b153 : Int32) (l5b153 : Int32) (h : wp_Mo_make_153 G ca post n M l0b153 l4b153 l5b153) (hW : hw D wCl A M H) (hS : va_S A s.heap H locs) (hl : lv_has ls 6 [(0, .ref l0b153), (4, .int l4b153), (5, .int l5b153)]), W p l e rm_Mo_make s m args below meth c H locs 0 0 (MQ below (va_Qi post (fun M' t => hw D wCl A M' t.heap) A) args s 0 0 A) (F0 m 153 ls []) := by
  obtain ⟨hx, hb, hr, hml, hown, hts, hlocks, hK, hA, hZ0⟩ := id C0
  intro n
  induction n with
  | zero =>
    intro M H locs ls l0b153 l4b153 l5b153 h
    exact False.elim h
  | succ n ih =>
    intro M H locs ls l0b153 l4b153 l5b153 h hW hS hl
    have hk_87 := fun M H locs ls l0b153 l4b153 l5b153 h hW hS hl => @ih M H locs ls l0b153 l4b153 l5b153 h hW hS hl
    refine lv_iload hx hb d_Mo_make_153 (lv_at hl 2 rfl) ?_
    refine lv_bipush (v := 8) hx hb d_Mo_make_155 (by decide) ?_
    obtain ⟨h0, h1⟩ := h
    refine lv_icmp_ge (tgt := 186) hx hb d_Mo_make_157 (by decide) (fun c43 => ?_) (fun c43 => ?_)
    · have h := h0 c43
      refine lv_iload hx hb d_Mo_make_186 (lv_at hl 1 rfl) ?_
      exact W.iret hx hb hr (fun t ht hWm => ⟨⟨_, _, rfl, h, hw_t ht hW⟩, hS.F ht⟩) hS.2.2 d_Mo_make_188
    · have h := h1 c43
      refine lv_iload hx hb d_Mo_make_160 (lv_at hl 1 rfl) ?_
      refine lv_aload_n hx hb d_Mo_make_162 rfl (lv_at hl 0 rfl) ?_
      obtain ⟨fs, v44, h1, h2, h⟩ := h
      refine va_get (D := D) (ci := 5) (v := va_rf v44) (C := "ChannelHallModel") (T := TMo) (N := 26) hx hb hts uMo hown hK (hw_one hW h1) 0 rfl rfl 13 (by decide) (hts _ bw_987) (fun _ h9 => h9) h2 d_Mo_make_163 ?_
      refine lv_iload hx hb d_Mo_make_166 (lv_at hl 2 rfl) ?_
      obtain ⟨b45, rfl, h⟩ := h
      obtain ⟨n, f, h1, h2, h⟩ := h
      refine va_iald hx hb hK (hw_one hW h1) 0 5 rfl rfl h2 d_Mo_make_168 ?_
      generalize f (l5b153).toNatClampNeg = v46 at h ⊢
      obtain ⟨h0, h1⟩ := h
      refine lv_if_lt (tgt := 176) hx hb d_Mo_make_169 (by decide) (fun c47 => ?_) (fun c47 => ?_)
      · have h := h0 c47
        refine lv_iconst (v := 0) hx hb d_Mo_make_176 (by decide) ?_
        exact l_Mo_make_177 C0 hk_87 l0b153 l5b153 0 l4b153 h hW hS (lv_sub hl [0, 2] rfl)
      · have h := h1 c47
        refine lv_iconst (v := 1) hx hb d_Mo_make_172 (by decide) ?_
        refine lv_goto (tgt := 177) hx hb d_Mo_make_173 (by decide) ?_
        exact l_Mo_make_177 C0 hk_87 l0b153 l5b153 1 l4b153 h hW hS (lv_sub hl [0, 2] rfl)
set_option maxHeartbeats 1000000 in
set_option maxRecDepth 20000 in
theorem l_Mo_make_146 {p : Program} {l : Launch} {e : Env} {s : State} {m : MethodId} {args : Array Value} {below : List Frame} {meth : Method} {c : Code} {D : va_G} {ca G : Nat → Nat} {A : Nat → Prop} (C0 : hC p s m args meth c D ca G prog_7_method_5_code 6 (some .int) "ChannelHallModel" A) {post : Int32 → hM → Prop} {M : hM} {H : Heap} {locs : List Loc} {ls : Array Slot} (l0b146 : Nat) (s0b146 : Int32) (s1b146 : Int32) (s2b146 : Option Nat) (h : wp_Mo_make_146 G ca post M l0b146 s0b146 s1b146 s2b146) (hW : hw D wCl A M H) (hS : va_S A s.heap H locs) (hl : lv_has ls 6 [(0, .ref l0b146)]) : W p l e rm_Mo_make s m args below meth c H locs 0 0 (MQ below (va_Qi post (fun M' t => hw D wCl A M' t.heap) A) args s 0 0 A) (F0 m 146 ls [.int s0b146, .int s1b146, va_rf s2b146]) := by
  obtain ⟨hx, hb, hr, hml, hown, hts, hlocks, hK, hA, hZ0⟩ := id C0
  obtain ⟨b48, rfl, h⟩ := h
  obtain ⟨n, f, h1, h2, h⟩ := h
  obtain ⟨ws, q0, hq, hP, hD, hback, -⟩ := hw_open hW h1
  refine va_iast hx hb hK hP hD hS q0 5 hq rfl h2 d_Mo_make_146 (fun H locs hP hD hS => ?_)
  have hW := hback _ _ hP hD
  generalize hM2 : va_up M b48 _ = M49 at h hW
  refine lv_iconst (v := 0) hx hb d_Mo_make_147 (by decide) ?_
  refine lv_istore (lv' := [(4, .int 0), (0, .ref l0b146)]) hx hb d_Mo_make_148 hl (by decide) rfl (fun ls hl => ?_)
  refine lv_iconst (v := 0) hx hb d_Mo_make_150 (by decide) ?_
  refine lv_istore (lv' := [(5, .int 0), (4, .int 0), (0, .ref l0b146)]) hx hb d_Mo_make_151 hl (by decide) rfl (fun ls hl => ?_)
  obtain ⟨n, h⟩ := h
  exact l_Mo_make_153 C0 n l0b146 0 0 h hW hS (lv_sub hl [2, 1, 0] rfl)
set_option maxHeartbeats 1000000 in
set_option maxRecDepth 20000 in
theorem l_Mo_make_140 {p : Program} {l : Launch} {e : Env} {s : State} {m : MethodId} {args : Array Value} {below : List Frame} {meth : Method} {c : Code} {D : va_G} {ca G : Nat → Nat} {A : Nat → Prop} (C0 : hC p s m args meth c D ca G prog_7_method_5_code 6 (some .int) "ChannelHallModel" A) {post : Int32 → hM → Prop} {M : hM} {H : Heap} {locs : List Loc} {ls : Array Slot} (l0b140 : Nat) (s0b140 : Int32) (s1b140 : Option Nat) (h : wp_Mo_make_140 G ca post M l0b140 s0b140 s1b140) (hW : hw D wCl A M H) (hS : va_S A s.heap H locs) (hl : lv_has ls 6 [(0, .ref l0b140)]) : W p l e rm_Mo_make s m args below meth c H locs 0 0 (MQ below (va_Qi post (fun M' t => hw D wCl A M' t.heap) A) args s 0 0 A) (F0 m 140 ls [.int s0b140, va_rf s1b140]) := by
  obtain ⟨hx, hb, hr, hml, hown, hts, hlocks, hK, hA, hZ0⟩ := id C0
  refine lv_bipush (v := 6) hx hb d_Mo_make_140 (by decide) ?_
  refine lv_goto (tgt := 146) hx hb d_Mo_make_142 (by decide) ?_
  exact l_Mo_make_146 C0 l0b140 6 s0b140 s1b140 h hW hS (lv_sub hl [0] rfl)
set_option maxHeartbeats 1000000 in
set_option maxRecDepth 20000 in
theorem l_Mo_make_116 {p : Program} {l : Launch} {e : Env} {s : State} {m : MethodId} {args : Array Value} {below : List Frame} {meth : Method} {c : Code} {D : va_G} {ca G : Nat → Nat} {A : Nat → Prop} (C0 : hC p s m args meth c D ca G prog_7_method_5_code 6 (some .int) "ChannelHallModel" A) {post : Int32 → hM → Prop} {M : hM} {H : Heap} {locs : List Loc} {ls : Array Slot} (l0b116 : Nat) (l3b116 : Int32) (s0b116 : Int32) (s1b116 : Option Nat) (h : wp_Mo_make_116 G ca post M l0b116 l3b116 s0b116 s1b116) (hW : hw D wCl A M H) (hS : va_S A s.heap H locs) (hl : lv_has ls 6 [(0, .ref l0b116), (3, .int l3b116)]) : W p l e rm_Mo_make s m args below meth c H locs 0 0 (MQ below (va_Qi post (fun M' t => hw D wCl A M' t.heap) A) args s 0 0 A) (F0 m 116 ls [.int s0b116, va_rf s1b116]) := by
  obtain ⟨hx, hb, hr, hml, hown, hts, hlocks, hK, hA, hZ0⟩ := id C0
  refine lv_iload_n hx hb d_Mo_make_116 rfl (lv_at hl 1 rfl) ?_
  refine lv_goto (tgt := 146) hx hb d_Mo_make_117 (by decide) ?_
  exact l_Mo_make_146 C0 l0b116 l3b116 s0b116 s1b116 h hW hS (lv_sub hl [0] rfl)
set_option maxHeartbeats 1000000 in
set_option maxRecDepth 20000 in
theorem l_Mo_make_79 {p : Program} {l : Launch} {e : Env} {s : State} {m : MethodId} {args : Array Value} {below : List Frame} {meth : Method} {c : Code} {D : va_G} {ca G : Nat → Nat} {A : Nat → Prop} (C0 : hC p s m args meth c D ca G prog_7_method_5_code 6 (some .int) "ChannelHallModel" A) {post : Int32 → hM → Prop} {M : hM} {H : Heap} {locs : List Loc} {ls : Array Slot} (l0b79 : Nat) (l1b79 : Int32) (l2b79 : Int32) (l3b79 : Int32) (h : wp_Mo_make_79 G ca post M l0b79 l1b79 l2b79 l3b79) (hW : hw D wCl A M H) (hS : va_S A s.heap H locs) (hl : lv_has ls 6 [(0, .ref l0b79), (1, .int l1b79), (2, .int l2b79), (3, .int l3b79)]) : W p l e rm_Mo_make s m args below meth c H locs 0 0 (MQ below (va_Qi post (fun M' t => hw D wCl A M' t.heap) A) args s 0 0 A) (F0 m 79 ls []) := by
  obtain ⟨hx, hb, hr, hml, hown, hts, hlocks, hK, hA, hZ0⟩ := id C0
  refine lv_aload_n hx hb d_Mo_make_79 rfl (lv_at hl 0 rfl) ?_
  obtain ⟨fs, v50, h1, h2, h⟩ := h
  refine va_get (D := D) (ci := 5) (v := va_rf v50) (C := "ChannelHallModel") (T := TMo) (N := 26) hx hb hts uMo hown hK (hw_one hW h1) 0 rfl rfl 13 (by decide) (hts _ bw_987) (fun _ h9 => h9) h2 d_Mo_make_80 ?_
  refine lv_iload_n hx hb d_Mo_make_83 rfl (lv_at hl 1 rfl) ?_
  obtain ⟨b51, rfl, h⟩ := h
  obtain ⟨n, f, h1, h2, h⟩ := h
  refine va_iald hx hb hK (hw_one hW h1) 0 5 rfl rfl h2 d_Mo_make_84 ?_
  generalize f (l1b79).toNatClampNeg = v52 at h ⊢
  obtain ⟨h0, h1⟩ := h
  refine lv_if_lt (tgt := 94) hx hb d_Mo_make_85 (by decide) (fun c53 => ?_) (fun c53 => ?_)
  · have h := h0 c53
    refine lv_aload_n hx hb d_Mo_make_94 rfl (lv_at hl 0 rfl) ?_
    obtain ⟨fs, v54, h1, h2, h⟩ := h
    refine va_get (D := D) (ci := 5) (v := va_rf v54) (C := "ChannelHallModel") (T := TMo) (N := 26) hx hb hts uMo hown hK (hw_one hW h1) 0 rfl rfl 13 (by decide) (hts _ bw_987) (fun _ h9 => h9) h2 d_Mo_make_95 ?_
    refine lv_iload_n hx hb d_Mo_make_98 rfl (lv_at hl 1 rfl) ?_
    refine lv_iload_n hx hb d_Mo_make_99 rfl (lv_at hl 2 rfl) ?_
    obtain ⟨b55, rfl, h⟩ := h
    obtain ⟨n, f, h1, h2, h⟩ := h
    obtain ⟨ws, q0, hq, hP, hD, hback, -⟩ := hw_open hW h1
    refine va_iast hx hb hK hP hD hS q0 5 hq rfl h2 d_Mo_make_100 (fun H locs hP hD hS => ?_)
    have hW := hback _ _ hP hD
    generalize hM2 : va_up M b55 _ = M56 at h hW
    refine lv_aload_n hx hb d_Mo_make_101 rfl (lv_at hl 0 rfl) ?_
    obtain ⟨fs, v57, h1, h2, h⟩ := h
    refine va_get (D := D) (ci := 5) (v := va_rf v57) (C := "ChannelHallModel") (T := TMo) (N := 26) hx hb hts uMo hown hK (hw_one hW h1) 0 rfl rfl 14 (by decide) (hts _ bw_988) (fun _ h9 => h9) h2 d_Mo_make_102 ?_
    refine lv_iload_n hx hb d_Mo_make_105 rfl (lv_at hl 1 rfl) ?_
    refine lv_iload_n hx hb d_Mo_make_106 rfl (lv_at hl 2 rfl) ?_
    obtain ⟨h0, h1⟩ := h
    refine lv_if_eq (tgt := 116) hx hb d_Mo_make_107 (by decide) (fun c58 => ?_) (fun c58 => ?_)
    · have h := h0 c58
      exact l_Mo_make_116 C0 l0b79 l3b79 l1b79 v57 h hW hS (lv_sub hl [0, 3] rfl)
    · have h := h1 c58
      refine lv_iload_n hx hb d_Mo_make_110 rfl (lv_at hl 2 rfl) ?_
      refine lv_bipush (v := 6) hx hb d_Mo_make_111 (by decide) ?_
      obtain ⟨h0, h1⟩ := h
      refine lv_icmp_ne (tgt := 120) hx hb d_Mo_make_113 (by decide) (fun c59 => ?_) (fun c59 => ?_)
      · have h := h0 c59
        refine lv_iload_n hx hb d_Mo_make_120 rfl (lv_at hl 2 rfl) ?_
        refine lv_iconst (v := 1) hx hb d_Mo_make_121 (by decide) ?_
        obtain ⟨h0, h1⟩ := h
        refine lv_icmp_ne (tgt := 130) hx hb d_Mo_make_122 (by decide) (fun c60 => ?_) (fun c60 => ?_)
        · have h := h0 c60
          refine lv_iload_n hx hb d_Mo_make_130 rfl (lv_at hl 2 rfl) ?_
          refine lv_iconst (v := 3) hx hb d_Mo_make_131 (by decide) ?_
          obtain ⟨h0, h1⟩ := h
          refine lv_icmp_eq (tgt := 140) hx hb d_Mo_make_132 (by decide) (fun c61 => ?_) (fun c61 => ?_)
          · have h := h0 c61
            exact l_Mo_make_140 C0 l0b79 l1b79 v57 h hW hS (lv_sub hl [0] rfl)
          · have h := h1 c61
            refine lv_iload_n hx hb d_Mo_make_135 rfl (lv_at hl 2 rfl) ?_
            refine lv_iconst (v := 4) hx hb d_Mo_make_136 (by decide) ?_
            obtain ⟨h0, h1⟩ := h
            refine lv_icmp_ne (tgt := 145) hx hb d_Mo_make_137 (by decide) (fun c62 => ?_) (fun c62 => ?_)
            · have h := h0 c62
              refine lv_iconst (v := 0) hx hb d_Mo_make_145 (by decide) ?_
              exact l_Mo_make_146 C0 l0b79 0 l1b79 v57 h hW hS (lv_sub hl [0] rfl)
            · have h := h1 c62
              exact l_Mo_make_140 C0 l0b79 l1b79 v57 h hW hS (lv_sub hl [0] rfl)
        · have h := h1 c60
          refine lv_bipush (v := 16) hx hb d_Mo_make_125 (by decide) ?_
          refine lv_goto (tgt := 146) hx hb d_Mo_make_127 (by decide) ?_
          exact l_Mo_make_146 C0 l0b79 16 l1b79 v57 h hW hS (lv_sub hl [0] rfl)
      · have h := h1 c59
        exact l_Mo_make_116 C0 l0b79 l3b79 l1b79 v57 h hW hS (lv_sub hl [0, 3] rfl)
  · have h := h1 c53
    refine lv_aload_n hx hb d_Mo_make_88 rfl (lv_at hl 0 rfl) ?_
    refine lv_iconst (v := 2) hx hb d_Mo_make_89 (by decide) ?_
    obtain ⟨⟨fs, h1⟩, h⟩ := h
    have h9 := h
    clear h
    have hF := hW.free hS hA
    refine va_calli (va_runV (As := [.int 2]) (rest := []) ⟨hx, hb, hml, hown, hts⟩ (c_Mo_fail _ h9) (cwV 1 hts (gi_V bw_1068 bw_1070 bs_20 bw_5 bw_1071) rfl rfl rfl (by decide +kernel) ⟨Nat.le_of_ble_eq_true rfl, Nat.le_of_ble_eq_true rfl⟩) ⟨hI.blind, hw_recv hK hW h1 rfl, hI.give hW hS hA hK hZ0⟩ rfl rfl hl.1 rfl (lv_room (Nat.le_of_ble_eq_true rfl)) d_Mo_make_90 ⟨(show _ ≤ 0 by omega), (show _ ≤ 0 by omega)⟩) hS (fun q _ z => hF q z) hF (fun r63 M64 t H locs ht _ h hB1 _ _ hS => ?_)
    have hW := hw_back hF ht hB1
    clear h9
    exact W.iret hx hb hr (fun t ht hWm => ⟨⟨_, _, rfl, h, hw_t ht hW⟩, hS.F ht⟩) hS.2.2 d_Mo_make_93
set_option maxHeartbeats 1000000 in
set_option maxRecDepth 20000 in
theorem l_Mo_make_73 {p : Program} {l : Launch} {e : Env} {s : State} {m : MethodId} {args : Array Value} {below : List Frame} {meth : Method} {c : Code} {D : va_G} {ca G : Nat → Nat} {A : Nat → Prop} (C0 : hC p s m args meth c D ca G prog_7_method_5_code 6 (some .int) "ChannelHallModel" A) {post : Int32 → hM → Prop} {M : hM} {H : Heap} {locs : List Loc} {ls : Array Slot} (l0b73 : Nat) (h : wp_Mo_make_73 G ca post M l0b73) (hW : hw D wCl A M H) (hS : va_S A s.heap H locs) (hl : lv_has ls 6 [(0, .ref l0b73)]) : W p l e rm_Mo_make s m args below meth c H locs 0 0 (MQ below (va_Qi post (fun M' t => hw D wCl A M' t.heap) A) args s 0 0 A) (F0 m 73 ls []) := by
  obtain ⟨hx, hb, hr, hml, hown, hts, hlocks, hK, hA, hZ0⟩ := id C0
  refine lv_aload_n hx hb d_Mo_make_73 rfl (lv_at hl 0 rfl) ?_
  refine lv_iconst (v := 1) hx hb d_Mo_make_74 (by decide) ?_
  obtain ⟨⟨fs, h1⟩, h⟩ := h
  have h9 := h
  clear h
  have hF := hW.free hS hA
  refine va_calli (va_runV (As := [.int 1]) (rest := []) ⟨hx, hb, hml, hown, hts⟩ (c_Mo_fail _ h9) (cwV 1 hts (gi_V bw_1068 bw_1070 bs_20 bw_5 bw_1071) rfl rfl rfl (by decide +kernel) ⟨Nat.le_of_ble_eq_true rfl, Nat.le_of_ble_eq_true rfl⟩) ⟨hI.blind, hw_recv hK hW h1 rfl, hI.give hW hS hA hK hZ0⟩ rfl rfl hl.1 rfl (lv_room (Nat.le_of_ble_eq_true rfl)) d_Mo_make_75 ⟨(show _ ≤ 0 by omega), (show _ ≤ 0 by omega)⟩) hS (fun q _ z => hF q z) hF (fun r65 M66 t H locs ht _ h hB1 _ _ hS => ?_)
  have hW := hw_back hF ht hB1
  clear h9
  exact W.iret hx hb hr (fun t ht hWm => ⟨⟨_, _, rfl, h, hw_t ht hW⟩, hS.F ht⟩) hS.2.2 d_Mo_make_78
set_option maxHeartbeats 1000000 in
set_option maxRecDepth 20000 in
theorem l_Mo_make_25 {p : Program} {l : Launch} {e : Env} {s : State} {m : MethodId} {args : Array Value} {below : List Frame} {meth : Method} {c : Code} {D : va_G} {ca G : Nat → Nat} {A : Nat → Prop} (C0 : hC p s m args meth c D ca G prog_7_method_5_code 6 (some .int) "ChannelHallModel" A) {post : Int32 → hM → Prop} {M : hM} {H : Heap} {locs : List Loc} {ls : Array Slot} (l0b25 : Nat) (h : wp_Mo_make_25 G ca post M l0b25) (hW : hw D wCl A M H) (hS : va_S A s.heap H locs) (hl : lv_has ls 6 [(0, .ref l0b25)]) : W p l e rm_Mo_make s m args below meth c H locs 0 0 (MQ below (va_Qi post (fun M' t => hw D wCl A M' t.heap) A) args s 0 0 A) (F0 m 25 ls []) := by
  obtain ⟨hx, hb, hr, hml, hown, hts, hlocks, hK, hA, hZ0⟩ := id C0
  refine lv_aload_n hx hb d_Mo_make_25 rfl (lv_at hl 0 rfl) ?_
  refine lv_iconst (v := 1) hx hb d_Mo_make_26 (by decide) ?_
  obtain ⟨⟨fs, h1⟩, h⟩ := h
  have h9 := h
  clear h
  have hF := hW.free hS hA
  refine va_calli (va_runV (As := [.int 1]) (rest := []) ⟨hx, hb, hml, hown, hts⟩ (c_Mo_fail _ h9) (cwV 1 hts (gi_V bw_1068 bw_1070 bs_20 bw_5 bw_1071) rfl rfl rfl (by decide +kernel) ⟨Nat.le_of_ble_eq_true rfl, Nat.le_of_ble_eq_true rfl⟩) ⟨hI.blind, hw_recv hK hW h1 rfl, hI.give hW hS hA hK hZ0⟩ rfl rfl hl.1 rfl (lv_room (Nat.le_of_ble_eq_true rfl)) d_Mo_make_27 ⟨(show _ ≤ 0 by omega), (show _ ≤ 0 by omega)⟩) hS (fun q _ z => hF q z) hF (fun r67 M68 t H locs ht _ h hB1 _ _ hS => ?_)
  have hW := hw_back hF ht hB1
  clear h9
  exact W.iret hx hb hr (fun t ht hWm => ⟨⟨_, _, rfl, h, hw_t ht hW⟩, hS.F ht⟩) hS.2.2 d_Mo_make_30
set_option maxHeartbeats 1000000 in
set_option maxRecDepth 20000 in
theorem l_Mo_make_e {p : Program} {l : Launch} {e : Env} {s : State} {m : MethodId} {args : Array Value} {below : List Frame} {meth : Method} {c : Code} {D : va_G} {ca G : Nat → Nat} {A : Nat → Prop} (C0 : hC p s m args meth c D ca G prog_7_method_5_code 6 (some .int) "ChannelHallModel" A) {post : Int32 → hM → Prop} {M : hM} {H : Heap} {locs : List Loc} {ls : Array Slot} (a0 : Nat) (x1 : Int32) (x2 : Int32) (x3 : Int32) (h : wp_Mo_make G ca post M a0 x1 x2 x3) (hW : hw D wCl A M H) (hS : va_S A s.heap H locs) (hl : lv_has ls 6 [(0, .ref a0), (1, .int x1), (2, .int x2), (3, .int x3)]) : W p l e rm_Mo_make s m args below meth c H locs 0 0 (MQ below (va_Qi post (fun M' t => hw D wCl A M' t.heap) A) args s 0 0 A) (F0 m 0 ls []) := by
  obtain ⟨hx, hb, hr, hml, hown, hts, hlocks, hK, hA, hZ0⟩ := id C0
  refine lv_aload_n hx hb d_Mo_make_0 rfl (lv_at hl 0 rfl) ?_
  refine lv_iconst (v := 0) hx hb d_Mo_make_1 (by decide) ?_
  obtain ⟨fs, h1, h2, h⟩ := h
  obtain ⟨ws, q0, hq, hP, hD, hback, -⟩ := hw_open hW h1
  refine va_put (D := D) (ci := 5) (v := .int 0) (ty := .int) (C := "ChannelHallModel") (T := TMo) (N := 26) hx hb hts uMo tMo tMo_ok nMo hown hK hP hD hS q0 hq rfl 0 (by decide) (hts _ bw_974) (fun _ h9 => h9) rfl (by decide +kernel) rfl rfl h2 d_Mo_make_2 (fun H locs hP hD hS => ?_)
  have hW := hback _ _ hP hD
  generalize (va_up M a0 (some (.inr (5, fs.set 0 (.int 0))))) = M69 at h hW
  refine lv_aload_n hx hb d_Mo_make_5 rfl (lv_at hl 0 rfl) ?_
  refine lv_iload_n hx hb d_Mo_make_6 rfl (lv_at hl 1 rfl) ?_
  refine lv_bipush (v := 8) hx hb d_Mo_make_7 (by decide) ?_
  obtain ⟨⟨fs, h1⟩, h⟩ := h
  have h9 := h
  clear h
  have hF := hW.free hS hA
  refine va_calli (va_runV (As := [.int x1, .int 8]) (rest := []) ⟨hx, hb, hml, hown, hts⟩ (c_Mo_out _ h9) (cwV 2 hts (gi_V bw_1064 bw_1066 bs_19 bw_5 bw_1067) rfl rfl rfl (by decide +kernel) ⟨Nat.le_of_ble_eq_true rfl, Nat.le_of_ble_eq_true rfl⟩) ⟨hI.blind, hw_recv hK hW h1 rfl, hI.give hW hS hA hK hZ0⟩ rfl rfl hl.1 rfl (lv_room (Nat.le_of_ble_eq_true rfl)) d_Mo_make_9 ⟨(show _ ≤ 0 by omega), (show _ ≤ 0 by omega)⟩) hS (fun q _ z => hF q z) hF (fun r70 M71 t H locs ht _ h hB1 _ _ hS => ?_)
  have hW := hw_back hF ht hB1
  clear h9
  obtain ⟨h0, h1⟩ := h
  refine lv_if_ne (tgt := 25) hx hb d_Mo_make_12 (by decide) (fun c72 => ?_) (fun c72 => ?_)
  · have h := h0 c72
    exact l_Mo_make_25 C0 a0 h hW hS (lv_sub hl [0] rfl)
  · have h := h1 c72
    refine lv_aload_n hx hb d_Mo_make_15 rfl (lv_at hl 0 rfl) ?_
    refine lv_iload_n hx hb d_Mo_make_16 rfl (lv_at hl 2 rfl) ?_
    refine lv_bipush (v := 7) hx hb d_Mo_make_17 (by decide) ?_
    obtain ⟨⟨fs, h1⟩, h⟩ := h
    have h9 := h
    clear h
    have hF := hW.free hS hA
    refine va_calli (va_runV (As := [.int x2, .int 7]) (rest := []) ⟨hx, hb, hml, hown, hts⟩ (c_Mo_out _ h9) (cwV 2 hts (gi_V bw_1064 bw_1066 bs_19 bw_5 bw_1067) rfl rfl rfl (by decide +kernel) ⟨Nat.le_of_ble_eq_true rfl, Nat.le_of_ble_eq_true rfl⟩) ⟨hI.blind, hw_recv hK hW h1 rfl, hI.give hW hS hA hK hZ0⟩ rfl rfl hl.1 rfl (lv_room (Nat.le_of_ble_eq_true rfl)) d_Mo_make_19 ⟨(show _ ≤ 0 by omega), (show _ ≤ 0 by omega)⟩) hS (fun q _ z => hF q z) hF (fun r73 M74 t H locs ht _ h hB1 _ _ hS => ?_)
    have hW := hw_back hF ht hB1
    clear h9
    obtain ⟨h0, h1⟩ := h
    refine lv_if_eq (tgt := 31) hx hb d_Mo_make_22 (by decide) (fun c75 => ?_) (fun c75 => ?_)
    · have h := h0 c75
      refine lv_iload_n hx hb d_Mo_make_31 rfl (lv_at hl 2 rfl) ?_
      obtain ⟨h0, h1⟩ := h
      refine lv_if_ne (tgt := 49) hx hb d_Mo_make_32 (by decide) (fun c76 => ?_) (fun c76 => ?_)
      · have h := h0 c76
        refine lv_iload_n hx hb d_Mo_make_49 rfl (lv_at hl 2 rfl) ?_
        refine lv_bipush (v := 6) hx hb d_Mo_make_50 (by decide) ?_
        obtain ⟨h0, h1⟩ := h
        refine lv_icmp_ne (tgt := 69) hx hb d_Mo_make_52 (by decide) (fun c77 => ?_) (fun c77 => ?_)
        · have h := h0 c77
          refine lv_iload_n hx hb d_Mo_make_69 rfl (lv_at hl 3 rfl) ?_
          obtain ⟨h0, h1⟩ := h
          refine lv_if_eq (tgt := 79) hx hb d_Mo_make_70 (by decide) (fun c78 => ?_) (fun c78 => ?_)
          · have h := h0 c78
            exact l_Mo_make_79 C0 a0 x1 x2 x3 h hW hS (lv_sub hl [0, 1, 2, 3] rfl)
          · have h := h1 c78
            exact l_Mo_make_73 C0 a0 h hW hS (lv_sub hl [0] rfl)
        · have h := h1 c77
          refine lv_aload_n hx hb d_Mo_make_55 rfl (lv_at hl 0 rfl) ?_
          refine lv_iload_n hx hb d_Mo_make_56 rfl (lv_at hl 3 rfl) ?_
          refine lv_iconst (v := 2) hx hb d_Mo_make_57 (by decide) ?_
          refine lv_isub hx hb d_Mo_make_58 ?_
          refine lv_iconst (v := 4) hx hb d_Mo_make_59 (by decide) ?_
          obtain ⟨⟨fs, h1⟩, h⟩ := h
          have h9 := h
          clear h
          have hF := hW.free hS hA
          refine va_calli (va_runV (As := [.int (x3 - 2), .int 4]) (rest := []) ⟨hx, hb, hml, hown, hts⟩ (c_Mo_out _ h9) (cwV 2 hts (gi_V bw_1064 bw_1066 bs_19 bw_5 bw_1067) rfl rfl rfl (by decide +kernel) ⟨Nat.le_of_ble_eq_true rfl, Nat.le_of_ble_eq_true rfl⟩) ⟨hI.blind, hw_recv hK hW h1 rfl, hI.give hW hS hA hK hZ0⟩ rfl rfl hl.1 rfl (lv_room (Nat.le_of_ble_eq_true rfl)) d_Mo_make_60 ⟨(show _ ≤ 0 by omega), (show _ ≤ 0 by omega)⟩) hS (fun q _ z => hF q z) hF (fun r79 M80 t H locs ht _ h hB1 _ _ hS => ?_)
          have hW := hw_back hF ht hB1
          clear h9
          obtain ⟨h0, h1⟩ := h
          refine lv_if_eq (tgt := 79) hx hb d_Mo_make_63 (by decide) (fun c81 => ?_) (fun c81 => ?_)
          · have h := h0 c81
            exact l_Mo_make_79 C0 a0 x1 x2 x3 h hW hS (lv_sub hl [0, 1, 2, 3] rfl)
          · have h := h1 c81
            refine lv_goto (tgt := 73) hx hb d_Mo_make_66 (by decide) ?_
            exact l_Mo_make_73 C0 a0 h hW hS (lv_sub hl [0] rfl)
      · have h := h1 c76
        refine lv_aload_n hx hb d_Mo_make_35 rfl (lv_at hl 0 rfl) ?_
        refine lv_iload_n hx hb d_Mo_make_36 rfl (lv_at hl 3 rfl) ?_
        refine lv_iconst (v := 1) hx hb d_Mo_make_37 (by decide) ?_
        refine lv_isub hx hb d_Mo_make_38 ?_
        refine lv_iconst (v := 4) hx hb d_Mo_make_39 (by decide) ?_
        obtain ⟨⟨fs, h1⟩, h⟩ := h
        have h9 := h
        clear h
        have hF := hW.free hS hA
        refine va_calli (va_runV (As := [.int (x3 - 1), .int 4]) (rest := []) ⟨hx, hb, hml, hown, hts⟩ (c_Mo_out _ h9) (cwV 2 hts (gi_V bw_1064 bw_1066 bs_19 bw_5 bw_1067) rfl rfl rfl (by decide +kernel) ⟨Nat.le_of_ble_eq_true rfl, Nat.le_of_ble_eq_true rfl⟩) ⟨hI.blind, hw_recv hK hW h1 rfl, hI.give hW hS hA hK hZ0⟩ rfl rfl hl.1 rfl (lv_room (Nat.le_of_ble_eq_true rfl)) d_Mo_make_40 ⟨(show _ ≤ 0 by omega), (show _ ≤ 0 by omega)⟩) hS (fun q _ z => hF q z) hF (fun r82 M83 t H locs ht _ h hB1 _ _ hS => ?_)
        have hW := hw_back hF ht hB1
        clear h9
        obtain ⟨h0, h1⟩ := h
        refine lv_if_eq (tgt := 79) hx hb d_Mo_make_43 (by decide) (fun c84 => ?_) (fun c84 => ?_)
        · have h := h0 c84
          exact l_Mo_make_79 C0 a0 x1 x2 x3 h hW hS (lv_sub hl [0, 1, 2, 3] rfl)
        · have h := h1 c84
          refine lv_goto (tgt := 73) hx hb d_Mo_make_46 (by decide) ?_
          exact l_Mo_make_73 C0 a0 h hW hS (lv_sub hl [0] rfl)
    · have h := h1 c75
      exact l_Mo_make_25 C0 a0 h hW hS (lv_sub hl [0] rfl)
set_option maxRecDepth 20000 in
theorem c_Mo_make {l : Launch} {D : va_G} {ca G : Nat → Nat} (post : Int32 → hM → Prop) {M : hM} {sz : Nat} {a0 : Nat} {x1 : Int32} {x2 : Int32} {x3 : Int32} (h : wp_Mo_make G ca post M a0 x1 x2 x3) : Met l y_Mo_make (wz y_Mo_make prog_7_method_5_code 6 (some .int)) rm_Mo_make (va_Pc [.ref a0, .int x1, .int x2, .int x3] (hI D ca G sz M)) (va_Qi post (hB D M sz) (hp_A M sz)) 0 0 (hp_A M sz) := by
  refine Met.ofW (cc := prog_7_method_5_code) (maxL := 6) (ret := some .int) (by decide) rfl ?_
  intro p e s m args below meth c s₁ B hml hv
  obtain ⟨rfl, hsz, hW, hK, hZ0⟩ := hv
  have hts := fun w hw => atoms_spec (ws := wz y_Mo_make prog_7_method_5_code 6 (some .int)) B.pre w (List.mem_cons_of_mem _ hw)
  have hown : s.vm.findClass "ChannelHallModel" = some m.cls := findClass_of_methodNamed B.named
  subst hsz
  have hl := lv_entry [.ref a0, .int x1, .int x2, .int x3] (n := 6) (Nat.le_of_ble_eq_true rfl)
  rw [lg_entry_eq]
  exact l_Mo_make_e ⟨B.exec, B.bytes, B.returns, hml, hown, hts, B.notSynchronized, hK, fun q h => Or.inr h, hZ0⟩ a0 x1 x2 x3 h hW va_S.rf hl

theorem d_Mo_give_0 : decode prog_7_method_21_code 0 = .ok (.dload 4, 2) := by decide +kernel
theorem d_Mo_give_2 : decode prog_7_method_21_code 2 = .ok (.ldc2_w 140, 3) := by decide +kernel
theorem d_Mo_give_5 : decode prog_7_method_21_code 5 = .ok (.dcmp .l, 1) := by decide +kernel
theorem d_Mo_give_6 : decode prog_7_method_21_code 6 = .ok (.ifCond .lt 21, 3) := by decide +kernel
theorem d_Mo_give_9 : decode prog_7_method_21_code 9 = .ok (.dload 4, 2) := by decide +kernel
theorem d_Mo_give_11 : decode prog_7_method_21_code 11 = .ok (.ldc2_w 138, 3) := by decide +kernel
theorem d_Mo_give_14 : decode prog_7_method_21_code 14 = .ok (.dcmp .g, 1) := by decide +kernel
theorem d_Mo_give_15 : decode prog_7_method_21_code 15 = .ok (.ifCond .gt 12, 3) := by decide +kernel
theorem d_Mo_give_18 : decode prog_7_method_21_code 18 = .ok (.aload_n 0, 1) := by decide +kernel
theorem d_Mo_give_19 : decode prog_7_method_21_code 19 = .ok (.dload 6, 2) := by decide +kernel
theorem d_Mo_give_21 : decode prog_7_method_21_code 21 = .ok (.invokevirtual 142, 3) := by decide +kernel
theorem d_Mo_give_24 : decode prog_7_method_21_code 24 = .ok (.ifCond .eq 7, 3) := by decide +kernel
theorem d_Mo_give_27 : decode prog_7_method_21_code 27 = .ok (.iconst 1, 1) := by decide +kernel
theorem d_Mo_give_28 : decode prog_7_method_21_code 28 = .ok (.goto 4, 3) := by decide +kernel
theorem d_Mo_give_31 : decode prog_7_method_21_code 31 = .ok (.iconst 0, 1) := by decide +kernel
theorem d_Mo_give_32 : decode prog_7_method_21_code 32 = .ok (.istore 8, 2) := by decide +kernel
theorem d_Mo_give_34 : decode prog_7_method_21_code 34 = .ok (.aload_n 0, 1) := by decide +kernel
theorem d_Mo_give_35 : decode prog_7_method_21_code 35 = .ok (.aload_n 0, 1) := by decide +kernel
theorem d_Mo_give_36 : decode prog_7_method_21_code 36 = .ok (.iload_n 1, 1) := by decide +kernel
theorem d_Mo_give_37 : decode prog_7_method_21_code 37 = .ok (.bipush 6, 2) := by decide +kernel
theorem d_Mo_give_39 : decode prog_7_method_21_code 39 = .ok (.invokevirtual 90, 3) := by decide +kernel
theorem d_Mo_give_42 : decode prog_7_method_21_code 42 = .ok (.ifCond .ne 18, 3) := by decide +kernel
theorem d_Mo_give_45 : decode prog_7_method_21_code 45 = .ok (.aload_n 0, 1) := by decide +kernel
theorem d_Mo_give_46 : decode prog_7_method_21_code 46 = .ok (.iload_n 2, 1) := by decide +kernel
theorem d_Mo_give_47 : decode prog_7_method_21_code 47 = .ok (.bipush 8, 2) := by decide +kernel
theorem d_Mo_give_49 : decode prog_7_method_21_code 49 = .ok (.invokevirtual 90, 3) := by decide +kernel
theorem d_Mo_give_52 : decode prog_7_method_21_code 52 = .ok (.ifCond .ne 8, 3) := by decide +kernel
theorem d_Mo_give_55 : decode prog_7_method_21_code 55 = .ok (.iload 8, 2) := by decide +kernel
theorem d_Mo_give_57 : decode prog_7_method_21_code 57 = .ok (.ifCond .eq 7, 3) := by decide +kernel
theorem d_Mo_give_60 : decode prog_7_method_21_code 60 = .ok (.iconst 1, 1) := by decide +kernel
theorem d_Mo_give_61 : decode prog_7_method_21_code 61 = .ok (.goto 11, 3) := by decide +kernel
theorem d_Mo_give_64 : decode prog_7_method_21_code 64 = .ok (.aload_n 0, 1) := by decide +kernel
theorem d_Mo_give_65 : decode prog_7_method_21_code 65 = .ok (.iload_n 1, 1) := by decide +kernel
theorem d_Mo_give_66 : decode prog_7_method_21_code 66 = .ok (.iload_n 2, 1) := by decide +kernel
theorem d_Mo_give_67 : decode prog_7_method_21_code 67 = .ok (.iconst 0, 1) := by decide +kernel
theorem d_Mo_give_68 : decode prog_7_method_21_code 68 = .ok (.iconst 4, 1) := by decide +kernel
theorem d_Mo_give_69 : decode prog_7_method_21_code 69 = .ok (.invokevirtual 146, 3) := by decide +kernel
theorem d_Mo_give_72 : decode prog_7_method_21_code 72 = .ok (.putfield 86, 3) := by decide +kernel
theorem d_Mo_give_75 : decode prog_7_method_21_code 75 = .ok (.aload_n 0, 1) := by decide +kernel
theorem d_Mo_give_76 : decode prog_7_method_21_code 76 = .ok (.getfield 86, 3) := by decide +kernel
theorem d_Mo_give_79 : decode prog_7_method_21_code 79 = .ok (.ifCond .le 5, 3) := by decide +kernel
theorem d_Mo_give_82 : decode prog_7_method_21_code 82 = .ok (.iconst 0, 1) := by decide +kernel
theorem d_Mo_give_83 : decode prog_7_method_21_code 83 = .ok (.ireturn, 1) := by decide +kernel
theorem d_Mo_give_84 : decode prog_7_method_21_code 84 = .ok (.aload_n 0, 1) := by decide +kernel
theorem d_Mo_give_85 : decode prog_7_method_21_code 85 = .ok (.iload_n 1, 1) := by decide +kernel
theorem d_Mo_give_86 : decode prog_7_method_21_code 86 = .ok (.invokevirtual 150, 3) := by decide +kernel
theorem d_Mo_give_89 : decode prog_7_method_21_code 89 = .ok (.ifCond .eq 5, 3) := by decide +kernel
theorem d_Mo_give_92 : decode prog_7_method_21_code 92 = .ok (.iconst 3, 1) := by decide +kernel
theorem d_Mo_give_93 : decode prog_7_method_21_code 93 = .ok (.ireturn, 1) := by decide +kernel
theorem d_Mo_give_94 : decode prog_7_method_21_code 94 = .ok (.iload_n 2, 1) := by decide +kernel
theorem d_Mo_give_95 : decode prog_7_method_21_code 95 = .ok (.istore 9, 2) := by decide +kernel
theorem d_Mo_give_97 : decode prog_7_method_21_code 97 = .ok (.aload_n 0, 1) := by decide +kernel
theorem d_Mo_give_98 : decode prog_7_method_21_code 98 = .ok (.getfield 102, 3) := by decide +kernel
theorem d_Mo_give_101 : decode prog_7_method_21_code 101 = .ok (.dload 4, 2) := by decide +kernel
theorem d_Mo_give_103 : decode prog_7_method_21_code 103 = .ok (.dconst 0, 1) := by decide +kernel
theorem d_Mo_give_104 : decode prog_7_method_21_code 104 = .ok (.dcmp .g, 1) := by decide +kernel
theorem d_Mo_give_105 : decode prog_7_method_21_code 105 = .ok (.ifCond .ge 7, 3) := by decide +kernel
theorem d_Mo_give_108 : decode prog_7_method_21_code 108 = .ok (.dconst 0, 1) := by decide +kernel
theorem d_Mo_give_109 : decode prog_7_method_21_code 109 = .ok (.goto 5, 3) := by decide +kernel
theorem d_Mo_give_112 : decode prog_7_method_21_code 112 = .ok (.dload 4, 2) := by decide +kernel
theorem d_Mo_give_114 : decode prog_7_method_21_code 114 = .ok (.dadd, 1) := by decide +kernel
theorem d_Mo_give_115 : decode prog_7_method_21_code 115 = .ok (.dstore 10, 2) := by decide +kernel
theorem d_Mo_give_117 : decode prog_7_method_21_code 117 = .ok (.aload_n 0, 1) := by decide +kernel
theorem d_Mo_give_118 : decode prog_7_method_21_code 118 = .ok (.iload 9, 2) := by decide +kernel
theorem d_Mo_give_120 : decode prog_7_method_21_code 120 = .ok (.iconst 1, 1) := by decide +kernel
theorem d_Mo_give_121 : decode prog_7_method_21_code 121 = .ok (.invokevirtual 124, 3) := by decide +kernel
theorem d_Mo_give_124 : decode prog_7_method_21_code 124 = .ok (.istore 12, 2) := by decide +kernel
theorem d_Mo_give_126 : decode prog_7_method_21_code 126 = .ok (.aload_n 0, 1) := by decide +kernel
theorem d_Mo_give_127 : decode prog_7_method_21_code 127 = .ok (.getfield 45, 3) := by decide +kernel
theorem d_Mo_give_130 : decode prog_7_method_21_code 130 = .ok (.iload 9, 2) := by decide +kernel
theorem d_Mo_give_132 : decode prog_7_method_21_code 132 = .ok (.iaload, 1) := by decide +kernel
theorem d_Mo_give_133 : decode prog_7_method_21_code 133 = .ok (.iconst 2, 1) := by decide +kernel
theorem d_Mo_give_134 : decode prog_7_method_21_code 134 = .ok (.if_icmp .ne 16, 3) := by decide +kernel
theorem d_Mo_give_137 : decode prog_7_method_21_code 137 = .ok (.iload 12, 2) := by decide +kernel
theorem d_Mo_give_139 : decode prog_7_method_21_code 139 = .ok (.ifCond .lt 7, 3) := by decide +kernel
theorem d_Mo_give_142 : decode prog_7_method_21_code 142 = .ok (.iconst 1, 1) := by decide +kernel
theorem d_Mo_give_143 : decode prog_7_method_21_code 143 = .ok (.goto 29, 3) := by decide +kernel
theorem d_Mo_give_146 : decode prog_7_method_21_code 146 = .ok (.iconst 0, 1) := by decide +kernel
theorem d_Mo_give_147 : decode prog_7_method_21_code 147 = .ok (.goto 25, 3) := by decide +kernel
theorem d_Mo_give_150 : decode prog_7_method_21_code 150 = .ok (.aload_n 0, 1) := by decide +kernel
theorem d_Mo_give_151 : decode prog_7_method_21_code 151 = .ok (.getfield 75, 3) := by decide +kernel
theorem d_Mo_give_154 : decode prog_7_method_21_code 154 = .ok (.iload 9, 2) := by decide +kernel
theorem d_Mo_give_156 : decode prog_7_method_21_code 156 = .ok (.iaload, 1) := by decide +kernel
theorem d_Mo_give_157 : decode prog_7_method_21_code 157 = .ok (.aload_n 0, 1) := by decide +kernel
theorem d_Mo_give_158 : decode prog_7_method_21_code 158 = .ok (.getfield 48, 3) := by decide +kernel
theorem d_Mo_give_161 : decode prog_7_method_21_code 161 = .ok (.iload 9, 2) := by decide +kernel
theorem d_Mo_give_163 : decode prog_7_method_21_code 163 = .ok (.iaload, 1) := by decide +kernel
theorem d_Mo_give_164 : decode prog_7_method_21_code 164 = .ok (.if_icmp .ge 7, 3) := by decide +kernel
theorem d_Mo_give_167 : decode prog_7_method_21_code 167 = .ok (.iconst 1, 1) := by decide +kernel
theorem d_Mo_give_168 : decode prog_7_method_21_code 168 = .ok (.goto 4, 3) := by decide +kernel
theorem d_Mo_give_171 : decode prog_7_method_21_code 171 = .ok (.iconst 0, 1) := by decide +kernel
theorem d_Mo_give_172 : decode prog_7_method_21_code 172 = .ok (.istore 13, 2) := by decide +kernel
theorem d_Mo_give_174 : decode prog_7_method_21_code 174 = .ok (.aload_n 0, 1) := by decide +kernel
theorem d_Mo_give_175 : decode prog_7_method_21_code 175 = .ok (.iload 9, 2) := by decide +kernel
theorem d_Mo_give_177 : decode prog_7_method_21_code 177 = .ok (.iconst 0, 1) := by decide +kernel
theorem d_Mo_give_178 : decode prog_7_method_21_code 178 = .ok (.invokevirtual 124, 3) := by decide +kernel
theorem d_Mo_give_181 : decode prog_7_method_21_code 181 = .ok (.ifCond .ge 8, 3) := by decide +kernel
theorem d_Mo_give_184 : decode prog_7_method_21_code 184 = .ok (.iload 13, 2) := by decide +kernel
theorem d_Mo_give_186 : decode prog_7_method_21_code 186 = .ok (.ifCond .ne 37, 3) := by decide +kernel
theorem d_Mo_give_189 : decode prog_7_method_21_code 189 = .ok (.aload_n 0, 1) := by decide +kernel
theorem d_Mo_give_190 : decode prog_7_method_21_code 190 = .ok (.getfield 32, 3) := by decide +kernel
theorem d_Mo_give_193 : decode prog_7_method_21_code 193 = .ok (.iload_n 1, 1) := by decide +kernel
theorem d_Mo_give_194 : decode prog_7_method_21_code 194 = .ok (.iload_n 3, 1) := by decide +kernel
theorem d_Mo_give_195 : decode prog_7_method_21_code 195 = .ok (.iastore, 1) := by decide +kernel
theorem d_Mo_give_196 : decode prog_7_method_21_code 196 = .ok (.aload_n 0, 1) := by decide +kernel
theorem d_Mo_give_197 : decode prog_7_method_21_code 197 = .ok (.getfield 35, 3) := by decide +kernel
theorem d_Mo_give_200 : decode prog_7_method_21_code 200 = .ok (.iload_n 1, 1) := by decide +kernel
theorem d_Mo_give_201 : decode prog_7_method_21_code 201 = .ok (.dload 4, 2) := by decide +kernel
theorem d_Mo_give_203 : decode prog_7_method_21_code 203 = .ok (.dastore, 1) := by decide +kernel
theorem d_Mo_give_204 : decode prog_7_method_21_code 204 = .ok (.aload_n 0, 1) := by decide +kernel
theorem d_Mo_give_205 : decode prog_7_method_21_code 205 = .ok (.getfield 39, 3) := by decide +kernel
theorem d_Mo_give_208 : decode prog_7_method_21_code 208 = .ok (.iload_n 1, 1) := by decide +kernel
theorem d_Mo_give_209 : decode prog_7_method_21_code 209 = .ok (.dload 10, 2) := by decide +kernel
theorem d_Mo_give_211 : decode prog_7_method_21_code 211 = .ok (.dastore, 1) := by decide +kernel
theorem d_Mo_give_212 : decode prog_7_method_21_code 212 = .ok (.aload_n 0, 1) := by decide +kernel
theorem d_Mo_give_213 : decode prog_7_method_21_code 213 = .ok (.iload_n 1, 1) := by decide +kernel
theorem d_Mo_give_214 : decode prog_7_method_21_code 214 = .ok (.iload 9, 2) := by decide +kernel
theorem d_Mo_give_216 : decode prog_7_method_21_code 216 = .ok (.iconst 0, 1) := by decide +kernel
theorem d_Mo_give_217 : decode prog_7_method_21_code 217 = .ok (.dload 6, 2) := by decide +kernel
theorem d_Mo_give_219 : decode prog_7_method_21_code 219 = .ok (.invokevirtual 153, 3) := by decide +kernel
theorem d_Mo_give_222 : decode prog_7_method_21_code 222 = .ok (.ireturn, 1) := by decide +kernel
theorem d_Mo_give_223 : decode prog_7_method_21_code 223 = .ok (.aload_n 0, 1) := by decide +kernel
theorem d_Mo_give_224 : decode prog_7_method_21_code 224 = .ok (.getfield 45, 3) := by decide +kernel
theorem d_Mo_give_227 : decode prog_7_method_21_code 227 = .ok (.iload 9, 2) := by decide +kernel
theorem d_Mo_give_229 : decode prog_7_method_21_code 229 = .ok (.iaload, 1) := by decide +kernel
theorem d_Mo_give_230 : decode prog_7_method_21_code 230 = .ok (.iconst 2, 1) := by decide +kernel
theorem d_Mo_give_231 : decode prog_7_method_21_code 231 = .ok (.if_icmp .ne 23, 3) := by decide +kernel
theorem d_Mo_give_234 : decode prog_7_method_21_code 234 = .ok (.aload_n 0, 1) := by decide +kernel
theorem d_Mo_give_235 : decode prog_7_method_21_code 235 = .ok (.iload 12, 2) := by decide +kernel
theorem d_Mo_give_237 : decode prog_7_method_21_code 237 = .ok (.iload 9, 2) := by decide +kernel
theorem d_Mo_give_239 : decode prog_7_method_21_code 239 = .ok (.iload_n 3, 1) := by decide +kernel
theorem d_Mo_give_240 : decode prog_7_method_21_code 240 = .ok (.dconst 0, 1) := by decide +kernel
theorem d_Mo_give_241 : decode prog_7_method_21_code 241 = .ok (.invokevirtual 120, 3) := by decide +kernel
theorem d_Mo_give_244 : decode prog_7_method_21_code 244 = .ok (.aload_n 0, 1) := by decide +kernel
theorem d_Mo_give_245 : decode prog_7_method_21_code 245 = .ok (.iload 12, 2) := by decide +kernel
theorem d_Mo_give_247 : decode prog_7_method_21_code 247 = .ok (.iconst 1, 1) := by decide +kernel
theorem d_Mo_give_248 : decode prog_7_method_21_code 248 = .ok (.invokevirtual 106, 3) := by decide +kernel
theorem d_Mo_give_251 : decode prog_7_method_21_code 251 = .ok (.goto 14, 3) := by decide +kernel
theorem d_Mo_give_254 : decode prog_7_method_21_code 254 = .ok (.aload_n 0, 1) := by decide +kernel
theorem d_Mo_give_255 : decode prog_7_method_21_code 255 = .ok (.iload 9, 2) := by decide +kernel
theorem d_Mo_give_257 : decode prog_7_method_21_code 257 = .ok (.iload_n 3, 1) := by decide +kernel
theorem d_Mo_give_258 : decode prog_7_method_21_code 258 = .ok (.dload 4, 2) := by decide +kernel
theorem d_Mo_give_260 : decode prog_7_method_21_code 260 = .ok (.dload 10, 2) := by decide +kernel
theorem d_Mo_give_262 : decode prog_7_method_21_code 262 = .ok (.invokevirtual 134, 3) := by decide +kernel
theorem d_Mo_give_265 : decode prog_7_method_21_code 265 = .ok (.aload_n 0, 1) := by decide +kernel
theorem d_Mo_give_266 : decode prog_7_method_21_code 266 = .ok (.iload 9, 2) := by decide +kernel
theorem d_Mo_give_268 : decode prog_7_method_21_code 268 = .ok (.invokevirtual 113, 3) := by decide +kernel
theorem d_Mo_give_271 : decode prog_7_method_21_code 271 = .ok (.aload_n 0, 1) := by decide +kernel
theorem d_Mo_give_272 : decode prog_7_method_21_code 272 = .ok (.iload_n 1, 1) := by decide +kernel
theorem d_Mo_give_273 : decode prog_7_method_21_code 273 = .ok (.iconst 1, 1) := by decide +kernel
theorem d_Mo_give_274 : decode prog_7_method_21_code 274 = .ok (.invokevirtual 98, 3) := by decide +kernel
theorem d_Mo_give_277 : decode prog_7_method_21_code 277 = .ok (.ireturn, 1) := by decide +kernel
def y_Mo_give : MethodName := ⟨"ChannelHallModel", "give", "(IIIDD)I"⟩
abbrev rm_Mo_give : Room := { frames := 3, cells := 0, slots := 0, locals := 74 }
def wp_Mo_give_265 (G ca : Nat → Nat) (post : Int32 → hM → Prop) (M : hM) (l0b265 : Nat) (l1b265 : Int32) (l9b265 : Int32) : Prop := rC M l0b265 5 (wp_Mo_serve G ca (fun M62 => rC M62 l0b265 5 (wp_Mo_settle G ca (fun r63 M64 => post r63 M64) M62 l0b265 l1b265 1)) M l0b265 l9b265)
def wp_Mo_give_189 (G ca : Nat → Nat) (post : Int32 → hM → Prop) (M : hM) (l0b189 : Nat) (l1b189 : Int32) (l3b189 : Int32) (l4b189 : UInt64) (l6b189 : UInt64) (l9b189 : Int32) (l10b189 : UInt64) : Prop := gR M l0b189 5 8 fun v65 => nN v65 fun b66 => sI M b66 (ca 5) l1b189 l3b189 fun M67 => gR M67 l0b189 5 9 fun v68 => nN v68 fun b69 => sD M67 b69 (ca 4) l1b189 l4b189 fun M70 => gR M70 l0b189 5 10 fun v71 => nN v71 fun b72 => sD M70 b72 (ca 4) l1b189 l10b189 fun M73 => rC M73 l0b189 5 (wp_Mo_waitAt G ca (fun r74 M75 => post r74 M75) M73 l0b189 l1b189 l9b189 0 l6b189)
def wp_Mo_give_172 (G ca : Nat → Nat) (post : Int32 → hM → Prop) (M : hM) (l0b172 : Nat) (l1b172 : Int32) (l3b172 : Int32) (l4b172 : UInt64) (l6b172 : UInt64) (l9b172 : Int32) (l10b172 : UInt64) (l12b172 : Int32) (s0b172 : Int32) : Prop := rC M l0b172 5 (wp_Mo_first G ca (fun r76 M77 => (0 ≤ r76 → wp_Mo_give_189 G ca post M77 l0b172 l1b172 l3b172 l4b172 l6b172 l9b172 l10b172) ∧ (¬ 0 ≤ r76 → (¬ s0b172 = 0 → gR M77 l0b172 5 13 fun v80 => nN v80 fun b81 => aI M77 b81 (ca 5) l9b172 fun v82 => (¬ v82 = 2 → rC M77 l0b172 5 (wp_Mo_lay G ca (fun M84 => wp_Mo_give_265 G ca post M84 l0b172 l1b172 l9b172) M77 l0b172 l9b172 l3b172 l4b172 l10b172)) ∧ (v82 = 2 → rC M77 l0b172 5 (wp_Mo_obtain G ca (fun M85 => rC M85 l0b172 5 (wp_Mo_free G ca (fun M86 => wp_Mo_give_265 G ca post M86 l0b172 l1b172 l9b172) M85 l0b172 l12b172 1)) M77 l0b172 l12b172 l9b172 l3b172 FP.dconst0))) ∧ (s0b172 = 0 → wp_Mo_give_189 G ca post M77 l0b172 l1b172 l3b172 l4b172 l6b172 l9b172 l10b172))) M l0b172 l9b172 0)
def wp_Mo_give_114 (G ca : Nat → Nat) (post : Int32 → hM → Prop) (M : hM) (l0b114 : Nat) (l1b114 : Int32) (l3b114 : Int32) (l4b114 : UInt64) (l6b114 : UInt64) (l9b114 : Int32) (s0b114 : UInt64) (s1b114 : UInt64) : Prop := nD (FP.dadd s1b114 s0b114) (rC M l0b114 5 (wp_Mo_first G ca (fun r87 M88 => gR M88 l0b114 5 13 fun v89 => nN v89 fun b90 => aI M88 b90 (ca 5) l9b114 fun v91 => (¬ v91 = 2 → gR M88 l0b114 5 23 fun v93 => nN v93 fun b94 => aI M88 b94 (ca 5) l9b114 fun v95 => gR M88 l0b114 5 14 fun v96 => nN v96 fun b97 => aI M88 b97 (ca 5) l9b114 fun v98 => (v98 ≤ v95 → wp_Mo_give_172 G ca post M88 l0b114 l1b114 l3b114 l4b114 l6b114 l9b114 (FP.dadd s1b114 s0b114) r87 0) ∧ (¬ v98 ≤ v95 → wp_Mo_give_172 G ca post M88 l0b114 l1b114 l3b114 l4b114 l6b114 l9b114 (FP.dadd s1b114 s0b114) r87 1)) ∧ (v91 = 2 → (r87 < 0 → wp_Mo_give_172 G ca post M88 l0b114 l1b114 l3b114 l4b114 l6b114 l9b114 (FP.dadd s1b114 s0b114) r87 0) ∧ (¬ r87 < 0 → wp_Mo_give_172 G ca post M88 l0b114 l1b114 l3b114 l4b114 l6b114 l9b114 (FP.dadd s1b114 s0b114) r87 1))) M l0b114 l9b114 1))
def wp_Mo_give_72 (G ca : Nat → Nat) (post : Int32 → hM → Prop) (M : hM) (l0b72 : Nat) (l1b72 : Int32) (l2b72 : Int32) (l3b72 : Int32) (l4b72 : UInt64) (l6b72 : UInt64) (s0b72 : Int32) (s1b72 : Nat) : Prop := pF M s1b72 5 0 (.int s0b72) fun M101 => gI M101 l0b72 5 0 fun v102 => (v102 ≤ 0 → rC M101 l0b72 5 (wp_Mo_flagged G ca (fun r104 M105 => (r104 = 0 → gD M105 l0b72 5 12 fun v107 => (0 ≤ (Op.cmpValue (FP.dcmp l4b72 FP.dconst0) .g) → wp_Mo_give_114 G ca post M105 l0b72 l1b72 l3b72 l4b72 l6b72 l2b72 l4b72 v107) ∧ (¬ 0 ≤ (Op.cmpValue (FP.dcmp l4b72 FP.dconst0) .g) → wp_Mo_give_114 G ca post M105 l0b72 l1b72 l3b72 l4b72 l6b72 l2b72 FP.dconst0 v107)) ∧ (¬ r104 = 0 → post 3 M105)) M101 l0b72 l1b72)) ∧ (¬ v102 ≤ 0 → post 0 M101)
def wp_Mo_give_60 (G ca : Nat → Nat) (post : Int32 → hM → Prop) (M : hM) (l0b60 : Nat) (l1b60 : Int32) (l2b60 : Int32) (l3b60 : Int32) (l4b60 : UInt64) (l6b60 : UInt64) (s0b60 : Nat) : Prop := wp_Mo_give_72 G ca post M l0b60 l1b60 l2b60 l3b60 l4b60 l6b60 1 s0b60
def wp_Mo_give_32 (G ca : Nat → Nat) (post : Int32 → hM → Prop) (M : hM) (l0b32 : Nat) (l1b32 : Int32) (l2b32 : Int32) (l3b32 : Int32) (l4b32 : UInt64) (l6b32 : UInt64) (s0b32 : Int32) : Prop := rC M l0b32 5 (wp_Mo_out G ca (fun r109 M110 => (¬ r109 = 0 → wp_Mo_give_60 G ca post M110 l0b32 l1b32 l2b32 l3b32 l4b32 l6b32 l0b32) ∧ (r109 = 0 → rC M110 l0b32 5 (wp_Mo_out G ca (fun r112 M113 => (¬ r112 = 0 → wp_Mo_give_60 G ca post M113 l0b32 l1b32 l2b32 l3b32 l4b32 l6b32 l0b32) ∧ (r112 = 0 → (s0b32 = 0 → rC M113 l0b32 5 (wp_Mo_check G ca (fun r116 M117 => wp_Mo_give_72 G ca post M117 l0b32 l1b32 l2b32 l3b32 l4b32 l6b32 r116 l0b32) M113 l0b32 l1b32 l2b32 0 4)) ∧ (¬ s0b32 = 0 → wp_Mo_give_60 G ca post M113 l0b32 l1b32 l2b32 l3b32 l4b32 l6b32 l0b32))) M110 l0b32 l2b32 8))) M l0b32 l1b32 6)
def wp_Mo_give_27 (G ca : Nat → Nat) (post : Int32 → hM → Prop) (M : hM) (l0b27 : Nat) (l1b27 : Int32) (l2b27 : Int32) (l3b27 : Int32) (l4b27 : UInt64) (l6b27 : UInt64) : Prop := wp_Mo_give_32 G ca post M l0b27 l1b27 l2b27 l3b27 l4b27 l6b27 1
def wp_Mo_give (G ca : Nat → Nat) (post : Int32 → hM → Prop) (M : hM) (a0 : Nat) (x1 : Int32) (x2 : Int32) (x3 : Int32) (x4 : UInt64) (x6 : UInt64) : Prop := ((Op.cmpValue (FP.dcmp x4 13875379345695965184) .l) < 0 → wp_Mo_give_27 G ca post M a0 x1 x2 x3 x4 x6) ∧ (¬ (Op.cmpValue (FP.dcmp x4 13875379345695965184) .l) < 0 → (0 < (Op.cmpValue (FP.dcmp x4 4652007308841189376) .g) → wp_Mo_give_27 G ca post M a0 x1 x2 x3 x4 x6) ∧ (¬ 0 < (Op.cmpValue (FP.dcmp x4 4652007308841189376) .g) → rC M a0 5 (wp_Mo_badLimit G ca (fun r120 M121 => (r120 = 0 → wp_Mo_give_32 G ca post M121 a0 x1 x2 x3 x4 x6 0) ∧ (¬ r120 = 0 → wp_Mo_give_27 G ca post M121 a0 x1 x2 x3 x4 x6)) M a0 x6)))
set_option maxHeartbeats 1000000 in
set_option maxRecDepth 20000 in
theorem l_Mo_give_265 {p : Program} {l : Launch} {e : Env} {s : State} {m : MethodId} {args : Array Value} {below : List Frame} {meth : Method} {c : Code} {D : va_G} {ca G : Nat → Nat} {A : Nat → Prop} (C0 : hC p s m args meth c D ca G prog_7_method_21_code 14 (some .int) "ChannelHallModel" A) {post : Int32 → hM → Prop} {M : hM} {H : Heap} {locs : List Loc} {ls : Array Slot} (l0b265 : Nat) (l1b265 : Int32) (l9b265 : Int32) (h : wp_Mo_give_265 G ca post M l0b265 l1b265 l9b265) (hW : hw D wCl A M H) (hS : va_S A s.heap H locs) (hl : lv_has ls 14 [(0, .ref l0b265), (1, .int l1b265), (9, .int l9b265)]) : W p l e rm_Mo_give s m args below meth c H locs 0 0 (MQ below (va_Qi post (fun M' t => hw D wCl A M' t.heap) A) args s 0 0 A) (F0 m 265 ls []) := by
  obtain ⟨hx, hb, hr, hml, hown, hts, hlocks, hK, hA, hZ0⟩ := id C0
  refine lv_aload_n hx hb d_Mo_give_265 rfl (lv_at hl 0 rfl) ?_
  refine lv_iload hx hb d_Mo_give_266 (lv_at hl 2 rfl) ?_
  obtain ⟨⟨fs, h1⟩, h⟩ := h
  have h9 := h
  clear h
  have hF := hW.free hS hA
  refine va_callv (va_runV (As := [.int l9b265]) (rest := []) ⟨hx, hb, hml, hown, hts⟩ (c_Mo_serve _ h9) (cwV 1 hts (gi_V bw_1118 bw_1120 bs_31 bw_5 bw_1121) rfl rfl rfl (by decide +kernel) ⟨Nat.le_of_ble_eq_true rfl, Nat.le_of_ble_eq_true rfl⟩) ⟨hI.blind, hw_recv hK hW h1 rfl, hI.give hW hS hA hK hZ0⟩ rfl rfl hl.1 rfl (lv_room (Nat.le_of_ble_eq_true rfl)) d_Mo_give_268 ⟨(show _ ≤ 0 by omega), (show _ ≤ 0 by omega)⟩) hS (fun q _ z => hF q z) hF (fun M62 t H locs ht _ h hB1 _ _ hS => ?_)
  have hW := hw_back hF ht hB1
  clear h9
  refine lv_aload_n hx hb d_Mo_give_271 rfl (lv_at hl 0 rfl) ?_
  refine lv_iload_n hx hb d_Mo_give_272 rfl (lv_at hl 1 rfl) ?_
  refine lv_iconst (v := 1) hx hb d_Mo_give_273 (by decide) ?_
  obtain ⟨⟨fs, h1⟩, h⟩ := h
  have h9 := h
  clear h
  have hF := hW.free hS hA
  refine va_calli (va_runV (As := [.int l1b265, .int 1]) (rest := []) ⟨hx, hb, hml, hown, hts⟩ (c_Mo_settle _ h9) (cwV 2 hts (gi_V bw_1098 bw_1100 bs_26 bw_5 bw_1101) rfl rfl rfl (by decide +kernel) ⟨Nat.le_of_ble_eq_true rfl, Nat.le_of_ble_eq_true rfl⟩) ⟨hI.blind, hw_recv hK hW h1 rfl, hI.give hW hS hA hK hZ0⟩ rfl rfl hl.1 rfl (lv_room (Nat.le_of_ble_eq_true rfl)) d_Mo_give_274 ⟨(show _ ≤ 0 by omega), (show _ ≤ 0 by omega)⟩) hS (fun q _ z => hF q z) hF (fun r63 M64 t H locs ht _ h hB1 _ _ hS => ?_)
  have hW := hw_back hF ht hB1
  clear h9
  exact W.iret hx hb hr (fun t ht hWm => ⟨⟨_, _, rfl, h, hw_t ht hW⟩, hS.F ht⟩) hS.2.2 d_Mo_give_277
set_option maxHeartbeats 1000000 in
set_option maxRecDepth 20000 in
theorem l_Mo_give_189 {p : Program} {l : Launch} {e : Env} {s : State} {m : MethodId} {args : Array Value} {below : List Frame} {meth : Method} {c : Code} {D : va_G} {ca G : Nat → Nat} {A : Nat → Prop} (C0 : hC p s m args meth c D ca G prog_7_method_21_code 14 (some .int) "ChannelHallModel" A) {post : Int32 → hM → Prop} {M : hM} {H : Heap} {locs : List Loc} {ls : Array Slot} (l0b189 : Nat) (l1b189 : Int32) (l3b189 : Int32) (l4b189 : UInt64) (l6b189 : UInt64) (l9b189 : Int32) (l10b189 : UInt64) (h : wp_Mo_give_189 G ca post M l0b189 l1b189 l3b189 l4b189 l6b189 l9b189 l10b189) (hW : hw D wCl A M H) (hS : va_S A s.heap H locs) (hl : lv_has ls 14 [(0, .ref l0b189), (1, .int l1b189), (3, .int l3b189), (4, .double l4b189), (6, .double l6b189), (9, .int l9b189), (10, .double l10b189)]) : W p l e rm_Mo_give s m args below meth c H locs 0 0 (MQ below (va_Qi post (fun M' t => hw D wCl A M' t.heap) A) args s 0 0 A) (F0 m 189 ls []) := by
  obtain ⟨hx, hb, hr, hml, hown, hts, hlocks, hK, hA, hZ0⟩ := id C0
  refine lv_aload_n hx hb d_Mo_give_189 rfl (lv_at hl 0 rfl) ?_
  obtain ⟨fs, v65, h1, h2, h⟩ := h
  refine va_get (D := D) (ci := 5) (v := va_rf v65) (C := "ChannelHallModel") (T := TMo) (N := 26) hx hb hts uMo hown hK (hw_one hW h1) 0 rfl rfl 8 (by decide) (hts _ bw_982) (fun _ h9 => h9) h2 d_Mo_give_190 ?_
  refine lv_iload_n hx hb d_Mo_give_193 rfl (lv_at hl 1 rfl) ?_
  refine lv_iload_n hx hb d_Mo_give_194 rfl (lv_at hl 2 rfl) ?_
  obtain ⟨b66, rfl, h⟩ := h
  obtain ⟨n, f, h1, h2, h⟩ := h
  obtain ⟨ws, q0, hq, hP, hD, hback, -⟩ := hw_open hW h1
  refine va_iast hx hb hK hP hD hS q0 5 hq rfl h2 d_Mo_give_195 (fun H locs hP hD hS => ?_)
  have hW := hback _ _ hP hD
  generalize hM2 : va_up M b66 _ = M67 at h hW
  refine lv_aload_n hx hb d_Mo_give_196 rfl (lv_at hl 0 rfl) ?_
  obtain ⟨fs, v68, h1, h2, h⟩ := h
  refine va_get (D := D) (ci := 5) (v := va_rf v68) (C := "ChannelHallModel") (T := TMo) (N := 26) hx hb hts uMo hown hK (hw_one hW h1) 0 rfl rfl 9 (by decide) (hts _ bw_983) (fun _ h9 => h9) h2 d_Mo_give_197 ?_
  refine lv_iload_n hx hb d_Mo_give_200 rfl (lv_at hl 1 rfl) ?_
  refine lv_dload hx hb d_Mo_give_201 (lv_at hl 3 rfl) ?_
  obtain ⟨b69, rfl, h⟩ := h
  obtain ⟨n, f, h1, h2, h⟩ := h
  obtain ⟨ws, q0, hq, hP, hD, hback, -⟩ := hw_open hW h1
  refine va_dast hx hb hK hP hD hS q0 4 hq rfl h2 d_Mo_give_203 (fun H locs hP hD hS => ?_)
  have hW := hback _ _ hP hD
  generalize hM2 : va_up M67 b69 _ = M70 at h hW
  refine lv_aload_n hx hb d_Mo_give_204 rfl (lv_at hl 0 rfl) ?_
  obtain ⟨fs, v71, h1, h2, h⟩ := h
  refine va_get (D := D) (ci := 5) (v := va_rf v71) (C := "ChannelHallModel") (T := TMo) (N := 26) hx hb hts uMo hown hK (hw_one hW h1) 0 rfl rfl 10 (by decide) (hts _ bw_984) (fun _ h9 => h9) h2 d_Mo_give_205 ?_
  refine lv_iload_n hx hb d_Mo_give_208 rfl (lv_at hl 1 rfl) ?_
  refine lv_dload hx hb d_Mo_give_209 (lv_at hl 6 rfl) ?_
  obtain ⟨b72, rfl, h⟩ := h
  obtain ⟨n, f, h1, h2, h⟩ := h
  obtain ⟨ws, q0, hq, hP, hD, hback, -⟩ := hw_open hW h1
  refine va_dast hx hb hK hP hD hS q0 4 hq rfl h2 d_Mo_give_211 (fun H locs hP hD hS => ?_)
  have hW := hback _ _ hP hD
  generalize hM2 : va_up M70 b72 _ = M73 at h hW
  refine lv_aload_n hx hb d_Mo_give_212 rfl (lv_at hl 0 rfl) ?_
  refine lv_iload_n hx hb d_Mo_give_213 rfl (lv_at hl 1 rfl) ?_
  refine lv_iload hx hb d_Mo_give_214 (lv_at hl 5 rfl) ?_
  refine lv_iconst (v := 0) hx hb d_Mo_give_216 (by decide) ?_
  refine lv_dload hx hb d_Mo_give_217 (lv_at hl 4 rfl) ?_
  obtain ⟨⟨fs, h1⟩, h⟩ := h
  have h9 := h
  clear h
  have hF := hW.free hS hA
  refine va_calli (va_runV (As := [.int l1b189, .int l9b189, .int 0, .double l6b189]) (rest := []) ⟨hx, hb, hml, hown, hts⟩ (c_Mo_waitAt _ h9) (cwV 4 hts (gi_V bw_1094 bw_1096 bs_25 bw_5 bw_1097) rfl rfl rfl (by decide +kernel) ⟨Nat.le_of_ble_eq_true rfl, Nat.le_of_ble_eq_true rfl⟩) ⟨hI.blind, hw_recv hK hW h1 rfl, hI.give hW hS hA hK hZ0⟩ rfl rfl hl.1 rfl (lv_room (Nat.le_of_ble_eq_true rfl)) d_Mo_give_219 ⟨(show _ ≤ 0 by omega), (show _ ≤ 0 by omega)⟩) hS (fun q _ z => hF q z) hF (fun r74 M75 t H locs ht _ h hB1 _ _ hS => ?_)
  have hW := hw_back hF ht hB1
  clear h9
  exact W.iret hx hb hr (fun t ht hWm => ⟨⟨_, _, rfl, h, hw_t ht hW⟩, hS.F ht⟩) hS.2.2 d_Mo_give_222
set_option maxHeartbeats 1000000 in
set_option maxRecDepth 20000 in
theorem l_Mo_give_172 {p : Program} {l : Launch} {e : Env} {s : State} {m : MethodId} {args : Array Value} {below : List Frame} {meth : Method} {c : Code} {D : va_G} {ca G : Nat → Nat} {A : Nat → Prop} (C0 : hC p s m args meth c D ca G prog_7_method_21_code 14 (some .int) "ChannelHallModel" A) {post : Int32 → hM → Prop} {M : hM} {H : Heap} {locs : List Loc} {ls : Array Slot} (l0b172 : Nat) (l1b172 : Int32) (l3b172 : Int32) (l4b172 : UInt64) (l6b172 : UInt64) (l9b172 : Int32) (l10b172 : UInt64) (l12b172 : Int32) (s0b172 : Int32) (h : wp_Mo_give_172 G ca post M l0b172 l1b172 l3b172 l4b172 l6b172 l9b172 l10b172 l12b172 s0b172) (hW : hw D wCl A M H) (hS : va_S A s.heap H locs) (hl : lv_has ls 14 [(0, .ref l0b172), (1, .int l1b172), (3, .int l3b172), (4, .double l4b172), (6, .double l6b172), (9, .int l9b172), (10, .double l10b172), (12, .int l12b172)]) : W p l e rm_Mo_give s m args below meth c H locs 0 0 (MQ below (va_Qi post (fun M' t => hw D wCl A M' t.heap) A) args s 0 0 A) (F0 m 172 ls [.int s0b172]) := by
  obtain ⟨hx, hb, hr, hml, hown, hts, hlocks, hK, hA, hZ0⟩ := id C0
  refine lv_istore (lv' := [(13, .int s0b172), (0, .ref l0b172), (1, .int l1b172), (3, .int l3b172), (4, .double l4b172), (6, .double l6b172), (9, .int l9b172), (10, .double l10b172), (12, .int l12b172)]) hx hb d_Mo_give_172 hl (by decide) rfl (fun ls hl => ?_)
  refine lv_aload_n hx hb d_Mo_give_174 rfl (lv_at hl 1 rfl) ?_
  refine lv_iload hx hb d_Mo_give_175 (lv_at hl 6 rfl) ?_
  refine lv_iconst (v := 0) hx hb d_Mo_give_177 (by decide) ?_
  obtain ⟨⟨fs, h1⟩, h⟩ := h
  have h9 := h
  clear h
  have hF := hW.free hS hA
  refine va_calli (va_runV (As := [.int l9b172, .int 0]) (rest := []) ⟨hx, hb, hml, hown, hts⟩ (c_Mo_first _ h9) (cwV 2 hts (gi_V bw_1090 bw_1092 bs_24 bw_5 bw_1093) rfl rfl rfl (by decide +kernel) ⟨Nat.le_of_ble_eq_true rfl, Nat.le_of_ble_eq_true rfl⟩) ⟨hI.blind, hw_recv hK hW h1 rfl, hI.give hW hS hA hK hZ0⟩ rfl rfl hl.1 rfl (lv_room (Nat.le_of_ble_eq_true rfl)) d_Mo_give_178 ⟨(show _ ≤ 0 by omega), (show _ ≤ 0 by omega)⟩) hS (fun q _ z => hF q z) hF (fun r76 M77 t H locs ht _ h hB1 _ _ hS => ?_)
  have hW := hw_back hF ht hB1
  clear h9
  obtain ⟨h0, h1⟩ := h
  refine lv_if_ge (tgt := 189) hx hb d_Mo_give_181 (by decide) (fun c78 => ?_) (fun c78 => ?_)
  · have h := h0 c78
    exact l_Mo_give_189 C0 l0b172 l1b172 l3b172 l4b172 l6b172 l9b172 l10b172 h hW hS (lv_sub hl [1, 2, 3, 4, 5, 6, 7] rfl)
  · have h := h1 c78
    refine lv_iload hx hb d_Mo_give_184 (lv_at hl 0 rfl) ?_
    obtain ⟨h0, h1⟩ := h
    refine lv_if_ne (tgt := 223) hx hb d_Mo_give_186 (by decide) (fun c79 => ?_) (fun c79 => ?_)
    · have h := h0 c79
      refine lv_aload_n hx hb d_Mo_give_223 rfl (lv_at hl 1 rfl) ?_
      obtain ⟨fs, v80, h1, h2, h⟩ := h
      refine va_get (D := D) (ci := 5) (v := va_rf v80) (C := "ChannelHallModel") (T := TMo) (N := 26) hx hb hts uMo hown hK (hw_one hW h1) 0 rfl rfl 13 (by decide) (hts _ bw_987) (fun _ h9 => h9) h2 d_Mo_give_224 ?_
      refine lv_iload hx hb d_Mo_give_227 (lv_at hl 6 rfl) ?_
      obtain ⟨b81, rfl, h⟩ := h
      obtain ⟨n, f, h1, h2, h⟩ := h
      refine va_iald hx hb hK (hw_one hW h1) 0 5 rfl rfl h2 d_Mo_give_229 ?_
      generalize f (l9b172).toNatClampNeg = v82 at h ⊢
      refine lv_iconst (v := 2) hx hb d_Mo_give_230 (by decide) ?_
      obtain ⟨h0, h1⟩ := h
      refine lv_icmp_ne (tgt := 254) hx hb d_Mo_give_231 (by decide) (fun c83 => ?_) (fun c83 => ?_)
      · have h := h0 c83
        refine lv_aload_n hx hb d_Mo_give_254 rfl (lv_at hl 1 rfl) ?_
        refine lv_iload hx hb d_Mo_give_255 (lv_at hl 6 rfl) ?_
        refine lv_iload_n hx hb d_Mo_give_257 rfl (lv_at hl 3 rfl) ?_
        refine lv_dload hx hb d_Mo_give_258 (lv_at hl 4 rfl) ?_
        refine lv_dload hx hb d_Mo_give_260 (lv_at hl 7 rfl) ?_
        obtain ⟨⟨fs, h1⟩, h⟩ := h
        have h9 := h
        clear h
        have hF := hW.free hS hA
        refine va_callv (va_runV (As := [.int l9b172, .int l3b172, .double l4b172, .double l10b172]) (rest := []) ⟨hx, hb, hml, hown, hts⟩ (c_Mo_lay _ h9) (cwV 4 hts (gi_V bw_1110 bw_1112 bs_29 bw_5 bw_1113) rfl rfl rfl (by decide +kernel) ⟨Nat.le_of_ble_eq_true rfl, Nat.le_of_ble_eq_true rfl⟩) ⟨hI.blind, hw_recv hK hW h1 rfl, hI.give hW hS hA hK hZ0⟩ rfl rfl hl.1 rfl (lv_room (Nat.le_of_ble_eq_true rfl)) d_Mo_give_262 ⟨(show _ ≤ 0 by omega), (show _ ≤ 0 by omega)⟩) hS (fun q _ z => hF q z) hF (fun M84 t H locs ht _ h hB1 _ _ hS => ?_)
        have hW := hw_back hF ht hB1
        clear h9
        exact l_Mo_give_265 C0 l0b172 l1b172 l9b172 h hW hS (lv_sub hl [1, 2, 6] rfl)
      · have h := h1 c83
        refine lv_aload_n hx hb d_Mo_give_234 rfl (lv_at hl 1 rfl) ?_
        refine lv_iload hx hb d_Mo_give_235 (lv_at hl 8 rfl) ?_
        refine lv_iload hx hb d_Mo_give_237 (lv_at hl 6 rfl) ?_
        refine lv_iload_n hx hb d_Mo_give_239 rfl (lv_at hl 3 rfl) ?_
        refine lv_dconst0 hx hb d_Mo_give_240 ?_
        obtain ⟨⟨fs, h1⟩, h⟩ := h
        have h9 := h
        clear h
        have hF := hW.free hS hA
        refine va_callv (va_runV (As := [.int l12b172, .int l9b172, .int l3b172, .double FP.dconst0]) (rest := []) ⟨hx, hb, hml, hown, hts⟩ (c_Mo_obtain _ h9) (cwV 4 hts (gi_V bw_1102 bw_1104 bs_27 bw_5 bw_1105) rfl rfl rfl (by decide +kernel) ⟨Nat.le_of_ble_eq_true rfl, Nat.le_of_ble_eq_true rfl⟩) ⟨hI.blind, hw_recv hK hW h1 rfl, hI.give hW hS hA hK hZ0⟩ rfl rfl hl.1 rfl (lv_room (Nat.le_of_ble_eq_true rfl)) d_Mo_give_241 ⟨(show _ ≤ 0 by omega), (show _ ≤ 0 by omega)⟩) hS (fun q _ z => hF q z) hF (fun M85 t H locs ht _ h hB1 _ _ hS => ?_)
        have hW := hw_back hF ht hB1
        clear h9
        refine lv_aload_n hx hb d_Mo_give_244 rfl (lv_at hl 1 rfl) ?_
        refine lv_iload hx hb d_Mo_give_245 (lv_at hl 8 rfl) ?_
        refine lv_iconst (v := 1) hx hb d_Mo_give_247 (by decide) ?_
        obtain ⟨⟨fs, h1⟩, h⟩ := h
        have h9 := h
        clear h
        have hF := hW.free hS hA
        refine va_callv (va_runV (As := [.int l12b172, .int 1]) (rest := []) ⟨hx, hb, hml, hown, hts⟩ (c_Mo_free _ h9) (cwV 2 hts (gi_V bw_1106 bw_1108 bs_28 bw_5 bw_1109) rfl rfl rfl (by decide +kernel) ⟨Nat.le_of_ble_eq_true rfl, Nat.le_of_ble_eq_true rfl⟩) ⟨hI.blind, hw_recv hK hW h1 rfl, hI.give hW hS hA hK hZ0⟩ rfl rfl hl.1 rfl (lv_room (Nat.le_of_ble_eq_true rfl)) d_Mo_give_248 ⟨(show _ ≤ 0 by omega), (show _ ≤ 0 by omega)⟩) hS (fun q _ z => hF q z) hF (fun M86 t H locs ht _ h hB1 _ _ hS => ?_)
        have hW := hw_back hF ht hB1
        clear h9
        refine lv_goto (tgt := 265) hx hb d_Mo_give_251 (by decide) ?_
        exact l_Mo_give_265 C0 l0b172 l1b172 l9b172 h hW hS (lv_sub hl [1, 2, 6] rfl)
    · have h := h1 c79
      exact l_Mo_give_189 C0 l0b172 l1b172 l3b172 l4b172 l6b172 l9b172 l10b172 h hW hS (lv_sub hl [1, 2, 3, 4, 5, 6, 7] rfl)
set_option maxHeartbeats 1000000 in
set_option maxRecDepth 20000 in
theorem l_Mo_give_114 {p : Program} {l : Launch} {e : Env} {s : State} {m : MethodId} {args : Array Value} {below : List Frame} {meth : Method} {c : Code} {D : va_G} {ca G : Nat → Nat} {A : Nat → Prop} (C0 : hC p s m args meth c D ca G prog_7_method_21_code 14 (some .int) "ChannelHallModel" A) {post : Int32 → hM → Prop} {M : hM} {H : Heap} {locs : List Loc} {ls : Array Slot} (l0b114 : Nat) (l1b114 : Int32) (l3b114 : Int32) (l4b114 : UInt64) (l6b114 : UInt64) (l9b114 : Int32) (s0b114 : UInt64) (s1b114 : UInt64) (h : wp_Mo_give_114 G ca post M l0b114 l1b114 l3b114 l4b114 l6b114 l9b114 s0b114 s1b114) (hW : hw D wCl A M H) (hS : va_S A s.heap H locs) (hl : lv_has ls 14 [(0, .ref l0b114), (1, .int l1b114), (3, .int l3b114), (4, .double l4b114), (6, .double l6b114), (9, .int l9b114)]) : W p l e rm_Mo_give s m args below meth c H locs 0 0 (MQ below (va_Qi post (fun M' t => hw D wCl A M' t.heap) A) args s 0 0 A) (F0 m 114 ls [.double s0b114, .double s1b114]) := by
  obtain ⟨hx, hb, hr, hml, hown, hts, hlocks, hK, hA, hZ0⟩ := id C0
  obtain ⟨hn, h⟩ := h
  refine lv_dadd hx hb d_Mo_give_114 hn ?_
  refine lv_dstore (lv' := [(10, .double (FP.dadd s1b114 s0b114)), (0, .ref l0b114), (1, .int l1b114), (3, .int l3b114), (4, .double l4b114), (6, .double l6b114), (9, .int l9b114)]) hx hb d_Mo_give_115 hl (by decide) rfl (fun ls hl => ?_)
  refine lv_aload_n hx hb d_Mo_give_117 rfl (lv_at hl 1 rfl) ?_
  refine lv_iload hx hb d_Mo_give_118 (lv_at hl 6 rfl) ?_
  refine lv_iconst (v := 1) hx hb d_Mo_give_120 (by decide) ?_
  obtain ⟨⟨fs, h1⟩, h⟩ := h
  have h9 := h
  clear h
  have hF := hW.free hS hA
  refine va_calli (va_runV (As := [.int l9b114, .int 1]) (rest := []) ⟨hx, hb, hml, hown, hts⟩ (c_Mo_first _ h9) (cwV 2 hts (gi_V bw_1090 bw_1092 bs_24 bw_5 bw_1093) rfl rfl rfl (by decide +kernel) ⟨Nat.le_of_ble_eq_true rfl, Nat.le_of_ble_eq_true rfl⟩) ⟨hI.blind, hw_recv hK hW h1 rfl, hI.give hW hS hA hK hZ0⟩ rfl rfl hl.1 rfl (lv_room (Nat.le_of_ble_eq_true rfl)) d_Mo_give_121 ⟨(show _ ≤ 0 by omega), (show _ ≤ 0 by omega)⟩) hS (fun q _ z => hF q z) hF (fun r87 M88 t H locs ht _ h hB1 _ _ hS => ?_)
  have hW := hw_back hF ht hB1
  clear h9
  refine lv_istore (lv' := [(12, .int r87), (10, .double (FP.dadd s1b114 s0b114)), (0, .ref l0b114), (1, .int l1b114), (3, .int l3b114), (4, .double l4b114), (6, .double l6b114), (9, .int l9b114)]) hx hb d_Mo_give_124 hl (by decide) rfl (fun ls hl => ?_)
  refine lv_aload_n hx hb d_Mo_give_126 rfl (lv_at hl 2 rfl) ?_
  obtain ⟨fs, v89, h1, h2, h⟩ := h
  refine va_get (D := D) (ci := 5) (v := va_rf v89) (C := "ChannelHallModel") (T := TMo) (N := 26) hx hb hts uMo hown hK (hw_one hW h1) 0 rfl rfl 13 (by decide) (hts _ bw_987) (fun _ h9 => h9) h2 d_Mo_give_127 ?_
  refine lv_iload hx hb d_Mo_give_130 (lv_at hl 7 rfl) ?_
  obtain ⟨b90, rfl, h⟩ := h
  obtain ⟨n, f, h1, h2, h⟩ := h
  refine va_iald hx hb hK (hw_one hW h1) 0 5 rfl rfl h2 d_Mo_give_132 ?_
  generalize f (l9b114).toNatClampNeg = v91 at h ⊢
  refine lv_iconst (v := 2) hx hb d_Mo_give_133 (by decide) ?_
  obtain ⟨h0, h1⟩ := h
  refine lv_icmp_ne (tgt := 150) hx hb d_Mo_give_134 (by decide) (fun c92 => ?_) (fun c92 => ?_)
  · have h := h0 c92
    refine lv_aload_n hx hb d_Mo_give_150 rfl (lv_at hl 2 rfl) ?_
    obtain ⟨fs, v93, h1, h2, h⟩ := h
    refine va_get (D := D) (ci := 5) (v := va_rf v93) (C := "ChannelHallModel") (T := TMo) (N := 26) hx hb hts uMo hown hK (hw_one hW h1) 0 rfl rfl 23 (by decide) (hts _ bw_997) (fun _ h9 => h9) h2 d_Mo_give_151 ?_
    refine lv_iload hx hb d_Mo_give_154 (lv_at hl 7 rfl) ?_
    obtain ⟨b94, rfl, h⟩ := h
    obtain ⟨n, f, h1, h2, h⟩ := h
    refine va_iald hx hb hK (hw_one hW h1) 0 5 rfl rfl h2 d_Mo_give_156 ?_
    generalize f (l9b114).toNatClampNeg = v95 at h ⊢
    refine lv_aload_n hx hb d_Mo_give_157 rfl (lv_at hl 2 rfl) ?_
    obtain ⟨fs, v96, h1, h2, h⟩ := h
    refine va_get (D := D) (ci := 5) (v := va_rf v96) (C := "ChannelHallModel") (T := TMo) (N := 26) hx hb hts uMo hown hK (hw_one hW h1) 0 rfl rfl 14 (by decide) (hts _ bw_988) (fun _ h9 => h9) h2 d_Mo_give_158 ?_
    refine lv_iload hx hb d_Mo_give_161 (lv_at hl 7 rfl) ?_
    obtain ⟨b97, rfl, h⟩ := h
    obtain ⟨n, f, h1, h2, h⟩ := h
    refine va_iald hx hb hK (hw_one hW h1) 0 5 rfl rfl h2 d_Mo_give_163 ?_
    generalize f (l9b114).toNatClampNeg = v98 at h ⊢
    obtain ⟨h0, h1⟩ := h
    refine lv_icmp_ge (tgt := 171) hx hb d_Mo_give_164 (by decide) (fun c99 => ?_) (fun c99 => ?_)
    · have h := h0 c99
      refine lv_iconst (v := 0) hx hb d_Mo_give_171 (by decide) ?_
      exact l_Mo_give_172 C0 l0b114 l1b114 l3b114 l4b114 l6b114 l9b114 (FP.dadd s1b114 s0b114) r87 0 h hW hS (lv_sub hl [2, 3, 4, 5, 6, 7, 1, 0] rfl)
    · have h := h1 c99
      refine lv_iconst (v := 1) hx hb d_Mo_give_167 (by decide) ?_
      refine lv_goto (tgt := 172) hx hb d_Mo_give_168 (by decide) ?_
      exact l_Mo_give_172 C0 l0b114 l1b114 l3b114 l4b114 l6b114 l9b114 (FP.dadd s1b114 s0b114) r87 1 h hW hS (lv_sub hl [2, 3, 4, 5, 6, 7, 1, 0] rfl)
  · have h := h1 c92
    refine lv_iload hx hb d_Mo_give_137 (lv_at hl 0 rfl) ?_
    obtain ⟨h0, h1⟩ := h
    refine lv_if_lt (tgt := 146) hx hb d_Mo_give_139 (by decide) (fun c100 => ?_) (fun c100 => ?_)
    · have h := h0 c100
      refine lv_iconst (v := 0) hx hb d_Mo_give_146 (by decide) ?_
      refine lv_goto (tgt := 172) hx hb d_Mo_give_147 (by decide) ?_
      exact l_Mo_give_172 C0 l0b114 l1b114 l3b114 l4b114 l6b114 l9b114 (FP.dadd s1b114 s0b114) r87 0 h hW hS (lv_sub hl [2, 3, 4, 5, 6, 7, 1, 0] rfl)
    · have h := h1 c100
      refine lv_iconst (v := 1) hx hb d_Mo_give_142 (by decide) ?_
      refine lv_goto (tgt := 172) hx hb d_Mo_give_143 (by decide) ?_
      exact l_Mo_give_172 C0 l0b114 l1b114 l3b114 l4b114 l6b114 l9b114 (FP.dadd s1b114 s0b114) r87 1 h hW hS (lv_sub hl [2, 3, 4, 5, 6, 7, 1, 0] rfl)
set_option maxHeartbeats 1000000 in
set_option maxRecDepth 20000 in
theorem l_Mo_give_72 {p : Program} {l : Launch} {e : Env} {s : State} {m : MethodId} {args : Array Value} {below : List Frame} {meth : Method} {c : Code} {D : va_G} {ca G : Nat → Nat} {A : Nat → Prop} (C0 : hC p s m args meth c D ca G prog_7_method_21_code 14 (some .int) "ChannelHallModel" A) {post : Int32 → hM → Prop} {M : hM} {H : Heap} {locs : List Loc} {ls : Array Slot} (l0b72 : Nat) (l1b72 : Int32) (l2b72 : Int32) (l3b72 : Int32) (l4b72 : UInt64) (l6b72 : UInt64) (s0b72 : Int32) (s1b72 : Nat) (h : wp_Mo_give_72 G ca post M l0b72 l1b72 l2b72 l3b72 l4b72 l6b72 s0b72 s1b72) (hW : hw D wCl A M H) (hS : va_S A s.heap H locs) (hl : lv_has ls 14 [(0, .ref l0b72), (1, .int l1b72), (2, .int l2b72), (3, .int l3b72), (4, .double l4b72), (6, .double l6b72)]) : W p l e rm_Mo_give s m args below meth c H locs 0 0 (MQ below (va_Qi post (fun M' t => hw D wCl A M' t.heap) A) args s 0 0 A) (F0 m 72 ls [.int s0b72, .ref s1b72]) := by
  obtain ⟨hx, hb, hr, hml, hown, hts, hlocks, hK, hA, hZ0⟩ := id C0
  obtain ⟨fs, h1, h2, h⟩ := h
  obtain ⟨ws, q0, hq, hP, hD, hback, -⟩ := hw_open hW h1
  refine va_put (D := D) (ci := 5) (v := .int s0b72) (ty := .int) (C := "ChannelHallModel") (T := TMo) (N := 26) hx hb hts uMo tMo tMo_ok nMo hown hK hP hD hS q0 hq rfl 0 (by decide) (hts _ bw_974) (fun _ h9 => h9) rfl (by decide +kernel) rfl rfl h2 d_Mo_give_72 (fun H locs hP hD hS => ?_)
  have hW := hback _ _ hP hD
  generalize (va_up M s1b72 (some (.inr (5, fs.set 0 (.int s0b72))))) = M101 at h hW
  refine lv_aload_n hx hb d_Mo_give_75 rfl (lv_at hl 0 rfl) ?_
  obtain ⟨fs, v102, h1, h2, h⟩ := h
  refine va_get (D := D) (ci := 5) (v := .int v102) (C := "ChannelHallModel") (T := TMo) (N := 26) hx hb hts uMo hown hK (hw_one hW h1) 0 rfl rfl 0 (by decide) (hts _ bw_974) (fun _ h9 => h9) h2 d_Mo_give_76 ?_
  obtain ⟨h0, h1⟩ := h
  refine lv_if_le (tgt := 84) hx hb d_Mo_give_79 (by decide) (fun c103 => ?_) (fun c103 => ?_)
  · have h := h0 c103
    refine lv_aload_n hx hb d_Mo_give_84 rfl (lv_at hl 0 rfl) ?_
    refine lv_iload_n hx hb d_Mo_give_85 rfl (lv_at hl 1 rfl) ?_
    obtain ⟨⟨fs, h1⟩, h⟩ := h
    have h9 := h
    clear h
    have hF := hW.free hS hA
    refine va_calli (va_runV (As := [.int l1b72]) (rest := []) ⟨hx, hb, hml, hown, hts⟩ (c_Mo_flagged _ h9) (cwV 1 hts (gi_V bw_1086 bw_1088 bs_23 bw_5 bw_1089) rfl rfl rfl (by decide +kernel) ⟨Nat.le_of_ble_eq_true rfl, Nat.le_of_ble_eq_true rfl⟩) ⟨hI.blind, hw_recv hK hW h1 rfl, hI.give hW hS hA hK hZ0⟩ rfl rfl hl.1 rfl (lv_room (Nat.le_of_ble_eq_true rfl)) d_Mo_give_86 ⟨(show _ ≤ 0 by omega), (show _ ≤ 0 by omega)⟩) hS (fun q _ z => hF q z) hF (fun r104 M105 t H locs ht _ h hB1 _ _ hS => ?_)
    have hW := hw_back hF ht hB1
    clear h9
    obtain ⟨h0, h1⟩ := h
    refine lv_if_eq (tgt := 94) hx hb d_Mo_give_89 (by decide) (fun c106 => ?_) (fun c106 => ?_)
    · have h := h0 c106
      refine lv_iload_n hx hb d_Mo_give_94 rfl (lv_at hl 2 rfl) ?_
      refine lv_istore (lv' := [(9, .int l2b72), (0, .ref l0b72), (1, .int l1b72), (2, .int l2b72), (3, .int l3b72), (4, .double l4b72), (6, .double l6b72)]) hx hb d_Mo_give_95 hl (by decide) rfl (fun ls hl => ?_)
      refine lv_aload_n hx hb d_Mo_give_97 rfl (lv_at hl 1 rfl) ?_
      obtain ⟨fs, v107, h1, h2, h⟩ := h
      refine va_get (D := D) (ci := 5) (v := .double v107) (C := "ChannelHallModel") (T := TMo) (N := 26) hx hb hts uMo hown hK (hw_one hW h1) 0 rfl rfl 12 (by decide) (hts _ bw_986) (fun _ h9 => h9) h2 d_Mo_give_98 ?_
      refine lv_dload hx hb d_Mo_give_101 (lv_at hl 5 rfl) ?_
      refine lv_dconst0 hx hb d_Mo_give_103 ?_
      refine lv_dcmp hx hb d_Mo_give_104 ?_
      obtain ⟨h0, h1⟩ := h
      refine lv_if_ge (tgt := 112) hx hb d_Mo_give_105 (by decide) (fun c108 => ?_) (fun c108 => ?_)
      · have h := h0 c108
        refine lv_dload hx hb d_Mo_give_112 (lv_at hl 5 rfl) ?_
        exact l_Mo_give_114 C0 l0b72 l1b72 l3b72 l4b72 l6b72 l2b72 l4b72 v107 h hW hS (lv_sub hl [1, 2, 4, 5, 6, 0] rfl)
      · have h := h1 c108
        refine lv_dconst0 hx hb d_Mo_give_108 ?_
        refine lv_goto (tgt := 114) hx hb d_Mo_give_109 (by decide) ?_
        exact l_Mo_give_114 C0 l0b72 l1b72 l3b72 l4b72 l6b72 l2b72 FP.dconst0 v107 h hW hS (lv_sub hl [1, 2, 4, 5, 6, 0] rfl)
    · have h := h1 c106
      refine lv_iconst (v := 3) hx hb d_Mo_give_92 (by decide) ?_
      exact W.iret hx hb hr (fun t ht hWm => ⟨⟨_, _, rfl, h, hw_t ht hW⟩, hS.F ht⟩) hS.2.2 d_Mo_give_93
  · have h := h1 c103
    refine lv_iconst (v := 0) hx hb d_Mo_give_82 (by decide) ?_
    exact W.iret hx hb hr (fun t ht hWm => ⟨⟨_, _, rfl, h, hw_t ht hW⟩, hS.F ht⟩) hS.2.2 d_Mo_give_83
set_option maxHeartbeats 1000000 in
set_option maxRecDepth 20000 in
theorem l_Mo_give_60 {p : Program} {l : Launch} {e : Env} {s : State} {m : MethodId} {args : Array Value} {below : List Frame} {meth : Method} {c : Code} {D : va_G} {ca G : Nat → Nat} {A : Nat → Prop} (C0 : hC p s m args meth c D ca G prog_7_method_21_code 14 (some .int) "ChannelHallModel" A) {post : Int32 → hM → Prop} {M : hM} {H : Heap} {locs : List Loc} {ls : Array Slot} (l0b60 : Nat) (l1b60 : Int32) (l2b60 : Int32) (l3b60 : Int32) (l4b60 : UInt64) (l6b60 : UInt64) (s0b60 : Nat) (h : wp_Mo_give_60 G ca post M l0b60 l1b60 l2b60 l3b60 l4b60 l6b60 s0b60) (hW : hw D wCl A M H) (hS : va_S A s.heap H locs) (hl : lv_has ls 14 [(0, .ref l0b60), (1, .int l1b60), (2, .int l2b60), (3, .int l3b60), (4, .double l4b60), (6, .double l6b60)]) : W p l e rm_Mo_give s m args below meth c H locs 0 0 (MQ below (va_Qi post (fun M' t => hw D wCl A M' t.heap) A) args s 0 0 A) (F0 m 60 ls [.ref s0b60]) := by
  obtain ⟨hx, hb, hr, hml, hown, hts, hlocks, hK, hA, hZ0⟩ := id C0
  refine lv_iconst (v := 1) hx hb d_Mo_give_60 (by decide) ?_
  refine lv_goto (tgt := 72) hx hb d_Mo_give_61 (by decide) ?_
  exact l_Mo_give_72 C0 l0b60 l1b60 l2b60 l3b60 l4b60 l6b60 1 s0b60 h hW hS (lv_sub hl [0, 1, 2, 3, 4, 5] rfl)
set_option maxHeartbeats 1000000 in
set_option maxRecDepth 20000 in
theorem l_Mo_give_32 {p : Program} {l : Launch} {e : Env} {s : State} {m : MethodId} {args : Array Value} {below : List Frame} {meth : Method} {c : Code} {D : va_G} {ca G : Nat → Nat} {A : Nat → Prop} (C0 : hC p s m args meth c D ca G prog_7_method_21_code 14 (some .int) "ChannelHallModel" A) {post : Int32 → hM → Prop} {M : hM} {H : Heap} {locs : List Loc} {ls : Array Slot} (l0b32 : Nat) (l1b32 : Int32) (l2b32 : Int32) (l3b32 : Int32) (l4b32 : UInt64) (l6b32 : UInt64) (s0b32 : Int32) (h : wp_Mo_give_32 G ca post M l0b32 l1b32 l2b32 l3b32 l4b32 l6b32 s0b32) (hW : hw D wCl A M H) (hS : va_S A s.heap H locs) (hl : lv_has ls 14 [(0, .ref l0b32), (1, .int l1b32), (2, .int l2b32), (3, .int l3b32), (4, .double l4b32), (6, .double l6b32)]) : W p l e rm_Mo_give s m args below meth c H locs 0 0 (MQ below (va_Qi post (fun M' t => hw D wCl A M' t.heap) A) args s 0 0 A) (F0 m 32 ls [.int s0b32]) := by
  obtain ⟨hx, hb, hr, hml, hown, hts, hlocks, hK, hA, hZ0⟩ := id C0
  refine lv_istore (lv' := [(8, .int s0b32), (0, .ref l0b32), (1, .int l1b32), (2, .int l2b32), (3, .int l3b32), (4, .double l4b32), (6, .double l6b32)]) hx hb d_Mo_give_32 hl (by decide) rfl (fun ls hl => ?_)
  refine lv_aload_n hx hb d_Mo_give_34 rfl (lv_at hl 1 rfl) ?_
  refine lv_aload_n hx hb d_Mo_give_35 rfl (lv_at hl 1 rfl) ?_
  refine lv_iload_n hx hb d_Mo_give_36 rfl (lv_at hl 2 rfl) ?_
  refine lv_bipush (v := 6) hx hb d_Mo_give_37 (by decide) ?_
  obtain ⟨⟨fs, h1⟩, h⟩ := h
  have h9 := h
  clear h
  have hF := hW.free hS hA
  refine va_calli (va_runV (As := [.int l1b32, .int 6]) (rest := [.ref l0b32]) ⟨hx, hb, hml, hown, hts⟩ (c_Mo_out _ h9) (cwV 2 hts (gi_V bw_1064 bw_1066 bs_19 bw_5 bw_1067) rfl rfl rfl (by decide +kernel) ⟨Nat.le_of_ble_eq_true rfl, Nat.le_of_ble_eq_true rfl⟩) ⟨hI.blind, hw_recv hK hW h1 rfl, hI.give hW hS hA hK hZ0⟩ rfl rfl hl.1 rfl (lv_room (Nat.le_of_ble_eq_true rfl)) d_Mo_give_39 ⟨(show _ ≤ 0 by omega), (show _ ≤ 0 by omega)⟩) hS (fun q _ z => hF q z) hF (fun r109 M110 t H locs ht _ h hB1 _ _ hS => ?_)
  have hW := hw_back hF ht hB1
  clear h9
  obtain ⟨h0, h1⟩ := h
  refine lv_if_ne (tgt := 60) hx hb d_Mo_give_42 (by decide) (fun c111 => ?_) (fun c111 => ?_)
  · have h := h0 c111
    exact l_Mo_give_60 C0 l0b32 l1b32 l2b32 l3b32 l4b32 l6b32 l0b32 h hW hS (lv_sub hl [1, 2, 3, 4, 5, 6] rfl)
  · have h := h1 c111
    refine lv_aload_n hx hb d_Mo_give_45 rfl (lv_at hl 1 rfl) ?_
    refine lv_iload_n hx hb d_Mo_give_46 rfl (lv_at hl 3 rfl) ?_
    refine lv_bipush (v := 8) hx hb d_Mo_give_47 (by decide) ?_
    obtain ⟨⟨fs, h1⟩, h⟩ := h
    have h9 := h
    clear h
    have hF := hW.free hS hA
    refine va_calli (va_runV (As := [.int l2b32, .int 8]) (rest := [.ref l0b32]) ⟨hx, hb, hml, hown, hts⟩ (c_Mo_out _ h9) (cwV 2 hts (gi_V bw_1064 bw_1066 bs_19 bw_5 bw_1067) rfl rfl rfl (by decide +kernel) ⟨Nat.le_of_ble_eq_true rfl, Nat.le_of_ble_eq_true rfl⟩) ⟨hI.blind, hw_recv hK hW h1 rfl, hI.give hW hS hA hK hZ0⟩ rfl rfl hl.1 rfl (lv_room (Nat.le_of_ble_eq_true rfl)) d_Mo_give_49 ⟨(show _ ≤ 0 by omega), (show _ ≤ 0 by omega)⟩) hS (fun q _ z => hF q z) hF (fun r112 M113 t H locs ht _ h hB1 _ _ hS => ?_)
    have hW := hw_back hF ht hB1
    clear h9
    obtain ⟨h0, h1⟩ := h
    refine lv_if_ne (tgt := 60) hx hb d_Mo_give_52 (by decide) (fun c114 => ?_) (fun c114 => ?_)
    · have h := h0 c114
      exact l_Mo_give_60 C0 l0b32 l1b32 l2b32 l3b32 l4b32 l6b32 l0b32 h hW hS (lv_sub hl [1, 2, 3, 4, 5, 6] rfl)
    · have h := h1 c114
      refine lv_iload hx hb d_Mo_give_55 (lv_at hl 0 rfl) ?_
      obtain ⟨h0, h1⟩ := h
      refine lv_if_eq (tgt := 64) hx hb d_Mo_give_57 (by decide) (fun c115 => ?_) (fun c115 => ?_)
      · have h := h0 c115
        refine lv_aload_n hx hb d_Mo_give_64 rfl (lv_at hl 1 rfl) ?_
        refine lv_iload_n hx hb d_Mo_give_65 rfl (lv_at hl 2 rfl) ?_
        refine lv_iload_n hx hb d_Mo_give_66 rfl (lv_at hl 3 rfl) ?_
        refine lv_iconst (v := 0) hx hb d_Mo_give_67 (by decide) ?_
        refine lv_iconst (v := 4) hx hb d_Mo_give_68 (by decide) ?_
        obtain ⟨⟨fs, h1⟩, h⟩ := h
        have h9 := h
        clear h
        have hF := hW.free hS hA
        refine va_calli (va_runV (As := [.int l1b32, .int l2b32, .int 0, .int 4]) (rest := [.ref l0b32]) ⟨hx, hb, hml, hown, hts⟩ (c_Mo_check _ h9) (cwV 4 hts (gi_V bw_1082 bw_1084 bs_22 bw_5 bw_1085) rfl rfl rfl (by decide +kernel) ⟨Nat.le_of_ble_eq_true rfl, Nat.le_of_ble_eq_true rfl⟩) ⟨hI.blind, hw_recv hK hW h1 rfl, hI.give hW hS hA hK hZ0⟩ rfl rfl hl.1 rfl (lv_room (Nat.le_of_ble_eq_true rfl)) d_Mo_give_69 ⟨(show _ ≤ 0 by omega), (show _ ≤ 0 by omega)⟩) hS (fun q _ z => hF q z) hF (fun r116 M117 t H locs ht _ h hB1 _ _ hS => ?_)
        have hW := hw_back hF ht hB1
        clear h9
        exact l_Mo_give_72 C0 l0b32 l1b32 l2b32 l3b32 l4b32 l6b32 r116 l0b32 h hW hS (lv_sub hl [1, 2, 3, 4, 5, 6] rfl)
      · have h := h1 c115
        exact l_Mo_give_60 C0 l0b32 l1b32 l2b32 l3b32 l4b32 l6b32 l0b32 h hW hS (lv_sub hl [1, 2, 3, 4, 5, 6] rfl)
set_option maxHeartbeats 1000000 in
set_option maxRecDepth 20000 in
theorem l_Mo_give_27 {p : Program} {l : Launch} {e : Env} {s : State} {m : MethodId} {args : Array Value} {below : List Frame} {meth : Method} {c : Code} {D : va_G} {ca G : Nat → Nat} {A : Nat → Prop} (C0 : hC p s m args meth c D ca G prog_7_method_21_code 14 (some .int) "ChannelHallModel" A) {post : Int32 → hM → Prop} {M : hM} {H : Heap} {locs : List Loc} {ls : Array Slot} (l0b27 : Nat) (l1b27 : Int32) (l2b27 : Int32) (l3b27 : Int32) (l4b27 : UInt64) (l6b27 : UInt64) (h : wp_Mo_give_27 G ca post M l0b27 l1b27 l2b27 l3b27 l4b27 l6b27) (hW : hw D wCl A M H) (hS : va_S A s.heap H locs) (hl : lv_has ls 14 [(0, .ref l0b27), (1, .int l1b27), (2, .int l2b27), (3, .int l3b27), (4, .double l4b27), (6, .double l6b27)]) : W p l e rm_Mo_give s m args below meth c H locs 0 0 (MQ below (va_Qi post (fun M' t => hw D wCl A M' t.heap) A) args s 0 0 A) (F0 m 27 ls []) := by
  obtain ⟨hx, hb, hr, hml, hown, hts, hlocks, hK, hA, hZ0⟩ := id C0
  refine lv_iconst (v := 1) hx hb d_Mo_give_27 (by decide) ?_
  refine lv_goto (tgt := 32) hx hb d_Mo_give_28 (by decide) ?_
  exact l_Mo_give_32 C0 l0b27 l1b27 l2b27 l3b27 l4b27 l6b27 1 h hW hS (lv_sub hl [0, 1, 2, 3, 4, 5] rfl)
set_option maxHeartbeats 1000000 in
set_option maxRecDepth 20000 in
theorem l_Mo_give_e {p : Program} {l : Launch} {e : Env} {s : State} {m : MethodId} {args : Array Value} {below : List Frame} {meth : Method} {c : Code} {D : va_G} {ca G : Nat → Nat} {A : Nat → Prop} (C0 : hC p s m args meth c D ca G prog_7_method_21_code 14 (some .int) "ChannelHallModel" A) {post : Int32 → hM → Prop} {M : hM} {H : Heap} {locs : List Loc} {ls : Array Slot} (a0 : Nat) (x1 : Int32) (x2 : Int32) (x3 : Int32) (x4 : UInt64) (x6 : UInt64) (h : wp_Mo_give G ca post M a0 x1 x2 x3 x4 x6) (hW : hw D wCl A M H) (hS : va_S A s.heap H locs) (hl : lv_has ls 14 [(0, .ref a0), (1, .int x1), (2, .int x2), (3, .int x3), (4, .double x4), (6, .double x6)]) : W p l e rm_Mo_give s m args below meth c H locs 0 0 (MQ below (va_Qi post (fun M' t => hw D wCl A M' t.heap) A) args s 0 0 A) (F0 m 0 ls []) := by
  obtain ⟨hx, hb, hr, hml, hown, hts, hlocks, hK, hA, hZ0⟩ := id C0
  refine lv_dload hx hb d_Mo_give_0 (lv_at hl 4 rfl) ?_
  refine lv_ldc2d (v := 13875379345695965184) hx hb hown (hts _ bw_1076) d_Mo_give_2 ?_
  refine lv_dcmp hx hb d_Mo_give_5 ?_
  obtain ⟨h0, h1⟩ := h
  refine lv_if_lt (tgt := 27) hx hb d_Mo_give_6 (by decide) (fun c118 => ?_) (fun c118 => ?_)
  · have h := h0 c118
    exact l_Mo_give_27 C0 a0 x1 x2 x3 x4 x6 h hW hS (lv_sub hl [0, 1, 2, 3, 4, 5] rfl)
  · have h := h1 c118
    refine lv_dload hx hb d_Mo_give_9 (lv_at hl 4 rfl) ?_
    refine lv_ldc2d (v := 4652007308841189376) hx hb hown (hts _ bw_1077) d_Mo_give_11 ?_
    refine lv_dcmp hx hb d_Mo_give_14 ?_
    obtain ⟨h0, h1⟩ := h
    refine lv_if_gt (tgt := 27) hx hb d_Mo_give_15 (by decide) (fun c119 => ?_) (fun c119 => ?_)
    · have h := h0 c119
      exact l_Mo_give_27 C0 a0 x1 x2 x3 x4 x6 h hW hS (lv_sub hl [0, 1, 2, 3, 4, 5] rfl)
    · have h := h1 c119
      refine lv_aload_n hx hb d_Mo_give_18 rfl (lv_at hl 0 rfl) ?_
      refine lv_dload hx hb d_Mo_give_19 (lv_at hl 5 rfl) ?_
      obtain ⟨⟨fs, h1⟩, h⟩ := h
      have h9 := h
      clear h
      have hF := hW.free hS hA
      refine va_calli (va_runV (As := [.double x6]) (rest := []) ⟨hx, hb, hml, hown, hts⟩ (c_Mo_badLimit _ h9) (cwV 1 hts (gi_V bw_1078 bw_1080 bs_21 bw_5 bw_1081) rfl rfl rfl (by decide +kernel) ⟨Nat.le_of_ble_eq_true rfl, Nat.le_of_ble_eq_true rfl⟩) ⟨hI.blind, hw_recv hK hW h1 rfl, hI.give hW hS hA hK hZ0⟩ rfl rfl hl.1 rfl (lv_room (Nat.le_of_ble_eq_true rfl)) d_Mo_give_21 ⟨(show _ ≤ 0 by omega), (show _ ≤ 0 by omega)⟩) hS (fun q _ z => hF q z) hF (fun r120 M121 t H locs ht _ h hB1 _ _ hS => ?_)
      have hW := hw_back hF ht hB1
      clear h9
      obtain ⟨h0, h1⟩ := h
      refine lv_if_eq (tgt := 31) hx hb d_Mo_give_24 (by decide) (fun c122 => ?_) (fun c122 => ?_)
      · have h := h0 c122
        refine lv_iconst (v := 0) hx hb d_Mo_give_31 (by decide) ?_
        exact l_Mo_give_32 C0 a0 x1 x2 x3 x4 x6 0 h hW hS (lv_sub hl [0, 1, 2, 3, 4, 5] rfl)
      · have h := h1 c122
        exact l_Mo_give_27 C0 a0 x1 x2 x3 x4 x6 h hW hS (lv_sub hl [0, 1, 2, 3, 4, 5] rfl)
set_option maxRecDepth 20000 in
theorem c_Mo_give {l : Launch} {D : va_G} {ca G : Nat → Nat} (post : Int32 → hM → Prop) {M : hM} {sz : Nat} {a0 : Nat} {x1 : Int32} {x2 : Int32} {x3 : Int32} {x4 : UInt64} {x6 : UInt64} (h : wp_Mo_give G ca post M a0 x1 x2 x3 x4 x6) : Met l y_Mo_give (wz y_Mo_give prog_7_method_21_code 14 (some .int)) rm_Mo_give (va_Pc [.ref a0, .int x1, .int x2, .int x3, .double x4, .double x6] (hI D ca G sz M)) (va_Qi post (hB D M sz) (hp_A M sz)) 0 0 (hp_A M sz) := by
  refine Met.ofW (cc := prog_7_method_21_code) (maxL := 14) (ret := some .int) (by decide) rfl ?_
  intro p e s m args below meth c s₁ B hml hv
  obtain ⟨rfl, hsz, hW, hK, hZ0⟩ := hv
  have hts := fun w hw => atoms_spec (ws := wz y_Mo_give prog_7_method_21_code 14 (some .int)) B.pre w (List.mem_cons_of_mem _ hw)
  have hown : s.vm.findClass "ChannelHallModel" = some m.cls := findClass_of_methodNamed B.named
  subst hsz
  have hl := lv_entry [.ref a0, .int x1, .int x2, .int x3, .double x4, .double x6] (n := 14) (Nat.le_of_ble_eq_true rfl)
  rw [lg_entry_eq]
  exact l_Mo_give_e ⟨B.exec, B.bytes, B.returns, hml, hown, hts, B.notSynchronized, hK, fun q h => Or.inr h, hZ0⟩ a0 x1 x2 x3 x4 x6 h hW va_S.rf hl

theorem d_Mo_take_0 : decode prog_7_method_22_code 0 = .ok (.aload_n 0, 1) := by decide +kernel
theorem d_Mo_take_1 : decode prog_7_method_22_code 1 = .ok (.aload_n 0, 1) := by decide +kernel
theorem d_Mo_take_2 : decode prog_7_method_22_code 2 = .ok (.iload_n 1, 1) := by decide +kernel
theorem d_Mo_take_3 : decode prog_7_method_22_code 3 = .ok (.bipush 6, 2) := by decide +kernel
theorem d_Mo_take_5 : decode prog_7_method_22_code 5 = .ok (.invokevirtual 90, 3) := by decide +kernel
theorem d_Mo_take_8 : decode prog_7_method_22_code 8 = .ok (.ifCond .ne 21, 3) := by decide +kernel
theorem d_Mo_take_11 : decode prog_7_method_22_code 11 = .ok (.aload_n 0, 1) := by decide +kernel
theorem d_Mo_take_12 : decode prog_7_method_22_code 12 = .ok (.iload_n 2, 1) := by decide +kernel
theorem d_Mo_take_13 : decode prog_7_method_22_code 13 = .ok (.bipush 8, 2) := by decide +kernel
theorem d_Mo_take_15 : decode prog_7_method_22_code 15 = .ok (.invokevirtual 90, 3) := by decide +kernel
theorem d_Mo_take_18 : decode prog_7_method_22_code 18 = .ok (.ifCond .ne 11, 3) := by decide +kernel
theorem d_Mo_take_21 : decode prog_7_method_22_code 21 = .ok (.aload_n 0, 1) := by decide +kernel
theorem d_Mo_take_22 : decode prog_7_method_22_code 22 = .ok (.dload_n 3, 1) := by decide +kernel
theorem d_Mo_take_23 : decode prog_7_method_22_code 23 = .ok (.invokevirtual 142, 3) := by decide +kernel
theorem d_Mo_take_26 : decode prog_7_method_22_code 26 = .ok (.ifCond .eq 7, 3) := by decide +kernel
theorem d_Mo_take_29 : decode prog_7_method_22_code 29 = .ok (.iconst 1, 1) := by decide +kernel
theorem d_Mo_take_30 : decode prog_7_method_22_code 30 = .ok (.goto 11, 3) := by decide +kernel
theorem d_Mo_take_33 : decode prog_7_method_22_code 33 = .ok (.aload_n 0, 1) := by decide +kernel
theorem d_Mo_take_34 : decode prog_7_method_22_code 34 = .ok (.iload_n 1, 1) := by decide +kernel
theorem d_Mo_take_35 : decode prog_7_method_22_code 35 = .ok (.iload_n 2, 1) := by decide +kernel
theorem d_Mo_take_36 : decode prog_7_method_22_code 36 = .ok (.iconst 0, 1) := by decide +kernel
theorem d_Mo_take_37 : decode prog_7_method_22_code 37 = .ok (.iconst 4, 1) := by decide +kernel
theorem d_Mo_take_38 : decode prog_7_method_22_code 38 = .ok (.invokevirtual 146, 3) := by decide +kernel
theorem d_Mo_take_41 : decode prog_7_method_22_code 41 = .ok (.putfield 86, 3) := by decide +kernel
theorem d_Mo_take_44 : decode prog_7_method_22_code 44 = .ok (.aload_n 0, 1) := by decide +kernel
theorem d_Mo_take_45 : decode prog_7_method_22_code 45 = .ok (.getfield 86, 3) := by decide +kernel
theorem d_Mo_take_48 : decode prog_7_method_22_code 48 = .ok (.ifCond .le 5, 3) := by decide +kernel
theorem d_Mo_take_51 : decode prog_7_method_22_code 51 = .ok (.iconst 0, 1) := by decide +kernel
theorem d_Mo_take_52 : decode prog_7_method_22_code 52 = .ok (.ireturn, 1) := by decide +kernel
theorem d_Mo_take_53 : decode prog_7_method_22_code 53 = .ok (.aload_n 0, 1) := by decide +kernel
theorem d_Mo_take_54 : decode prog_7_method_22_code 54 = .ok (.iload_n 1, 1) := by decide +kernel
theorem d_Mo_take_55 : decode prog_7_method_22_code 55 = .ok (.invokevirtual 150, 3) := by decide +kernel
theorem d_Mo_take_58 : decode prog_7_method_22_code 58 = .ok (.ifCond .eq 5, 3) := by decide +kernel
theorem d_Mo_take_61 : decode prog_7_method_22_code 61 = .ok (.iconst 3, 1) := by decide +kernel
theorem d_Mo_take_62 : decode prog_7_method_22_code 62 = .ok (.ireturn, 1) := by decide +kernel
theorem d_Mo_take_63 : decode prog_7_method_22_code 63 = .ok (.iload_n 2, 1) := by decide +kernel
theorem d_Mo_take_64 : decode prog_7_method_22_code 64 = .ok (.istore 5, 2) := by decide +kernel
theorem d_Mo_take_66 : decode prog_7_method_22_code 66 = .ok (.aload_n 0, 1) := by decide +kernel
theorem d_Mo_take_67 : decode prog_7_method_22_code 67 = .ok (.iload 5, 2) := by decide +kernel
theorem d_Mo_take_69 : decode prog_7_method_22_code 69 = .ok (.iconst 0, 1) := by decide +kernel
theorem d_Mo_take_70 : decode prog_7_method_22_code 70 = .ok (.invokevirtual 124, 3) := by decide +kernel
theorem d_Mo_take_73 : decode prog_7_method_22_code 73 = .ok (.istore 6, 2) := by decide +kernel
theorem d_Mo_take_75 : decode prog_7_method_22_code 75 = .ok (.aload_n 0, 1) := by decide +kernel
theorem d_Mo_take_76 : decode prog_7_method_22_code 76 = .ok (.getfield 45, 3) := by decide +kernel
theorem d_Mo_take_79 : decode prog_7_method_22_code 79 = .ok (.iload 5, 2) := by decide +kernel
theorem d_Mo_take_81 : decode prog_7_method_22_code 81 = .ok (.iaload, 1) := by decide +kernel
theorem d_Mo_take_82 : decode prog_7_method_22_code 82 = .ok (.iconst 2, 1) := by decide +kernel
theorem d_Mo_take_83 : decode prog_7_method_22_code 83 = .ok (.if_icmp .ne 16, 3) := by decide +kernel
theorem d_Mo_take_86 : decode prog_7_method_22_code 86 = .ok (.iload 6, 2) := by decide +kernel
theorem d_Mo_take_88 : decode prog_7_method_22_code 88 = .ok (.ifCond .lt 7, 3) := by decide +kernel
theorem d_Mo_take_91 : decode prog_7_method_22_code 91 = .ok (.iconst 1, 1) := by decide +kernel
theorem d_Mo_take_92 : decode prog_7_method_22_code 92 = .ok (.goto 13, 3) := by decide +kernel
theorem d_Mo_take_95 : decode prog_7_method_22_code 95 = .ok (.iconst 0, 1) := by decide +kernel
theorem d_Mo_take_96 : decode prog_7_method_22_code 96 = .ok (.goto 9, 3) := by decide +kernel
theorem d_Mo_take_99 : decode prog_7_method_22_code 99 = .ok (.aload_n 0, 1) := by decide +kernel
theorem d_Mo_take_100 : decode prog_7_method_22_code 100 = .ok (.iload 5, 2) := by decide +kernel
theorem d_Mo_take_102 : decode prog_7_method_22_code 102 = .ok (.invokevirtual 127, 3) := by decide +kernel
theorem d_Mo_take_105 : decode prog_7_method_22_code 105 = .ok (.istore 7, 2) := by decide +kernel
theorem d_Mo_take_107 : decode prog_7_method_22_code 107 = .ok (.aload_n 0, 1) := by decide +kernel
theorem d_Mo_take_108 : decode prog_7_method_22_code 108 = .ok (.iload 5, 2) := by decide +kernel
theorem d_Mo_take_110 : decode prog_7_method_22_code 110 = .ok (.iconst 1, 1) := by decide +kernel
theorem d_Mo_take_111 : decode prog_7_method_22_code 111 = .ok (.invokevirtual 124, 3) := by decide +kernel
theorem d_Mo_take_114 : decode prog_7_method_22_code 114 = .ok (.ifCond .ge 8, 3) := by decide +kernel
theorem d_Mo_take_117 : decode prog_7_method_22_code 117 = .ok (.iload 7, 2) := by decide +kernel
theorem d_Mo_take_119 : decode prog_7_method_22_code 119 = .ok (.ifCond .ne 13, 3) := by decide +kernel
theorem d_Mo_take_122 : decode prog_7_method_22_code 122 = .ok (.aload_n 0, 1) := by decide +kernel
theorem d_Mo_take_123 : decode prog_7_method_22_code 123 = .ok (.iload_n 1, 1) := by decide +kernel
theorem d_Mo_take_124 : decode prog_7_method_22_code 124 = .ok (.iload 5, 2) := by decide +kernel
theorem d_Mo_take_126 : decode prog_7_method_22_code 126 = .ok (.iconst 1, 1) := by decide +kernel
theorem d_Mo_take_127 : decode prog_7_method_22_code 127 = .ok (.dload_n 3, 1) := by decide +kernel
theorem d_Mo_take_128 : decode prog_7_method_22_code 128 = .ok (.invokevirtual 153, 3) := by decide +kernel
theorem d_Mo_take_131 : decode prog_7_method_22_code 131 = .ok (.ireturn, 1) := by decide +kernel
theorem d_Mo_take_132 : decode prog_7_method_22_code 132 = .ok (.aload_n 0, 1) := by decide +kernel
theorem d_Mo_take_133 : decode prog_7_method_22_code 133 = .ok (.getfield 45, 3) := by decide +kernel
theorem d_Mo_take_136 : decode prog_7_method_22_code 136 = .ok (.iload 5, 2) := by decide +kernel
theorem d_Mo_take_138 : decode prog_7_method_22_code 138 = .ok (.iaload, 1) := by decide +kernel
theorem d_Mo_take_139 : decode prog_7_method_22_code 139 = .ok (.iconst 2, 1) := by decide +kernel
theorem d_Mo_take_140 : decode prog_7_method_22_code 140 = .ok (.if_icmp .ne 28, 3) := by decide +kernel
theorem d_Mo_take_143 : decode prog_7_method_22_code 143 = .ok (.aload_n 0, 1) := by decide +kernel
theorem d_Mo_take_144 : decode prog_7_method_22_code 144 = .ok (.iload_n 1, 1) := by decide +kernel
theorem d_Mo_take_145 : decode prog_7_method_22_code 145 = .ok (.iload 5, 2) := by decide +kernel
theorem d_Mo_take_147 : decode prog_7_method_22_code 147 = .ok (.aload_n 0, 1) := by decide +kernel
theorem d_Mo_take_148 : decode prog_7_method_22_code 148 = .ok (.getfield 32, 3) := by decide +kernel
theorem d_Mo_take_151 : decode prog_7_method_22_code 151 = .ok (.iload 6, 2) := by decide +kernel
theorem d_Mo_take_153 : decode prog_7_method_22_code 153 = .ok (.iaload, 1) := by decide +kernel
theorem d_Mo_take_154 : decode prog_7_method_22_code 154 = .ok (.dconst 0, 1) := by decide +kernel
theorem d_Mo_take_155 : decode prog_7_method_22_code 155 = .ok (.invokevirtual 120, 3) := by decide +kernel
theorem d_Mo_take_158 : decode prog_7_method_22_code 158 = .ok (.aload_n 0, 1) := by decide +kernel
theorem d_Mo_take_159 : decode prog_7_method_22_code 159 = .ok (.iload 6, 2) := by decide +kernel
theorem d_Mo_take_161 : decode prog_7_method_22_code 161 = .ok (.iconst 1, 1) := by decide +kernel
theorem d_Mo_take_162 : decode prog_7_method_22_code 162 = .ok (.invokevirtual 106, 3) := by decide +kernel
theorem d_Mo_take_165 : decode prog_7_method_22_code 165 = .ok (.goto 10, 3) := by decide +kernel
theorem d_Mo_take_168 : decode prog_7_method_22_code 168 = .ok (.aload_n 0, 1) := by decide +kernel
theorem d_Mo_take_169 : decode prog_7_method_22_code 169 = .ok (.iload_n 1, 1) := by decide +kernel
theorem d_Mo_take_170 : decode prog_7_method_22_code 170 = .ok (.iload 5, 2) := by decide +kernel
theorem d_Mo_take_172 : decode prog_7_method_22_code 172 = .ok (.invokevirtual 131, 3) := by decide +kernel
theorem d_Mo_take_175 : decode prog_7_method_22_code 175 = .ok (.aload_n 0, 1) := by decide +kernel
theorem d_Mo_take_176 : decode prog_7_method_22_code 176 = .ok (.iload 5, 2) := by decide +kernel
theorem d_Mo_take_178 : decode prog_7_method_22_code 178 = .ok (.invokevirtual 113, 3) := by decide +kernel
theorem d_Mo_take_181 : decode prog_7_method_22_code 181 = .ok (.aload_n 0, 1) := by decide +kernel
theorem d_Mo_take_182 : decode prog_7_method_22_code 182 = .ok (.iload_n 1, 1) := by decide +kernel
theorem d_Mo_take_183 : decode prog_7_method_22_code 183 = .ok (.iconst 1, 1) := by decide +kernel
theorem d_Mo_take_184 : decode prog_7_method_22_code 184 = .ok (.invokevirtual 98, 3) := by decide +kernel
theorem d_Mo_take_187 : decode prog_7_method_22_code 187 = .ok (.ireturn, 1) := by decide +kernel
def y_Mo_take : MethodName := ⟨"ChannelHallModel", "take", "(IID)I"⟩
abbrev rm_Mo_take : Room := { frames := 3, cells := 0, slots := 0, locals := 74 }
def wp_Mo_take_175 (G ca : Nat → Nat) (post : Int32 → hM → Prop) (M : hM) (l0b175 : Nat) (l1b175 : Int32) (l5b175 : Int32) : Prop := rC M l0b175 5 (wp_Mo_serve G ca (fun M46 => rC M46 l0b175 5 (wp_Mo_settle G ca (fun r47 M48 => post r47 M48) M46 l0b175 l1b175 1)) M l0b175 l5b175)
def wp_Mo_take_122 (G ca : Nat → Nat) (post : Int32 → hM → Prop) (M : hM) (l0b122 : Nat) (l1b122 : Int32) (l3b122 : UInt64) (l5b122 : Int32) : Prop := rC M l0b122 5 (wp_Mo_waitAt G ca (fun r49 M50 => post r49 M50) M l0b122 l1b122 l5b122 1 l3b122)
def wp_Mo_take_105 (G ca : Nat → Nat) (post : Int32 → hM → Prop) (M : hM) (l0b105 : Nat) (l1b105 : Int32) (l3b105 : UInt64) (l5b105 : Int32) (l6b105 : Int32) (s0b105 : Int32) : Prop := rC M l0b105 5 (wp_Mo_first G ca (fun r51 M52 => (0 ≤ r51 → wp_Mo_take_122 G ca post M52 l0b105 l1b105 l3b105 l5b105) ∧ (¬ 0 ≤ r51 → (¬ s0b105 = 0 → gR M52 l0b105 5 13 fun v55 => nN v55 fun b56 => aI M52 b56 (ca 5) l5b105 fun v57 => (¬ v57 = 2 → rC M52 l0b105 5 (wp_Mo_takeFirst G ca (fun M59 => wp_Mo_take_175 G ca post M59 l0b105 l1b105 l5b105) M52 l0b105 l1b105 l5b105)) ∧ (v57 = 2 → gR M52 l0b105 5 8 fun v60 => nN v60 fun b61 => aI M52 b61 (ca 5) l6b105 fun v62 => rC M52 l0b105 5 (wp_Mo_obtain G ca (fun M63 => rC M63 l0b105 5 (wp_Mo_free G ca (fun M64 => wp_Mo_take_175 G ca post M64 l0b105 l1b105 l5b105) M63 l0b105 l6b105 1)) M52 l0b105 l1b105 l5b105 v62 FP.dconst0))) ∧ (s0b105 = 0 → wp_Mo_take_122 G ca post M52 l0b105 l1b105 l3b105 l5b105))) M l0b105 l5b105 1)
def wp_Mo_take_41 (G ca : Nat → Nat) (post : Int32 → hM → Prop) (M : hM) (l0b41 : Nat) (l1b41 : Int32) (l2b41 : Int32) (l3b41 : UInt64) (s0b41 : Int32) (s1b41 : Nat) : Prop := pF M s1b41 5 0 (.int s0b41) fun M65 => gI M65 l0b41 5 0 fun v66 => (v66 ≤ 0 → rC M65 l0b41 5 (wp_Mo_flagged G ca (fun r68 M69 => (r68 = 0 → rC M69 l0b41 5 (wp_Mo_first G ca (fun r71 M72 => gR M72 l0b41 5 13 fun v73 => nN v73 fun b74 => aI M72 b74 (ca 5) l2b41 fun v75 => (¬ v75 = 2 → rC M72 l0b41 5 (wp_Mo_ready G ca (fun r77 M78 => wp_Mo_take_105 G ca post M78 l0b41 l1b41 l3b41 l2b41 r71 r77) M72 l0b41 l2b41)) ∧ (v75 = 2 → (r71 < 0 → wp_Mo_take_105 G ca post M72 l0b41 l1b41 l3b41 l2b41 r71 0) ∧ (¬ r71 < 0 → wp_Mo_take_105 G ca post M72 l0b41 l1b41 l3b41 l2b41 r71 1))) M69 l0b41 l2b41 0)) ∧ (¬ r68 = 0 → post 3 M69)) M65 l0b41 l1b41)) ∧ (¬ v66 ≤ 0 → post 0 M65)
def wp_Mo_take_29 (G ca : Nat → Nat) (post : Int32 → hM → Prop) (M : hM) (l0b29 : Nat) (l1b29 : Int32) (l2b29 : Int32) (l3b29 : UInt64) (s0b29 : Nat) : Prop := wp_Mo_take_41 G ca post M l0b29 l1b29 l2b29 l3b29 1 s0b29
def wp_Mo_take (G ca : Nat → Nat) (post : Int32 → hM → Prop) (M : hM) (a0 : Nat) (x1 : Int32) (x2 : Int32) (x3 : UInt64) : Prop := rC M a0 5 (wp_Mo_out G ca (fun r80 M81 => (¬ r80 = 0 → wp_Mo_take_29 G ca post M81 a0 x1 x2 x3 a0) ∧ (r80 = 0 → rC M81 a0 5 (wp_Mo_out G ca (fun r83 M84 => (¬ r83 = 0 → wp_Mo_take_29 G ca post M84 a0 x1 x2 x3 a0) ∧ (r83 = 0 → rC M84 a0 5 (wp_Mo_badLimit G ca (fun r86 M87 => (r86 = 0 → rC M87 a0 5 (wp_Mo_check G ca (fun r89 M90 => wp_Mo_take_41 G ca post M90 a0 x1 x2 x3 r89 a0) M87 a0 x1 x2 0 4)) ∧ (¬ r86 = 0 → wp_Mo_take_29 G ca post M87 a0 x1 x2 x3 a0)) M84 a0 x3))) M81 a0 x2 8))) M a0 x1 6)
set_option maxHeartbeats 1000000 in
set_option maxRecDepth 20000 in
theorem l_Mo_take_175 {p : Program} {l : Launch} {e : Env} {s : State} {m : MethodId} {args : Array Value} {below : List Frame} {meth : Method} {c : Code} {D : va_G} {ca G : Nat → Nat} {A : Nat → Prop} (C0 : hC p s m args meth c D ca G prog_7_method_22_code 8 (some .int) "ChannelHallModel" A) {post : Int32 → hM → Prop} {M : hM} {H : Heap} {locs : List Loc} {ls : Array Slot} (l0b175 : Nat) (l1b175 : Int32) (l5b175 : Int32) (h : wp_Mo_take_175 G ca post M l0b175 l1b175 l5b175) (hW : hw D wCl A M H) (hS : va_S A s.heap H locs) (hl : lv_has ls 8 [(0, .ref l0b175), (1, .int l1b175), (5, .int l5b175)]) : W p l e rm_Mo_take s m args below meth c H locs 0 0 (MQ below (va_Qi post (fun M' t => hw D wCl A M' t.heap) A) args s 0 0 A) (F0 m 175 ls []) := by
  obtain ⟨hx, hb, hr, hml, hown, hts, hlocks, hK, hA, hZ0⟩ := id C0
  refine lv_aload_n hx hb d_Mo_take_175 rfl (lv_at hl 0 rfl) ?_
  refine lv_iload hx hb d_Mo_take_176 (lv_at hl 2 rfl) ?_
  obtain ⟨⟨fs, h1⟩, h⟩ := h
  have h9 := h
  clear h
  have hF := hW.free hS hA
  refine va_callv (va_runV (As := [.int l5b175]) (rest := []) ⟨hx, hb, hml, hown, hts⟩ (c_Mo_serve _ h9) (cwV 1 hts (gi_V bw_1118 bw_1120 bs_31 bw_5 bw_1121) rfl rfl rfl (by decide +kernel) ⟨Nat.le_of_ble_eq_true rfl, Nat.le_of_ble_eq_true rfl⟩) ⟨hI.blind, hw_recv hK hW h1 rfl, hI.give hW hS hA hK hZ0⟩ rfl rfl hl.1 rfl (lv_room (Nat.le_of_ble_eq_true rfl)) d_Mo_take_178 ⟨(show _ ≤ 0 by omega), (show _ ≤ 0 by omega)⟩) hS (fun q _ z => hF q z) hF (fun M46 t H locs ht _ h hB1 _ _ hS => ?_)
  have hW := hw_back hF ht hB1
  clear h9
  refine lv_aload_n hx hb d_Mo_take_181 rfl (lv_at hl 0 rfl) ?_
  refine lv_iload_n hx hb d_Mo_take_182 rfl (lv_at hl 1 rfl) ?_
  refine lv_iconst (v := 1) hx hb d_Mo_take_183 (by decide) ?_
  obtain ⟨⟨fs, h1⟩, h⟩ := h
  have h9 := h
  clear h
  have hF := hW.free hS hA
  refine va_calli (va_runV (As := [.int l1b175, .int 1]) (rest := []) ⟨hx, hb, hml, hown, hts⟩ (c_Mo_settle _ h9) (cwV 2 hts (gi_V bw_1098 bw_1100 bs_26 bw_5 bw_1101) rfl rfl rfl (by decide +kernel) ⟨Nat.le_of_ble_eq_true rfl, Nat.le_of_ble_eq_true rfl⟩) ⟨hI.blind, hw_recv hK hW h1 rfl, hI.give hW hS hA hK hZ0⟩ rfl rfl hl.1 rfl (lv_room (Nat.le_of_ble_eq_true rfl)) d_Mo_take_184 ⟨(show _ ≤ 0 by omega), (show _ ≤ 0 by omega)⟩) hS (fun q _ z => hF q z) hF (fun r47 M48 t H locs ht _ h hB1 _ _ hS => ?_)
  have hW := hw_back hF ht hB1
  clear h9
  exact W.iret hx hb hr (fun t ht hWm => ⟨⟨_, _, rfl, h, hw_t ht hW⟩, hS.F ht⟩) hS.2.2 d_Mo_take_187
set_option maxHeartbeats 1000000 in
set_option maxRecDepth 20000 in
theorem l_Mo_take_122 {p : Program} {l : Launch} {e : Env} {s : State} {m : MethodId} {args : Array Value} {below : List Frame} {meth : Method} {c : Code} {D : va_G} {ca G : Nat → Nat} {A : Nat → Prop} (C0 : hC p s m args meth c D ca G prog_7_method_22_code 8 (some .int) "ChannelHallModel" A) {post : Int32 → hM → Prop} {M : hM} {H : Heap} {locs : List Loc} {ls : Array Slot} (l0b122 : Nat) (l1b122 : Int32) (l3b122 : UInt64) (l5b122 : Int32) (h : wp_Mo_take_122 G ca post M l0b122 l1b122 l3b122 l5b122) (hW : hw D wCl A M H) (hS : va_S A s.heap H locs) (hl : lv_has ls 8 [(0, .ref l0b122), (1, .int l1b122), (3, .double l3b122), (5, .int l5b122)]) : W p l e rm_Mo_take s m args below meth c H locs 0 0 (MQ below (va_Qi post (fun M' t => hw D wCl A M' t.heap) A) args s 0 0 A) (F0 m 122 ls []) := by
  obtain ⟨hx, hb, hr, hml, hown, hts, hlocks, hK, hA, hZ0⟩ := id C0
  refine lv_aload_n hx hb d_Mo_take_122 rfl (lv_at hl 0 rfl) ?_
  refine lv_iload_n hx hb d_Mo_take_123 rfl (lv_at hl 1 rfl) ?_
  refine lv_iload hx hb d_Mo_take_124 (lv_at hl 3 rfl) ?_
  refine lv_iconst (v := 1) hx hb d_Mo_take_126 (by decide) ?_
  refine lv_dload_n hx hb d_Mo_take_127 rfl (lv_at hl 2 rfl) ?_
  obtain ⟨⟨fs, h1⟩, h⟩ := h
  have h9 := h
  clear h
  have hF := hW.free hS hA
  refine va_calli (va_runV (As := [.int l1b122, .int l5b122, .int 1, .double l3b122]) (rest := []) ⟨hx, hb, hml, hown, hts⟩ (c_Mo_waitAt _ h9) (cwV 4 hts (gi_V bw_1094 bw_1096 bs_25 bw_5 bw_1097) rfl rfl rfl (by decide +kernel) ⟨Nat.le_of_ble_eq_true rfl, Nat.le_of_ble_eq_true rfl⟩) ⟨hI.blind, hw_recv hK hW h1 rfl, hI.give hW hS hA hK hZ0⟩ rfl rfl hl.1 rfl (lv_room (Nat.le_of_ble_eq_true rfl)) d_Mo_take_128 ⟨(show _ ≤ 0 by omega), (show _ ≤ 0 by omega)⟩) hS (fun q _ z => hF q z) hF (fun r49 M50 t H locs ht _ h hB1 _ _ hS => ?_)
  have hW := hw_back hF ht hB1
  clear h9
  exact W.iret hx hb hr (fun t ht hWm => ⟨⟨_, _, rfl, h, hw_t ht hW⟩, hS.F ht⟩) hS.2.2 d_Mo_take_131
set_option maxHeartbeats 1000000 in
set_option maxRecDepth 20000 in
theorem l_Mo_take_105 {p : Program} {l : Launch} {e : Env} {s : State} {m : MethodId} {args : Array Value} {below : List Frame} {meth : Method} {c : Code} {D : va_G} {ca G : Nat → Nat} {A : Nat → Prop} (C0 : hC p s m args meth c D ca G prog_7_method_22_code 8 (some .int) "ChannelHallModel" A) {post : Int32 → hM → Prop} {M : hM} {H : Heap} {locs : List Loc} {ls : Array Slot} (l0b105 : Nat) (l1b105 : Int32) (l3b105 : UInt64) (l5b105 : Int32) (l6b105 : Int32) (s0b105 : Int32) (h : wp_Mo_take_105 G ca post M l0b105 l1b105 l3b105 l5b105 l6b105 s0b105) (hW : hw D wCl A M H) (hS : va_S A s.heap H locs) (hl : lv_has ls 8 [(0, .ref l0b105), (1, .int l1b105), (3, .double l3b105), (5, .int l5b105), (6, .int l6b105)]) : W p l e rm_Mo_take s m args below meth c H locs 0 0 (MQ below (va_Qi post (fun M' t => hw D wCl A M' t.heap) A) args s 0 0 A) (F0 m 105 ls [.int s0b105]) := by
  obtain ⟨hx, hb, hr, hml, hown, hts, hlocks, hK, hA, hZ0⟩ := id C0
  refine lv_istore (lv' := [(7, .int s0b105), (0, .ref l0b105), (1, .int l1b105), (3, .double l3b105), (5, .int l5b105), (6, .int l6b105)]) hx hb d_Mo_take_105 hl (by decide) rfl (fun ls hl => ?_)
  refine lv_aload_n hx hb d_Mo_take_107 rfl (lv_at hl 1 rfl) ?_
  refine lv_iload hx hb d_Mo_take_108 (lv_at hl 4 rfl) ?_
  refine lv_iconst (v := 1) hx hb d_Mo_take_110 (by decide) ?_
  obtain ⟨⟨fs, h1⟩, h⟩ := h
  have h9 := h
  clear h
  have hF := hW.free hS hA
  refine va_calli (va_runV (As := [.int l5b105, .int 1]) (rest := []) ⟨hx, hb, hml, hown, hts⟩ (c_Mo_first _ h9) (cwV 2 hts (gi_V bw_1090 bw_1092 bs_24 bw_5 bw_1093) rfl rfl rfl (by decide +kernel) ⟨Nat.le_of_ble_eq_true rfl, Nat.le_of_ble_eq_true rfl⟩) ⟨hI.blind, hw_recv hK hW h1 rfl, hI.give hW hS hA hK hZ0⟩ rfl rfl hl.1 rfl (lv_room (Nat.le_of_ble_eq_true rfl)) d_Mo_take_111 ⟨(show _ ≤ 0 by omega), (show _ ≤ 0 by omega)⟩) hS (fun q _ z => hF q z) hF (fun r51 M52 t H locs ht _ h hB1 _ _ hS => ?_)
  have hW := hw_back hF ht hB1
  clear h9
  obtain ⟨h0, h1⟩ := h
  refine lv_if_ge (tgt := 122) hx hb d_Mo_take_114 (by decide) (fun c53 => ?_) (fun c53 => ?_)
  · have h := h0 c53
    exact l_Mo_take_122 C0 l0b105 l1b105 l3b105 l5b105 h hW hS (lv_sub hl [1, 2, 3, 4] rfl)
  · have h := h1 c53
    refine lv_iload hx hb d_Mo_take_117 (lv_at hl 0 rfl) ?_
    obtain ⟨h0, h1⟩ := h
    refine lv_if_ne (tgt := 132) hx hb d_Mo_take_119 (by decide) (fun c54 => ?_) (fun c54 => ?_)
    · have h := h0 c54
      refine lv_aload_n hx hb d_Mo_take_132 rfl (lv_at hl 1 rfl) ?_
      obtain ⟨fs, v55, h1, h2, h⟩ := h
      refine va_get (D := D) (ci := 5) (v := va_rf v55) (C := "ChannelHallModel") (T := TMo) (N := 26) hx hb hts uMo hown hK (hw_one hW h1) 0 rfl rfl 13 (by decide) (hts _ bw_987) (fun _ h9 => h9) h2 d_Mo_take_133 ?_
      refine lv_iload hx hb d_Mo_take_136 (lv_at hl 4 rfl) ?_
      obtain ⟨b56, rfl, h⟩ := h
      obtain ⟨n, f, h1, h2, h⟩ := h
      refine va_iald hx hb hK (hw_one hW h1) 0 5 rfl rfl h2 d_Mo_take_138 ?_
      generalize f (l5b105).toNatClampNeg = v57 at h ⊢
      refine lv_iconst (v := 2) hx hb d_Mo_take_139 (by decide) ?_
      obtain ⟨h0, h1⟩ := h
      refine lv_icmp_ne (tgt := 168) hx hb d_Mo_take_140 (by decide) (fun c58 => ?_) (fun c58 => ?_)
      · have h := h0 c58
        refine lv_aload_n hx hb d_Mo_take_168 rfl (lv_at hl 1 rfl) ?_
        refine lv_iload_n hx hb d_Mo_take_169 rfl (lv_at hl 2 rfl) ?_
        refine lv_iload hx hb d_Mo_take_170 (lv_at hl 4 rfl) ?_
        obtain ⟨⟨fs, h1⟩, h⟩ := h
        have h9 := h
        clear h
        have hF := hW.free hS hA
        refine va_callv (va_runV (As := [.int l1b105, .int l5b105]) (rest := []) ⟨hx, hb, hml, hown, hts⟩ (c_Mo_takeFirst _ h9) (cwV 2 hts (gi_V bw_1126 bw_1128 bs_33 bw_5 bw_1129) rfl rfl rfl (by decide +kernel) ⟨Nat.le_of_ble_eq_true rfl, Nat.le_of_ble_eq_true rfl⟩) ⟨hI.blind, hw_recv hK hW h1 rfl, hI.give hW hS hA hK hZ0⟩ rfl rfl hl.1 rfl (lv_room (Nat.le_of_ble_eq_true rfl)) d_Mo_take_172 ⟨(show _ ≤ 0 by omega), (show _ ≤ 0 by omega)⟩) hS (fun q _ z => hF q z) hF (fun M59 t H locs ht _ h hB1 _ _ hS => ?_)
        have hW := hw_back hF ht hB1
        clear h9
        exact l_Mo_take_175 C0 l0b105 l1b105 l5b105 h hW hS (lv_sub hl [1, 2, 4] rfl)
      · have h := h1 c58
        refine lv_aload_n hx hb d_Mo_take_143 rfl (lv_at hl 1 rfl) ?_
        refine lv_iload_n hx hb d_Mo_take_144 rfl (lv_at hl 2 rfl) ?_
        refine lv_iload hx hb d_Mo_take_145 (lv_at hl 4 rfl) ?_
        refine lv_aload_n hx hb d_Mo_take_147 rfl (lv_at hl 1 rfl) ?_
        obtain ⟨fs, v60, h1, h2, h⟩ := h
        refine va_get (D := D) (ci := 5) (v := va_rf v60) (C := "ChannelHallModel") (T := TMo) (N := 26) hx hb hts uMo hown hK (hw_one hW h1) 0 rfl rfl 8 (by decide) (hts _ bw_982) (fun _ h9 => h9) h2 d_Mo_take_148 ?_
        refine lv_iload hx hb d_Mo_take_151 (lv_at hl 5 rfl) ?_
        obtain ⟨b61, rfl, h⟩ := h
        obtain ⟨n, f, h1, h2, h⟩ := h
        refine va_iald hx hb hK (hw_one hW h1) 0 5 rfl rfl h2 d_Mo_take_153 ?_
        generalize f (l6b105).toNatClampNeg = v62 at h ⊢
        refine lv_dconst0 hx hb d_Mo_take_154 ?_
        obtain ⟨⟨fs, h1⟩, h⟩ := h
        have h9 := h
        clear h
        have hF := hW.free hS hA
        refine va_callv (va_runV (As := [.int l1b105, .int l5b105, .int v62, .double FP.dconst0]) (rest := []) ⟨hx, hb, hml, hown, hts⟩ (c_Mo_obtain _ h9) (cwV 4 hts (gi_V bw_1102 bw_1104 bs_27 bw_5 bw_1105) rfl rfl rfl (by decide +kernel) ⟨Nat.le_of_ble_eq_true rfl, Nat.le_of_ble_eq_true rfl⟩) ⟨hI.blind, hw_recv hK hW h1 rfl, hI.give hW hS hA hK hZ0⟩ rfl rfl hl.1 rfl (lv_room (Nat.le_of_ble_eq_true rfl)) d_Mo_take_155 ⟨(show _ ≤ 0 by omega), (show _ ≤ 0 by omega)⟩) hS (fun q _ z => hF q z) hF (fun M63 t H locs ht _ h hB1 _ _ hS => ?_)
        have hW := hw_back hF ht hB1
        clear h9
        refine lv_aload_n hx hb d_Mo_take_158 rfl (lv_at hl 1 rfl) ?_
        refine lv_iload hx hb d_Mo_take_159 (lv_at hl 5 rfl) ?_
        refine lv_iconst (v := 1) hx hb d_Mo_take_161 (by decide) ?_
        obtain ⟨⟨fs, h1⟩, h⟩ := h
        have h9 := h
        clear h
        have hF := hW.free hS hA
        refine va_callv (va_runV (As := [.int l6b105, .int 1]) (rest := []) ⟨hx, hb, hml, hown, hts⟩ (c_Mo_free _ h9) (cwV 2 hts (gi_V bw_1106 bw_1108 bs_28 bw_5 bw_1109) rfl rfl rfl (by decide +kernel) ⟨Nat.le_of_ble_eq_true rfl, Nat.le_of_ble_eq_true rfl⟩) ⟨hI.blind, hw_recv hK hW h1 rfl, hI.give hW hS hA hK hZ0⟩ rfl rfl hl.1 rfl (lv_room (Nat.le_of_ble_eq_true rfl)) d_Mo_take_162 ⟨(show _ ≤ 0 by omega), (show _ ≤ 0 by omega)⟩) hS (fun q _ z => hF q z) hF (fun M64 t H locs ht _ h hB1 _ _ hS => ?_)
        have hW := hw_back hF ht hB1
        clear h9
        refine lv_goto (tgt := 175) hx hb d_Mo_take_165 (by decide) ?_
        exact l_Mo_take_175 C0 l0b105 l1b105 l5b105 h hW hS (lv_sub hl [1, 2, 4] rfl)
    · have h := h1 c54
      exact l_Mo_take_122 C0 l0b105 l1b105 l3b105 l5b105 h hW hS (lv_sub hl [1, 2, 3, 4] rfl)
set_option maxHeartbeats 1000000 in
set_option maxRecDepth 20000 in
theorem l_Mo_take_41 {p : Program} {l : Launch} {e : Env} {s : State} {m : MethodId} {args : Array Value} {below : List Frame} {meth : Method} {c : Code} {D : va_G} {ca G : Nat → Nat} {A : Nat → Prop} (C0 : hC p s m args meth c D ca G prog_7_method_22_code 8 (some .int) "ChannelHallModel" A) {post : Int32 → hM → Prop} {M : hM} {H : Heap} {locs : List Loc} {ls : Array Slot} (l0b41 : Nat) (l1b41 : Int32) (l2b41 : Int32) (l3b41 : UInt64) (s0b41 : Int32) (s1b41 : Nat) (h : wp_Mo_take_41 G ca post M l0b41 l1b41 l2b41 l3b41 s0b41 s1b41) (hW : hw D wCl A M H) (hS : va_S A s.heap H locs) (hl : lv_has ls 8 [(0, .ref l0b41), (1, .int l1b41), (2, .int l2b41), (3, .double l3b41)]) : W p l e rm_Mo_take s m args below meth c H locs 0 0 (MQ below (va_Qi post (fun M' t => hw D wCl A M' t.heap) A) args s 0 0 A) (F0 m 41 ls [.int s0b41, .ref s1b41]) := by
  obtain ⟨hx, hb, hr, hml, hown, hts, hlocks, hK, hA, hZ0⟩ := id C0
  obtain ⟨fs, h1, h2, h⟩ := h
  obtain ⟨ws, q0, hq, hP, hD, hback, -⟩ := hw_open hW h1
  refine va_put (D := D) (ci := 5) (v := .int s0b41) (ty := .int) (C := "ChannelHallModel") (T := TMo) (N := 26) hx hb hts uMo tMo tMo_ok nMo hown hK hP hD hS q0 hq rfl 0 (by decide) (hts _ bw_974) (fun _ h9 => h9) rfl (by decide +kernel) rfl rfl h2 d_Mo_take_41 (fun H locs hP hD hS => ?_)
  have hW := hback _ _ hP hD
  generalize (va_up M s1b41 (some (.inr (5, fs.set 0 (.int s0b41))))) = M65 at h hW
  refine lv_aload_n hx hb d_Mo_take_44 rfl (lv_at hl 0 rfl) ?_
  obtain ⟨fs, v66, h1, h2, h⟩ := h
  refine va_get (D := D) (ci := 5) (v := .int v66) (C := "ChannelHallModel") (T := TMo) (N := 26) hx hb hts uMo hown hK (hw_one hW h1) 0 rfl rfl 0 (by decide) (hts _ bw_974) (fun _ h9 => h9) h2 d_Mo_take_45 ?_
  obtain ⟨h0, h1⟩ := h
  refine lv_if_le (tgt := 53) hx hb d_Mo_take_48 (by decide) (fun c67 => ?_) (fun c67 => ?_)
  · have h := h0 c67
    refine lv_aload_n hx hb d_Mo_take_53 rfl (lv_at hl 0 rfl) ?_
    refine lv_iload_n hx hb d_Mo_take_54 rfl (lv_at hl 1 rfl) ?_
    obtain ⟨⟨fs, h1⟩, h⟩ := h
    have h9 := h
    clear h
    have hF := hW.free hS hA
    refine va_calli (va_runV (As := [.int l1b41]) (rest := []) ⟨hx, hb, hml, hown, hts⟩ (c_Mo_flagged _ h9) (cwV 1 hts (gi_V bw_1086 bw_1088 bs_23 bw_5 bw_1089) rfl rfl rfl (by decide +kernel) ⟨Nat.le_of_ble_eq_true rfl, Nat.le_of_ble_eq_true rfl⟩) ⟨hI.blind, hw_recv hK hW h1 rfl, hI.give hW hS hA hK hZ0⟩ rfl rfl hl.1 rfl (lv_room (Nat.le_of_ble_eq_true rfl)) d_Mo_take_55 ⟨(show _ ≤ 0 by omega), (show _ ≤ 0 by omega)⟩) hS (fun q _ z => hF q z) hF (fun r68 M69 t H locs ht _ h hB1 _ _ hS => ?_)
    have hW := hw_back hF ht hB1
    clear h9
    obtain ⟨h0, h1⟩ := h
    refine lv_if_eq (tgt := 63) hx hb d_Mo_take_58 (by decide) (fun c70 => ?_) (fun c70 => ?_)
    · have h := h0 c70
      refine lv_iload_n hx hb d_Mo_take_63 rfl (lv_at hl 2 rfl) ?_
      refine lv_istore (lv' := [(5, .int l2b41), (0, .ref l0b41), (1, .int l1b41), (2, .int l2b41), (3, .double l3b41)]) hx hb d_Mo_take_64 hl (by decide) rfl (fun ls hl => ?_)
      refine lv_aload_n hx hb d_Mo_take_66 rfl (lv_at hl 1 rfl) ?_
      refine lv_iload hx hb d_Mo_take_67 (lv_at hl 0 rfl) ?_
      refine lv_iconst (v := 0) hx hb d_Mo_take_69 (by decide) ?_
      obtain ⟨⟨fs, h1⟩, h⟩ := h
      have h9 := h
      clear h
      have hF := hW.free hS hA
      refine va_calli (va_runV (As := [.int l2b41, .int 0]) (rest := []) ⟨hx, hb, hml, hown, hts⟩ (c_Mo_first _ h9) (cwV 2 hts (gi_V bw_1090 bw_1092 bs_24 bw_5 bw_1093) rfl rfl rfl (by decide +kernel) ⟨Nat.le_of_ble_eq_true rfl, Nat.le_of_ble_eq_true rfl⟩) ⟨hI.blind, hw_recv hK hW h1 rfl, hI.give hW hS hA hK hZ0⟩ rfl rfl hl.1 rfl (lv_room (Nat.le_of_ble_eq_true rfl)) d_Mo_take_70 ⟨(show _ ≤ 0 by omega), (show _ ≤ 0 by omega)⟩) hS (fun q _ z => hF q z) hF (fun r71 M72 t H locs ht _ h hB1 _ _ hS => ?_)
      have hW := hw_back hF ht hB1
      clear h9
      refine lv_istore (lv' := [(6, .int r71), (5, .int l2b41), (0, .ref l0b41), (1, .int l1b41), (2, .int l2b41), (3, .double l3b41)]) hx hb d_Mo_take_73 hl (by decide) rfl (fun ls hl => ?_)
      refine lv_aload_n hx hb d_Mo_take_75 rfl (lv_at hl 2 rfl) ?_
      obtain ⟨fs, v73, h1, h2, h⟩ := h
      refine va_get (D := D) (ci := 5) (v := va_rf v73) (C := "ChannelHallModel") (T := TMo) (N := 26) hx hb hts uMo hown hK (hw_one hW h1) 0 rfl rfl 13 (by decide) (hts _ bw_987) (fun _ h9 => h9) h2 d_Mo_take_76 ?_
      refine lv_iload hx hb d_Mo_take_79 (lv_at hl 1 rfl) ?_
      obtain ⟨b74, rfl, h⟩ := h
      obtain ⟨n, f, h1, h2, h⟩ := h
      refine va_iald hx hb hK (hw_one hW h1) 0 5 rfl rfl h2 d_Mo_take_81 ?_
      generalize f (l2b41).toNatClampNeg = v75 at h ⊢
      refine lv_iconst (v := 2) hx hb d_Mo_take_82 (by decide) ?_
      obtain ⟨h0, h1⟩ := h
      refine lv_icmp_ne (tgt := 99) hx hb d_Mo_take_83 (by decide) (fun c76 => ?_) (fun c76 => ?_)
      · have h := h0 c76
        refine lv_aload_n hx hb d_Mo_take_99 rfl (lv_at hl 2 rfl) ?_
        refine lv_iload hx hb d_Mo_take_100 (lv_at hl 1 rfl) ?_
        obtain ⟨⟨fs, h1⟩, h⟩ := h
        have h9 := h
        clear h
        have hF := hW.free hS hA
        refine va_calli (va_runV (As := [.int l2b41]) (rest := []) ⟨hx, hb, hml, hown, hts⟩ (c_Mo_ready _ h9) (cwV 1 hts (gi_V bw_1122 bw_1124 bs_32 bw_5 bw_1125) rfl rfl rfl (by decide +kernel) ⟨Nat.le_of_ble_eq_true rfl, Nat.le_of_ble_eq_true rfl⟩) ⟨hI.blind, hw_recv hK hW h1 rfl, hI.give hW hS hA hK hZ0⟩ rfl rfl hl.1 rfl (lv_room (Nat.le_of_ble_eq_true rfl)) d_Mo_take_102 ⟨(show _ ≤ 0 by omega), (show _ ≤ 0 by omega)⟩) hS (fun q _ z => hF q z) hF (fun r77 M78 t H locs ht _ h hB1 _ _ hS => ?_)
        have hW := hw_back hF ht hB1
        clear h9
        exact l_Mo_take_105 C0 l0b41 l1b41 l3b41 l2b41 r71 r77 h hW hS (lv_sub hl [2, 3, 5, 1, 0] rfl)
      · have h := h1 c76
        refine lv_iload hx hb d_Mo_take_86 (lv_at hl 0 rfl) ?_
        obtain ⟨h0, h1⟩ := h
        refine lv_if_lt (tgt := 95) hx hb d_Mo_take_88 (by decide) (fun c79 => ?_) (fun c79 => ?_)
        · have h := h0 c79
          refine lv_iconst (v := 0) hx hb d_Mo_take_95 (by decide) ?_
          refine lv_goto (tgt := 105) hx hb d_Mo_take_96 (by decide) ?_
          exact l_Mo_take_105 C0 l0b41 l1b41 l3b41 l2b41 r71 0 h hW hS (lv_sub hl [2, 3, 5, 1, 0] rfl)
        · have h := h1 c79
          refine lv_iconst (v := 1) hx hb d_Mo_take_91 (by decide) ?_
          refine lv_goto (tgt := 105) hx hb d_Mo_take_92 (by decide) ?_
          exact l_Mo_take_105 C0 l0b41 l1b41 l3b41 l2b41 r71 1 h hW hS (lv_sub hl [2, 3, 5, 1, 0] rfl)
    · have h := h1 c70
      refine lv_iconst (v := 3) hx hb d_Mo_take_61 (by decide) ?_
      exact W.iret hx hb hr (fun t ht hWm => ⟨⟨_, _, rfl, h, hw_t ht hW⟩, hS.F ht⟩) hS.2.2 d_Mo_take_62
  · have h := h1 c67
    refine lv_iconst (v := 0) hx hb d_Mo_take_51 (by decide) ?_
    exact W.iret hx hb hr (fun t ht hWm => ⟨⟨_, _, rfl, h, hw_t ht hW⟩, hS.F ht⟩) hS.2.2 d_Mo_take_52
set_option maxHeartbeats 1000000 in
set_option maxRecDepth 20000 in
theorem l_Mo_take_29 {p : Program} {l : Launch} {e : Env} {s : State} {m : MethodId} {args : Array Value} {below : List Frame} {meth : Method} {c : Code} {D : va_G} {ca G : Nat → Nat} {A : Nat → Prop} (C0 : hC p s m args meth c D ca G prog_7_method_22_code 8 (some .int) "ChannelHallModel" A) {post : Int32 → hM → Prop} {M : hM} {H : Heap} {locs : List Loc} {ls : Array Slot} (l0b29 : Nat) (l1b29 : Int32) (l2b29 : Int32) (l3b29 : UInt64) (s0b29 : Nat) (h : wp_Mo_take_29 G ca post M l0b29 l1b29 l2b29 l3b29 s0b29) (hW : hw D wCl A M H) (hS : va_S A s.heap H locs) (hl : lv_has ls 8 [(0, .ref l0b29), (1, .int l1b29), (2, .int l2b29), (3, .double l3b29)]) : W p l e rm_Mo_take s m args below meth c H locs 0 0 (MQ below (va_Qi post (fun M' t => hw D wCl A M' t.heap) A) args s 0 0 A) (F0 m 29 ls [.ref s0b29]) := by
  obtain ⟨hx, hb, hr, hml, hown, hts, hlocks, hK, hA, hZ0⟩ := id C0
  refine lv_iconst (v := 1) hx hb d_Mo_take_29 (by decide) ?_
  refine lv_goto (tgt := 41) hx hb d_Mo_take_30 (by decide) ?_
  exact l_Mo_take_41 C0 l0b29 l1b29 l2b29 l3b29 1 s0b29 h hW hS (lv_sub hl [0, 1, 2, 3] rfl)
set_option maxHeartbeats 1000000 in
set_option maxRecDepth 20000 in
theorem l_Mo_take_e {p : Program} {l : Launch} {e : Env} {s : State} {m : MethodId} {args : Array Value} {below : List Frame} {meth : Method} {c : Code} {D : va_G} {ca G : Nat → Nat} {A : Nat → Prop} (C0 : hC p s m args meth c D ca G prog_7_method_22_code 8 (some .int) "ChannelHallModel" A) {post : Int32 → hM → Prop} {M : hM} {H : Heap} {locs : List Loc} {ls : Array Slot} (a0 : Nat) (x1 : Int32) (x2 : Int32) (x3 : UInt64) (h : wp_Mo_take G ca post M a0 x1 x2 x3) (hW : hw D wCl A M H) (hS : va_S A s.heap H locs) (hl : lv_has ls 8 [(0, .ref a0), (1, .int x1), (2, .int x2), (3, .double x3)]) : W p l e rm_Mo_take s m args below meth c H locs 0 0 (MQ below (va_Qi post (fun M' t => hw D wCl A M' t.heap) A) args s 0 0 A) (F0 m 0 ls []) := by
  obtain ⟨hx, hb, hr, hml, hown, hts, hlocks, hK, hA, hZ0⟩ := id C0
  refine lv_aload_n hx hb d_Mo_take_0 rfl (lv_at hl 0 rfl) ?_
  refine lv_aload_n hx hb d_Mo_take_1 rfl (lv_at hl 0 rfl) ?_
  refine lv_iload_n hx hb d_Mo_take_2 rfl (lv_at hl 1 rfl) ?_
  refine lv_bipush (v := 6) hx hb d_Mo_take_3 (by decide) ?_
  obtain ⟨⟨fs, h1⟩, h⟩ := h
  have h9 := h
  clear h
  have hF := hW.free hS hA
  refine va_calli (va_runV (As := [.int x1, .int 6]) (rest := [.ref a0]) ⟨hx, hb, hml, hown, hts⟩ (c_Mo_out _ h9) (cwV 2 hts (gi_V bw_1064 bw_1066 bs_19 bw_5 bw_1067) rfl rfl rfl (by decide +kernel) ⟨Nat.le_of_ble_eq_true rfl, Nat.le_of_ble_eq_true rfl⟩) ⟨hI.blind, hw_recv hK hW h1 rfl, hI.give hW hS hA hK hZ0⟩ rfl rfl hl.1 rfl (lv_room (Nat.le_of_ble_eq_true rfl)) d_Mo_take_5 ⟨(show _ ≤ 0 by omega), (show _ ≤ 0 by omega)⟩) hS (fun q _ z => hF q z) hF (fun r80 M81 t H locs ht _ h hB1 _ _ hS => ?_)
  have hW := hw_back hF ht hB1
  clear h9
  obtain ⟨h0, h1⟩ := h
  refine lv_if_ne (tgt := 29) hx hb d_Mo_take_8 (by decide) (fun c82 => ?_) (fun c82 => ?_)
  · have h := h0 c82
    exact l_Mo_take_29 C0 a0 x1 x2 x3 a0 h hW hS (lv_sub hl [0, 1, 2, 3] rfl)
  · have h := h1 c82
    refine lv_aload_n hx hb d_Mo_take_11 rfl (lv_at hl 0 rfl) ?_
    refine lv_iload_n hx hb d_Mo_take_12 rfl (lv_at hl 2 rfl) ?_
    refine lv_bipush (v := 8) hx hb d_Mo_take_13 (by decide) ?_
    obtain ⟨⟨fs, h1⟩, h⟩ := h
    have h9 := h
    clear h
    have hF := hW.free hS hA
    refine va_calli (va_runV (As := [.int x2, .int 8]) (rest := [.ref a0]) ⟨hx, hb, hml, hown, hts⟩ (c_Mo_out _ h9) (cwV 2 hts (gi_V bw_1064 bw_1066 bs_19 bw_5 bw_1067) rfl rfl rfl (by decide +kernel) ⟨Nat.le_of_ble_eq_true rfl, Nat.le_of_ble_eq_true rfl⟩) ⟨hI.blind, hw_recv hK hW h1 rfl, hI.give hW hS hA hK hZ0⟩ rfl rfl hl.1 rfl (lv_room (Nat.le_of_ble_eq_true rfl)) d_Mo_take_15 ⟨(show _ ≤ 0 by omega), (show _ ≤ 0 by omega)⟩) hS (fun q _ z => hF q z) hF (fun r83 M84 t H locs ht _ h hB1 _ _ hS => ?_)
    have hW := hw_back hF ht hB1
    clear h9
    obtain ⟨h0, h1⟩ := h
    refine lv_if_ne (tgt := 29) hx hb d_Mo_take_18 (by decide) (fun c85 => ?_) (fun c85 => ?_)
    · have h := h0 c85
      exact l_Mo_take_29 C0 a0 x1 x2 x3 a0 h hW hS (lv_sub hl [0, 1, 2, 3] rfl)
    · have h := h1 c85
      refine lv_aload_n hx hb d_Mo_take_21 rfl (lv_at hl 0 rfl) ?_
      refine lv_dload_n hx hb d_Mo_take_22 rfl (lv_at hl 3 rfl) ?_
      obtain ⟨⟨fs, h1⟩, h⟩ := h
      have h9 := h
      clear h
      have hF := hW.free hS hA
      refine va_calli (va_runV (As := [.double x3]) (rest := [.ref a0]) ⟨hx, hb, hml, hown, hts⟩ (c_Mo_badLimit _ h9) (cwV 1 hts (gi_V bw_1078 bw_1080 bs_21 bw_5 bw_1081) rfl rfl rfl (by decide +kernel) ⟨Nat.le_of_ble_eq_true rfl, Nat.le_of_ble_eq_true rfl⟩) ⟨hI.blind, hw_recv hK hW h1 rfl, hI.give hW hS hA hK hZ0⟩ rfl rfl hl.1 rfl (lv_room (Nat.le_of_ble_eq_true rfl)) d_Mo_take_23 ⟨(show _ ≤ 0 by omega), (show _ ≤ 0 by omega)⟩) hS (fun q _ z => hF q z) hF (fun r86 M87 t H locs ht _ h hB1 _ _ hS => ?_)
      have hW := hw_back hF ht hB1
      clear h9
      obtain ⟨h0, h1⟩ := h
      refine lv_if_eq (tgt := 33) hx hb d_Mo_take_26 (by decide) (fun c88 => ?_) (fun c88 => ?_)
      · have h := h0 c88
        refine lv_aload_n hx hb d_Mo_take_33 rfl (lv_at hl 0 rfl) ?_
        refine lv_iload_n hx hb d_Mo_take_34 rfl (lv_at hl 1 rfl) ?_
        refine lv_iload_n hx hb d_Mo_take_35 rfl (lv_at hl 2 rfl) ?_
        refine lv_iconst (v := 0) hx hb d_Mo_take_36 (by decide) ?_
        refine lv_iconst (v := 4) hx hb d_Mo_take_37 (by decide) ?_
        obtain ⟨⟨fs, h1⟩, h⟩ := h
        have h9 := h
        clear h
        have hF := hW.free hS hA
        refine va_calli (va_runV (As := [.int x1, .int x2, .int 0, .int 4]) (rest := [.ref a0]) ⟨hx, hb, hml, hown, hts⟩ (c_Mo_check _ h9) (cwV 4 hts (gi_V bw_1082 bw_1084 bs_22 bw_5 bw_1085) rfl rfl rfl (by decide +kernel) ⟨Nat.le_of_ble_eq_true rfl, Nat.le_of_ble_eq_true rfl⟩) ⟨hI.blind, hw_recv hK hW h1 rfl, hI.give hW hS hA hK hZ0⟩ rfl rfl hl.1 rfl (lv_room (Nat.le_of_ble_eq_true rfl)) d_Mo_take_38 ⟨(show _ ≤ 0 by omega), (show _ ≤ 0 by omega)⟩) hS (fun q _ z => hF q z) hF (fun r89 M90 t H locs ht _ h hB1 _ _ hS => ?_)
        have hW := hw_back hF ht hB1
        clear h9
        exact l_Mo_take_41 C0 a0 x1 x2 x3 r89 a0 h hW hS (lv_sub hl [0, 1, 2, 3] rfl)
      · have h := h1 c88
        exact l_Mo_take_29 C0 a0 x1 x2 x3 a0 h hW hS (lv_sub hl [0, 1, 2, 3] rfl)
set_option maxRecDepth 20000 in
theorem c_Mo_take {l : Launch} {D : va_G} {ca G : Nat → Nat} (post : Int32 → hM → Prop) {M : hM} {sz : Nat} {a0 : Nat} {x1 : Int32} {x2 : Int32} {x3 : UInt64} (h : wp_Mo_take G ca post M a0 x1 x2 x3) : Met l y_Mo_take (wz y_Mo_take prog_7_method_22_code 8 (some .int)) rm_Mo_take (va_Pc [.ref a0, .int x1, .int x2, .double x3] (hI D ca G sz M)) (va_Qi post (hB D M sz) (hp_A M sz)) 0 0 (hp_A M sz) := by
  refine Met.ofW (cc := prog_7_method_22_code) (maxL := 8) (ret := some .int) (by decide) rfl ?_
  intro p e s m args below meth c s₁ B hml hv
  obtain ⟨rfl, hsz, hW, hK, hZ0⟩ := hv
  have hts := fun w hw => atoms_spec (ws := wz y_Mo_take prog_7_method_22_code 8 (some .int)) B.pre w (List.mem_cons_of_mem _ hw)
  have hown : s.vm.findClass "ChannelHallModel" = some m.cls := findClass_of_methodNamed B.named
  subst hsz
  have hl := lv_entry [.ref a0, .int x1, .int x2, .double x3] (n := 8) (Nat.le_of_ble_eq_true rfl)
  rw [lg_entry_eq]
  exact l_Mo_take_e ⟨B.exec, B.bytes, B.returns, hml, hown, hts, B.notSynchronized, hK, fun q h => Or.inr h, hZ0⟩ a0 x1 x2 x3 h hW va_S.rf hl

theorem d_Mo_swap_0 : decode prog_7_method_23_code 0 = .ok (.aload_n 0, 1) := by decide +kernel
theorem d_Mo_swap_1 : decode prog_7_method_23_code 1 = .ok (.aload_n 0, 1) := by decide +kernel
theorem d_Mo_swap_2 : decode prog_7_method_23_code 2 = .ok (.iload_n 1, 1) := by decide +kernel
theorem d_Mo_swap_3 : decode prog_7_method_23_code 3 = .ok (.bipush 6, 2) := by decide +kernel
theorem d_Mo_swap_5 : decode prog_7_method_23_code 5 = .ok (.invokevirtual 90, 3) := by decide +kernel
theorem d_Mo_swap_8 : decode prog_7_method_23_code 8 = .ok (.ifCond .ne 22, 3) := by decide +kernel
theorem d_Mo_swap_11 : decode prog_7_method_23_code 11 = .ok (.aload_n 0, 1) := by decide +kernel
theorem d_Mo_swap_12 : decode prog_7_method_23_code 12 = .ok (.iload_n 2, 1) := by decide +kernel
theorem d_Mo_swap_13 : decode prog_7_method_23_code 13 = .ok (.bipush 8, 2) := by decide +kernel
theorem d_Mo_swap_15 : decode prog_7_method_23_code 15 = .ok (.invokevirtual 90, 3) := by decide +kernel
theorem d_Mo_swap_18 : decode prog_7_method_23_code 18 = .ok (.ifCond .ne 12, 3) := by decide +kernel
theorem d_Mo_swap_21 : decode prog_7_method_23_code 21 = .ok (.aload_n 0, 1) := by decide +kernel
theorem d_Mo_swap_22 : decode prog_7_method_23_code 22 = .ok (.dload 4, 2) := by decide +kernel
theorem d_Mo_swap_24 : decode prog_7_method_23_code 24 = .ok (.invokevirtual 142, 3) := by decide +kernel
theorem d_Mo_swap_27 : decode prog_7_method_23_code 27 = .ok (.ifCond .eq 7, 3) := by decide +kernel
theorem d_Mo_swap_30 : decode prog_7_method_23_code 30 = .ok (.iconst 1, 1) := by decide +kernel
theorem d_Mo_swap_31 : decode prog_7_method_23_code 31 = .ok (.goto 11, 3) := by decide +kernel
theorem d_Mo_swap_34 : decode prog_7_method_23_code 34 = .ok (.aload_n 0, 1) := by decide +kernel
theorem d_Mo_swap_35 : decode prog_7_method_23_code 35 = .ok (.iload_n 1, 1) := by decide +kernel
theorem d_Mo_swap_36 : decode prog_7_method_23_code 36 = .ok (.iload_n 2, 1) := by decide +kernel
theorem d_Mo_swap_37 : decode prog_7_method_23_code 37 = .ok (.iconst 5, 1) := by decide +kernel
theorem d_Mo_swap_38 : decode prog_7_method_23_code 38 = .ok (.iconst 5, 1) := by decide +kernel
theorem d_Mo_swap_39 : decode prog_7_method_23_code 39 = .ok (.invokevirtual 146, 3) := by decide +kernel
theorem d_Mo_swap_42 : decode prog_7_method_23_code 42 = .ok (.putfield 86, 3) := by decide +kernel
theorem d_Mo_swap_45 : decode prog_7_method_23_code 45 = .ok (.aload_n 0, 1) := by decide +kernel
theorem d_Mo_swap_46 : decode prog_7_method_23_code 46 = .ok (.getfield 86, 3) := by decide +kernel
theorem d_Mo_swap_49 : decode prog_7_method_23_code 49 = .ok (.ifCond .le 5, 3) := by decide +kernel
theorem d_Mo_swap_52 : decode prog_7_method_23_code 52 = .ok (.iconst 0, 1) := by decide +kernel
theorem d_Mo_swap_53 : decode prog_7_method_23_code 53 = .ok (.ireturn, 1) := by decide +kernel
theorem d_Mo_swap_54 : decode prog_7_method_23_code 54 = .ok (.aload_n 0, 1) := by decide +kernel
theorem d_Mo_swap_55 : decode prog_7_method_23_code 55 = .ok (.iload_n 1, 1) := by decide +kernel
theorem d_Mo_swap_56 : decode prog_7_method_23_code 56 = .ok (.invokevirtual 150, 3) := by decide +kernel
theorem d_Mo_swap_59 : decode prog_7_method_23_code 59 = .ok (.ifCond .eq 5, 3) := by decide +kernel
theorem d_Mo_swap_62 : decode prog_7_method_23_code 62 = .ok (.iconst 3, 1) := by decide +kernel
theorem d_Mo_swap_63 : decode prog_7_method_23_code 63 = .ok (.ireturn, 1) := by decide +kernel
theorem d_Mo_swap_64 : decode prog_7_method_23_code 64 = .ok (.aload_n 0, 1) := by decide +kernel
theorem d_Mo_swap_65 : decode prog_7_method_23_code 65 = .ok (.getfield 60, 3) := by decide +kernel
theorem d_Mo_swap_68 : decode prog_7_method_23_code 68 = .ok (.iload_n 2, 1) := by decide +kernel
theorem d_Mo_swap_69 : decode prog_7_method_23_code 69 = .ok (.iaload, 1) := by decide +kernel
theorem d_Mo_swap_70 : decode prog_7_method_23_code 70 = .ok (.ifCond .ne 20, 3) := by decide +kernel
theorem d_Mo_swap_73 : decode prog_7_method_23_code 73 = .ok (.aload_n 0, 1) := by decide +kernel
theorem d_Mo_swap_74 : decode prog_7_method_23_code 74 = .ok (.getfield 32, 3) := by decide +kernel
theorem d_Mo_swap_77 : decode prog_7_method_23_code 77 = .ok (.iload_n 1, 1) := by decide +kernel
theorem d_Mo_swap_78 : decode prog_7_method_23_code 78 = .ok (.iload_n 3, 1) := by decide +kernel
theorem d_Mo_swap_79 : decode prog_7_method_23_code 79 = .ok (.iastore, 1) := by decide +kernel
theorem d_Mo_swap_80 : decode prog_7_method_23_code 80 = .ok (.aload_n 0, 1) := by decide +kernel
theorem d_Mo_swap_81 : decode prog_7_method_23_code 81 = .ok (.iload_n 1, 1) := by decide +kernel
theorem d_Mo_swap_82 : decode prog_7_method_23_code 82 = .ok (.iload_n 2, 1) := by decide +kernel
theorem d_Mo_swap_83 : decode prog_7_method_23_code 83 = .ok (.iconst 2, 1) := by decide +kernel
theorem d_Mo_swap_84 : decode prog_7_method_23_code 84 = .ok (.dload 4, 2) := by decide +kernel
theorem d_Mo_swap_86 : decode prog_7_method_23_code 86 = .ok (.invokevirtual 153, 3) := by decide +kernel
theorem d_Mo_swap_89 : decode prog_7_method_23_code 89 = .ok (.ireturn, 1) := by decide +kernel
theorem d_Mo_swap_90 : decode prog_7_method_23_code 90 = .ok (.aload_n 0, 1) := by decide +kernel
theorem d_Mo_swap_91 : decode prog_7_method_23_code 91 = .ok (.getfield 57, 3) := by decide +kernel
theorem d_Mo_swap_94 : decode prog_7_method_23_code 94 = .ok (.bipush 6, 2) := by decide +kernel
theorem d_Mo_swap_96 : decode prog_7_method_23_code 96 = .ok (.iload_n 2, 1) := by decide +kernel
theorem d_Mo_swap_97 : decode prog_7_method_23_code 97 = .ok (.imul, 1) := by decide +kernel
theorem d_Mo_swap_98 : decode prog_7_method_23_code 98 = .ok (.iaload, 1) := by decide +kernel
theorem d_Mo_swap_99 : decode prog_7_method_23_code 99 = .ok (.istore 6, 2) := by decide +kernel
theorem d_Mo_swap_101 : decode prog_7_method_23_code 101 = .ok (.aload_n 0, 1) := by decide +kernel
theorem d_Mo_swap_102 : decode prog_7_method_23_code 102 = .ok (.getfield 20, 3) := by decide +kernel
theorem d_Mo_swap_105 : decode prog_7_method_23_code 105 = .ok (.iload_n 1, 1) := by decide +kernel
theorem d_Mo_swap_106 : decode prog_7_method_23_code 106 = .ok (.iconst 1, 1) := by decide +kernel
theorem d_Mo_swap_107 : decode prog_7_method_23_code 107 = .ok (.bastore, 1) := by decide +kernel
theorem d_Mo_swap_108 : decode prog_7_method_23_code 108 = .ok (.aload_n 0, 1) := by decide +kernel
theorem d_Mo_swap_109 : decode prog_7_method_23_code 109 = .ok (.getfield 23, 3) := by decide +kernel
theorem d_Mo_swap_112 : decode prog_7_method_23_code 112 = .ok (.iload_n 1, 1) := by decide +kernel
theorem d_Mo_swap_113 : decode prog_7_method_23_code 113 = .ok (.aload_n 0, 1) := by decide +kernel
theorem d_Mo_swap_114 : decode prog_7_method_23_code 114 = .ok (.getfield 32, 3) := by decide +kernel
theorem d_Mo_swap_117 : decode prog_7_method_23_code 117 = .ok (.iload 6, 2) := by decide +kernel
theorem d_Mo_swap_119 : decode prog_7_method_23_code 119 = .ok (.iaload, 1) := by decide +kernel
theorem d_Mo_swap_120 : decode prog_7_method_23_code 120 = .ok (.iastore, 1) := by decide +kernel
theorem d_Mo_swap_121 : decode prog_7_method_23_code 121 = .ok (.aload_n 0, 1) := by decide +kernel
theorem d_Mo_swap_122 : decode prog_7_method_23_code 122 = .ok (.getfield 20, 3) := by decide +kernel
theorem d_Mo_swap_125 : decode prog_7_method_23_code 125 = .ok (.iload 6, 2) := by decide +kernel
theorem d_Mo_swap_127 : decode prog_7_method_23_code 127 = .ok (.iconst 1, 1) := by decide +kernel
theorem d_Mo_swap_128 : decode prog_7_method_23_code 128 = .ok (.bastore, 1) := by decide +kernel
theorem d_Mo_swap_129 : decode prog_7_method_23_code 129 = .ok (.aload_n 0, 1) := by decide +kernel
theorem d_Mo_swap_130 : decode prog_7_method_23_code 130 = .ok (.getfield 23, 3) := by decide +kernel
theorem d_Mo_swap_133 : decode prog_7_method_23_code 133 = .ok (.iload 6, 2) := by decide +kernel
theorem d_Mo_swap_135 : decode prog_7_method_23_code 135 = .ok (.iload_n 3, 1) := by decide +kernel
theorem d_Mo_swap_136 : decode prog_7_method_23_code 136 = .ok (.iastore, 1) := by decide +kernel
theorem d_Mo_swap_137 : decode prog_7_method_23_code 137 = .ok (.aload_n 0, 1) := by decide +kernel
theorem d_Mo_swap_138 : decode prog_7_method_23_code 138 = .ok (.iload 6, 2) := by decide +kernel
theorem d_Mo_swap_140 : decode prog_7_method_23_code 140 = .ok (.iconst 1, 1) := by decide +kernel
theorem d_Mo_swap_141 : decode prog_7_method_23_code 141 = .ok (.invokevirtual 106, 3) := by decide +kernel
theorem d_Mo_swap_144 : decode prog_7_method_23_code 144 = .ok (.aload_n 0, 1) := by decide +kernel
theorem d_Mo_swap_145 : decode prog_7_method_23_code 145 = .ok (.iload_n 1, 1) := by decide +kernel
theorem d_Mo_swap_146 : decode prog_7_method_23_code 146 = .ok (.iconst 1, 1) := by decide +kernel
theorem d_Mo_swap_147 : decode prog_7_method_23_code 147 = .ok (.invokevirtual 98, 3) := by decide +kernel
theorem d_Mo_swap_150 : decode prog_7_method_23_code 150 = .ok (.ireturn, 1) := by decide +kernel
def y_Mo_swap : MethodName := ⟨"ChannelHallModel", "swap", "(IIID)I"⟩
abbrev rm_Mo_swap : Room := { frames := 2, cells := 0, slots := 0, locals := 47 }
def wp_Mo_swap_42 (G ca : Nat → Nat) (post : Int32 → hM → Prop) (M : hM) (l0b42 : Nat) (l1b42 : Int32) (l2b42 : Int32) (l3b42 : Int32) (l4b42 : UInt64) (s0b42 : Int32) (s1b42 : Nat) : Prop := pF M s1b42 5 0 (.int s0b42) fun M48 => gI M48 l0b42 5 0 fun v49 => (v49 ≤ 0 → rC M48 l0b42 5 (wp_Mo_flagged G ca (fun r51 M52 => (r51 = 0 → gR M52 l0b42 5 18 fun v54 => nN v54 fun b55 => aI M52 b55 (ca 5) l2b42 fun v56 => (¬ v56 = 0 → gR M52 l0b42 5 17 fun v58 => nN v58 fun b59 => aI M52 b59 (ca 5) (6 * l2b42) fun v60 => gR M52 l0b42 5 4 fun v61 => nN v61 fun b62 => bZ 1 (sI M52 b62 (ca 6) l1b42 1 fun M63 => gR M63 l0b42 5 5 fun v64 => gR M63 l0b42 5 8 fun v65 => nN v65 fun b66 => aI M63 b66 (ca 5) v60 fun v67 => nN v64 fun b68 => sI M63 b68 (ca 5) l1b42 v67 fun M69 => gR M69 l0b42 5 4 fun v70 => nN v70 fun b71 => bZ 1 (sI M69 b71 (ca 6) v60 1 fun M72 => gR M72 l0b42 5 5 fun v73 => nN v73 fun b74 => sI M72 b74 (ca 5) v60 l3b42 fun M75 => rC M75 l0b42 5 (wp_Mo_free G ca (fun M76 => rC M76 l0b42 5 (wp_Mo_settle G ca (fun r77 M78 => post r77 M78) M76 l0b42 l1b42 1)) M75 l0b42 v60 1)))) ∧ (v56 = 0 → gR M52 l0b42 5 8 fun v79 => nN v79 fun b80 => sI M52 b80 (ca 5) l1b42 l3b42 fun M81 => rC M81 l0b42 5 (wp_Mo_waitAt G ca (fun r82 M83 => post r82 M83) M81 l0b42 l1b42 l2b42 2 l4b42))) ∧ (¬ r51 = 0 → post 3 M52)) M48 l0b42 l1b42)) ∧ (¬ v49 ≤ 0 → post 0 M48)
def wp_Mo_swap_30 (G ca : Nat → Nat) (post : Int32 → hM → Prop) (M : hM) (l0b30 : Nat) (l1b30 : Int32) (l2b30 : Int32) (l3b30 : Int32) (l4b30 : UInt64) (s0b30 : Nat) : Prop := wp_Mo_swap_42 G ca post M l0b30 l1b30 l2b30 l3b30 l4b30 1 s0b30
def wp_Mo_swap (G ca : Nat → Nat) (post : Int32 → hM → Prop) (M : hM) (a0 : Nat) (x1 : Int32) (x2 : Int32) (x3 : Int32) (x4 : UInt64) : Prop := rC M a0 5 (wp_Mo_out G ca (fun r84 M85 => (¬ r84 = 0 → wp_Mo_swap_30 G ca post M85 a0 x1 x2 x3 x4 a0) ∧ (r84 = 0 → rC M85 a0 5 (wp_Mo_out G ca (fun r87 M88 => (¬ r87 = 0 → wp_Mo_swap_30 G ca post M88 a0 x1 x2 x3 x4 a0) ∧ (r87 = 0 → rC M88 a0 5 (wp_Mo_badLimit G ca (fun r90 M91 => (r90 = 0 → rC M91 a0 5 (wp_Mo_check G ca (fun r93 M94 => wp_Mo_swap_42 G ca post M94 a0 x1 x2 x3 x4 r93 a0) M91 a0 x1 x2 5 5)) ∧ (¬ r90 = 0 → wp_Mo_swap_30 G ca post M91 a0 x1 x2 x3 x4 a0)) M88 a0 x4))) M85 a0 x2 8))) M a0 x1 6)
set_option maxHeartbeats 1000000 in
set_option maxRecDepth 20000 in
theorem l_Mo_swap_42 {p : Program} {l : Launch} {e : Env} {s : State} {m : MethodId} {args : Array Value} {below : List Frame} {meth : Method} {c : Code} {D : va_G} {ca G : Nat → Nat} {A : Nat → Prop} (C0 : hC p s m args meth c D ca G prog_7_method_23_code 7 (some .int) "ChannelHallModel" A) {post : Int32 → hM → Prop} {M : hM} {H : Heap} {locs : List Loc} {ls : Array Slot} (l0b42 : Nat) (l1b42 : Int32) (l2b42 : Int32) (l3b42 : Int32) (l4b42 : UInt64) (s0b42 : Int32) (s1b42 : Nat) (h : wp_Mo_swap_42 G ca post M l0b42 l1b42 l2b42 l3b42 l4b42 s0b42 s1b42) (hW : hw D wCl A M H) (hS : va_S A s.heap H locs) (hl : lv_has ls 7 [(0, .ref l0b42), (1, .int l1b42), (2, .int l2b42), (3, .int l3b42), (4, .double l4b42)]) : W p l e rm_Mo_swap s m args below meth c H locs 0 0 (MQ below (va_Qi post (fun M' t => hw D wCl A M' t.heap) A) args s 0 0 A) (F0 m 42 ls [.int s0b42, .ref s1b42]) := by
  obtain ⟨hx, hb, hr, hml, hown, hts, hlocks, hK, hA, hZ0⟩ := id C0
  obtain ⟨fs, h1, h2, h⟩ := h
  obtain ⟨ws, q0, hq, hP, hD, hback, -⟩ := hw_open hW h1
  refine va_put (D := D) (ci := 5) (v := .int s0b42) (ty := .int) (C := "ChannelHallModel") (T := TMo) (N := 26) hx hb hts uMo tMo tMo_ok nMo hown hK hP hD hS q0 hq rfl 0 (by decide) (hts _ bw_974) (fun _ h9 => h9) rfl (by decide +kernel) rfl rfl h2 d_Mo_swap_42 (fun H locs hP hD hS => ?_)
  have hW := hback _ _ hP hD
  generalize (va_up M s1b42 (some (.inr (5, fs.set 0 (.int s0b42))))) = M48 at h hW
  refine lv_aload_n hx hb d_Mo_swap_45 rfl (lv_at hl 0 rfl) ?_
  obtain ⟨fs, v49, h1, h2, h⟩ := h
  refine va_get (D := D) (ci := 5) (v := .int v49) (C := "ChannelHallModel") (T := TMo) (N := 26) hx hb hts uMo hown hK (hw_one hW h1) 0 rfl rfl 0 (by decide) (hts _ bw_974) (fun _ h9 => h9) h2 d_Mo_swap_46 ?_
  obtain ⟨h0, h1⟩ := h
  refine lv_if_le (tgt := 54) hx hb d_Mo_swap_49 (by decide) (fun c50 => ?_) (fun c50 => ?_)
  · have h := h0 c50
    refine lv_aload_n hx hb d_Mo_swap_54 rfl (lv_at hl 0 rfl) ?_
    refine lv_iload_n hx hb d_Mo_swap_55 rfl (lv_at hl 1 rfl) ?_
    obtain ⟨⟨fs, h1⟩, h⟩ := h
    have h9 := h
    clear h
    have hF := hW.free hS hA
    refine va_calli (va_runV (As := [.int l1b42]) (rest := []) ⟨hx, hb, hml, hown, hts⟩ (c_Mo_flagged _ h9) (cwV 1 hts (gi_V bw_1086 bw_1088 bs_23 bw_5 bw_1089) rfl rfl rfl (by decide +kernel) ⟨Nat.le_of_ble_eq_true rfl, Nat.le_of_ble_eq_true rfl⟩) ⟨hI.blind, hw_recv hK hW h1 rfl, hI.give hW hS hA hK hZ0⟩ rfl rfl hl.1 rfl (lv_room (Nat.le_of_ble_eq_true rfl)) d_Mo_swap_56 ⟨(show _ ≤ 0 by omega), (show _ ≤ 0 by omega)⟩) hS (fun q _ z => hF q z) hF (fun r51 M52 t H locs ht _ h hB1 _ _ hS => ?_)
    have hW := hw_back hF ht hB1
    clear h9
    obtain ⟨h0, h1⟩ := h
    refine lv_if_eq (tgt := 64) hx hb d_Mo_swap_59 (by decide) (fun c53 => ?_) (fun c53 => ?_)
    · have h := h0 c53
      refine lv_aload_n hx hb d_Mo_swap_64 rfl (lv_at hl 0 rfl) ?_
      obtain ⟨fs, v54, h1, h2, h⟩ := h
      refine va_get (D := D) (ci := 5) (v := va_rf v54) (C := "ChannelHallModel") (T := TMo) (N := 26) hx hb hts uMo hown hK (hw_one hW h1) 0 rfl rfl 18 (by decide) (hts _ bw_992) (fun _ h9 => h9) h2 d_Mo_swap_65 ?_
      refine lv_iload_n hx hb d_Mo_swap_68 rfl (lv_at hl 2 rfl) ?_
      obtain ⟨b55, rfl, h⟩ := h
      obtain ⟨n, f, h1, h2, h⟩ := h
      refine va_iald hx hb hK (hw_one hW h1) 0 5 rfl rfl h2 d_Mo_swap_69 ?_
      generalize f (l2b42).toNatClampNeg = v56 at h ⊢
      obtain ⟨h0, h1⟩ := h
      refine lv_if_ne (tgt := 90) hx hb d_Mo_swap_70 (by decide) (fun c57 => ?_) (fun c57 => ?_)
      · have h := h0 c57
        refine lv_aload_n hx hb d_Mo_swap_90 rfl (lv_at hl 0 rfl) ?_
        obtain ⟨fs, v58, h1, h2, h⟩ := h
        refine va_get (D := D) (ci := 5) (v := va_rf v58) (C := "ChannelHallModel") (T := TMo) (N := 26) hx hb hts uMo hown hK (hw_one hW h1) 0 rfl rfl 17 (by decide) (hts _ bw_991) (fun _ h9 => h9) h2 d_Mo_swap_91 ?_
        refine lv_bipush (v := 6) hx hb d_Mo_swap_94 (by decide) ?_
        refine lv_iload_n hx hb d_Mo_swap_96 rfl (lv_at hl 2 rfl) ?_
        refine lv_imul hx hb d_Mo_swap_97 ?_
        obtain ⟨b59, rfl, h⟩ := h
        obtain ⟨n, f, h1, h2, h⟩ := h
        refine va_iald hx hb hK (hw_one hW h1) 0 5 rfl rfl h2 d_Mo_swap_98 ?_
        generalize f ((6 * l2b42)).toNatClampNeg = v60 at h ⊢
        refine lv_istore (lv' := [(6, .int v60), (0, .ref l0b42), (1, .int l1b42), (2, .int l2b42), (3, .int l3b42), (4, .double l4b42)]) hx hb d_Mo_swap_99 hl (by decide) rfl (fun ls hl => ?_)
        refine lv_aload_n hx hb d_Mo_swap_101 rfl (lv_at hl 1 rfl) ?_
        obtain ⟨fs, v61, h1, h2, h⟩ := h
        refine va_get (D := D) (ci := 5) (v := va_rf v61) (C := "ChannelHallModel") (T := TMo) (N := 26) hx hb hts uMo hown hK (hw_one hW h1) 0 rfl rfl 4 (by decide) (hts _ bw_978) (fun _ h9 => h9) h2 d_Mo_swap_102 ?_
        refine lv_iload_n hx hb d_Mo_swap_105 rfl (lv_at hl 2 rfl) ?_
        refine lv_iconst (v := 1) hx hb d_Mo_swap_106 (by decide) ?_
        obtain ⟨b62, rfl, h⟩ := h
        obtain ⟨hz, n, f, h1, h2, h⟩ := h
        obtain ⟨ws, q0, hq, hP, hD, hback, -⟩ := hw_open hW h1
        refine va_zast (x := 1) hx hb hK hP hD hS q0 6 hq rfl h2 d_Mo_swap_107 (fun H locs hP hD hS => ?_)
        rw [nb_v hz] at hP hD
        have hW := hback _ _ hP hD
        generalize hM2 : va_up M52 b62 _ = M63 at h hW
        refine lv_aload_n hx hb d_Mo_swap_108 rfl (lv_at hl 1 rfl) ?_
        obtain ⟨fs, v64, h1, h2, h⟩ := h
        refine va_get (D := D) (ci := 5) (v := va_rf v64) (C := "ChannelHallModel") (T := TMo) (N := 26) hx hb hts uMo hown hK (hw_one hW h1) 0 rfl rfl 5 (by decide) (hts _ bw_979) (fun _ h9 => h9) h2 d_Mo_swap_109 ?_
        refine lv_iload_n hx hb d_Mo_swap_112 rfl (lv_at hl 2 rfl) ?_
        refine lv_aload_n hx hb d_Mo_swap_113 rfl (lv_at hl 1 rfl) ?_
        obtain ⟨fs, v65, h1, h2, h⟩ := h
        refine va_get (D := D) (ci := 5) (v := va_rf v65) (C := "ChannelHallModel") (T := TMo) (N := 26) hx hb hts uMo hown hK (hw_one hW h1) 0 rfl rfl 8 (by decide) (hts _ bw_982) (fun _ h9 => h9) h2 d_Mo_swap_114 ?_
        refine lv_iload hx hb d_Mo_swap_117 (lv_at hl 0 rfl) ?_
        obtain ⟨b66, rfl, h⟩ := h
        obtain ⟨n, f, h1, h2, h⟩ := h
        refine va_iald hx hb hK (hw_one hW h1) 0 5 rfl rfl h2 d_Mo_swap_119 ?_
        generalize f (v60).toNatClampNeg = v67 at h ⊢
        obtain ⟨b68, rfl, h⟩ := h
        obtain ⟨n, f, h1, h2, h⟩ := h
        obtain ⟨ws, q0, hq, hP, hD, hback, -⟩ := hw_open hW h1
        refine va_iast hx hb hK hP hD hS q0 5 hq rfl h2 d_Mo_swap_120 (fun H locs hP hD hS => ?_)
        have hW := hback _ _ hP hD
        generalize hM2 : va_up M63 b68 _ = M69 at h hW
        refine lv_aload_n hx hb d_Mo_swap_121 rfl (lv_at hl 1 rfl) ?_
        obtain ⟨fs, v70, h1, h2, h⟩ := h
        refine va_get (D := D) (ci := 5) (v := va_rf v70) (C := "ChannelHallModel") (T := TMo) (N := 26) hx hb hts uMo hown hK (hw_one hW h1) 0 rfl rfl 4 (by decide) (hts _ bw_978) (fun _ h9 => h9) h2 d_Mo_swap_122 ?_
        refine lv_iload hx hb d_Mo_swap_125 (lv_at hl 0 rfl) ?_
        refine lv_iconst (v := 1) hx hb d_Mo_swap_127 (by decide) ?_
        obtain ⟨b71, rfl, h⟩ := h
        obtain ⟨hz, n, f, h1, h2, h⟩ := h
        obtain ⟨ws, q0, hq, hP, hD, hback, -⟩ := hw_open hW h1
        refine va_zast (x := 1) hx hb hK hP hD hS q0 6 hq rfl h2 d_Mo_swap_128 (fun H locs hP hD hS => ?_)
        rw [nb_v hz] at hP hD
        have hW := hback _ _ hP hD
        generalize hM2 : va_up M69 b71 _ = M72 at h hW
        refine lv_aload_n hx hb d_Mo_swap_129 rfl (lv_at hl 1 rfl) ?_
        obtain ⟨fs, v73, h1, h2, h⟩ := h
        refine va_get (D := D) (ci := 5) (v := va_rf v73) (C := "ChannelHallModel") (T := TMo) (N := 26) hx hb hts uMo hown hK (hw_one hW h1) 0 rfl rfl 5 (by decide) (hts _ bw_979) (fun _ h9 => h9) h2 d_Mo_swap_130 ?_
        refine lv_iload hx hb d_Mo_swap_133 (lv_at hl 0 rfl) ?_
        refine lv_iload_n hx hb d_Mo_swap_135 rfl (lv_at hl 4 rfl) ?_
        obtain ⟨b74, rfl, h⟩ := h
        obtain ⟨n, f, h1, h2, h⟩ := h
        obtain ⟨ws, q0, hq, hP, hD, hback, -⟩ := hw_open hW h1
        refine va_iast hx hb hK hP hD hS q0 5 hq rfl h2 d_Mo_swap_136 (fun H locs hP hD hS => ?_)
        have hW := hback _ _ hP hD
        generalize hM2 : va_up M72 b74 _ = M75 at h hW
        refine lv_aload_n hx hb d_Mo_swap_137 rfl (lv_at hl 1 rfl) ?_
        refine lv_iload hx hb d_Mo_swap_138 (lv_at hl 0 rfl) ?_
        refine lv_iconst (v := 1) hx hb d_Mo_swap_140 (by decide) ?_
        obtain ⟨⟨fs, h1⟩, h⟩ := h
        have h9 := h
        clear h
        have hF := hW.free hS hA
        refine va_callv (va_runV (As := [.int v60, .int 1]) (rest := []) ⟨hx, hb, hml, hown, hts⟩ (c_Mo_free _ h9) (cwV 2 hts (gi_V bw_1106 bw_1108 bs_28 bw_5 bw_1109) rfl rfl rfl (by decide +kernel) ⟨Nat.le_of_ble_eq_true rfl, Nat.le_of_ble_eq_true rfl⟩) ⟨hI.blind, hw_recv hK hW h1 rfl, hI.give hW hS hA hK hZ0⟩ rfl rfl hl.1 rfl (lv_room (Nat.le_of_ble_eq_true rfl)) d_Mo_swap_141 ⟨(show _ ≤ 0 by omega), (show _ ≤ 0 by omega)⟩) hS (fun q _ z => hF q z) hF (fun M76 t H locs ht _ h hB1 _ _ hS => ?_)
        have hW := hw_back hF ht hB1
        clear h9
        refine lv_aload_n hx hb d_Mo_swap_144 rfl (lv_at hl 1 rfl) ?_
        refine lv_iload_n hx hb d_Mo_swap_145 rfl (lv_at hl 2 rfl) ?_
        refine lv_iconst (v := 1) hx hb d_Mo_swap_146 (by decide) ?_
        obtain ⟨⟨fs, h1⟩, h⟩ := h
        have h9 := h
        clear h
        have hF := hW.free hS hA
        refine va_calli (va_runV (As := [.int l1b42, .int 1]) (rest := []) ⟨hx, hb, hml, hown, hts⟩ (c_Mo_settle _ h9) (cwV 2 hts (gi_V bw_1098 bw_1100 bs_26 bw_5 bw_1101) rfl rfl rfl (by decide +kernel) ⟨Nat.le_of_ble_eq_true rfl, Nat.le_of_ble_eq_true rfl⟩) ⟨hI.blind, hw_recv hK hW h1 rfl, hI.give hW hS hA hK hZ0⟩ rfl rfl hl.1 rfl (lv_room (Nat.le_of_ble_eq_true rfl)) d_Mo_swap_147 ⟨(show _ ≤ 0 by omega), (show _ ≤ 0 by omega)⟩) hS (fun q _ z => hF q z) hF (fun r77 M78 t H locs ht _ h hB1 _ _ hS => ?_)
        have hW := hw_back hF ht hB1
        clear h9
        exact W.iret hx hb hr (fun t ht hWm => ⟨⟨_, _, rfl, h, hw_t ht hW⟩, hS.F ht⟩) hS.2.2 d_Mo_swap_150
      · have h := h1 c57
        refine lv_aload_n hx hb d_Mo_swap_73 rfl (lv_at hl 0 rfl) ?_
        obtain ⟨fs, v79, h1, h2, h⟩ := h
        refine va_get (D := D) (ci := 5) (v := va_rf v79) (C := "ChannelHallModel") (T := TMo) (N := 26) hx hb hts uMo hown hK (hw_one hW h1) 0 rfl rfl 8 (by decide) (hts _ bw_982) (fun _ h9 => h9) h2 d_Mo_swap_74 ?_
        refine lv_iload_n hx hb d_Mo_swap_77 rfl (lv_at hl 1 rfl) ?_
        refine lv_iload_n hx hb d_Mo_swap_78 rfl (lv_at hl 3 rfl) ?_
        obtain ⟨b80, rfl, h⟩ := h
        obtain ⟨n, f, h1, h2, h⟩ := h
        obtain ⟨ws, q0, hq, hP, hD, hback, -⟩ := hw_open hW h1
        refine va_iast hx hb hK hP hD hS q0 5 hq rfl h2 d_Mo_swap_79 (fun H locs hP hD hS => ?_)
        have hW := hback _ _ hP hD
        generalize hM2 : va_up M52 b80 _ = M81 at h hW
        refine lv_aload_n hx hb d_Mo_swap_80 rfl (lv_at hl 0 rfl) ?_
        refine lv_iload_n hx hb d_Mo_swap_81 rfl (lv_at hl 1 rfl) ?_
        refine lv_iload_n hx hb d_Mo_swap_82 rfl (lv_at hl 2 rfl) ?_
        refine lv_iconst (v := 2) hx hb d_Mo_swap_83 (by decide) ?_
        refine lv_dload hx hb d_Mo_swap_84 (lv_at hl 4 rfl) ?_
        obtain ⟨⟨fs, h1⟩, h⟩ := h
        have h9 := h
        clear h
        have hF := hW.free hS hA
        refine va_calli (va_runV (As := [.int l1b42, .int l2b42, .int 2, .double l4b42]) (rest := []) ⟨hx, hb, hml, hown, hts⟩ (c_Mo_waitAt _ h9) (cwV 4 hts (gi_V bw_1094 bw_1096 bs_25 bw_5 bw_1097) rfl rfl rfl (by decide +kernel) ⟨Nat.le_of_ble_eq_true rfl, Nat.le_of_ble_eq_true rfl⟩) ⟨hI.blind, hw_recv hK hW h1 rfl, hI.give hW hS hA hK hZ0⟩ rfl rfl hl.1 rfl (lv_room (Nat.le_of_ble_eq_true rfl)) d_Mo_swap_86 ⟨(show _ ≤ 0 by omega), (show _ ≤ 0 by omega)⟩) hS (fun q _ z => hF q z) hF (fun r82 M83 t H locs ht _ h hB1 _ _ hS => ?_)
        have hW := hw_back hF ht hB1
        clear h9
        exact W.iret hx hb hr (fun t ht hWm => ⟨⟨_, _, rfl, h, hw_t ht hW⟩, hS.F ht⟩) hS.2.2 d_Mo_swap_89
    · have h := h1 c53
      refine lv_iconst (v := 3) hx hb d_Mo_swap_62 (by decide) ?_
      exact W.iret hx hb hr (fun t ht hWm => ⟨⟨_, _, rfl, h, hw_t ht hW⟩, hS.F ht⟩) hS.2.2 d_Mo_swap_63
  · have h := h1 c50
    refine lv_iconst (v := 0) hx hb d_Mo_swap_52 (by decide) ?_
    exact W.iret hx hb hr (fun t ht hWm => ⟨⟨_, _, rfl, h, hw_t ht hW⟩, hS.F ht⟩) hS.2.2 d_Mo_swap_53
set_option maxHeartbeats 1000000 in
set_option maxRecDepth 20000 in
theorem l_Mo_swap_30 {p : Program} {l : Launch} {e : Env} {s : State} {m : MethodId} {args : Array Value} {below : List Frame} {meth : Method} {c : Code} {D : va_G} {ca G : Nat → Nat} {A : Nat → Prop} (C0 : hC p s m args meth c D ca G prog_7_method_23_code 7 (some .int) "ChannelHallModel" A) {post : Int32 → hM → Prop} {M : hM} {H : Heap} {locs : List Loc} {ls : Array Slot} (l0b30 : Nat) (l1b30 : Int32) (l2b30 : Int32) (l3b30 : Int32) (l4b30 : UInt64) (s0b30 : Nat) (h : wp_Mo_swap_30 G ca post M l0b30 l1b30 l2b30 l3b30 l4b30 s0b30) (hW : hw D wCl A M H) (hS : va_S A s.heap H locs) (hl : lv_has ls 7 [(0, .ref l0b30), (1, .int l1b30), (2, .int l2b30), (3, .int l3b30), (4, .double l4b30)]) : W p l e rm_Mo_swap s m args below meth c H locs 0 0 (MQ below (va_Qi post (fun M' t => hw D wCl A M' t.heap) A) args s 0 0 A) (F0 m 30 ls [.ref s0b30]) := by
  obtain ⟨hx, hb, hr, hml, hown, hts, hlocks, hK, hA, hZ0⟩ := id C0
  refine lv_iconst (v := 1) hx hb d_Mo_swap_30 (by decide) ?_
  refine lv_goto (tgt := 42) hx hb d_Mo_swap_31 (by decide) ?_
  exact l_Mo_swap_42 C0 l0b30 l1b30 l2b30 l3b30 l4b30 1 s0b30 h hW hS (lv_sub hl [0, 1, 2, 3, 4] rfl)
set_option maxHeartbeats 1000000 in
set_option maxRecDepth 20000 in
theorem l_Mo_swap_e {p : Program} {l : Launch} {e : Env} {s : State} {m : MethodId} {args : Array Value} {below : List Frame} {meth : Method} {c : Code} {D : va_G} {ca G : Nat → Nat} {A : Nat → Prop} (C0 : hC p s m args meth c D ca G prog_7_method_23_code 7 (some .int) "ChannelHallModel" A) {post : Int32 → hM → Prop} {M : hM} {H : Heap} {locs : List Loc} {ls : Array Slot} (a0 : Nat) (x1 : Int32) (x2 : Int32) (x3 : Int32) (x4 : UInt64) (h : wp_Mo_swap G ca post M a0 x1 x2 x3 x4) (hW : hw D wCl A M H) (hS : va_S A s.heap H locs) (hl : lv_has ls 7 [(0, .ref a0), (1, .int x1), (2, .int x2), (3, .int x3), (4, .double x4)]) : W p l e rm_Mo_swap s m args below meth c H locs 0 0 (MQ below (va_Qi post (fun M' t => hw D wCl A M' t.heap) A) args s 0 0 A) (F0 m 0 ls []) := by
  obtain ⟨hx, hb, hr, hml, hown, hts, hlocks, hK, hA, hZ0⟩ := id C0
  refine lv_aload_n hx hb d_Mo_swap_0 rfl (lv_at hl 0 rfl) ?_
  refine lv_aload_n hx hb d_Mo_swap_1 rfl (lv_at hl 0 rfl) ?_
  refine lv_iload_n hx hb d_Mo_swap_2 rfl (lv_at hl 1 rfl) ?_
  refine lv_bipush (v := 6) hx hb d_Mo_swap_3 (by decide) ?_
  obtain ⟨⟨fs, h1⟩, h⟩ := h
  have h9 := h
  clear h
  have hF := hW.free hS hA
  refine va_calli (va_runV (As := [.int x1, .int 6]) (rest := [.ref a0]) ⟨hx, hb, hml, hown, hts⟩ (c_Mo_out _ h9) (cwV 2 hts (gi_V bw_1064 bw_1066 bs_19 bw_5 bw_1067) rfl rfl rfl (by decide +kernel) ⟨Nat.le_of_ble_eq_true rfl, Nat.le_of_ble_eq_true rfl⟩) ⟨hI.blind, hw_recv hK hW h1 rfl, hI.give hW hS hA hK hZ0⟩ rfl rfl hl.1 rfl (lv_room (Nat.le_of_ble_eq_true rfl)) d_Mo_swap_5 ⟨(show _ ≤ 0 by omega), (show _ ≤ 0 by omega)⟩) hS (fun q _ z => hF q z) hF (fun r84 M85 t H locs ht _ h hB1 _ _ hS => ?_)
  have hW := hw_back hF ht hB1
  clear h9
  obtain ⟨h0, h1⟩ := h
  refine lv_if_ne (tgt := 30) hx hb d_Mo_swap_8 (by decide) (fun c86 => ?_) (fun c86 => ?_)
  · have h := h0 c86
    exact l_Mo_swap_30 C0 a0 x1 x2 x3 x4 a0 h hW hS (lv_sub hl [0, 1, 2, 3, 4] rfl)
  · have h := h1 c86
    refine lv_aload_n hx hb d_Mo_swap_11 rfl (lv_at hl 0 rfl) ?_
    refine lv_iload_n hx hb d_Mo_swap_12 rfl (lv_at hl 2 rfl) ?_
    refine lv_bipush (v := 8) hx hb d_Mo_swap_13 (by decide) ?_
    obtain ⟨⟨fs, h1⟩, h⟩ := h
    have h9 := h
    clear h
    have hF := hW.free hS hA
    refine va_calli (va_runV (As := [.int x2, .int 8]) (rest := [.ref a0]) ⟨hx, hb, hml, hown, hts⟩ (c_Mo_out _ h9) (cwV 2 hts (gi_V bw_1064 bw_1066 bs_19 bw_5 bw_1067) rfl rfl rfl (by decide +kernel) ⟨Nat.le_of_ble_eq_true rfl, Nat.le_of_ble_eq_true rfl⟩) ⟨hI.blind, hw_recv hK hW h1 rfl, hI.give hW hS hA hK hZ0⟩ rfl rfl hl.1 rfl (lv_room (Nat.le_of_ble_eq_true rfl)) d_Mo_swap_15 ⟨(show _ ≤ 0 by omega), (show _ ≤ 0 by omega)⟩) hS (fun q _ z => hF q z) hF (fun r87 M88 t H locs ht _ h hB1 _ _ hS => ?_)
    have hW := hw_back hF ht hB1
    clear h9
    obtain ⟨h0, h1⟩ := h
    refine lv_if_ne (tgt := 30) hx hb d_Mo_swap_18 (by decide) (fun c89 => ?_) (fun c89 => ?_)
    · have h := h0 c89
      exact l_Mo_swap_30 C0 a0 x1 x2 x3 x4 a0 h hW hS (lv_sub hl [0, 1, 2, 3, 4] rfl)
    · have h := h1 c89
      refine lv_aload_n hx hb d_Mo_swap_21 rfl (lv_at hl 0 rfl) ?_
      refine lv_dload hx hb d_Mo_swap_22 (lv_at hl 4 rfl) ?_
      obtain ⟨⟨fs, h1⟩, h⟩ := h
      have h9 := h
      clear h
      have hF := hW.free hS hA
      refine va_calli (va_runV (As := [.double x4]) (rest := [.ref a0]) ⟨hx, hb, hml, hown, hts⟩ (c_Mo_badLimit _ h9) (cwV 1 hts (gi_V bw_1078 bw_1080 bs_21 bw_5 bw_1081) rfl rfl rfl (by decide +kernel) ⟨Nat.le_of_ble_eq_true rfl, Nat.le_of_ble_eq_true rfl⟩) ⟨hI.blind, hw_recv hK hW h1 rfl, hI.give hW hS hA hK hZ0⟩ rfl rfl hl.1 rfl (lv_room (Nat.le_of_ble_eq_true rfl)) d_Mo_swap_24 ⟨(show _ ≤ 0 by omega), (show _ ≤ 0 by omega)⟩) hS (fun q _ z => hF q z) hF (fun r90 M91 t H locs ht _ h hB1 _ _ hS => ?_)
      have hW := hw_back hF ht hB1
      clear h9
      obtain ⟨h0, h1⟩ := h
      refine lv_if_eq (tgt := 34) hx hb d_Mo_swap_27 (by decide) (fun c92 => ?_) (fun c92 => ?_)
      · have h := h0 c92
        refine lv_aload_n hx hb d_Mo_swap_34 rfl (lv_at hl 0 rfl) ?_
        refine lv_iload_n hx hb d_Mo_swap_35 rfl (lv_at hl 1 rfl) ?_
        refine lv_iload_n hx hb d_Mo_swap_36 rfl (lv_at hl 2 rfl) ?_
        refine lv_iconst (v := 5) hx hb d_Mo_swap_37 (by decide) ?_
        refine lv_iconst (v := 5) hx hb d_Mo_swap_38 (by decide) ?_
        obtain ⟨⟨fs, h1⟩, h⟩ := h
        have h9 := h
        clear h
        have hF := hW.free hS hA
        refine va_calli (va_runV (As := [.int x1, .int x2, .int 5, .int 5]) (rest := [.ref a0]) ⟨hx, hb, hml, hown, hts⟩ (c_Mo_check _ h9) (cwV 4 hts (gi_V bw_1082 bw_1084 bs_22 bw_5 bw_1085) rfl rfl rfl (by decide +kernel) ⟨Nat.le_of_ble_eq_true rfl, Nat.le_of_ble_eq_true rfl⟩) ⟨hI.blind, hw_recv hK hW h1 rfl, hI.give hW hS hA hK hZ0⟩ rfl rfl hl.1 rfl (lv_room (Nat.le_of_ble_eq_true rfl)) d_Mo_swap_39 ⟨(show _ ≤ 0 by omega), (show _ ≤ 0 by omega)⟩) hS (fun q _ z => hF q z) hF (fun r93 M94 t H locs ht _ h hB1 _ _ hS => ?_)
        have hW := hw_back hF ht hB1
        clear h9
        exact l_Mo_swap_42 C0 a0 x1 x2 x3 x4 r93 a0 h hW hS (lv_sub hl [0, 1, 2, 3, 4] rfl)
      · have h := h1 c92
        exact l_Mo_swap_30 C0 a0 x1 x2 x3 x4 a0 h hW hS (lv_sub hl [0, 1, 2, 3, 4] rfl)
set_option maxRecDepth 20000 in
theorem c_Mo_swap {l : Launch} {D : va_G} {ca G : Nat → Nat} (post : Int32 → hM → Prop) {M : hM} {sz : Nat} {a0 : Nat} {x1 : Int32} {x2 : Int32} {x3 : Int32} {x4 : UInt64} (h : wp_Mo_swap G ca post M a0 x1 x2 x3 x4) : Met l y_Mo_swap (wz y_Mo_swap prog_7_method_23_code 7 (some .int)) rm_Mo_swap (va_Pc [.ref a0, .int x1, .int x2, .int x3, .double x4] (hI D ca G sz M)) (va_Qi post (hB D M sz) (hp_A M sz)) 0 0 (hp_A M sz) := by
  refine Met.ofW (cc := prog_7_method_23_code) (maxL := 7) (ret := some .int) (by decide) rfl ?_
  intro p e s m args below meth c s₁ B hml hv
  obtain ⟨rfl, hsz, hW, hK, hZ0⟩ := hv
  have hts := fun w hw => atoms_spec (ws := wz y_Mo_swap prog_7_method_23_code 7 (some .int)) B.pre w (List.mem_cons_of_mem _ hw)
  have hown : s.vm.findClass "ChannelHallModel" = some m.cls := findClass_of_methodNamed B.named
  subst hsz
  have hl := lv_entry [.ref a0, .int x1, .int x2, .int x3, .double x4] (n := 7) (Nat.le_of_ble_eq_true rfl)
  rw [lg_entry_eq]
  exact l_Mo_swap_e ⟨B.exec, B.bytes, B.returns, hml, hown, hts, B.notSynchronized, hK, fun q h => Or.inr h, hZ0⟩ a0 x1 x2 x3 x4 h hW va_S.rf hl

theorem d_Mo_arrive_0 : decode prog_7_method_24_code 0 = .ok (.aload_n 0, 1) := by decide +kernel
theorem d_Mo_arrive_1 : decode prog_7_method_24_code 1 = .ok (.aload_n 0, 1) := by decide +kernel
theorem d_Mo_arrive_2 : decode prog_7_method_24_code 2 = .ok (.iload_n 1, 1) := by decide +kernel
theorem d_Mo_arrive_3 : decode prog_7_method_24_code 3 = .ok (.bipush 6, 2) := by decide +kernel
theorem d_Mo_arrive_5 : decode prog_7_method_24_code 5 = .ok (.invokevirtual 90, 3) := by decide +kernel
theorem d_Mo_arrive_8 : decode prog_7_method_24_code 8 = .ok (.ifCond .ne 21, 3) := by decide +kernel
theorem d_Mo_arrive_11 : decode prog_7_method_24_code 11 = .ok (.aload_n 0, 1) := by decide +kernel
theorem d_Mo_arrive_12 : decode prog_7_method_24_code 12 = .ok (.iload_n 2, 1) := by decide +kernel
theorem d_Mo_arrive_13 : decode prog_7_method_24_code 13 = .ok (.bipush 8, 2) := by decide +kernel
theorem d_Mo_arrive_15 : decode prog_7_method_24_code 15 = .ok (.invokevirtual 90, 3) := by decide +kernel
theorem d_Mo_arrive_18 : decode prog_7_method_24_code 18 = .ok (.ifCond .ne 11, 3) := by decide +kernel
theorem d_Mo_arrive_21 : decode prog_7_method_24_code 21 = .ok (.aload_n 0, 1) := by decide +kernel
theorem d_Mo_arrive_22 : decode prog_7_method_24_code 22 = .ok (.dload_n 3, 1) := by decide +kernel
theorem d_Mo_arrive_23 : decode prog_7_method_24_code 23 = .ok (.invokevirtual 142, 3) := by decide +kernel
theorem d_Mo_arrive_26 : decode prog_7_method_24_code 26 = .ok (.ifCond .eq 7, 3) := by decide +kernel
theorem d_Mo_arrive_29 : decode prog_7_method_24_code 29 = .ok (.iconst 1, 1) := by decide +kernel
theorem d_Mo_arrive_30 : decode prog_7_method_24_code 30 = .ok (.goto 13, 3) := by decide +kernel
theorem d_Mo_arrive_33 : decode prog_7_method_24_code 33 = .ok (.aload_n 0, 1) := by decide +kernel
theorem d_Mo_arrive_34 : decode prog_7_method_24_code 34 = .ok (.iload_n 1, 1) := by decide +kernel
theorem d_Mo_arrive_35 : decode prog_7_method_24_code 35 = .ok (.iload_n 2, 1) := by decide +kernel
theorem d_Mo_arrive_36 : decode prog_7_method_24_code 36 = .ok (.bipush 6, 2) := by decide +kernel
theorem d_Mo_arrive_38 : decode prog_7_method_24_code 38 = .ok (.bipush 6, 2) := by decide +kernel
theorem d_Mo_arrive_40 : decode prog_7_method_24_code 40 = .ok (.invokevirtual 146, 3) := by decide +kernel
theorem d_Mo_arrive_43 : decode prog_7_method_24_code 43 = .ok (.putfield 86, 3) := by decide +kernel
theorem d_Mo_arrive_46 : decode prog_7_method_24_code 46 = .ok (.aload_n 0, 1) := by decide +kernel
theorem d_Mo_arrive_47 : decode prog_7_method_24_code 47 = .ok (.getfield 86, 3) := by decide +kernel
theorem d_Mo_arrive_50 : decode prog_7_method_24_code 50 = .ok (.ifCond .le 5, 3) := by decide +kernel
theorem d_Mo_arrive_53 : decode prog_7_method_24_code 53 = .ok (.iconst 0, 1) := by decide +kernel
theorem d_Mo_arrive_54 : decode prog_7_method_24_code 54 = .ok (.ireturn, 1) := by decide +kernel
theorem d_Mo_arrive_55 : decode prog_7_method_24_code 55 = .ok (.iload_n 2, 1) := by decide +kernel
theorem d_Mo_arrive_56 : decode prog_7_method_24_code 56 = .ok (.istore 5, 2) := by decide +kernel
theorem d_Mo_arrive_58 : decode prog_7_method_24_code 58 = .ok (.aload_n 0, 1) := by decide +kernel
theorem d_Mo_arrive_59 : decode prog_7_method_24_code 59 = .ok (.getfield 51, 3) := by decide +kernel
theorem d_Mo_arrive_62 : decode prog_7_method_24_code 62 = .ok (.iload 5, 2) := by decide +kernel
theorem d_Mo_arrive_64 : decode prog_7_method_24_code 64 = .ok (.baload, 1) := by decide +kernel
theorem d_Mo_arrive_65 : decode prog_7_method_24_code 65 = .ok (.ifCond .eq 9, 3) := by decide +kernel
theorem d_Mo_arrive_68 : decode prog_7_method_24_code 68 = .ok (.aload_n 0, 1) := by decide +kernel
theorem d_Mo_arrive_69 : decode prog_7_method_24_code 69 = .ok (.iconst 5, 1) := by decide +kernel
theorem d_Mo_arrive_70 : decode prog_7_method_24_code 70 = .ok (.invokevirtual 94, 3) := by decide +kernel
theorem d_Mo_arrive_73 : decode prog_7_method_24_code 73 = .ok (.ireturn, 1) := by decide +kernel
theorem d_Mo_arrive_74 : decode prog_7_method_24_code 74 = .ok (.aload_n 0, 1) := by decide +kernel
theorem d_Mo_arrive_75 : decode prog_7_method_24_code 75 = .ok (.iload_n 1, 1) := by decide +kernel
theorem d_Mo_arrive_76 : decode prog_7_method_24_code 76 = .ok (.invokevirtual 150, 3) := by decide +kernel
theorem d_Mo_arrive_79 : decode prog_7_method_24_code 79 = .ok (.ifCond .eq 20, 3) := by decide +kernel
theorem d_Mo_arrive_82 : decode prog_7_method_24_code 82 = .ok (.aload_n 0, 1) := by decide +kernel
theorem d_Mo_arrive_83 : decode prog_7_method_24_code 83 = .ok (.getfield 51, 3) := by decide +kernel
theorem d_Mo_arrive_86 : decode prog_7_method_24_code 86 = .ok (.iload 5, 2) := by decide +kernel
theorem d_Mo_arrive_88 : decode prog_7_method_24_code 88 = .ok (.iconst 1, 1) := by decide +kernel
theorem d_Mo_arrive_89 : decode prog_7_method_24_code 89 = .ok (.bastore, 1) := by decide +kernel
theorem d_Mo_arrive_90 : decode prog_7_method_24_code 90 = .ok (.aload_n 0, 1) := by decide +kernel
theorem d_Mo_arrive_91 : decode prog_7_method_24_code 91 = .ok (.iload 5, 2) := by decide +kernel
theorem d_Mo_arrive_93 : decode prog_7_method_24_code 93 = .ok (.iconst 4, 1) := by decide +kernel
theorem d_Mo_arrive_94 : decode prog_7_method_24_code 94 = .ok (.invokevirtual 110, 3) := by decide +kernel
theorem d_Mo_arrive_97 : decode prog_7_method_24_code 97 = .ok (.iconst 3, 1) := by decide +kernel
theorem d_Mo_arrive_98 : decode prog_7_method_24_code 98 = .ok (.ireturn, 1) := by decide +kernel
theorem d_Mo_arrive_99 : decode prog_7_method_24_code 99 = .ok (.aload_n 0, 1) := by decide +kernel
theorem d_Mo_arrive_100 : decode prog_7_method_24_code 100 = .ok (.getfield 60, 3) := by decide +kernel
theorem d_Mo_arrive_103 : decode prog_7_method_24_code 103 = .ok (.iload 5, 2) := by decide +kernel
theorem d_Mo_arrive_105 : decode prog_7_method_24_code 105 = .ok (.iaload, 1) := by decide +kernel
theorem d_Mo_arrive_106 : decode prog_7_method_24_code 106 = .ok (.aload_n 0, 1) := by decide +kernel
theorem d_Mo_arrive_107 : decode prog_7_method_24_code 107 = .ok (.getfield 48, 3) := by decide +kernel
theorem d_Mo_arrive_110 : decode prog_7_method_24_code 110 = .ok (.iload 5, 2) := by decide +kernel
theorem d_Mo_arrive_112 : decode prog_7_method_24_code 112 = .ok (.iaload, 1) := by decide +kernel
theorem d_Mo_arrive_113 : decode prog_7_method_24_code 113 = .ok (.iconst 1, 1) := by decide +kernel
theorem d_Mo_arrive_114 : decode prog_7_method_24_code 114 = .ok (.isub, 1) := by decide +kernel
theorem d_Mo_arrive_115 : decode prog_7_method_24_code 115 = .ok (.if_icmp .ne 28, 3) := by decide +kernel
theorem d_Mo_arrive_118 : decode prog_7_method_24_code 118 = .ok (.aload_n 0, 1) := by decide +kernel
theorem d_Mo_arrive_119 : decode prog_7_method_24_code 119 = .ok (.iload 5, 2) := by decide +kernel
theorem d_Mo_arrive_121 : decode prog_7_method_24_code 121 = .ok (.iconst 1, 1) := by decide +kernel
theorem d_Mo_arrive_122 : decode prog_7_method_24_code 122 = .ok (.invokevirtual 110, 3) := by decide +kernel
theorem d_Mo_arrive_125 : decode prog_7_method_24_code 125 = .ok (.aload_n 0, 1) := by decide +kernel
theorem d_Mo_arrive_126 : decode prog_7_method_24_code 126 = .ok (.getfield 54, 3) := by decide +kernel
theorem d_Mo_arrive_129 : decode prog_7_method_24_code 129 = .ok (.iload 5, 2) := by decide +kernel
theorem d_Mo_arrive_131 : decode prog_7_method_24_code 131 = .ok (.dup2, 1) := by decide +kernel
theorem d_Mo_arrive_132 : decode prog_7_method_24_code 132 = .ok (.iaload, 1) := by decide +kernel
theorem d_Mo_arrive_133 : decode prog_7_method_24_code 133 = .ok (.iconst 1, 1) := by decide +kernel
theorem d_Mo_arrive_134 : decode prog_7_method_24_code 134 = .ok (.iadd, 1) := by decide +kernel
theorem d_Mo_arrive_135 : decode prog_7_method_24_code 135 = .ok (.iastore, 1) := by decide +kernel
theorem d_Mo_arrive_136 : decode prog_7_method_24_code 136 = .ok (.aload_n 0, 1) := by decide +kernel
theorem d_Mo_arrive_137 : decode prog_7_method_24_code 137 = .ok (.iload_n 1, 1) := by decide +kernel
theorem d_Mo_arrive_138 : decode prog_7_method_24_code 138 = .ok (.iconst 1, 1) := by decide +kernel
theorem d_Mo_arrive_139 : decode prog_7_method_24_code 139 = .ok (.invokevirtual 98, 3) := by decide +kernel
theorem d_Mo_arrive_142 : decode prog_7_method_24_code 142 = .ok (.ireturn, 1) := by decide +kernel
theorem d_Mo_arrive_143 : decode prog_7_method_24_code 143 = .ok (.aload_n 0, 1) := by decide +kernel
theorem d_Mo_arrive_144 : decode prog_7_method_24_code 144 = .ok (.getfield 20, 3) := by decide +kernel
theorem d_Mo_arrive_147 : decode prog_7_method_24_code 147 = .ok (.iload_n 1, 1) := by decide +kernel
theorem d_Mo_arrive_148 : decode prog_7_method_24_code 148 = .ok (.iconst 1, 1) := by decide +kernel
theorem d_Mo_arrive_149 : decode prog_7_method_24_code 149 = .ok (.bastore, 1) := by decide +kernel
theorem d_Mo_arrive_150 : decode prog_7_method_24_code 150 = .ok (.aload_n 0, 1) := by decide +kernel
theorem d_Mo_arrive_151 : decode prog_7_method_24_code 151 = .ok (.getfield 23, 3) := by decide +kernel
theorem d_Mo_arrive_154 : decode prog_7_method_24_code 154 = .ok (.iload_n 1, 1) := by decide +kernel
theorem d_Mo_arrive_155 : decode prog_7_method_24_code 155 = .ok (.aload_n 0, 1) := by decide +kernel
theorem d_Mo_arrive_156 : decode prog_7_method_24_code 156 = .ok (.getfield 60, 3) := by decide +kernel
theorem d_Mo_arrive_159 : decode prog_7_method_24_code 159 = .ok (.iload 5, 2) := by decide +kernel
theorem d_Mo_arrive_161 : decode prog_7_method_24_code 161 = .ok (.iaload, 1) := by decide +kernel
theorem d_Mo_arrive_162 : decode prog_7_method_24_code 162 = .ok (.iastore, 1) := by decide +kernel
theorem d_Mo_arrive_163 : decode prog_7_method_24_code 163 = .ok (.aload_n 0, 1) := by decide +kernel
theorem d_Mo_arrive_164 : decode prog_7_method_24_code 164 = .ok (.iload_n 1, 1) := by decide +kernel
theorem d_Mo_arrive_165 : decode prog_7_method_24_code 165 = .ok (.iload 5, 2) := by decide +kernel
theorem d_Mo_arrive_167 : decode prog_7_method_24_code 167 = .ok (.iconst 2, 1) := by decide +kernel
theorem d_Mo_arrive_168 : decode prog_7_method_24_code 168 = .ok (.dload_n 3, 1) := by decide +kernel
theorem d_Mo_arrive_169 : decode prog_7_method_24_code 169 = .ok (.invokevirtual 153, 3) := by decide +kernel
theorem d_Mo_arrive_172 : decode prog_7_method_24_code 172 = .ok (.istore 6, 2) := by decide +kernel
theorem d_Mo_arrive_174 : decode prog_7_method_24_code 174 = .ok (.iload 6, 2) := by decide +kernel
theorem d_Mo_arrive_176 : decode prog_7_method_24_code 176 = .ok (.iconst 2, 1) := by decide +kernel
theorem d_Mo_arrive_177 : decode prog_7_method_24_code 177 = .ok (.if_icmp .ne 18, 3) := by decide +kernel
theorem d_Mo_arrive_180 : decode prog_7_method_24_code 180 = .ok (.aload_n 0, 1) := by decide +kernel
theorem d_Mo_arrive_181 : decode prog_7_method_24_code 181 = .ok (.getfield 51, 3) := by decide +kernel
theorem d_Mo_arrive_184 : decode prog_7_method_24_code 184 = .ok (.iload 5, 2) := by decide +kernel
theorem d_Mo_arrive_186 : decode prog_7_method_24_code 186 = .ok (.iconst 1, 1) := by decide +kernel
theorem d_Mo_arrive_187 : decode prog_7_method_24_code 187 = .ok (.bastore, 1) := by decide +kernel
theorem d_Mo_arrive_188 : decode prog_7_method_24_code 188 = .ok (.aload_n 0, 1) := by decide +kernel
theorem d_Mo_arrive_189 : decode prog_7_method_24_code 189 = .ok (.iload 5, 2) := by decide +kernel
theorem d_Mo_arrive_191 : decode prog_7_method_24_code 191 = .ok (.iconst 4, 1) := by decide +kernel
theorem d_Mo_arrive_192 : decode prog_7_method_24_code 192 = .ok (.invokevirtual 110, 3) := by decide +kernel
theorem d_Mo_arrive_195 : decode prog_7_method_24_code 195 = .ok (.iload 6, 2) := by decide +kernel
theorem d_Mo_arrive_197 : decode prog_7_method_24_code 197 = .ok (.ireturn, 1) := by decide +kernel
def y_Mo_arrive : MethodName := ⟨"ChannelHallModel", "arrive", "(IID)I"⟩
abbrev rm_Mo_arrive : Room := { frames := 2, cells := 0, slots := 0, locals := 47 }
def wp_Mo_arrive_195 (G ca : Nat → Nat) (post : Int32 → hM → Prop) (M : hM) (l6b195 : Int32) : Prop := post l6b195 M
def wp_Mo_arrive_43 (G ca : Nat → Nat) (post : Int32 → hM → Prop) (M : hM) (l0b43 : Nat) (l1b43 : Int32) (l2b43 : Int32) (l3b43 : UInt64) (s0b43 : Int32) (s1b43 : Nat) : Prop := pF M s1b43 5 0 (.int s0b43) fun M58 => gI M58 l0b43 5 0 fun v59 => (v59 ≤ 0 → gR M58 l0b43 5 15 fun v61 => nN v61 fun b62 => aI M58 b62 (ca 6) l2b43 fun v63 => (v63 = 0 → rC M58 l0b43 5 (wp_Mo_flagged G ca (fun r65 M66 => (r65 = 0 → gR M66 l0b43 5 18 fun v68 => nN v68 fun b69 => aI M66 b69 (ca 5) l2b43 fun v70 => gR M66 l0b43 5 14 fun v71 => nN v71 fun b72 => aI M66 b72 (ca 5) l2b43 fun v73 => (¬ v70 = (v73 - 1) → gR M66 l0b43 5 4 fun v75 => nN v75 fun b76 => bZ 1 (sI M66 b76 (ca 6) l1b43 1 fun M77 => gR M77 l0b43 5 5 fun v78 => gR M77 l0b43 5 18 fun v79 => nN v79 fun b80 => aI M77 b80 (ca 5) l2b43 fun v81 => nN v78 fun b82 => sI M77 b82 (ca 5) l1b43 v81 fun M83 => rC M83 l0b43 5 (wp_Mo_waitAt G ca (fun r84 M85 => (¬ r84 = 2 → wp_Mo_arrive_195 G ca post M85 r84) ∧ (r84 = 2 → gR M85 l0b43 5 15 fun v87 => nN v87 fun b88 => bZ 1 (sI M85 b88 (ca 6) l2b43 1 fun M89 => rC M89 l0b43 5 (wp_Mo_freeAll G ca (fun M90 => wp_Mo_arrive_195 G ca post M90 r84) M89 l0b43 l2b43 4)))) M83 l0b43 l1b43 l2b43 2 l3b43))) ∧ (v70 = (v73 - 1) → rC M66 l0b43 5 (wp_Mo_freeAll G ca (fun M91 => gR M91 l0b43 5 16 fun v92 => nN v92 fun b93 => aI M91 b93 (ca 5) l2b43 fun v94 => sI M91 b93 (ca 5) l2b43 (v94 + 1) fun M95 => rC M95 l0b43 5 (wp_Mo_settle G ca (fun r96 M97 => post r96 M97) M95 l0b43 l1b43 1)) M66 l0b43 l2b43 1))) ∧ (¬ r65 = 0 → gR M66 l0b43 5 15 fun v98 => nN v98 fun b99 => bZ 1 (sI M66 b99 (ca 6) l2b43 1 fun M100 => rC M100 l0b43 5 (wp_Mo_freeAll G ca (fun M101 => post 3 M101) M100 l0b43 l2b43 4)))) M58 l0b43 l1b43)) ∧ (¬ v63 = 0 → rC M58 l0b43 5 (wp_Mo_fail G ca (fun r102 M103 => post r102 M103) M58 l0b43 5))) ∧ (¬ v59 ≤ 0 → post 0 M58)
def wp_Mo_arrive_29 (G ca : Nat → Nat) (post : Int32 → hM → Prop) (M : hM) (l0b29 : Nat) (l1b29 : Int32) (l2b29 : Int32) (l3b29 : UInt64) (s0b29 : Nat) : Prop := wp_Mo_arrive_43 G ca post M l0b29 l1b29 l2b29 l3b29 1 s0b29
def wp_Mo_arrive (G ca : Nat → Nat) (post : Int32 → hM → Prop) (M : hM) (a0 : Nat) (x1 : Int32) (x2 : Int32) (x3 : UInt64) : Prop := rC M a0 5 (wp_Mo_out G ca (fun r104 M105 => (¬ r104 = 0 → wp_Mo_arrive_29 G ca post M105 a0 x1 x2 x3 a0) ∧ (r104 = 0 → rC M105 a0 5 (wp_Mo_out G ca (fun r107 M108 => (¬ r107 = 0 → wp_Mo_arrive_29 G ca post M108 a0 x1 x2 x3 a0) ∧ (r107 = 0 → rC M108 a0 5 (wp_Mo_badLimit G ca (fun r110 M111 => (r110 = 0 → rC M111 a0 5 (wp_Mo_check G ca (fun r113 M114 => wp_Mo_arrive_43 G ca post M114 a0 x1 x2 x3 r113 a0) M111 a0 x1 x2 6 6)) ∧ (¬ r110 = 0 → wp_Mo_arrive_29 G ca post M111 a0 x1 x2 x3 a0)) M108 a0 x3))) M105 a0 x2 8))) M a0 x1 6)
set_option maxHeartbeats 1000000 in
set_option maxRecDepth 20000 in
theorem l_Mo_arrive_195 {p : Program} {l : Launch} {e : Env} {s : State} {m : MethodId} {args : Array Value} {below : List Frame} {meth : Method} {c : Code} {D : va_G} {ca G : Nat → Nat} {A : Nat → Prop} (C0 : hC p s m args meth c D ca G prog_7_method_24_code 7 (some .int) "ChannelHallModel" A) {post : Int32 → hM → Prop} {M : hM} {H : Heap} {locs : List Loc} {ls : Array Slot} (l6b195 : Int32) (h : wp_Mo_arrive_195 G ca post M l6b195) (hW : hw D wCl A M H) (hS : va_S A s.heap H locs) (hl : lv_has ls 7 [(6, .int l6b195)]) : W p l e rm_Mo_arrive s m args below meth c H locs 0 0 (MQ below (va_Qi post (fun M' t => hw D wCl A M' t.heap) A) args s 0 0 A) (F0 m 195 ls []) := by
  obtain ⟨hx, hb, hr, hml, hown, hts, hlocks, hK, hA, hZ0⟩ := id C0
  refine lv_iload hx hb d_Mo_arrive_195 (lv_at hl 0 rfl) ?_
  exact W.iret hx hb hr (fun t ht hWm => ⟨⟨_, _, rfl, h, hw_t ht hW⟩, hS.F ht⟩) hS.2.2 d_Mo_arrive_197
set_option maxHeartbeats 1000000 in
set_option maxRecDepth 20000 in
theorem l_Mo_arrive_43 {p : Program} {l : Launch} {e : Env} {s : State} {m : MethodId} {args : Array Value} {below : List Frame} {meth : Method} {c : Code} {D : va_G} {ca G : Nat → Nat} {A : Nat → Prop} (C0 : hC p s m args meth c D ca G prog_7_method_24_code 7 (some .int) "ChannelHallModel" A) {post : Int32 → hM → Prop} {M : hM} {H : Heap} {locs : List Loc} {ls : Array Slot} (l0b43 : Nat) (l1b43 : Int32) (l2b43 : Int32) (l3b43 : UInt64) (s0b43 : Int32) (s1b43 : Nat) (h : wp_Mo_arrive_43 G ca post M l0b43 l1b43 l2b43 l3b43 s0b43 s1b43) (hW : hw D wCl A M H) (hS : va_S A s.heap H locs) (hl : lv_has ls 7 [(0, .ref l0b43), (1, .int l1b43), (2, .int l2b43), (3, .double l3b43)]) : W p l e rm_Mo_arrive s m args below meth c H locs 0 0 (MQ below (va_Qi post (fun M' t => hw D wCl A M' t.heap) A) args s 0 0 A) (F0 m 43 ls [.int s0b43, .ref s1b43]) := by
  obtain ⟨hx, hb, hr, hml, hown, hts, hlocks, hK, hA, hZ0⟩ := id C0
  obtain ⟨fs, h1, h2, h⟩ := h
  obtain ⟨ws, q0, hq, hP, hD, hback, -⟩ := hw_open hW h1
  refine va_put (D := D) (ci := 5) (v := .int s0b43) (ty := .int) (C := "ChannelHallModel") (T := TMo) (N := 26) hx hb hts uMo tMo tMo_ok nMo hown hK hP hD hS q0 hq rfl 0 (by decide) (hts _ bw_974) (fun _ h9 => h9) rfl (by decide +kernel) rfl rfl h2 d_Mo_arrive_43 (fun H locs hP hD hS => ?_)
  have hW := hback _ _ hP hD
  generalize (va_up M s1b43 (some (.inr (5, fs.set 0 (.int s0b43))))) = M58 at h hW
  refine lv_aload_n hx hb d_Mo_arrive_46 rfl (lv_at hl 0 rfl) ?_
  obtain ⟨fs, v59, h1, h2, h⟩ := h
  refine va_get (D := D) (ci := 5) (v := .int v59) (C := "ChannelHallModel") (T := TMo) (N := 26) hx hb hts uMo hown hK (hw_one hW h1) 0 rfl rfl 0 (by decide) (hts _ bw_974) (fun _ h9 => h9) h2 d_Mo_arrive_47 ?_
  obtain ⟨h0, h1⟩ := h
  refine lv_if_le (tgt := 55) hx hb d_Mo_arrive_50 (by decide) (fun c60 => ?_) (fun c60 => ?_)
  · have h := h0 c60
    refine lv_iload_n hx hb d_Mo_arrive_55 rfl (lv_at hl 2 rfl) ?_
    refine lv_istore (lv' := [(5, .int l2b43), (0, .ref l0b43), (1, .int l1b43), (2, .int l2b43), (3, .double l3b43)]) hx hb d_Mo_arrive_56 hl (by decide) rfl (fun ls hl => ?_)
    refine lv_aload_n hx hb d_Mo_arrive_58 rfl (lv_at hl 1 rfl) ?_
    obtain ⟨fs, v61, h1, h2, h⟩ := h
    refine va_get (D := D) (ci := 5) (v := va_rf v61) (C := "ChannelHallModel") (T := TMo) (N := 26) hx hb hts uMo hown hK (hw_one hW h1) 0 rfl rfl 15 (by decide) (hts _ bw_989) (fun _ h9 => h9) h2 d_Mo_arrive_59 ?_
    refine lv_iload hx hb d_Mo_arrive_62 (lv_at hl 0 rfl) ?_
    obtain ⟨b62, rfl, h⟩ := h
    obtain ⟨n, f, h1, h2, h⟩ := h
    refine va_zald hx hb hK (hw_one hW h1) 0 6 rfl rfl h2 d_Mo_arrive_64 ?_
    generalize f (l2b43).toNatClampNeg = v63 at h ⊢
    obtain ⟨h0, h1⟩ := h
    refine lv_if_eq (tgt := 74) hx hb d_Mo_arrive_65 (by decide) (fun c64 => ?_) (fun c64 => ?_)
    · have h := h0 c64
      refine lv_aload_n hx hb d_Mo_arrive_74 rfl (lv_at hl 1 rfl) ?_
      refine lv_iload_n hx hb d_Mo_arrive_75 rfl (lv_at hl 2 rfl) ?_
      obtain ⟨⟨fs, h1⟩, h⟩ := h
      have h9 := h
      clear h
      have hF := hW.free hS hA
      refine va_calli (va_runV (As := [.int l1b43]) (rest := []) ⟨hx, hb, hml, hown, hts⟩ (c_Mo_flagged _ h9) (cwV 1 hts (gi_V bw_1086 bw_1088 bs_23 bw_5 bw_1089) rfl rfl rfl (by decide +kernel) ⟨Nat.le_of_ble_eq_true rfl, Nat.le_of_ble_eq_true rfl⟩) ⟨hI.blind, hw_recv hK hW h1 rfl, hI.give hW hS hA hK hZ0⟩ rfl rfl hl.1 rfl (lv_room (Nat.le_of_ble_eq_true rfl)) d_Mo_arrive_76 ⟨(show _ ≤ 0 by omega), (show _ ≤ 0 by omega)⟩) hS (fun q _ z => hF q z) hF (fun r65 M66 t H locs ht _ h hB1 _ _ hS => ?_)
      have hW := hw_back hF ht hB1
      clear h9
      obtain ⟨h0, h1⟩ := h
      refine lv_if_eq (tgt := 99) hx hb d_Mo_arrive_79 (by decide) (fun c67 => ?_) (fun c67 => ?_)
      · have h := h0 c67
        refine lv_aload_n hx hb d_Mo_arrive_99 rfl (lv_at hl 1 rfl) ?_
        obtain ⟨fs, v68, h1, h2, h⟩ := h
        refine va_get (D := D) (ci := 5) (v := va_rf v68) (C := "ChannelHallModel") (T := TMo) (N := 26) hx hb hts uMo hown hK (hw_one hW h1) 0 rfl rfl 18 (by decide) (hts _ bw_992) (fun _ h9 => h9) h2 d_Mo_arrive_100 ?_
        refine lv_iload hx hb d_Mo_arrive_103 (lv_at hl 0 rfl) ?_
        obtain ⟨b69, rfl, h⟩ := h
        obtain ⟨n, f, h1, h2, h⟩ := h
        refine va_iald hx hb hK (hw_one hW h1) 0 5 rfl rfl h2 d_Mo_arrive_105 ?_
        generalize f (l2b43).toNatClampNeg = v70 at h ⊢
        refine lv_aload_n hx hb d_Mo_arrive_106 rfl (lv_at hl 1 rfl) ?_
        obtain ⟨fs, v71, h1, h2, h⟩ := h
        refine va_get (D := D) (ci := 5) (v := va_rf v71) (C := "ChannelHallModel") (T := TMo) (N := 26) hx hb hts uMo hown hK (hw_one hW h1) 0 rfl rfl 14 (by decide) (hts _ bw_988) (fun _ h9 => h9) h2 d_Mo_arrive_107 ?_
        refine lv_iload hx hb d_Mo_arrive_110 (lv_at hl 0 rfl) ?_
        obtain ⟨b72, rfl, h⟩ := h
        obtain ⟨n, f, h1, h2, h⟩ := h
        refine va_iald hx hb hK (hw_one hW h1) 0 5 rfl rfl h2 d_Mo_arrive_112 ?_
        generalize f (l2b43).toNatClampNeg = v73 at h ⊢
        refine lv_iconst (v := 1) hx hb d_Mo_arrive_113 (by decide) ?_
        refine lv_isub hx hb d_Mo_arrive_114 ?_
        obtain ⟨h0, h1⟩ := h
        refine lv_icmp_ne (tgt := 143) hx hb d_Mo_arrive_115 (by decide) (fun c74 => ?_) (fun c74 => ?_)
        · have h := h0 c74
          refine lv_aload_n hx hb d_Mo_arrive_143 rfl (lv_at hl 1 rfl) ?_
          obtain ⟨fs, v75, h1, h2, h⟩ := h
          refine va_get (D := D) (ci := 5) (v := va_rf v75) (C := "ChannelHallModel") (T := TMo) (N := 26) hx hb hts uMo hown hK (hw_one hW h1) 0 rfl rfl 4 (by decide) (hts _ bw_978) (fun _ h9 => h9) h2 d_Mo_arrive_144 ?_
          refine lv_iload_n hx hb d_Mo_arrive_147 rfl (lv_at hl 2 rfl) ?_
          refine lv_iconst (v := 1) hx hb d_Mo_arrive_148 (by decide) ?_
          obtain ⟨b76, rfl, h⟩ := h
          obtain ⟨hz, n, f, h1, h2, h⟩ := h
          obtain ⟨ws, q0, hq, hP, hD, hback, -⟩ := hw_open hW h1
          refine va_zast (x := 1) hx hb hK hP hD hS q0 6 hq rfl h2 d_Mo_arrive_149 (fun H locs hP hD hS => ?_)
          rw [nb_v hz] at hP hD
          have hW := hback _ _ hP hD
          generalize hM2 : va_up M66 b76 _ = M77 at h hW
          refine lv_aload_n hx hb d_Mo_arrive_150 rfl (lv_at hl 1 rfl) ?_
          obtain ⟨fs, v78, h1, h2, h⟩ := h
          refine va_get (D := D) (ci := 5) (v := va_rf v78) (C := "ChannelHallModel") (T := TMo) (N := 26) hx hb hts uMo hown hK (hw_one hW h1) 0 rfl rfl 5 (by decide) (hts _ bw_979) (fun _ h9 => h9) h2 d_Mo_arrive_151 ?_
          refine lv_iload_n hx hb d_Mo_arrive_154 rfl (lv_at hl 2 rfl) ?_
          refine lv_aload_n hx hb d_Mo_arrive_155 rfl (lv_at hl 1 rfl) ?_
          obtain ⟨fs, v79, h1, h2, h⟩ := h
          refine va_get (D := D) (ci := 5) (v := va_rf v79) (C := "ChannelHallModel") (T := TMo) (N := 26) hx hb hts uMo hown hK (hw_one hW h1) 0 rfl rfl 18 (by decide) (hts _ bw_992) (fun _ h9 => h9) h2 d_Mo_arrive_156 ?_
          refine lv_iload hx hb d_Mo_arrive_159 (lv_at hl 0 rfl) ?_
          obtain ⟨b80, rfl, h⟩ := h
          obtain ⟨n, f, h1, h2, h⟩ := h
          refine va_iald hx hb hK (hw_one hW h1) 0 5 rfl rfl h2 d_Mo_arrive_161 ?_
          generalize f (l2b43).toNatClampNeg = v81 at h ⊢
          obtain ⟨b82, rfl, h⟩ := h
          obtain ⟨n, f, h1, h2, h⟩ := h
          obtain ⟨ws, q0, hq, hP, hD, hback, -⟩ := hw_open hW h1
          refine va_iast hx hb hK hP hD hS q0 5 hq rfl h2 d_Mo_arrive_162 (fun H locs hP hD hS => ?_)
          have hW := hback _ _ hP hD
          generalize hM2 : va_up M77 b82 _ = M83 at h hW
          refine lv_aload_n hx hb d_Mo_arrive_163 rfl (lv_at hl 1 rfl) ?_
          refine lv_iload_n hx hb d_Mo_arrive_164 rfl (lv_at hl 2 rfl) ?_
          refine lv_iload hx hb d_Mo_arrive_165 (lv_at hl 0 rfl) ?_
          refine lv_iconst (v := 2) hx hb d_Mo_arrive_167 (by decide) ?_
          refine lv_dload_n hx hb d_Mo_arrive_168 rfl (lv_at hl 4 rfl) ?_
          obtain ⟨⟨fs, h1⟩, h⟩ := h
          have h9 := h
          clear h
          have hF := hW.free hS hA
          refine va_calli (va_runV (As := [.int l1b43, .int l2b43, .int 2, .double l3b43]) (rest := []) ⟨hx, hb, hml, hown, hts⟩ (c_Mo_waitAt _ h9) (cwV 4 hts (gi_V bw_1094 bw_1096 bs_25 bw_5 bw_1097) rfl rfl rfl (by decide +kernel) ⟨Nat.le_of_ble_eq_true rfl, Nat.le_of_ble_eq_true rfl⟩) ⟨hI.blind, hw_recv hK hW h1 rfl, hI.give hW hS hA hK hZ0⟩ rfl rfl hl.1 rfl (lv_room (Nat.le_of_ble_eq_true rfl)) d_Mo_arrive_169 ⟨(show _ ≤ 0 by omega), (show _ ≤ 0 by omega)⟩) hS (fun q _ z => hF q z) hF (fun r84 M85 t H locs ht _ h hB1 _ _ hS => ?_)
          have hW := hw_back hF ht hB1
          clear h9
          refine lv_istore (lv' := [(6, .int r84), (5, .int l2b43), (0, .ref l0b43), (1, .int l1b43), (2, .int l2b43), (3, .double l3b43)]) hx hb d_Mo_arrive_172 hl (by decide) rfl (fun ls hl => ?_)
          refine lv_iload hx hb d_Mo_arrive_174 (lv_at hl 0 rfl) ?_
          refine lv_iconst (v := 2) hx hb d_Mo_arrive_176 (by decide) ?_
          obtain ⟨h0, h1⟩ := h
          refine lv_icmp_ne (tgt := 195) hx hb d_Mo_arrive_177 (by decide) (fun c86 => ?_) (fun c86 => ?_)
          · have h := h0 c86
            exact l_Mo_arrive_195 C0 r84 h hW hS (lv_sub hl [0] rfl)
          · have h := h1 c86
            refine lv_aload_n hx hb d_Mo_arrive_180 rfl (lv_at hl 2 rfl) ?_
            obtain ⟨fs, v87, h1, h2, h⟩ := h
            refine va_get (D := D) (ci := 5) (v := va_rf v87) (C := "ChannelHallModel") (T := TMo) (N := 26) hx hb hts uMo hown hK (hw_one hW h1) 0 rfl rfl 15 (by decide) (hts _ bw_989) (fun _ h9 => h9) h2 d_Mo_arrive_181 ?_
            refine lv_iload hx hb d_Mo_arrive_184 (lv_at hl 1 rfl) ?_
            refine lv_iconst (v := 1) hx hb d_Mo_arrive_186 (by decide) ?_
            obtain ⟨b88, rfl, h⟩ := h
            obtain ⟨hz, n, f, h1, h2, h⟩ := h
            obtain ⟨ws, q0, hq, hP, hD, hback, -⟩ := hw_open hW h1
            refine va_zast (x := 1) hx hb hK hP hD hS q0 6 hq rfl h2 d_Mo_arrive_187 (fun H locs hP hD hS => ?_)
            rw [nb_v hz] at hP hD
            have hW := hback _ _ hP hD
            generalize hM2 : va_up M85 b88 _ = M89 at h hW
            refine lv_aload_n hx hb d_Mo_arrive_188 rfl (lv_at hl 2 rfl) ?_
            refine lv_iload hx hb d_Mo_arrive_189 (lv_at hl 1 rfl) ?_
            refine lv_iconst (v := 4) hx hb d_Mo_arrive_191 (by decide) ?_
            obtain ⟨⟨fs, h1⟩, h⟩ := h
            have h9 := h
            clear h
            have hF := hW.free hS hA
            refine va_callv (va_runV (As := [.int l2b43, .int 4]) (rest := []) ⟨hx, hb, hml, hown, hts⟩ (c_Mo_freeAll _ h9) (cwV 2 hts (gi_V bw_1142 bw_1144 bs_34 bw_5 bw_1145) rfl rfl rfl (by decide +kernel) ⟨Nat.le_of_ble_eq_true rfl, Nat.le_of_ble_eq_true rfl⟩) ⟨hI.blind, hw_recv hK hW h1 rfl, hI.give hW hS hA hK hZ0⟩ rfl rfl hl.1 rfl (lv_room (Nat.le_of_ble_eq_true rfl)) d_Mo_arrive_192 ⟨(show _ ≤ 0 by omega), (show _ ≤ 0 by omega)⟩) hS (fun q _ z => hF q z) hF (fun M90 t H locs ht _ h hB1 _ _ hS => ?_)
            have hW := hw_back hF ht hB1
            clear h9
            exact l_Mo_arrive_195 C0 r84 h hW hS (lv_sub hl [0] rfl)
        · have h := h1 c74
          refine lv_aload_n hx hb d_Mo_arrive_118 rfl (lv_at hl 1 rfl) ?_
          refine lv_iload hx hb d_Mo_arrive_119 (lv_at hl 0 rfl) ?_
          refine lv_iconst (v := 1) hx hb d_Mo_arrive_121 (by decide) ?_
          obtain ⟨⟨fs, h1⟩, h⟩ := h
          have h9 := h
          clear h
          have hF := hW.free hS hA
          refine va_callv (va_runV (As := [.int l2b43, .int 1]) (rest := []) ⟨hx, hb, hml, hown, hts⟩ (c_Mo_freeAll _ h9) (cwV 2 hts (gi_V bw_1142 bw_1144 bs_34 bw_5 bw_1145) rfl rfl rfl (by decide +kernel) ⟨Nat.le_of_ble_eq_true rfl, Nat.le_of_ble_eq_true rfl⟩) ⟨hI.blind, hw_recv hK hW h1 rfl, hI.give hW hS hA hK hZ0⟩ rfl rfl hl.1 rfl (lv_room (Nat.le_of_ble_eq_true rfl)) d_Mo_arrive_122 ⟨(show _ ≤ 0 by omega), (show _ ≤ 0 by omega)⟩) hS (fun q _ z => hF q z) hF (fun M91 t H locs ht _ h hB1 _ _ hS => ?_)
          have hW := hw_back hF ht hB1
          clear h9
          refine lv_aload_n hx hb d_Mo_arrive_125 rfl (lv_at hl 1 rfl) ?_
          obtain ⟨fs, v92, h1, h2, h⟩ := h
          refine va_get (D := D) (ci := 5) (v := va_rf v92) (C := "ChannelHallModel") (T := TMo) (N := 26) hx hb hts uMo hown hK (hw_one hW h1) 0 rfl rfl 16 (by decide) (hts _ bw_990) (fun _ h9 => h9) h2 d_Mo_arrive_126 ?_
          refine lv_iload hx hb d_Mo_arrive_129 (lv_at hl 0 rfl) ?_
          refine lv_dup2_11 hx hb d_Mo_arrive_131 rfl (by cases v92 <;> rfl) ?_
          obtain ⟨b93, rfl, h⟩ := h
          obtain ⟨n, f, h1, h2, h⟩ := h
          refine va_iald hx hb hK (hw_one hW h1) 0 5 rfl rfl h2 d_Mo_arrive_132 ?_
          generalize f (l2b43).toNatClampNeg = v94 at h ⊢
          refine lv_iconst (v := 1) hx hb d_Mo_arrive_133 (by decide) ?_
          refine lv_iadd hx hb d_Mo_arrive_134 ?_
          obtain ⟨n, f, h1, h2, h⟩ := h
          obtain ⟨ws, q0, hq, hP, hD, hback, -⟩ := hw_open hW h1
          refine va_iast hx hb hK hP hD hS q0 5 hq rfl h2 d_Mo_arrive_135 (fun H locs hP hD hS => ?_)
          have hW := hback _ _ hP hD
          generalize hM2 : va_up M91 b93 _ = M95 at h hW
          refine lv_aload_n hx hb d_Mo_arrive_136 rfl (lv_at hl 1 rfl) ?_
          refine lv_iload_n hx hb d_Mo_arrive_137 rfl (lv_at hl 2 rfl) ?_
          refine lv_iconst (v := 1) hx hb d_Mo_arrive_138 (by decide) ?_
          obtain ⟨⟨fs, h1⟩, h⟩ := h
          have h9 := h
          clear h
          have hF := hW.free hS hA
          refine va_calli (va_runV (As := [.int l1b43, .int 1]) (rest := []) ⟨hx, hb, hml, hown, hts⟩ (c_Mo_settle _ h9) (cwV 2 hts (gi_V bw_1098 bw_1100 bs_26 bw_5 bw_1101) rfl rfl rfl (by decide +kernel) ⟨Nat.le_of_ble_eq_true rfl, Nat.le_of_ble_eq_true rfl⟩) ⟨hI.blind, hw_recv hK hW h1 rfl, hI.give hW hS hA hK hZ0⟩ rfl rfl hl.1 rfl (lv_room (Nat.le_of_ble_eq_true rfl)) d_Mo_arrive_139 ⟨(show _ ≤ 0 by omega), (show _ ≤ 0 by omega)⟩) hS (fun q _ z => hF q z) hF (fun r96 M97 t H locs ht _ h hB1 _ _ hS => ?_)
          have hW := hw_back hF ht hB1
          clear h9
          exact W.iret hx hb hr (fun t ht hWm => ⟨⟨_, _, rfl, h, hw_t ht hW⟩, hS.F ht⟩) hS.2.2 d_Mo_arrive_142
      · have h := h1 c67
        refine lv_aload_n hx hb d_Mo_arrive_82 rfl (lv_at hl 1 rfl) ?_
        obtain ⟨fs, v98, h1, h2, h⟩ := h
        refine va_get (D := D) (ci := 5) (v := va_rf v98) (C := "ChannelHallModel") (T := TMo) (N := 26) hx hb hts uMo hown hK (hw_one hW h1) 0 rfl rfl 15 (by decide) (hts _ bw_989) (fun _ h9 => h9) h2 d_Mo_arrive_83 ?_
        refine lv_iload hx hb d_Mo_arrive_86 (lv_at hl 0 rfl) ?_
        refine lv_iconst (v := 1) hx hb d_Mo_arrive_88 (by decide) ?_
        obtain ⟨b99, rfl, h⟩ := h
        obtain ⟨hz, n, f, h1, h2, h⟩ := h
        obtain ⟨ws, q0, hq, hP, hD, hback, -⟩ := hw_open hW h1
        refine va_zast (x := 1) hx hb hK hP hD hS q0 6 hq rfl h2 d_Mo_arrive_89 (fun H locs hP hD hS => ?_)
        rw [nb_v hz] at hP hD
        have hW := hback _ _ hP hD
        generalize hM2 : va_up M66 b99 _ = M100 at h hW
        refine lv_aload_n hx hb d_Mo_arrive_90 rfl (lv_at hl 1 rfl) ?_
        refine lv_iload hx hb d_Mo_arrive_91 (lv_at hl 0 rfl) ?_
        refine lv_iconst (v := 4) hx hb d_Mo_arrive_93 (by decide) ?_
        obtain ⟨⟨fs, h1⟩, h⟩ := h
        have h9 := h
        clear h
        have hF := hW.free hS hA
        refine va_callv (va_runV (As := [.int l2b43, .int 4]) (rest := []) ⟨hx, hb, hml, hown, hts⟩ (c_Mo_freeAll _ h9) (cwV 2 hts (gi_V bw_1142 bw_1144 bs_34 bw_5 bw_1145) rfl rfl rfl (by decide +kernel) ⟨Nat.le_of_ble_eq_true rfl, Nat.le_of_ble_eq_true rfl⟩) ⟨hI.blind, hw_recv hK hW h1 rfl, hI.give hW hS hA hK hZ0⟩ rfl rfl hl.1 rfl (lv_room (Nat.le_of_ble_eq_true rfl)) d_Mo_arrive_94 ⟨(show _ ≤ 0 by omega), (show _ ≤ 0 by omega)⟩) hS (fun q _ z => hF q z) hF (fun M101 t H locs ht _ h hB1 _ _ hS => ?_)
        have hW := hw_back hF ht hB1
        clear h9
        refine lv_iconst (v := 3) hx hb d_Mo_arrive_97 (by decide) ?_
        exact W.iret hx hb hr (fun t ht hWm => ⟨⟨_, _, rfl, h, hw_t ht hW⟩, hS.F ht⟩) hS.2.2 d_Mo_arrive_98
    · have h := h1 c64
      refine lv_aload_n hx hb d_Mo_arrive_68 rfl (lv_at hl 1 rfl) ?_
      refine lv_iconst (v := 5) hx hb d_Mo_arrive_69 (by decide) ?_
      obtain ⟨⟨fs, h1⟩, h⟩ := h
      have h9 := h
      clear h
      have hF := hW.free hS hA
      refine va_calli (va_runV (As := [.int 5]) (rest := []) ⟨hx, hb, hml, hown, hts⟩ (c_Mo_fail _ h9) (cwV 1 hts (gi_V bw_1068 bw_1070 bs_20 bw_5 bw_1071) rfl rfl rfl (by decide +kernel) ⟨Nat.le_of_ble_eq_true rfl, Nat.le_of_ble_eq_true rfl⟩) ⟨hI.blind, hw_recv hK hW h1 rfl, hI.give hW hS hA hK hZ0⟩ rfl rfl hl.1 rfl (lv_room (Nat.le_of_ble_eq_true rfl)) d_Mo_arrive_70 ⟨(show _ ≤ 0 by omega), (show _ ≤ 0 by omega)⟩) hS (fun q _ z => hF q z) hF (fun r102 M103 t H locs ht _ h hB1 _ _ hS => ?_)
      have hW := hw_back hF ht hB1
      clear h9
      exact W.iret hx hb hr (fun t ht hWm => ⟨⟨_, _, rfl, h, hw_t ht hW⟩, hS.F ht⟩) hS.2.2 d_Mo_arrive_73
  · have h := h1 c60
    refine lv_iconst (v := 0) hx hb d_Mo_arrive_53 (by decide) ?_
    exact W.iret hx hb hr (fun t ht hWm => ⟨⟨_, _, rfl, h, hw_t ht hW⟩, hS.F ht⟩) hS.2.2 d_Mo_arrive_54
set_option maxHeartbeats 1000000 in
set_option maxRecDepth 20000 in
theorem l_Mo_arrive_29 {p : Program} {l : Launch} {e : Env} {s : State} {m : MethodId} {args : Array Value} {below : List Frame} {meth : Method} {c : Code} {D : va_G} {ca G : Nat → Nat} {A : Nat → Prop} (C0 : hC p s m args meth c D ca G prog_7_method_24_code 7 (some .int) "ChannelHallModel" A) {post : Int32 → hM → Prop} {M : hM} {H : Heap} {locs : List Loc} {ls : Array Slot} (l0b29 : Nat) (l1b29 : Int32) (l2b29 : Int32) (l3b29 : UInt64) (s0b29 : Nat) (h : wp_Mo_arrive_29 G ca post M l0b29 l1b29 l2b29 l3b29 s0b29) (hW : hw D wCl A M H) (hS : va_S A s.heap H locs) (hl : lv_has ls 7 [(0, .ref l0b29), (1, .int l1b29), (2, .int l2b29), (3, .double l3b29)]) : W p l e rm_Mo_arrive s m args below meth c H locs 0 0 (MQ below (va_Qi post (fun M' t => hw D wCl A M' t.heap) A) args s 0 0 A) (F0 m 29 ls [.ref s0b29]) := by
  obtain ⟨hx, hb, hr, hml, hown, hts, hlocks, hK, hA, hZ0⟩ := id C0
  refine lv_iconst (v := 1) hx hb d_Mo_arrive_29 (by decide) ?_
  refine lv_goto (tgt := 43) hx hb d_Mo_arrive_30 (by decide) ?_
  exact l_Mo_arrive_43 C0 l0b29 l1b29 l2b29 l3b29 1 s0b29 h hW hS (lv_sub hl [0, 1, 2, 3] rfl)
set_option maxHeartbeats 1000000 in
set_option maxRecDepth 20000 in
theorem l_Mo_arrive_e {p : Program} {l : Launch} {e : Env} {s : State} {m : MethodId} {args : Array Value} {below : List Frame} {meth : Method} {c : Code} {D : va_G} {ca G : Nat → Nat} {A : Nat → Prop} (C0 : hC p s m args meth c D ca G prog_7_method_24_code 7 (some .int) "ChannelHallModel" A) {post : Int32 → hM → Prop} {M : hM} {H : Heap} {locs : List Loc} {ls : Array Slot} (a0 : Nat) (x1 : Int32) (x2 : Int32) (x3 : UInt64) (h : wp_Mo_arrive G ca post M a0 x1 x2 x3) (hW : hw D wCl A M H) (hS : va_S A s.heap H locs) (hl : lv_has ls 7 [(0, .ref a0), (1, .int x1), (2, .int x2), (3, .double x3)]) : W p l e rm_Mo_arrive s m args below meth c H locs 0 0 (MQ below (va_Qi post (fun M' t => hw D wCl A M' t.heap) A) args s 0 0 A) (F0 m 0 ls []) := by
  obtain ⟨hx, hb, hr, hml, hown, hts, hlocks, hK, hA, hZ0⟩ := id C0
  refine lv_aload_n hx hb d_Mo_arrive_0 rfl (lv_at hl 0 rfl) ?_
  refine lv_aload_n hx hb d_Mo_arrive_1 rfl (lv_at hl 0 rfl) ?_
  refine lv_iload_n hx hb d_Mo_arrive_2 rfl (lv_at hl 1 rfl) ?_
  refine lv_bipush (v := 6) hx hb d_Mo_arrive_3 (by decide) ?_
  obtain ⟨⟨fs, h1⟩, h⟩ := h
  have h9 := h
  clear h
  have hF := hW.free hS hA
  refine va_calli (va_runV (As := [.int x1, .int 6]) (rest := [.ref a0]) ⟨hx, hb, hml, hown, hts⟩ (c_Mo_out _ h9) (cwV 2 hts (gi_V bw_1064 bw_1066 bs_19 bw_5 bw_1067) rfl rfl rfl (by decide +kernel) ⟨Nat.le_of_ble_eq_true rfl, Nat.le_of_ble_eq_true rfl⟩) ⟨hI.blind, hw_recv hK hW h1 rfl, hI.give hW hS hA hK hZ0⟩ rfl rfl hl.1 rfl (lv_room (Nat.le_of_ble_eq_true rfl)) d_Mo_arrive_5 ⟨(show _ ≤ 0 by omega), (show _ ≤ 0 by omega)⟩) hS (fun q _ z => hF q z) hF (fun r104 M105 t H locs ht _ h hB1 _ _ hS => ?_)
  have hW := hw_back hF ht hB1
  clear h9
  obtain ⟨h0, h1⟩ := h
  refine lv_if_ne (tgt := 29) hx hb d_Mo_arrive_8 (by decide) (fun c106 => ?_) (fun c106 => ?_)
  · have h := h0 c106
    exact l_Mo_arrive_29 C0 a0 x1 x2 x3 a0 h hW hS (lv_sub hl [0, 1, 2, 3] rfl)
  · have h := h1 c106
    refine lv_aload_n hx hb d_Mo_arrive_11 rfl (lv_at hl 0 rfl) ?_
    refine lv_iload_n hx hb d_Mo_arrive_12 rfl (lv_at hl 2 rfl) ?_
    refine lv_bipush (v := 8) hx hb d_Mo_arrive_13 (by decide) ?_
    obtain ⟨⟨fs, h1⟩, h⟩ := h
    have h9 := h
    clear h
    have hF := hW.free hS hA
    refine va_calli (va_runV (As := [.int x2, .int 8]) (rest := [.ref a0]) ⟨hx, hb, hml, hown, hts⟩ (c_Mo_out _ h9) (cwV 2 hts (gi_V bw_1064 bw_1066 bs_19 bw_5 bw_1067) rfl rfl rfl (by decide +kernel) ⟨Nat.le_of_ble_eq_true rfl, Nat.le_of_ble_eq_true rfl⟩) ⟨hI.blind, hw_recv hK hW h1 rfl, hI.give hW hS hA hK hZ0⟩ rfl rfl hl.1 rfl (lv_room (Nat.le_of_ble_eq_true rfl)) d_Mo_arrive_15 ⟨(show _ ≤ 0 by omega), (show _ ≤ 0 by omega)⟩) hS (fun q _ z => hF q z) hF (fun r107 M108 t H locs ht _ h hB1 _ _ hS => ?_)
    have hW := hw_back hF ht hB1
    clear h9
    obtain ⟨h0, h1⟩ := h
    refine lv_if_ne (tgt := 29) hx hb d_Mo_arrive_18 (by decide) (fun c109 => ?_) (fun c109 => ?_)
    · have h := h0 c109
      exact l_Mo_arrive_29 C0 a0 x1 x2 x3 a0 h hW hS (lv_sub hl [0, 1, 2, 3] rfl)
    · have h := h1 c109
      refine lv_aload_n hx hb d_Mo_arrive_21 rfl (lv_at hl 0 rfl) ?_
      refine lv_dload_n hx hb d_Mo_arrive_22 rfl (lv_at hl 3 rfl) ?_
      obtain ⟨⟨fs, h1⟩, h⟩ := h
      have h9 := h
      clear h
      have hF := hW.free hS hA
      refine va_calli (va_runV (As := [.double x3]) (rest := [.ref a0]) ⟨hx, hb, hml, hown, hts⟩ (c_Mo_badLimit _ h9) (cwV 1 hts (gi_V bw_1078 bw_1080 bs_21 bw_5 bw_1081) rfl rfl rfl (by decide +kernel) ⟨Nat.le_of_ble_eq_true rfl, Nat.le_of_ble_eq_true rfl⟩) ⟨hI.blind, hw_recv hK hW h1 rfl, hI.give hW hS hA hK hZ0⟩ rfl rfl hl.1 rfl (lv_room (Nat.le_of_ble_eq_true rfl)) d_Mo_arrive_23 ⟨(show _ ≤ 0 by omega), (show _ ≤ 0 by omega)⟩) hS (fun q _ z => hF q z) hF (fun r110 M111 t H locs ht _ h hB1 _ _ hS => ?_)
      have hW := hw_back hF ht hB1
      clear h9
      obtain ⟨h0, h1⟩ := h
      refine lv_if_eq (tgt := 33) hx hb d_Mo_arrive_26 (by decide) (fun c112 => ?_) (fun c112 => ?_)
      · have h := h0 c112
        refine lv_aload_n hx hb d_Mo_arrive_33 rfl (lv_at hl 0 rfl) ?_
        refine lv_iload_n hx hb d_Mo_arrive_34 rfl (lv_at hl 1 rfl) ?_
        refine lv_iload_n hx hb d_Mo_arrive_35 rfl (lv_at hl 2 rfl) ?_
        refine lv_bipush (v := 6) hx hb d_Mo_arrive_36 (by decide) ?_
        refine lv_bipush (v := 6) hx hb d_Mo_arrive_38 (by decide) ?_
        obtain ⟨⟨fs, h1⟩, h⟩ := h
        have h9 := h
        clear h
        have hF := hW.free hS hA
        refine va_calli (va_runV (As := [.int x1, .int x2, .int 6, .int 6]) (rest := [.ref a0]) ⟨hx, hb, hml, hown, hts⟩ (c_Mo_check _ h9) (cwV 4 hts (gi_V bw_1082 bw_1084 bs_22 bw_5 bw_1085) rfl rfl rfl (by decide +kernel) ⟨Nat.le_of_ble_eq_true rfl, Nat.le_of_ble_eq_true rfl⟩) ⟨hI.blind, hw_recv hK hW h1 rfl, hI.give hW hS hA hK hZ0⟩ rfl rfl hl.1 rfl (lv_room (Nat.le_of_ble_eq_true rfl)) d_Mo_arrive_40 ⟨(show _ ≤ 0 by omega), (show _ ≤ 0 by omega)⟩) hS (fun q _ z => hF q z) hF (fun r113 M114 t H locs ht _ h hB1 _ _ hS => ?_)
        have hW := hw_back hF ht hB1
        clear h9
        exact l_Mo_arrive_43 C0 a0 x1 x2 x3 r113 a0 h hW hS (lv_sub hl [0, 1, 2, 3] rfl)
      · have h := h1 c112
        exact l_Mo_arrive_29 C0 a0 x1 x2 x3 a0 h hW hS (lv_sub hl [0, 1, 2, 3] rfl)
set_option maxRecDepth 20000 in
theorem c_Mo_arrive {l : Launch} {D : va_G} {ca G : Nat → Nat} (post : Int32 → hM → Prop) {M : hM} {sz : Nat} {a0 : Nat} {x1 : Int32} {x2 : Int32} {x3 : UInt64} (h : wp_Mo_arrive G ca post M a0 x1 x2 x3) : Met l y_Mo_arrive (wz y_Mo_arrive prog_7_method_24_code 7 (some .int)) rm_Mo_arrive (va_Pc [.ref a0, .int x1, .int x2, .double x3] (hI D ca G sz M)) (va_Qi post (hB D M sz) (hp_A M sz)) 0 0 (hp_A M sz) := by
  refine Met.ofW (cc := prog_7_method_24_code) (maxL := 7) (ret := some .int) (by decide) rfl ?_
  intro p e s m args below meth c s₁ B hml hv
  obtain ⟨rfl, hsz, hW, hK, hZ0⟩ := hv
  have hts := fun w hw => atoms_spec (ws := wz y_Mo_arrive prog_7_method_24_code 7 (some .int)) B.pre w (List.mem_cons_of_mem _ hw)
  have hown : s.vm.findClass "ChannelHallModel" = some m.cls := findClass_of_methodNamed B.named
  subst hsz
  have hl := lv_entry [.ref a0, .int x1, .int x2, .double x3] (n := 7) (Nat.le_of_ble_eq_true rfl)
  rw [lg_entry_eq]
  exact l_Mo_arrive_e ⟨B.exec, B.bytes, B.returns, hml, hown, hts, B.notSynchronized, hK, fun q h => Or.inr h, hZ0⟩ a0 x1 x2 x3 h hW va_S.rf hl

theorem d_Mo_tick_0 : decode prog_7_method_28_code 0 = .ok (.aload_n 0, 1) := by decide +kernel
theorem d_Mo_tick_1 : decode prog_7_method_28_code 1 = .ok (.iconst 0, 1) := by decide +kernel
theorem d_Mo_tick_2 : decode prog_7_method_28_code 2 = .ok (.putfield 86, 3) := by decide +kernel
theorem d_Mo_tick_5 : decode prog_7_method_28_code 5 = .ok (.dload_n 1, 1) := by decide +kernel
theorem d_Mo_tick_6 : decode prog_7_method_28_code 6 = .ok (.dconst 0, 1) := by decide +kernel
theorem d_Mo_tick_7 : decode prog_7_method_28_code 7 = .ok (.dcmp .l, 1) := by decide +kernel
theorem d_Mo_tick_8 : decode prog_7_method_28_code 8 = .ok (.ifCond .lt 11, 3) := by decide +kernel
theorem d_Mo_tick_11 : decode prog_7_method_28_code 11 = .ok (.dload_n 1, 1) := by decide +kernel
theorem d_Mo_tick_12 : decode prog_7_method_28_code 12 = .ok (.ldc2_w 138, 3) := by decide +kernel
theorem d_Mo_tick_15 : decode prog_7_method_28_code 15 = .ok (.dcmp .g, 1) := by decide +kernel
theorem d_Mo_tick_16 : decode prog_7_method_28_code 16 = .ok (.ifCond .le 9, 3) := by decide +kernel
theorem d_Mo_tick_19 : decode prog_7_method_28_code 19 = .ok (.aload_n 0, 1) := by decide +kernel
theorem d_Mo_tick_20 : decode prog_7_method_28_code 20 = .ok (.iconst 1, 1) := by decide +kernel
theorem d_Mo_tick_21 : decode prog_7_method_28_code 21 = .ok (.invokevirtual 94, 3) := by decide +kernel
theorem d_Mo_tick_24 : decode prog_7_method_28_code 24 = .ok (.ireturn, 1) := by decide +kernel
theorem d_Mo_tick_25 : decode prog_7_method_28_code 25 = .ok (.aload_n 0, 1) := by decide +kernel
theorem d_Mo_tick_26 : decode prog_7_method_28_code 26 = .ok (.getfield 102, 3) := by decide +kernel
theorem d_Mo_tick_29 : decode prog_7_method_28_code 29 = .ok (.dload_n 1, 1) := by decide +kernel
theorem d_Mo_tick_30 : decode prog_7_method_28_code 30 = .ok (.dadd, 1) := by decide +kernel
theorem d_Mo_tick_31 : decode prog_7_method_28_code 31 = .ok (.dstore_n 3, 1) := by decide +kernel
theorem d_Mo_tick_32 : decode prog_7_method_28_code 32 = .ok (.iconst 0, 1) := by decide +kernel
theorem d_Mo_tick_33 : decode prog_7_method_28_code 33 = .ok (.istore 5, 2) := by decide +kernel
theorem d_Mo_tick_35 : decode prog_7_method_28_code 35 = .ok (.aload_n 0, 1) := by decide +kernel
theorem d_Mo_tick_36 : decode prog_7_method_28_code 36 = .ok (.invokevirtual 160, 3) := by decide +kernel
theorem d_Mo_tick_39 : decode prog_7_method_28_code 39 = .ok (.dstore 6, 2) := by decide +kernel
theorem d_Mo_tick_41 : decode prog_7_method_28_code 41 = .ok (.dload 6, 2) := by decide +kernel
theorem d_Mo_tick_43 : decode prog_7_method_28_code 43 = .ok (.dconst 0, 1) := by decide +kernel
theorem d_Mo_tick_44 : decode prog_7_method_28_code 44 = .ok (.dcmp .l, 1) := by decide +kernel
theorem d_Mo_tick_45 : decode prog_7_method_28_code 45 = .ok (.ifCond .lt 131, 3) := by decide +kernel
theorem d_Mo_tick_48 : decode prog_7_method_28_code 48 = .ok (.dload 6, 2) := by decide +kernel
theorem d_Mo_tick_50 : decode prog_7_method_28_code 50 = .ok (.dload_n 3, 1) := by decide +kernel
theorem d_Mo_tick_51 : decode prog_7_method_28_code 51 = .ok (.dcmp .g, 1) := by decide +kernel
theorem d_Mo_tick_52 : decode prog_7_method_28_code 52 = .ok (.ifCond .gt 124, 3) := by decide +kernel
theorem d_Mo_tick_55 : decode prog_7_method_28_code 55 = .ok (.dload 6, 2) := by decide +kernel
theorem d_Mo_tick_57 : decode prog_7_method_28_code 57 = .ok (.aload_n 0, 1) := by decide +kernel
theorem d_Mo_tick_58 : decode prog_7_method_28_code 58 = .ok (.getfield 102, 3) := by decide +kernel
theorem d_Mo_tick_61 : decode prog_7_method_28_code 61 = .ok (.dcmp .l, 1) := by decide +kernel
theorem d_Mo_tick_62 : decode prog_7_method_28_code 62 = .ok (.ifCond .le 9, 3) := by decide +kernel
theorem d_Mo_tick_65 : decode prog_7_method_28_code 65 = .ok (.aload_n 0, 1) := by decide +kernel
theorem d_Mo_tick_66 : decode prog_7_method_28_code 66 = .ok (.dload 6, 2) := by decide +kernel
theorem d_Mo_tick_68 : decode prog_7_method_28_code 68 = .ok (.putfield 102, 3) := by decide +kernel
theorem d_Mo_tick_71 : decode prog_7_method_28_code 71 = .ok (.iconst 0, 1) := by decide +kernel
theorem d_Mo_tick_72 : decode prog_7_method_28_code 72 = .ok (.istore 8, 2) := by decide +kernel
theorem d_Mo_tick_74 : decode prog_7_method_28_code 74 = .ok (.iload 8, 2) := by decide +kernel
theorem d_Mo_tick_76 : decode prog_7_method_28_code 76 = .ok (.bipush 8, 2) := by decide +kernel
theorem d_Mo_tick_78 : decode prog_7_method_28_code 78 = .ok (.if_icmp .ge 26, 3) := by decide +kernel
theorem d_Mo_tick_81 : decode prog_7_method_28_code 81 = .ok (.aload_n 0, 1) := by decide +kernel
theorem d_Mo_tick_82 : decode prog_7_method_28_code 82 = .ok (.getfield 45, 3) := by decide +kernel
theorem d_Mo_tick_85 : decode prog_7_method_28_code 85 = .ok (.iload 8, 2) := by decide +kernel
theorem d_Mo_tick_87 : decode prog_7_method_28_code 87 = .ok (.iaload, 1) := by decide +kernel
theorem d_Mo_tick_88 : decode prog_7_method_28_code 88 = .ok (.iconst 4, 1) := by decide +kernel
theorem d_Mo_tick_89 : decode prog_7_method_28_code 89 = .ok (.if_icmp .ne 9, 3) := by decide +kernel
theorem d_Mo_tick_92 : decode prog_7_method_28_code 92 = .ok (.aload_n 0, 1) := by decide +kernel
theorem d_Mo_tick_93 : decode prog_7_method_28_code 93 = .ok (.iload 8, 2) := by decide +kernel
theorem d_Mo_tick_95 : decode prog_7_method_28_code 95 = .ok (.invokevirtual 113, 3) := by decide +kernel
theorem d_Mo_tick_98 : decode prog_7_method_28_code 98 = .ok (.iinc 8 1, 3) := by decide +kernel
theorem d_Mo_tick_101 : decode prog_7_method_28_code 101 = .ok (.goto (-27), 3) := by decide +kernel
theorem d_Mo_tick_104 : decode prog_7_method_28_code 104 = .ok (.iconst 0, 1) := by decide +kernel
theorem d_Mo_tick_105 : decode prog_7_method_28_code 105 = .ok (.istore 8, 2) := by decide +kernel
theorem d_Mo_tick_107 : decode prog_7_method_28_code 107 = .ok (.iload 8, 2) := by decide +kernel
theorem d_Mo_tick_109 : decode prog_7_method_28_code 109 = .ok (.bipush 6, 2) := by decide +kernel
theorem d_Mo_tick_111 : decode prog_7_method_28_code 111 = .ok (.if_icmp .ge 56, 3) := by decide +kernel
theorem d_Mo_tick_114 : decode prog_7_method_28_code 114 = .ok (.aload_n 0, 1) := by decide +kernel
theorem d_Mo_tick_115 : decode prog_7_method_28_code 115 = .ok (.getfield 7, 3) := by decide +kernel
theorem d_Mo_tick_118 : decode prog_7_method_28_code 118 = .ok (.iload 8, 2) := by decide +kernel
theorem d_Mo_tick_120 : decode prog_7_method_28_code 120 = .ok (.baload, 1) := by decide +kernel
theorem d_Mo_tick_121 : decode prog_7_method_28_code 121 = .ok (.ifCond .eq 40, 3) := by decide +kernel
theorem d_Mo_tick_124 : decode prog_7_method_28_code 124 = .ok (.aload_n 0, 1) := by decide +kernel
theorem d_Mo_tick_125 : decode prog_7_method_28_code 125 = .ok (.getfield 42, 3) := by decide +kernel
theorem d_Mo_tick_128 : decode prog_7_method_28_code 128 = .ok (.iload 8, 2) := by decide +kernel
theorem d_Mo_tick_130 : decode prog_7_method_28_code 130 = .ok (.daload, 1) := by decide +kernel
theorem d_Mo_tick_131 : decode prog_7_method_28_code 131 = .ok (.dconst 0, 1) := by decide +kernel
theorem d_Mo_tick_132 : decode prog_7_method_28_code 132 = .ok (.dcmp .l, 1) := by decide +kernel
theorem d_Mo_tick_133 : decode prog_7_method_28_code 133 = .ok (.ifCond .lt 28, 3) := by decide +kernel
theorem d_Mo_tick_136 : decode prog_7_method_28_code 136 = .ok (.aload_n 0, 1) := by decide +kernel
theorem d_Mo_tick_137 : decode prog_7_method_28_code 137 = .ok (.getfield 42, 3) := by decide +kernel
theorem d_Mo_tick_140 : decode prog_7_method_28_code 140 = .ok (.iload 8, 2) := by decide +kernel
theorem d_Mo_tick_142 : decode prog_7_method_28_code 142 = .ok (.daload, 1) := by decide +kernel
theorem d_Mo_tick_143 : decode prog_7_method_28_code 143 = .ok (.aload_n 0, 1) := by decide +kernel
theorem d_Mo_tick_144 : decode prog_7_method_28_code 144 = .ok (.getfield 102, 3) := by decide +kernel
theorem d_Mo_tick_147 : decode prog_7_method_28_code 147 = .ok (.dcmp .g, 1) := by decide +kernel
theorem d_Mo_tick_148 : decode prog_7_method_28_code 148 = .ok (.ifCond .gt 13, 3) := by decide +kernel
theorem d_Mo_tick_151 : decode prog_7_method_28_code 151 = .ok (.aload_n 0, 1) := by decide +kernel
theorem d_Mo_tick_152 : decode prog_7_method_28_code 152 = .ok (.iload 8, 2) := by decide +kernel
theorem d_Mo_tick_154 : decode prog_7_method_28_code 154 = .ok (.iconst 2, 1) := by decide +kernel
theorem d_Mo_tick_155 : decode prog_7_method_28_code 155 = .ok (.invokevirtual 157, 3) := by decide +kernel
theorem d_Mo_tick_158 : decode prog_7_method_28_code 158 = .ok (.iinc 5 1, 3) := by decide +kernel
theorem d_Mo_tick_161 : decode prog_7_method_28_code 161 = .ok (.iinc 8 1, 3) := by decide +kernel
theorem d_Mo_tick_164 : decode prog_7_method_28_code 164 = .ok (.goto (-57), 3) := by decide +kernel
theorem d_Mo_tick_167 : decode prog_7_method_28_code 167 = .ok (.aload_n 0, 1) := by decide +kernel
theorem d_Mo_tick_168 : decode prog_7_method_28_code 168 = .ok (.invokevirtual 160, 3) := by decide +kernel
theorem d_Mo_tick_171 : decode prog_7_method_28_code 171 = .ok (.dstore 6, 2) := by decide +kernel
theorem d_Mo_tick_173 : decode prog_7_method_28_code 173 = .ok (.goto (-132), 3) := by decide +kernel
theorem d_Mo_tick_176 : decode prog_7_method_28_code 176 = .ok (.aload_n 0, 1) := by decide +kernel
theorem d_Mo_tick_177 : decode prog_7_method_28_code 177 = .ok (.dload_n 3, 1) := by decide +kernel
theorem d_Mo_tick_178 : decode prog_7_method_28_code 178 = .ok (.putfield 102, 3) := by decide +kernel
theorem d_Mo_tick_181 : decode prog_7_method_28_code 181 = .ok (.iload 5, 2) := by decide +kernel
theorem d_Mo_tick_183 : decode prog_7_method_28_code 183 = .ok (.ireturn, 1) := by decide +kernel
def y_Mo_tick : MethodName := ⟨"ChannelHallModel", "tick", "(D)I"⟩
abbrev rm_Mo_tick : Room := { frames := 4, cells := 0, slots := 0, locals := 97 }
def wp_Mo_tick_176 (G ca : Nat → Nat) (post : Int32 → hM → Prop) (M : hM) (l0b176 : Nat) (l3b176 : UInt64) (l5b176 : Int32) : Prop := pF M l0b176 5 12 (.double l3b176) fun M38 => post l5b176 M38
def wp_Mo_tick_161 (G ca : Nat → Nat) (post : Int32 → hM → Prop) (k_25 : hM → Nat → UInt64 → Int32 → UInt64 → Prop) (k_59 : hM → Nat → UInt64 → Int32 → Int32 → Prop) (M : hM) (l0b161 : Nat) (l3b161 : UInt64) (l5b161 : Int32) (l8b161 : Int32) : Prop := k_59 M l0b161 l3b161 l5b161 (l8b161 + 1)
def wp_Mo_tick_107 (G ca : Nat → Nat) (post : Int32 → hM → Prop) (k_25 : hM → Nat → UInt64 → Int32 → UInt64 → Prop) : Nat → hM → Nat → UInt64 → Int32 → Int32 → Prop
  | 0, _, _, _, _, _ => False
  | n + 1, M, l0b107, l3b107, l5b107, l8b107 => (6 ≤ l8b107 → rC M l0b107 5 (wp_Mo_coming G ca (fun r40 M41 => k_25 M41 l0b107 l3b107 l5b107 r40) M l0b107)) ∧ (¬ 6 ≤ l8b107 → gR M l0b107 5 1 fun v42 => nN v42 fun b43 => aI M b43 (ca 6) l8b107 fun v44 => (v44 = 0 → wp_Mo_tick_161 G ca post k_25 (wp_Mo_tick_107 G ca post k_25 n) M l0b107 l3b107 l5b107 l8b107) ∧ (¬ v44 = 0 → gR M l0b107 5 11 fun v46 => nN v46 fun b47 => aD M b47 (ca 4) l8b107 fun v48 => ((Op.cmpValue (FP.dcmp v48 FP.dconst0) .l) < 0 → wp_Mo_tick_161 G ca post k_25 (wp_Mo_tick_107 G ca post k_25 n) M l0b107 l3b107 l5b107 l8b107) ∧ (¬ (Op.cmpValue (FP.dcmp v48 FP.dconst0) .l) < 0 → gR M l0b107 5 11 fun v50 => nN v50 fun b51 => aD M b51 (ca 4) l8b107 fun v52 => gD M l0b107 5 12 fun v53 => (0 < (Op.cmpValue (FP.dcmp v52 v53) .g) → wp_Mo_tick_161 G ca post k_25 (wp_Mo_tick_107 G ca post k_25 n) M l0b107 l3b107 l5b107 l8b107) ∧ (¬ 0 < (Op.cmpValue (FP.dcmp v52 v53) .g) → rC M l0b107 5 (wp_Mo_leave G ca (fun M55 => wp_Mo_tick_161 G ca post k_25 (wp_Mo_tick_107 G ca post k_25 n) M55 l0b107 l3b107 (l5b107 + 1) l8b107) M l0b107 l8b107 2)))))
def wp_Mo_tick_98 (G ca : Nat → Nat) (post : Int32 → hM → Prop) (k_25 : hM → Nat → UInt64 → Int32 → UInt64 → Prop) (k_43 : hM → Nat → UInt64 → Int32 → Int32 → Prop) (M : hM) (l0b98 : Nat) (l3b98 : UInt64) (l5b98 : Int32) (l8b98 : Int32) : Prop := k_43 M l0b98 l3b98 l5b98 (l8b98 + 1)
def wp_Mo_tick_74 (G ca : Nat → Nat) (post : Int32 → hM → Prop) (k_25 : hM → Nat → UInt64 → Int32 → UInt64 → Prop) : Nat → hM → Nat → UInt64 → Int32 → Int32 → Prop
  | 0, _, _, _, _, _ => False
  | n + 1, M, l0b74, l3b74, l5b74, l8b74 => (8 ≤ l8b74 → ∃ n, wp_Mo_tick_107 G ca post k_25 n M l0b74 l3b74 l5b74 0) ∧ (¬ 8 ≤ l8b74 → gR M l0b74 5 13 fun v57 => nN v57 fun b58 => aI M b58 (ca 5) l8b74 fun v59 => (¬ v59 = 4 → wp_Mo_tick_98 G ca post k_25 (wp_Mo_tick_74 G ca post k_25 n) M l0b74 l3b74 l5b74 l8b74) ∧ (v59 = 4 → rC M l0b74 5 (wp_Mo_serve G ca (fun M61 => wp_Mo_tick_98 G ca post k_25 (wp_Mo_tick_74 G ca post k_25 n) M61 l0b74 l3b74 l5b74 l8b74) M l0b74 l8b74)))
def wp_Mo_tick_71 (G ca : Nat → Nat) (post : Int32 → hM → Prop) (k_25 : hM → Nat → UInt64 → Int32 → UInt64 → Prop) (M : hM) (l0b71 : Nat) (l3b71 : UInt64) (l5b71 : Int32) : Prop := ∃ n, wp_Mo_tick_74 G ca post k_25 n M l0b71 l3b71 l5b71 0
def wp_Mo_tick_41 (G ca : Nat → Nat) (post : Int32 → hM → Prop) : Nat → hM → Nat → UInt64 → Int32 → UInt64 → Prop
  | 0, _, _, _, _, _ => False
  | n + 1, M, l0b41, l3b41, l5b41, l6b41 => ((Op.cmpValue (FP.dcmp l6b41 FP.dconst0) .l) < 0 → wp_Mo_tick_176 G ca post M l0b41 l3b41 l5b41) ∧ (¬ (Op.cmpValue (FP.dcmp l6b41 FP.dconst0) .l) < 0 → (0 < (Op.cmpValue (FP.dcmp l6b41 l3b41) .g) → wp_Mo_tick_176 G ca post M l0b41 l3b41 l5b41) ∧ (¬ 0 < (Op.cmpValue (FP.dcmp l6b41 l3b41) .g) → gD M l0b41 5 12 fun v64 => ((Op.cmpValue (FP.dcmp l6b41 v64) .l) ≤ 0 → wp_Mo_tick_71 G ca post (wp_Mo_tick_41 G ca post n) M l0b41 l3b41 l5b41) ∧ (¬ (Op.cmpValue (FP.dcmp l6b41 v64) .l) ≤ 0 → pF M l0b41 5 12 (.double l6b41) fun M66 => wp_Mo_tick_71 G ca post (wp_Mo_tick_41 G ca post n) M66 l0b41 l3b41 l5b41)))
def wp_Mo_tick_19 (G ca : Nat → Nat) (post : Int32 → hM → Prop) (M : hM) (l0b19 : Nat) : Prop := rC M l0b19 5 (wp_Mo_fail G ca (fun r67 M68 => post r67 M68) M l0b19 1)
def wp_Mo_tick (G ca : Nat → Nat) (post : Int32 → hM → Prop) (M : hM) (a0 : Nat) (x1 : UInt64) : Prop := pF M a0 5 0 (.int 0) fun M69 => ((Op.cmpValue (FP.dcmp x1 FP.dconst0) .l) < 0 → wp_Mo_tick_19 G ca post M69 a0) ∧ (¬ (Op.cmpValue (FP.dcmp x1 FP.dconst0) .l) < 0 → ((Op.cmpValue (FP.dcmp x1 4652007308841189376) .g) ≤ 0 → gD M69 a0 5 12 fun v72 => nD (FP.dadd v72 x1) (rC M69 a0 5 (wp_Mo_coming G ca (fun r73 M74 => ∃ n, wp_Mo_tick_41 G ca post n M74 a0 (FP.dadd v72 x1) 0 r73) M69 a0))) ∧ (¬ (Op.cmpValue (FP.dcmp x1 4652007308841189376) .g) ≤ 0 → wp_Mo_tick_19 G ca post M69 a0))
set_option maxHeartbeats 1000000 in
set_option maxRecDepth 20000 in
theorem l_Mo_tick_176 {p : Program} {l : Launch} {e : Env} {s : State} {m : MethodId} {args : Array Value} {below : List Frame} {meth : Method} {c : Code} {D : va_G} {ca G : Nat → Nat} {A : Nat → Prop} (C0 : hC p s m args meth c D ca G prog_7_method_28_code 9 (some .int) "ChannelHallModel" A) {post : Int32 → hM → Prop} {M : hM} {H : Heap} {locs : List Loc} {ls : Array Slot} (l0b176 : Nat) (l3b176 : UInt64) (l5b176 : Int32) (h : wp_Mo_tick_176 G ca post M l0b176 l3b176 l5b176) (hW : hw D wCl A M H) (hS : va_S A s.heap H locs) (hl : lv_has ls 9 [(0, .ref l0b176), (3, .double l3b176), (5, .int l5b176)]) : W p l e rm_Mo_tick s m args below meth c H locs 0 0 (MQ below (va_Qi post (fun M' t => hw D wCl A M' t.heap) A) args s 0 0 A) (F0 m 176 ls []) := by
  obtain ⟨hx, hb, hr, hml, hown, hts, hlocks, hK, hA, hZ0⟩ := id C0
  refine lv_aload_n hx hb d_Mo_tick_176 rfl (lv_at hl 0 rfl) ?_
  refine lv_dload_n hx hb d_Mo_tick_177 rfl (lv_at hl 1 rfl) ?_
  obtain ⟨fs, h1, h2, h⟩ := h
  obtain ⟨ws, q0, hq, hP, hD, hback, -⟩ := hw_open hW h1
  refine va_put (D := D) (ci := 5) (v := .double l3b176) (ty := .double) (C := "ChannelHallModel") (T := TMo) (N := 26) hx hb hts uMo tMo tMo_ok nMo hown hK hP hD hS q0 hq rfl 12 (by decide) (hts _ bw_986) (fun _ h9 => h9) rfl (by decide +kernel) rfl rfl h2 d_Mo_tick_178 (fun H locs hP hD hS => ?_)
  have hW := hback _ _ hP hD
  generalize (va_up M l0b176 (some (.inr (5, fs.set 12 (.double l3b176))))) = M38 at h hW
  refine lv_iload hx hb d_Mo_tick_181 (lv_at hl 2 rfl) ?_
  exact W.iret hx hb hr (fun t ht hWm => ⟨⟨_, _, rfl, h, hw_t ht hW⟩, hS.F ht⟩) hS.2.2 d_Mo_tick_183
set_option maxHeartbeats 1000000 in
set_option maxRecDepth 20000 in
theorem l_Mo_tick_161 {p : Program} {l : Launch} {e : Env} {s : State} {m : MethodId} {args : Array Value} {below : List Frame} {meth : Method} {c : Code} {D : va_G} {ca G : Nat → Nat} {A : Nat → Prop} (C0 : hC p s m args meth c D ca G prog_7_method_28_code 9 (some .int) "ChannelHallModel" A) {post : Int32 → hM → Prop} {k_25 : hM → Nat → UInt64 → Int32 → UInt64 → Prop} {k_59 : hM → Nat → UInt64 → Int32 → Int32 → Prop} (hk_25 : ∀ (M : hM) (H : Heap) (locs : List Loc) (ls : Array Slot) (l0b41 : Nat) (l3b41 : UInt64) (l5b41 : Int32) (l6b41 : UInt64), k_25 M l0b41 l3b41 l5b41 l6b41 → hw D wCl A M H → va_S A s.heap H locs → lv_has ls 9 [(0, .ref l0b41), (3, .double l3b41), (5, .int l5b41), (6, .double l6b41)] → W p l e rm_Mo_tick s m args below meth c H locs 0 0 (MQ below (va_Qi post (fun M' t => hw D wCl A M' t.heap) A) args s 0 0 A) (F0 m 41 ls [])) (hk_59 : ∀ (M : hM) (H : Heap) (locs : List Loc) (ls : Array Slot) (l0b107 : Nat) (l3b107 : UInt64) (l5b107 : Int32) (l8b107 : Int32), k_59 M l0b107 l3b107 l5b107 l8b107 → hw D wCl A M H → va_S A s.heap H locs → lv_has ls 9 [(0, .ref l0b107), (3, .double l3b107), (5, .int l5b107), (8, .int l8b107)] → W p l e rm_Mo_tick s m args below meth c H locs 0 0 (MQ below (va_Qi post (fun M' t => hw D wCl A M' t.heap) A) args s 0 0 A) (F0 m 107 ls [])) {M : hM} {H : Heap} {locs : List Loc} {ls : Array Slot} (l0b161 : Nat) (l3b161 : UInt64) (l5b161 : Int32) (l8b161 : Int32) (h : wp_Mo_tick_161 G ca post k_25 k_59 M l0b161 l3b161 l5b161 l8b161) (hW : hw D wCl A M H) (hS : va_S A s.heap H locs) (hl : lv_has ls 9 [(0, .ref l0b161), (3, .double l3b161), (5, .int l5b161), (8, .int l8b161)]) : W p l e rm_Mo_tick s m args below meth c H locs 0 0 (MQ below (va_Qi post (fun M' t => hw D wCl A M' t.heap) A) args s 0 0 A) (F0 m 161 ls []) := by
  obtain ⟨hx, hb, hr, hml, hown, hts, hlocks, hK, hA, hZ0⟩ := id C0
  refine lv_iinc (v := l8b161 + 1) (lv' := [(8, .int (l8b161 + 1)), (0, .ref l0b161), (3, .double l3b161), (5, .int l5b161)]) hx hb d_Mo_tick_161 hl (k := 3) rfl rfl (by decide) rfl (fun ls hl => ?_)
  refine lv_goto (tgt := 107) hx hb d_Mo_tick_164 (by decide) ?_
  exact hk_59 _ _ _ _ l0b161 l3b161 l5b161 (l8b161 + 1) h hW hS (lv_sub hl [1, 2, 3, 0] rfl)
set_option maxHeartbeats 1000000 in
set_option maxRecDepth 20000 in
theorem l_Mo_tick_107 {p : Program} {l : Launch} {e : Env} {s : State} {m : MethodId} {args : Array Value} {below : List Frame} {meth : Method} {c : Code} {D : va_G} {ca G : Nat → Nat} {A : Nat → Prop} (C0 : hC p s m args meth c D ca G prog_7_method_28_code 9 (some .int) "ChannelHallModel" A) {post : Int32 → hM → Prop} {k_25 : hM → Nat → UInt64 → Int32 → UInt64 → Prop} (hk_25 : ∀ (M : hM) (H : Heap) (locs : List Loc) (ls : Array Slot) (l0b41 : Nat) (l3b41 : UInt64) (l5b41 : Int32) (l6b41 : UInt64), k_25 M l0b41 l3b41 l5b41 l6b41 → hw D wCl A M H → va_S A s.heap H locs → lv_has ls 9 [(0, .ref l0b41), (3, .double l3b41), (5, .int l5b41), (6, .double l6b41)] → W p l e rm_Mo_tick s m args below meth c H locs 0 0 (MQ below (va_Qi post (fun M' t => hw D wCl A M' t.heap) A) args s 0 0 A) (F0 m 41 ls [])) : ∀ (n : Nat) {M : hM} {H : Heap} {locs : List Loc} {ls : Array Slot} (l0b107 : Nat) (l3b107 : UInt64) (l5b107 : Int32) (l8b107 : Int32) (h : wp_Mo_tick_107 G ca post k_25 n M l0b107 l3b107 l5b107 l8b107) (hW : hw D wCl A M H) (hS : va_S A s.heap H locs) (hl : lv_has ls 9 [(0, .ref l0b107), (3, .double l3b107), (5, .int l5b107), (8, .int l8b107)]), W p l e rm_Mo_tick s m args below meth c H locs 0 0 (MQ below (va_Qi post (fun M' t => hw D wCl A M' t.heap) A) args s 0 0 A) (F0 m 107 ls []) := by
  obtain ⟨hx, hb, hr, hml, hown, hts, hlocks, hK, hA, hZ0⟩ := id C0
  intro n
  induction n with
  | zero =>
    intro M H locs ls l0b107 l3b107 l5b107 l8b107 h
    exact False.elim h
  | succ n ih =>
    intro M H locs ls l0b107 l3b107 l5b107 l8b107 h hW hS hl
    have hk_59 := fun M H locs ls l0b107 l3b107 l5b107 l8b107 h hW hS hl => @ih M H locs ls l0b107 l3b107 l5b107 l8b107 h hW hS hl
    refine lv_iload hx hb d_Mo_tick_107 (lv_at hl 3 rfl) ?_
    refine lv_bipush (v := 6) hx hb d_Mo_tick_109 (by decide) ?_
    obtain ⟨h0, h1⟩ := h
    refine lv_icmp_ge (tgt := 167) hx hb d_Mo_tick_111 (by decide) (fun c39 => ?_) (fun c39 => ?_)
    · have h := h0 c39
      refine lv_aload_n hx hb d_Mo_tick_167 rfl (lv_at hl 0 rfl) ?_
      obtain ⟨⟨fs, h1⟩, h⟩ := h
      have h9 := h
      clear h
      have hF := hW.free hS hA
      refine va_calld (va_runV (As := []) (rest := []) ⟨hx, hb, hml, hown, hts⟩ (c_Mo_coming _ h9) (cwV 0 hts (gi_V bw_1162 bw_1164 bs_36 bw_5 bw_1165) rfl rfl rfl (by decide +kernel) ⟨Nat.le_of_ble_eq_true rfl, Nat.le_of_ble_eq_true rfl⟩) ⟨hI.blind, hw_recv hK hW h1 rfl, hI.give hW hS hA hK hZ0⟩ rfl rfl hl.1 rfl (lv_room (Nat.le_of_ble_eq_true rfl)) d_Mo_tick_168 ⟨(show _ ≤ 0 by omega), (show _ ≤ 0 by omega)⟩) hS (fun q _ z => hF q z) hF (fun r40 M41 t H locs ht _ h hB1 _ _ hS => ?_)
      have hW := hw_back hF ht hB1
      clear h9
      refine lv_dstore (lv' := [(6, .double r40), (0, .ref l0b107), (3, .double l3b107), (5, .int l5b107), (8, .int l8b107)]) hx hb d_Mo_tick_171 hl (by decide) rfl (fun ls hl => ?_)
      refine lv_goto (tgt := 41) hx hb d_Mo_tick_173 (by decide) ?_
      exact hk_25 _ _ _ _ l0b107 l3b107 l5b107 r40 h hW hS (lv_sub hl [1, 2, 3, 0] rfl)
    · have h := h1 c39
      refine lv_aload_n hx hb d_Mo_tick_114 rfl (lv_at hl 0 rfl) ?_
      obtain ⟨fs, v42, h1, h2, h⟩ := h
      refine va_get (D := D) (ci := 5) (v := va_rf v42) (C := "ChannelHallModel") (T := TMo) (N := 26) hx hb hts uMo hown hK (hw_one hW h1) 0 rfl rfl 1 (by decide) (hts _ bw_975) (fun _ h9 => h9) h2 d_Mo_tick_115 ?_
      refine lv_iload hx hb d_Mo_tick_118 (lv_at hl 3 rfl) ?_
      obtain ⟨b43, rfl, h⟩ := h
      obtain ⟨n, f, h1, h2, h⟩ := h
      refine va_zald hx hb hK (hw_one hW h1) 0 6 rfl rfl h2 d_Mo_tick_120 ?_
      generalize f (l8b107).toNatClampNeg = v44 at h ⊢
      obtain ⟨h0, h1⟩ := h
      refine lv_if_eq (tgt := 161) hx hb d_Mo_tick_121 (by decide) (fun c45 => ?_) (fun c45 => ?_)
      · have h := h0 c45
        exact l_Mo_tick_161 C0 hk_25 hk_59 l0b107 l3b107 l5b107 l8b107 h hW hS (lv_sub hl [0, 1, 2, 3] rfl)
      · have h := h1 c45
        refine lv_aload_n hx hb d_Mo_tick_124 rfl (lv_at hl 0 rfl) ?_
        obtain ⟨fs, v46, h1, h2, h⟩ := h
        refine va_get (D := D) (ci := 5) (v := va_rf v46) (C := "ChannelHallModel") (T := TMo) (N := 26) hx hb hts uMo hown hK (hw_one hW h1) 0 rfl rfl 11 (by decide) (hts _ bw_985) (fun _ h9 => h9) h2 d_Mo_tick_125 ?_
        refine lv_iload hx hb d_Mo_tick_128 (lv_at hl 3 rfl) ?_
        obtain ⟨b47, rfl, h⟩ := h
        obtain ⟨n, f, h1, h2, h⟩ := h
        refine va_dald hx hb hK (hw_one hW h1) 0 4 rfl rfl h2 d_Mo_tick_130 ?_
        generalize f (l8b107).toNatClampNeg = v48 at h ⊢
        refine lv_dconst0 hx hb d_Mo_tick_131 ?_
        refine lv_dcmp hx hb d_Mo_tick_132 ?_
        obtain ⟨h0, h1⟩ := h
        refine lv_if_lt (tgt := 161) hx hb d_Mo_tick_133 (by decide) (fun c49 => ?_) (fun c49 => ?_)
        · have h := h0 c49
          exact l_Mo_tick_161 C0 hk_25 hk_59 l0b107 l3b107 l5b107 l8b107 h hW hS (lv_sub hl [0, 1, 2, 3] rfl)
        · have h := h1 c49
          refine lv_aload_n hx hb d_Mo_tick_136 rfl (lv_at hl 0 rfl) ?_
          obtain ⟨fs, v50, h1, h2, h⟩ := h
          refine va_get (D := D) (ci := 5) (v := va_rf v50) (C := "ChannelHallModel") (T := TMo) (N := 26) hx hb hts uMo hown hK (hw_one hW h1) 0 rfl rfl 11 (by decide) (hts _ bw_985) (fun _ h9 => h9) h2 d_Mo_tick_137 ?_
          refine lv_iload hx hb d_Mo_tick_140 (lv_at hl 3 rfl) ?_
          obtain ⟨b51, rfl, h⟩ := h
          obtain ⟨n, f, h1, h2, h⟩ := h
          refine va_dald hx hb hK (hw_one hW h1) 0 4 rfl rfl h2 d_Mo_tick_142 ?_
          generalize f (l8b107).toNatClampNeg = v52 at h ⊢
          refine lv_aload_n hx hb d_Mo_tick_143 rfl (lv_at hl 0 rfl) ?_
          obtain ⟨fs, v53, h1, h2, h⟩ := h
          refine va_get (D := D) (ci := 5) (v := .double v53) (C := "ChannelHallModel") (T := TMo) (N := 26) hx hb hts uMo hown hK (hw_one hW h1) 0 rfl rfl 12 (by decide) (hts _ bw_986) (fun _ h9 => h9) h2 d_Mo_tick_144 ?_
          refine lv_dcmp hx hb d_Mo_tick_147 ?_
          obtain ⟨h0, h1⟩ := h
          refine lv_if_gt (tgt := 161) hx hb d_Mo_tick_148 (by decide) (fun c54 => ?_) (fun c54 => ?_)
          · have h := h0 c54
            exact l_Mo_tick_161 C0 hk_25 hk_59 l0b107 l3b107 l5b107 l8b107 h hW hS (lv_sub hl [0, 1, 2, 3] rfl)
          · have h := h1 c54
            refine lv_aload_n hx hb d_Mo_tick_151 rfl (lv_at hl 0 rfl) ?_
            refine lv_iload hx hb d_Mo_tick_152 (lv_at hl 3 rfl) ?_
            refine lv_iconst (v := 2) hx hb d_Mo_tick_154 (by decide) ?_
            obtain ⟨⟨fs, h1⟩, h⟩ := h
            have h9 := h
            clear h
            have hF := hW.free hS hA
            refine va_callv (va_runV (As := [.int l8b107, .int 2]) (rest := []) ⟨hx, hb, hml, hown, hts⟩ (c_Mo_leave _ h9) (cwV 2 hts (gi_V bw_1154 bw_1156 bs_35 bw_5 bw_1157) rfl rfl rfl (by decide +kernel) ⟨Nat.le_of_ble_eq_true rfl, Nat.le_of_ble_eq_true rfl⟩) ⟨hI.blind, hw_recv hK hW h1 rfl, hI.give hW hS hA hK hZ0⟩ rfl rfl hl.1 rfl (lv_room (Nat.le_of_ble_eq_true rfl)) d_Mo_tick_155 ⟨(show _ ≤ 0 by omega), (show _ ≤ 0 by omega)⟩) hS (fun q _ z => hF q z) hF (fun M55 t H locs ht _ h hB1 _ _ hS => ?_)
            have hW := hw_back hF ht hB1
            clear h9
            refine lv_iinc (v := l5b107 + 1) (lv' := [(5, .int (l5b107 + 1)), (0, .ref l0b107), (3, .double l3b107), (8, .int l8b107)]) hx hb d_Mo_tick_158 hl (k := 2) rfl rfl (by decide) rfl (fun ls hl => ?_)
            exact l_Mo_tick_161 C0 hk_25 hk_59 l0b107 l3b107 (l5b107 + 1) l8b107 h hW hS (lv_sub hl [1, 2, 0, 3] rfl)
set_option maxHeartbeats 1000000 in
set_option maxRecDepth 20000 in
theorem l_Mo_tick_98 {p : Program} {l : Launch} {e : Env} {s : State} {m : MethodId} {args : Array Value} {below : List Frame} {meth : Method} {c : Code} {D : va_G} {ca G : Nat → Nat} {A : Nat → Prop} (C0 : hC p s m args meth c D ca G prog_7_method_28_code 9 (some .int) "ChannelHallModel" A) {post : Int32 → hM → Prop} {k_25 : hM → Nat → UInt64 → Int32 → UInt64 → Prop} {k_43 : hM → Nat → UInt64 → Int32 → Int32 → Prop} (hk_25 : ∀ (M : hM) (H : Heap) (locs : List Loc) (ls : Array Slot) (l0b41 : Nat) (l3b41 : UInt64) (l5b41 : Int32) (l6b41 : UInt64), k_25 M l0b41 l3b41 l5b41 l6b41 → hw D wCl A M H → va_S A s.heap H locs → lv_has ls 9 [(0, .ref l0b41), (3, .double l3b41), (5, .int l5b41), (6, .double l6b41)] → W p l e rm_Mo_tick s m args below meth c H locs 0 0 (MQ below (va_Qi post (fun M' t => hw D wCl A M' t.heap) A) args s 0 0 A) (F0 m 41 ls [])) (hk_43 : ∀ (M : hM) (H : Heap) (locs : List Loc) (ls : Array Slot) (l0b74 : Nat) (l3b74 : UInt64) (l5b74 : Int32) (l8b74 : Int32), k_43 M l0b74 l3b74 l5b74 l8b74 → hw D wCl A M H → va_S A s.heap H locs → lv_has ls 9 [(0, .ref l0b74), (3, .double l3b74), (5, .int l5b74), (8, .int l8b74)] → W p l e rm_Mo_tick s m args below meth c H locs 0 0 (MQ below (va_Qi post (fun M' t => hw D wCl A M' t.heap) A) args s 0 0 A) (F0 m 74 ls [])) {M : hM} {H : Heap} {locs : List Loc} {ls : Array Slot} (l0b98 : Nat) (l3b98 : UInt64) (l5b98 : Int32) (l8b98 : Int32) (h : wp_Mo_tick_98 G ca post k_25 k_43 M l0b98 l3b98 l5b98 l8b98) (hW : hw D wCl A M H) (hS : va_S A s.heap H locs) (hl : lv_has ls 9 [(0, .ref l0b98), (3, .double l3b98), (5, .int l5b98), (8, .int l8b98)]) : W p l e rm_Mo_tick s m args below meth c H locs 0 0 (MQ below (va_Qi post (fun M' t => hw D wCl A M' t.heap) A) args s 0 0 A) (F0 m 98 ls []) := by
  obtain ⟨hx, hb, hr, hml, hown, hts, hlocks, hK, hA, hZ0⟩ := id C0
  refine lv_iinc (v := l8b98 + 1) (lv' := [(8, .int (l8b98 + 1)), (0, .ref l0b98), (3, .double l3b98), (5, .int l5b98)]) hx hb d_Mo_tick_98 hl (k := 3) rfl rfl (by decide) rfl (fun ls hl => ?_)
  refine lv_goto (tgt := 74) hx hb d_Mo_tick_101 (by decide) ?_
  exact hk_43 _ _ _ _ l0b98 l3b98 l5b98 (l8b98 + 1) h hW hS (lv_sub hl [1, 2, 3, 0] rfl)
set_option maxHeartbeats 1000000 in
set_option maxRecDepth 20000 in
theorem l_Mo_tick_74 {p : Program} {l : Launch} {e : Env} {s : State} {m : MethodId} {args : Array Value} {below : List Frame} {meth : Method} {c : Code} {D : va_G} {ca G : Nat → Nat} {A : Nat → Prop} (C0 : hC p s m args meth c D ca G prog_7_method_28_code 9 (some .int) "ChannelHallModel" A) {post : Int32 → hM → Prop} {k_25 : hM → Nat → UInt64 → Int32 → UInt64 → Prop} (hk_25 : ∀ (M : hM) (H : Heap) (locs : List Loc) (ls : Array Slot) (l0b41 : Nat) (l3b41 : UInt64) (l5b41 : Int32) (l6b41 : UInt64), k_25 M l0b41 l3b41 l5b41 l6b41 → hw D wCl A M H → va_S A s.heap H locs → lv_has ls 9 [(0, .ref l0b41), (3, .double l3b41), (5, .int l5b41), (6, .double l6b41)] → W p l e rm_Mo_tick s m args below meth c H locs 0 0 (MQ below (va_Qi post (fun M' t => hw D wCl A M' t.heap) A) args s 0 0 A) (F0 m 41 ls [])) : ∀ (n : Nat) {M : hM} {H : Heap} {locs : List Loc} {ls : Array Slot} (l0b74 : Nat) (l3b74 : UInt64) (l5b74 : Int32) (l8b74 : Int32) (h : wp_Mo_tick_74 G ca post k_25 n M l0b74 l3b74 l5b74 l8b74) (hW : hw D wCl A M H) (hS : va_S A s.heap H locs) (hl : lv_has ls 9 [(0, .ref l0b74), (3, .double l3b74), (5, .int l5b74), (8, .int l8b74)]), W p l e rm_Mo_tick s m args below meth c H locs 0 0 (MQ below (va_Qi post (fun M' t => hw D wCl A M' t.heap) A) args s 0 0 A) (F0 m 74 ls []) := by
  obtain ⟨hx, hb, hr, hml, hown, hts, hlocks, hK, hA, hZ0⟩ := id C0
  intro n
  induction n with
  | zero =>
    intro M H locs ls l0b74 l3b74 l5b74 l8b74 h
    exact False.elim h
  | succ n ih =>
    intro M H locs ls l0b74 l3b74 l5b74 l8b74 h hW hS hl
    have hk_43 := fun M H locs ls l0b74 l3b74 l5b74 l8b74 h hW hS hl => @ih M H locs ls l0b74 l3b74 l5b74 l8b74 h hW hS hl
    refine lv_iload hx hb d_Mo_tick_74 (lv_at hl 3 rfl) ?_
    refine lv_bipush (v := 8) hx hb d_Mo_tick_76 (by decide) ?_
    obtain ⟨h0, h1⟩ := h
    refine lv_icmp_ge (tgt := 104) hx hb d_Mo_tick_78 (by decide) (fun c56 => ?_) (fun c56 => ?_)
    · have h := h0 c56
      refine lv_iconst (v := 0) hx hb d_Mo_tick_104 (by decide) ?_
      refine lv_istore (lv' := [(8, .int 0), (0, .ref l0b74), (3, .double l3b74), (5, .int l5b74)]) hx hb d_Mo_tick_105 hl (by decide) rfl (fun ls hl => ?_)
      obtain ⟨n, h⟩ := h
      exact l_Mo_tick_107 C0 hk_25 n l0b74 l3b74 l5b74 0 h hW hS (lv_sub hl [1, 2, 3, 0] rfl)
    · have h := h1 c56
      refine lv_aload_n hx hb d_Mo_tick_81 rfl (lv_at hl 0 rfl) ?_
      obtain ⟨fs, v57, h1, h2, h⟩ := h
      refine va_get (D := D) (ci := 5) (v := va_rf v57) (C := "ChannelHallModel") (T := TMo) (N := 26) hx hb hts uMo hown hK (hw_one hW h1) 0 rfl rfl 13 (by decide) (hts _ bw_987) (fun _ h9 => h9) h2 d_Mo_tick_82 ?_
      refine lv_iload hx hb d_Mo_tick_85 (lv_at hl 3 rfl) ?_
      obtain ⟨b58, rfl, h⟩ := h
      obtain ⟨n, f, h1, h2, h⟩ := h
      refine va_iald hx hb hK (hw_one hW h1) 0 5 rfl rfl h2 d_Mo_tick_87 ?_
      generalize f (l8b74).toNatClampNeg = v59 at h ⊢
      refine lv_iconst (v := 4) hx hb d_Mo_tick_88 (by decide) ?_
      obtain ⟨h0, h1⟩ := h
      refine lv_icmp_ne (tgt := 98) hx hb d_Mo_tick_89 (by decide) (fun c60 => ?_) (fun c60 => ?_)
      · have h := h0 c60
        exact l_Mo_tick_98 C0 hk_25 hk_43 l0b74 l3b74 l5b74 l8b74 h hW hS (lv_sub hl [0, 1, 2, 3] rfl)
      · have h := h1 c60
        refine lv_aload_n hx hb d_Mo_tick_92 rfl (lv_at hl 0 rfl) ?_
        refine lv_iload hx hb d_Mo_tick_93 (lv_at hl 3 rfl) ?_
        obtain ⟨⟨fs, h1⟩, h⟩ := h
        have h9 := h
        clear h
        have hF := hW.free hS hA
        refine va_callv (va_runV (As := [.int l8b74]) (rest := []) ⟨hx, hb, hml, hown, hts⟩ (c_Mo_serve _ h9) (cwV 1 hts (gi_V bw_1118 bw_1120 bs_31 bw_5 bw_1121) rfl rfl rfl (by decide +kernel) ⟨Nat.le_of_ble_eq_true rfl, Nat.le_of_ble_eq_true rfl⟩) ⟨hI.blind, hw_recv hK hW h1 rfl, hI.give hW hS hA hK hZ0⟩ rfl rfl hl.1 rfl (lv_room (Nat.le_of_ble_eq_true rfl)) d_Mo_tick_95 ⟨(show _ ≤ 0 by omega), (show _ ≤ 0 by omega)⟩) hS (fun q _ z => hF q z) hF (fun M61 t H locs ht _ h hB1 _ _ hS => ?_)
        have hW := hw_back hF ht hB1
        clear h9
        exact l_Mo_tick_98 C0 hk_25 hk_43 l0b74 l3b74 l5b74 l8b74 h hW hS (lv_sub hl [0, 1, 2, 3] rfl)
set_option maxHeartbeats 1000000 in
set_option maxRecDepth 20000 in
theorem l_Mo_tick_71 {p : Program} {l : Launch} {e : Env} {s : State} {m : MethodId} {args : Array Value} {below : List Frame} {meth : Method} {c : Code} {D : va_G} {ca G : Nat → Nat} {A : Nat → Prop} (C0 : hC p s m args meth c D ca G prog_7_method_28_code 9 (some .int) "ChannelHallModel" A) {post : Int32 → hM → Prop} {k_25 : hM → Nat → UInt64 → Int32 → UInt64 → Prop} (hk_25 : ∀ (M : hM) (H : Heap) (locs : List Loc) (ls : Array Slot) (l0b41 : Nat) (l3b41 : UInt64) (l5b41 : Int32) (l6b41 : UInt64), k_25 M l0b41 l3b41 l5b41 l6b41 → hw D wCl A M H → va_S A s.heap H locs → lv_has ls 9 [(0, .ref l0b41), (3, .double l3b41), (5, .int l5b41), (6, .double l6b41)] → W p l e rm_Mo_tick s m args below meth c H locs 0 0 (MQ below (va_Qi post (fun M' t => hw D wCl A M' t.heap) A) args s 0 0 A) (F0 m 41 ls [])) {M : hM} {H : Heap} {locs : List Loc} {ls : Array Slot} (l0b71 : Nat) (l3b71 : UInt64) (l5b71 : Int32) (h : wp_Mo_tick_71 G ca post k_25 M l0b71 l3b71 l5b71) (hW : hw D wCl A M H) (hS : va_S A s.heap H locs) (hl : lv_has ls 9 [(0, .ref l0b71), (3, .double l3b71), (5, .int l5b71)]) : W p l e rm_Mo_tick s m args below meth c H locs 0 0 (MQ below (va_Qi post (fun M' t => hw D wCl A M' t.heap) A) args s 0 0 A) (F0 m 71 ls []) := by
  obtain ⟨hx, hb, hr, hml, hown, hts, hlocks, hK, hA, hZ0⟩ := id C0
  refine lv_iconst (v := 0) hx hb d_Mo_tick_71 (by decide) ?_
  refine lv_istore (lv' := [(8, .int 0), (0, .ref l0b71), (3, .double l3b71), (5, .int l5b71)]) hx hb d_Mo_tick_72 hl (by decide) rfl (fun ls hl => ?_)
  obtain ⟨n, h⟩ := h
  exact l_Mo_tick_74 C0 hk_25 n l0b71 l3b71 l5b71 0 h hW hS (lv_sub hl [1, 2, 3, 0] rfl)
set_option maxHeartbeats 1000000 in
set_option maxRecDepth 20000 in
theorem l_Mo_tick_41 {p : Program} {l : Launch} {e : Env} {s : State} {m : MethodId} {args : Array Value} {below : List Frame} {meth : Method} {c : Code} {D : va_G} {ca G : Nat → Nat} {A : Nat → Prop} (C0 : hC p s m args meth c D ca G prog_7_method_28_code 9 (some .int) "ChannelHallModel" A) {post : Int32 → hM → Prop} : ∀ (n : Nat) {M : hM} {H : Heap} {locs : List Loc} {ls : Array Slot} (l0b41 : Nat) (l3b41 : UInt64) (l5b41 : Int32) (l6b41 : UInt64) (h : wp_Mo_tick_41 G ca post n M l0b41 l3b41 l5b41 l6b41) (hW : hw D wCl A M H) (hS : va_S A s.heap H locs) (hl : lv_has ls 9 [(0, .ref l0b41), (3, .double l3b41), (5, .int l5b41), (6, .double l6b41)]), W p l e rm_Mo_tick s m args below meth c H locs 0 0 (MQ below (va_Qi post (fun M' t => hw D wCl A M' t.heap) A) args s 0 0 A) (F0 m 41 ls []) := by
  obtain ⟨hx, hb, hr, hml, hown, hts, hlocks, hK, hA, hZ0⟩ := id C0
  intro n
  induction n with
  | zero =>
    intro M H locs ls l0b41 l3b41 l5b41 l6b41 h
    exact False.elim h
  | succ n ih =>
    intro M H locs ls l0b41 l3b41 l5b41 l6b41 h hW hS hl
    have hk_25 := fun M H locs ls l0b41 l3b41 l5b41 l6b41 h hW hS hl => @ih M H locs ls l0b41 l3b41 l5b41 l6b41 h hW hS hl
    refine lv_dload hx hb d_Mo_tick_41 (lv_at hl 3 rfl) ?_
    refine lv_dconst0 hx hb d_Mo_tick_43 ?_
    refine lv_dcmp hx hb d_Mo_tick_44 ?_
    obtain ⟨h0, h1⟩ := h
    refine lv_if_lt (tgt := 176) hx hb d_Mo_tick_45 (by decide) (fun c62 => ?_) (fun c62 => ?_)
    · have h := h0 c62
      exact l_Mo_tick_176 C0 l0b41 l3b41 l5b41 h hW hS (lv_sub hl [0, 1, 2] rfl)
    · have h := h1 c62
      refine lv_dload hx hb d_Mo_tick_48 (lv_at hl 3 rfl) ?_
      refine lv_dload_n hx hb d_Mo_tick_50 rfl (lv_at hl 1 rfl) ?_
      refine lv_dcmp hx hb d_Mo_tick_51 ?_
      obtain ⟨h0, h1⟩ := h
      refine lv_if_gt (tgt := 176) hx hb d_Mo_tick_52 (by decide) (fun c63 => ?_) (fun c63 => ?_)
      · have h := h0 c63
        exact l_Mo_tick_176 C0 l0b41 l3b41 l5b41 h hW hS (lv_sub hl [0, 1, 2] rfl)
      · have h := h1 c63
        refine lv_dload hx hb d_Mo_tick_55 (lv_at hl 3 rfl) ?_
        refine lv_aload_n hx hb d_Mo_tick_57 rfl (lv_at hl 0 rfl) ?_
        obtain ⟨fs, v64, h1, h2, h⟩ := h
        refine va_get (D := D) (ci := 5) (v := .double v64) (C := "ChannelHallModel") (T := TMo) (N := 26) hx hb hts uMo hown hK (hw_one hW h1) 0 rfl rfl 12 (by decide) (hts _ bw_986) (fun _ h9 => h9) h2 d_Mo_tick_58 ?_
        refine lv_dcmp hx hb d_Mo_tick_61 ?_
        obtain ⟨h0, h1⟩ := h
        refine lv_if_le (tgt := 71) hx hb d_Mo_tick_62 (by decide) (fun c65 => ?_) (fun c65 => ?_)
        · have h := h0 c65
          exact l_Mo_tick_71 C0 hk_25 l0b41 l3b41 l5b41 h hW hS (lv_sub hl [0, 1, 2] rfl)
        · have h := h1 c65
          refine lv_aload_n hx hb d_Mo_tick_65 rfl (lv_at hl 0 rfl) ?_
          refine lv_dload hx hb d_Mo_tick_66 (lv_at hl 3 rfl) ?_
          obtain ⟨fs, h1, h2, h⟩ := h
          obtain ⟨ws, q0, hq, hP, hD, hback, -⟩ := hw_open hW h1
          refine va_put (D := D) (ci := 5) (v := .double l6b41) (ty := .double) (C := "ChannelHallModel") (T := TMo) (N := 26) hx hb hts uMo tMo tMo_ok nMo hown hK hP hD hS q0 hq rfl 12 (by decide) (hts _ bw_986) (fun _ h9 => h9) rfl (by decide +kernel) rfl rfl h2 d_Mo_tick_68 (fun H locs hP hD hS => ?_)
          have hW := hback _ _ hP hD
          generalize (va_up M l0b41 (some (.inr (5, fs.set 12 (.double l6b41))))) = M66 at h hW
          exact l_Mo_tick_71 C0 hk_25 l0b41 l3b41 l5b41 h hW hS (lv_sub hl [0, 1, 2] rfl)
set_option maxHeartbeats 1000000 in
set_option maxRecDepth 20000 in
theorem l_Mo_tick_19 {p : Program} {l : Launch} {e : Env} {s : State} {m : MethodId} {args : Array Value} {below : List Frame} {meth : Method} {c : Code} {D : va_G} {ca G : Nat → Nat} {A : Nat → Prop} (C0 : hC p s m args meth c D ca G prog_7_method_28_code 9 (some .int) "ChannelHallModel" A) {post : Int32 → hM → Prop} {M : hM} {H : Heap} {locs : List Loc} {ls : Array Slot} (l0b19 : Nat) (h : wp_Mo_tick_19 G ca post M l0b19) (hW : hw D wCl A M H) (hS : va_S A s.heap H locs) (hl : lv_has ls 9 [(0, .ref l0b19)]) : W p l e rm_Mo_tick s m args below meth c H locs 0 0 (MQ below (va_Qi post (fun M' t => hw D wCl A M' t.heap) A) args s 0 0 A) (F0 m 19 ls []) := by
  obtain ⟨hx, hb, hr, hml, hown, hts, hlocks, hK, hA, hZ0⟩ := id C0
  refine lv_aload_n hx hb d_Mo_tick_19 rfl (lv_at hl 0 rfl) ?_
  refine lv_iconst (v := 1) hx hb d_Mo_tick_20 (by decide) ?_
  obtain ⟨⟨fs, h1⟩, h⟩ := h
  have h9 := h
  clear h
  have hF := hW.free hS hA
  refine va_calli (va_runV (As := [.int 1]) (rest := []) ⟨hx, hb, hml, hown, hts⟩ (c_Mo_fail _ h9) (cwV 1 hts (gi_V bw_1068 bw_1070 bs_20 bw_5 bw_1071) rfl rfl rfl (by decide +kernel) ⟨Nat.le_of_ble_eq_true rfl, Nat.le_of_ble_eq_true rfl⟩) ⟨hI.blind, hw_recv hK hW h1 rfl, hI.give hW hS hA hK hZ0⟩ rfl rfl hl.1 rfl (lv_room (Nat.le_of_ble_eq_true rfl)) d_Mo_tick_21 ⟨(show _ ≤ 0 by omega), (show _ ≤ 0 by omega)⟩) hS (fun q _ z => hF q z) hF (fun r67 M68 t H locs ht _ h hB1 _ _ hS => ?_)
  have hW := hw_back hF ht hB1
  clear h9
  exact W.iret hx hb hr (fun t ht hWm => ⟨⟨_, _, rfl, h, hw_t ht hW⟩, hS.F ht⟩) hS.2.2 d_Mo_tick_24
set_option maxHeartbeats 1000000 in
set_option maxRecDepth 20000 in
theorem l_Mo_tick_e {p : Program} {l : Launch} {e : Env} {s : State} {m : MethodId} {args : Array Value} {below : List Frame} {meth : Method} {c : Code} {D : va_G} {ca G : Nat → Nat} {A : Nat → Prop} (C0 : hC p s m args meth c D ca G prog_7_method_28_code 9 (some .int) "ChannelHallModel" A) {post : Int32 → hM → Prop} {M : hM} {H : Heap} {locs : List Loc} {ls : Array Slot} (a0 : Nat) (x1 : UInt64) (h : wp_Mo_tick G ca post M a0 x1) (hW : hw D wCl A M H) (hS : va_S A s.heap H locs) (hl : lv_has ls 9 [(0, .ref a0), (1, .double x1)]) : W p l e rm_Mo_tick s m args below meth c H locs 0 0 (MQ below (va_Qi post (fun M' t => hw D wCl A M' t.heap) A) args s 0 0 A) (F0 m 0 ls []) := by
  obtain ⟨hx, hb, hr, hml, hown, hts, hlocks, hK, hA, hZ0⟩ := id C0
  refine lv_aload_n hx hb d_Mo_tick_0 rfl (lv_at hl 0 rfl) ?_
  refine lv_iconst (v := 0) hx hb d_Mo_tick_1 (by decide) ?_
  obtain ⟨fs, h1, h2, h⟩ := h
  obtain ⟨ws, q0, hq, hP, hD, hback, -⟩ := hw_open hW h1
  refine va_put (D := D) (ci := 5) (v := .int 0) (ty := .int) (C := "ChannelHallModel") (T := TMo) (N := 26) hx hb hts uMo tMo tMo_ok nMo hown hK hP hD hS q0 hq rfl 0 (by decide) (hts _ bw_974) (fun _ h9 => h9) rfl (by decide +kernel) rfl rfl h2 d_Mo_tick_2 (fun H locs hP hD hS => ?_)
  have hW := hback _ _ hP hD
  generalize (va_up M a0 (some (.inr (5, fs.set 0 (.int 0))))) = M69 at h hW
  refine lv_dload_n hx hb d_Mo_tick_5 rfl (lv_at hl 1 rfl) ?_
  refine lv_dconst0 hx hb d_Mo_tick_6 ?_
  refine lv_dcmp hx hb d_Mo_tick_7 ?_
  obtain ⟨h0, h1⟩ := h
  refine lv_if_lt (tgt := 19) hx hb d_Mo_tick_8 (by decide) (fun c70 => ?_) (fun c70 => ?_)
  · have h := h0 c70
    exact l_Mo_tick_19 C0 a0 h hW hS (lv_sub hl [0] rfl)
  · have h := h1 c70
    refine lv_dload_n hx hb d_Mo_tick_11 rfl (lv_at hl 1 rfl) ?_
    refine lv_ldc2d (v := 4652007308841189376) hx hb hown (hts _ bw_1077) d_Mo_tick_12 ?_
    refine lv_dcmp hx hb d_Mo_tick_15 ?_
    obtain ⟨h0, h1⟩ := h
    refine lv_if_le (tgt := 25) hx hb d_Mo_tick_16 (by decide) (fun c71 => ?_) (fun c71 => ?_)
    · have h := h0 c71
      refine lv_aload_n hx hb d_Mo_tick_25 rfl (lv_at hl 0 rfl) ?_
      obtain ⟨fs, v72, h1, h2, h⟩ := h
      refine va_get (D := D) (ci := 5) (v := .double v72) (C := "ChannelHallModel") (T := TMo) (N := 26) hx hb hts uMo hown hK (hw_one hW h1) 0 rfl rfl 12 (by decide) (hts _ bw_986) (fun _ h9 => h9) h2 d_Mo_tick_26 ?_
      refine lv_dload_n hx hb d_Mo_tick_29 rfl (lv_at hl 1 rfl) ?_
      obtain ⟨hn, h⟩ := h
      refine lv_dadd hx hb d_Mo_tick_30 hn ?_
      refine lv_dstore_n (lv' := [(3, .double (FP.dadd v72 x1)), (0, .ref a0), (1, .double x1)]) hx hb d_Mo_tick_31 rfl hl (by decide) rfl (fun ls hl => ?_)
      refine lv_iconst (v := 0) hx hb d_Mo_tick_32 (by decide) ?_
      refine lv_istore (lv' := [(5, .int 0), (3, .double (FP.dadd v72 x1)), (0, .ref a0), (1, .double x1)]) hx hb d_Mo_tick_33 hl (by decide) rfl (fun ls hl => ?_)
      refine lv_aload_n hx hb d_Mo_tick_35 rfl (lv_at hl 2 rfl) ?_
      obtain ⟨⟨fs, h1⟩, h⟩ := h
      have h9 := h
      clear h
      have hF := hW.free hS hA
      refine va_calld (va_runV (As := []) (rest := []) ⟨hx, hb, hml, hown, hts⟩ (c_Mo_coming _ h9) (cwV 0 hts (gi_V bw_1162 bw_1164 bs_36 bw_5 bw_1165) rfl rfl rfl (by decide +kernel) ⟨Nat.le_of_ble_eq_true rfl, Nat.le_of_ble_eq_true rfl⟩) ⟨hI.blind, hw_recv hK hW h1 rfl, hI.give hW hS hA hK hZ0⟩ rfl rfl hl.1 rfl (lv_room (Nat.le_of_ble_eq_true rfl)) d_Mo_tick_36 ⟨(show _ ≤ 0 by omega), (show _ ≤ 0 by omega)⟩) hS (fun q _ z => hF q z) hF (fun r73 M74 t H locs ht _ h hB1 _ _ hS => ?_)
      have hW := hw_back hF ht hB1
      clear h9
      refine lv_dstore (lv' := [(6, .double r73), (5, .int 0), (3, .double (FP.dadd v72 x1)), (0, .ref a0), (1, .double x1)]) hx hb d_Mo_tick_39 hl (by decide) rfl (fun ls hl => ?_)
      obtain ⟨n, h⟩ := h
      exact l_Mo_tick_41 C0 n a0 (FP.dadd v72 x1) 0 r73 h hW hS (lv_sub hl [3, 2, 1, 0] rfl)
    · have h := h1 c71
      exact l_Mo_tick_19 C0 a0 h hW hS (lv_sub hl [0] rfl)
set_option maxRecDepth 20000 in
theorem c_Mo_tick {l : Launch} {D : va_G} {ca G : Nat → Nat} (post : Int32 → hM → Prop) {M : hM} {sz : Nat} {a0 : Nat} {x1 : UInt64} (h : wp_Mo_tick G ca post M a0 x1) : Met l y_Mo_tick (wz y_Mo_tick prog_7_method_28_code 9 (some .int)) rm_Mo_tick (va_Pc [.ref a0, .double x1] (hI D ca G sz M)) (va_Qi post (hB D M sz) (hp_A M sz)) 0 0 (hp_A M sz) := by
  refine Met.ofW (cc := prog_7_method_28_code) (maxL := 9) (ret := some .int) (by decide) rfl ?_
  intro p e s m args below meth c s₁ B hml hv
  obtain ⟨rfl, hsz, hW, hK, hZ0⟩ := hv
  have hts := fun w hw => atoms_spec (ws := wz y_Mo_tick prog_7_method_28_code 9 (some .int)) B.pre w (List.mem_cons_of_mem _ hw)
  have hown : s.vm.findClass "ChannelHallModel" = some m.cls := findClass_of_methodNamed B.named
  subst hsz
  have hl := lv_entry [.ref a0, .double x1] (n := 9) (Nat.le_of_ble_eq_true rfl)
  rw [lg_entry_eq]
  exact l_Mo_tick_e ⟨B.exec, B.bytes, B.returns, hml, hown, hts, B.notSynchronized, hK, fun q h => Or.inr h, hZ0⟩ a0 x1 h hW va_S.rf hl

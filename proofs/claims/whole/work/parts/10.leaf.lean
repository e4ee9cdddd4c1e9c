theorem d_Wo_losesFlag_0 : decode prog_5_method_2_code 0 = .ok (.aload_n 0, 1) := by decide +kernel
theorem d_Wo_losesFlag_1 : decode prog_5_method_2_code 1 = .ok (.getfield 9, 3) := by decide +kernel
theorem d_Wo_losesFlag_4 : decode prog_5_method_2_code 4 = .ok (.istore_n 1, 1) := by decide +kernel
theorem d_Wo_losesFlag_5 : decode prog_5_method_2_code 5 = .ok (.aload_n 0, 1) := by decide +kernel
theorem d_Wo_losesFlag_6 : decode prog_5_method_2_code 6 = .ok (.iconst 0, 1) := by decide +kernel
theorem d_Wo_losesFlag_7 : decode prog_5_method_2_code 7 = .ok (.putfield 9, 3) := by decide +kernel
theorem d_Wo_losesFlag_10 : decode prog_5_method_2_code 10 = .ok (.iload_n 1, 1) := by decide +kernel
theorem d_Wo_losesFlag_11 : decode prog_5_method_2_code 11 = .ok (.ireturn, 1) := by decide +kernel
def y_Wo_losesFlag : MethodName := ⟨"ChannelHall$Worker", "losesFlag", "()Z"⟩
abbrev rm_Wo_losesFlag : Room := { frames := 0, cells := 0, slots := 0, locals := 0 }
def wp_Wo_losesFlag (G ca : Nat → Nat) (post : Int32 → hM → Prop) (M : hM) (a0 : Nat) : Prop := gI M a0 2 1 fun v3 => pF M a0 2 1 (.int 0) fun M4 => bZ v3 (post v3 M4)
set_option maxHeartbeats 1000000 in
set_option maxRecDepth 20000 in
theorem l_Wo_losesFlag_e {p : Program} {l : Launch} {e : Env} {s : State} {m : MethodId} {args : Array Value} {below : List Frame} {meth : Method} {c : Code} {D : va_G} {ca G : Nat → Nat} {A : Nat → Prop} (C0 : hC p s m args meth c D ca G prog_5_method_2_code 2 (some .boolean) "ChannelHall$Worker" A) {post : Int32 → hM → Prop} {M : hM} {H : Heap} {locs : List Loc} {ls : Array Slot} (a0 : Nat) (h : wp_Wo_losesFlag G ca post M a0) (hW : hw D wCl A M H) (hS : va_S A s.heap H locs) (hl : lv_has ls 2 [(0, .ref a0)]) : W p l e rm_Wo_losesFlag s m args below meth c H locs 0 0 (MQ below (va_Qi post (fun M' t => hw D wCl A M' t.heap) A) args s 0 0 A) (F0 m 0 ls []) := by
  obtain ⟨hx, hb, hr, hml, hown, hts, hlocks, hK, hA, hZ0⟩ := id C0
  refine lv_aload_n hx hb d_Wo_losesFlag_0 rfl (lv_at hl 0 rfl) ?_
  obtain ⟨fs, v3, h1, h2, h⟩ := h
  refine va_get (D := D) (ci := 2) (v := .int v3) (C := "ChannelHall$Worker") (T := TWo) (N := 11) hx hb hts uWo hown hK (hw_one hW h1) 0 rfl rfl 1 (by decide) (hts _ bw_53) (fun _ h9 => h9) h2 d_Wo_losesFlag_1 ?_
  refine lv_istore_n (lv' := [(1, .int v3), (0, .ref a0)]) hx hb d_Wo_losesFlag_4 rfl hl (by decide) rfl (fun ls hl => ?_)
  refine lv_aload_n hx hb d_Wo_losesFlag_5 rfl (lv_at hl 1 rfl) ?_
  refine lv_iconst (v := 0) hx hb d_Wo_losesFlag_6 (by decide) ?_
  obtain ⟨fs, h1, h2, h⟩ := h
  obtain ⟨ws, q0, hq, hP, hD, hback, -⟩ := hw_open hW h1
  refine va_put (D := D) (ci := 2) (v := .int 0) (ty := .boolean) (C := "ChannelHall$Worker") (T := TWo) (N := 11) hx hb hts uWo tWo tWo_ok nWo hown hK hP hD hS q0 hq rfl 1 (by decide) (hts _ bw_53) (fun _ h9 => h9) rfl (by decide +kernel) (by decide) (by decide) h2 d_Wo_losesFlag_7 (fun H locs hP hD hS => ?_)
  have hW := hback _ _ hP hD
  generalize (va_up M a0 (some (.inr (2, fs.set 1 (.int 0))))) = M4 at h hW
  refine lv_iload_n hx hb d_Wo_losesFlag_10 rfl (lv_at hl 0 rfl) ?_
  obtain ⟨hz, h⟩ := h
  exact W.zret hx hb hr (nb_n hz) (fun t ht hWm => ⟨⟨_, _, rfl, h, hw_t ht hW⟩, hS.F ht⟩) hS.2.2 d_Wo_losesFlag_11
set_option maxRecDepth 20000 in
theorem c_Wo_losesFlag {l : Launch} {D : va_G} {ca G : Nat → Nat} (post : Int32 → hM → Prop) {M : hM} {sz : Nat} {a0 : Nat} (h : wp_Wo_losesFlag G ca post M a0) : Met l y_Wo_losesFlag (wz y_Wo_losesFlag prog_5_method_2_code 2 (some .boolean)) rm_Wo_losesFlag (va_Pc [.ref a0] (hI D ca G sz M)) (va_Qi post (hB D M sz) (hp_A M sz)) 0 0 (hp_A M sz) := by
  refine Met.ofW (cc := prog_5_method_2_code) (maxL := 2) (ret := some .boolean) (by decide) rfl ?_
  intro p e s m args below meth c s₁ B hml hv
  obtain ⟨rfl, hsz, hW, hK, hZ0⟩ := hv
  have hts := fun w hw => atoms_spec (ws := wz y_Wo_losesFlag prog_5_method_2_code 2 (some .boolean)) B.pre w (List.mem_cons_of_mem _ hw)
  have hown : s.vm.findClass "ChannelHall$Worker" = some m.cls := findClass_of_methodNamed B.named
  subst hsz
  have hl := lv_entry [.ref a0] (n := 2) (Nat.le_of_ble_eq_true rfl)
  rw [lg_entry_eq]
  exact l_Wo_losesFlag_e ⟨B.exec, B.bytes, B.returns, hml, hown, hts, B.notSynchronized, hK, fun q h => Or.inr h, hZ0⟩ a0 h hW va_S.rf hl

theorem d_Wo_endWith_0 : decode prog_5_method_3_code 0 = .ok (.aload_n 0, 1) := by decide +kernel
theorem d_Wo_endWith_1 : decode prog_5_method_3_code 1 = .ok (.iload_n 1, 1) := by decide +kernel
theorem d_Wo_endWith_2 : decode prog_5_method_3_code 2 = .ok (.putfield 15, 3) := by decide +kernel
theorem d_Wo_endWith_5 : decode prog_5_method_3_code 5 = .ok (.iload_n 1, 1) := by decide +kernel
theorem d_Wo_endWith_6 : decode prog_5_method_3_code 6 = .ok (.ireturn, 1) := by decide +kernel
def y_Wo_endWith : MethodName := ⟨"ChannelHall$Worker", "endWith", "(I)I"⟩
abbrev rm_Wo_endWith : Room := { frames := 0, cells := 0, slots := 0, locals := 0 }
def wp_Wo_endWith (G ca : Nat → Nat) (post : Int32 → hM → Prop) (M : hM) (a0 : Nat) (x1 : Int32) : Prop := pF M a0 2 2 (.int x1) fun M2 => post x1 M2
set_option maxHeartbeats 1000000 in
set_option maxRecDepth 20000 in
theorem l_Wo_endWith_e {p : Program} {l : Launch} {e : Env} {s : State} {m : MethodId} {args : Array Value} {below : List Frame} {meth : Method} {c : Code} {D : va_G} {ca G : Nat → Nat} {A : Nat → Prop} (C0 : hC p s m args meth c D ca G prog_5_method_3_code 2 (some .int) "ChannelHall$Worker" A) {post : Int32 → hM → Prop} {M : hM} {H : Heap} {locs : List Loc} {ls : Array Slot} (a0 : Nat) (x1 : Int32) (h : wp_Wo_endWith G ca post M a0 x1) (hW : hw D wCl A M H) (hS : va_S A s.heap H locs) (hl : lv_has ls 2 [(0, .ref a0), (1, .int x1)]) : W p l e rm_Wo_endWith s m args below meth c H locs 0 0 (MQ below (va_Qi post (fun M' t => hw D wCl A M' t.heap) A) args s 0 0 A) (F0 m 0 ls []) := by
  obtain ⟨hx, hb, hr, hml, hown, hts, hlocks, hK, hA, hZ0⟩ := id C0
  refine lv_aload_n hx hb d_Wo_endWith_0 rfl (lv_at hl 0 rfl) ?_
  refine lv_iload_n hx hb d_Wo_endWith_1 rfl (lv_at hl 1 rfl) ?_
  obtain ⟨fs, h1, h2, h⟩ := h
  obtain ⟨ws, q0, hq, hP, hD, hback, -⟩ := hw_open hW h1
  refine va_put (D := D) (ci := 2) (v := .int x1) (ty := .int) (C := "ChannelHall$Worker") (T := TWo) (N := 11) hx hb hts uWo tWo tWo_ok nWo hown hK hP hD hS q0 hq rfl 2 (by decide) (hts _ bw_55) (fun _ h9 => h9) rfl (by decide +kernel) rfl rfl h2 d_Wo_endWith_2 (fun H locs hP hD hS => ?_)
  have hW := hback _ _ hP hD
  generalize (va_up M a0 (some (.inr (2, fs.set 2 (.int x1))))) = M2 at h hW
  refine lv_iload_n hx hb d_Wo_endWith_5 rfl (lv_at hl 1 rfl) ?_
  exact W.iret hx hb hr (fun t ht hWm => ⟨⟨_, _, rfl, h, hw_t ht hW⟩, hS.F ht⟩) hS.2.2 d_Wo_endWith_6
set_option maxRecDepth 20000 in
theorem c_Wo_endWith {l : Launch} {D : va_G} {ca G : Nat → Nat} (post : Int32 → hM → Prop) {M : hM} {sz : Nat} {a0 : Nat} {x1 : Int32} (h : wp_Wo_endWith G ca post M a0 x1) : Met l y_Wo_endWith (wz y_Wo_endWith prog_5_method_3_code 2 (some .int)) rm_Wo_endWith (va_Pc [.ref a0, .int x1] (hI D ca G sz M)) (va_Qi post (hB D M sz) (hp_A M sz)) 0 0 (hp_A M sz) := by
  refine Met.ofW (cc := prog_5_method_3_code) (maxL := 2) (ret := some .int) (by decide) rfl ?_
  intro p e s m args below meth c s₁ B hml hv
  obtain ⟨rfl, hsz, hW, hK, hZ0⟩ := hv
  have hts := fun w hw => atoms_spec (ws := wz y_Wo_endWith prog_5_method_3_code 2 (some .int)) B.pre w (List.mem_cons_of_mem _ hw)
  have hown : s.vm.findClass "ChannelHall$Worker" = some m.cls := findClass_of_methodNamed B.named
  subst hsz
  have hl := lv_entry [.ref a0, .int x1] (n := 2) (Nat.le_of_ble_eq_true rfl)
  rw [lg_entry_eq]
  exact l_Wo_endWith_e ⟨B.exec, B.bytes, B.returns, hml, hown, hts, B.notSynchronized, hK, fun q h => Or.inr h, hZ0⟩ a0 x1 h hW va_S.rf hl

theorem d_Wo_receive_0 : decode prog_5_method_4_code 0 = .ok (.aload_n 0, 1) := by decide +kernel
theorem d_Wo_receive_1 : decode prog_5_method_4_code 1 = .ok (.iconst 1, 1) := by decide +kernel
theorem d_Wo_receive_2 : decode prog_5_method_4_code 2 = .ok (.putfield 19, 3) := by decide +kernel
theorem d_Wo_receive_5 : decode prog_5_method_4_code 5 = .ok (.aload_n 0, 1) := by decide +kernel
theorem d_Wo_receive_6 : decode prog_5_method_4_code 6 = .ok (.iload_n 1, 1) := by decide +kernel
theorem d_Wo_receive_7 : decode prog_5_method_4_code 7 = .ok (.putfield 22, 3) := by decide +kernel
theorem d_Wo_receive_10 : decode prog_5_method_4_code 10 = .ok (.return_, 1) := by decide +kernel
def y_Wo_receive : MethodName := ⟨"ChannelHall$Worker", "receive", "(I)V"⟩
abbrev rm_Wo_receive : Room := { frames := 0, cells := 0, slots := 0, locals := 0 }
def wp_Wo_receive (G ca : Nat → Nat) (post : hM → Prop) (M : hM) (a0 : Nat) (x1 : Int32) : Prop := pF M a0 2 3 (.int 1) fun M3 => pF M3 a0 2 4 (.int x1) fun M4 => post M4
set_option maxHeartbeats 1000000 in
set_option maxRecDepth 20000 in
theorem l_Wo_receive_e {p : Program} {l : Launch} {e : Env} {s : State} {m : MethodId} {args : Array Value} {below : List Frame} {meth : Method} {c : Code} {D : va_G} {ca G : Nat → Nat} {A : Nat → Prop} (C0 : hC p s m args meth c D ca G prog_5_method_4_code 2 (none) "ChannelHall$Worker" A) {post : hM → Prop} {M : hM} {H : Heap} {locs : List Loc} {ls : Array Slot} (a0 : Nat) (x1 : Int32) (h : wp_Wo_receive G ca post M a0 x1) (hW : hw D wCl A M H) (hS : va_S A s.heap H locs) (hl : lv_has ls 2 [(0, .ref a0), (1, .int x1)]) : W p l e rm_Wo_receive s m args below meth c H locs 0 0 (MQ below (va_Qv post (fun M' t => hw D wCl A M' t.heap) A) args s 0 0 A) (F0 m 0 ls []) := by
  obtain ⟨hx, hb, hr, hml, hown, hts, hlocks, hK, hA, hZ0⟩ := id C0
  refine lv_aload_n hx hb d_Wo_receive_0 rfl (lv_at hl 0 rfl) ?_
  refine lv_iconst (v := 1) hx hb d_Wo_receive_1 (by decide) ?_
  obtain ⟨fs, h1, h2, h⟩ := h
  obtain ⟨ws, q0, hq, hP, hD, hback, -⟩ := hw_open hW h1
  refine va_put (D := D) (ci := 2) (v := .int 1) (ty := .boolean) (C := "ChannelHall$Worker") (T := TWo) (N := 11) hx hb hts uWo tWo tWo_ok nWo hown hK hP hD hS q0 hq rfl 3 (by decide) (hts _ bw_58) (fun _ h9 => h9) rfl (by decide +kernel) (by decide) (by decide) h2 d_Wo_receive_2 (fun H locs hP hD hS => ?_)
  have hW := hback _ _ hP hD
  generalize (va_up M a0 (some (.inr (2, fs.set 3 (.int 1))))) = M3 at h hW
  refine lv_aload_n hx hb d_Wo_receive_5 rfl (lv_at hl 0 rfl) ?_
  refine lv_iload_n hx hb d_Wo_receive_6 rfl (lv_at hl 1 rfl) ?_
  obtain ⟨fs, h1, h2, h⟩ := h
  obtain ⟨ws, q0, hq, hP, hD, hback, -⟩ := hw_open hW h1
  refine va_put (D := D) (ci := 2) (v := .int x1) (ty := .int) (C := "ChannelHall$Worker") (T := TWo) (N := 11) hx hb hts uWo tWo tWo_ok nWo hown hK hP hD hS q0 hq rfl 4 (by decide) (hts _ bw_60) (fun _ h9 => h9) rfl (by decide +kernel) rfl rfl h2 d_Wo_receive_7 (fun H locs hP hD hS => ?_)
  have hW := hback _ _ hP hD
  generalize (va_up M3 a0 (some (.inr (2, fs.set 4 (.int x1))))) = M4 at h hW
  exact W.vret hx hb hr (fun t ht hWm => ⟨⟨_, rfl, h, hw_t ht hW⟩, hS.F ht⟩) hS.2.2 d_Wo_receive_10
set_option maxRecDepth 20000 in
theorem c_Wo_receive {l : Launch} {D : va_G} {ca G : Nat → Nat} (post : hM → Prop) {M : hM} {sz : Nat} {a0 : Nat} {x1 : Int32} (h : wp_Wo_receive G ca post M a0 x1) : Met l y_Wo_receive (wz y_Wo_receive prog_5_method_4_code 2 (none)) rm_Wo_receive (va_Pc [.ref a0, .int x1] (hI D ca G sz M)) (va_Qv post (hB D M sz) (hp_A M sz)) 0 0 (hp_A M sz) := by
  refine Met.ofW (cc := prog_5_method_4_code) (maxL := 2) (ret := none) (by decide) rfl ?_
  intro p e s m args below meth c s₁ B hml hv
  obtain ⟨rfl, hsz, hW, hK, hZ0⟩ := hv
  have hts := fun w hw => atoms_spec (ws := wz y_Wo_receive prog_5_method_4_code 2 (none)) B.pre w (List.mem_cons_of_mem _ hw)
  have hown : s.vm.findClass "ChannelHall$Worker" = some m.cls := findClass_of_methodNamed B.named
  subst hsz
  have hl := lv_entry [.ref a0, .int x1] (n := 2) (Nat.le_of_ble_eq_true rfl)
  rw [lg_entry_eq]
  exact l_Wo_receive_e ⟨B.exec, B.bytes, B.returns, hml, hown, hts, B.notSynchronized, hK, fun q h => Or.inr h, hZ0⟩ a0 x1 h hW va_S.rf hl

theorem d_Wo_offer_0 : decode prog_5_method_5_code 0 = .ok (.aload_n 0, 1) := by decide +kernel
theorem d_Wo_offer_1 : decode prog_5_method_5_code 1 = .ok (.iload_n 1, 1) := by decide +kernel
theorem d_Wo_offer_2 : decode prog_5_method_5_code 2 = .ok (.putfield 38, 3) := by decide +kernel
theorem d_Wo_offer_5 : decode prog_5_method_5_code 5 = .ok (.aload_n 0, 1) := by decide +kernel
theorem d_Wo_offer_6 : decode prog_5_method_5_code 6 = .ok (.dload_n 2, 1) := by decide +kernel
theorem d_Wo_offer_7 : decode prog_5_method_5_code 7 = .ok (.putfield 41, 3) := by decide +kernel
theorem d_Wo_offer_10 : decode prog_5_method_5_code 10 = .ok (.return_, 1) := by decide +kernel
def y_Wo_offer : MethodName := ⟨"ChannelHall$Worker", "offer", "(ID)V"⟩
abbrev rm_Wo_offer : Room := { frames := 0, cells := 0, slots := 0, locals := 0 }
def wp_Wo_offer (G ca : Nat → Nat) (post : hM → Prop) (M : hM) (a0 : Nat) (x1 : Int32) (x2 : UInt64) : Prop := pF M a0 2 7 (.int x1) fun M3 => pF M3 a0 2 8 (.double x2) fun M4 => post M4
set_option maxHeartbeats 1000000 in
set_option maxRecDepth 20000 in
theorem l_Wo_offer_e {p : Program} {l : Launch} {e : Env} {s : State} {m : MethodId} {args : Array Value} {below : List Frame} {meth : Method} {c : Code} {D : va_G} {ca G : Nat → Nat} {A : Nat → Prop} (C0 : hC p s m args meth c D ca G prog_5_method_5_code 4 (none) "ChannelHall$Worker" A) {post : hM → Prop} {M : hM} {H : Heap} {locs : List Loc} {ls : Array Slot} (a0 : Nat) (x1 : Int32) (x2 : UInt64) (h : wp_Wo_offer G ca post M a0 x1 x2) (hW : hw D wCl A M H) (hS : va_S A s.heap H locs) (hl : lv_has ls 4 [(0, .ref a0), (1, .int x1), (2, .double x2)]) : W p l e rm_Wo_offer s m args below meth c H locs 0 0 (MQ below (va_Qv post (fun M' t => hw D wCl A M' t.heap) A) args s 0 0 A) (F0 m 0 ls []) := by
  obtain ⟨hx, hb, hr, hml, hown, hts, hlocks, hK, hA, hZ0⟩ := id C0
  refine lv_aload_n hx hb d_Wo_offer_0 rfl (lv_at hl 0 rfl) ?_
  refine lv_iload_n hx hb d_Wo_offer_1 rfl (lv_at hl 1 rfl) ?_
  obtain ⟨fs, h1, h2, h⟩ := h
  obtain ⟨ws, q0, hq, hP, hD, hback, -⟩ := hw_open hW h1
  refine va_put (D := D) (ci := 2) (v := .int x1) (ty := .int) (C := "ChannelHall$Worker") (T := TWo) (N := 11) hx hb hts uWo tWo tWo_ok nWo hown hK hP hD hS q0 hq rfl 7 (by decide) (hts _ bw_68) (fun _ h9 => h9) rfl (by decide +kernel) rfl rfl h2 d_Wo_offer_2 (fun H locs hP hD hS => ?_)
  have hW := hback _ _ hP hD
  generalize (va_up M a0 (some (.inr (2, fs.set 7 (.int x1))))) = M3 at h hW
  refine lv_aload_n hx hb d_Wo_offer_5 rfl (lv_at hl 0 rfl) ?_
  refine lv_dload_n hx hb d_Wo_offer_6 rfl (lv_at hl 2 rfl) ?_
  obtain ⟨fs, h1, h2, h⟩ := h
  obtain ⟨ws, q0, hq, hP, hD, hback, -⟩ := hw_open hW h1
  refine va_put (D := D) (ci := 2) (v := .double x2) (ty := .double) (C := "ChannelHall$Worker") (T := TWo) (N := 11) hx hb hts uWo tWo tWo_ok nWo hown hK hP hD hS q0 hq rfl 8 (by decide) (hts _ bw_71) (fun _ h9 => h9) rfl (by decide +kernel) rfl rfl h2 d_Wo_offer_7 (fun H locs hP hD hS => ?_)
  have hW := hback _ _ hP hD
  generalize (va_up M3 a0 (some (.inr (2, fs.set 8 (.double x2))))) = M4 at h hW
  exact W.vret hx hb hr (fun t ht hWm => ⟨⟨_, rfl, h, hw_t ht hW⟩, hS.F ht⟩) hS.2.2 d_Wo_offer_10
set_option maxRecDepth 20000 in
theorem c_Wo_offer {l : Launch} {D : va_G} {ca G : Nat → Nat} (post : hM → Prop) {M : hM} {sz : Nat} {a0 : Nat} {x1 : Int32} {x2 : UInt64} (h : wp_Wo_offer G ca post M a0 x1 x2) : Met l y_Wo_offer (wz y_Wo_offer prog_5_method_5_code 4 (none)) rm_Wo_offer (va_Pc [.ref a0, .int x1, .double x2] (hI D ca G sz M)) (va_Qv post (hB D M sz) (hp_A M sz)) 0 0 (hp_A M sz) := by
  refine Met.ofW (cc := prog_5_method_5_code) (maxL := 4) (ret := none) (by decide) rfl ?_
  intro p e s m args below meth c s₁ B hml hv
  obtain ⟨rfl, hsz, hW, hK, hZ0⟩ := hv
  have hts := fun w hw => atoms_spec (ws := wz y_Wo_offer prog_5_method_5_code 4 (none)) B.pre w (List.mem_cons_of_mem _ hw)
  have hown : s.vm.findClass "ChannelHall$Worker" = some m.cls := findClass_of_methodNamed B.named
  subst hsz
  have hl := lv_entry [.ref a0, .int x1, .double x2] (n := 4) (Nat.le_of_ble_eq_true rfl)
  rw [lg_entry_eq]
  exact l_Wo_offer_e ⟨B.exec, B.bytes, B.returns, hml, hown, hts, B.notSynchronized, hK, fun q h => Or.inr h, hZ0⟩ a0 x1 x2 h hW va_S.rf hl

theorem d_Ha_isThread_0 : decode prog_1_method_18_code 0 = .ok (.iload_n 0, 1) := by decide +kernel
theorem d_Ha_isThread_1 : decode prog_1_method_18_code 1 = .ok (.ifCond .lt 13, 3) := by decide +kernel
theorem d_Ha_isThread_4 : decode prog_1_method_18_code 4 = .ok (.iload_n 0, 1) := by decide +kernel
theorem d_Ha_isThread_5 : decode prog_1_method_18_code 5 = .ok (.bipush 6, 2) := by decide +kernel
theorem d_Ha_isThread_7 : decode prog_1_method_18_code 7 = .ok (.if_icmp .ge 7, 3) := by decide +kernel
theorem d_Ha_isThread_10 : decode prog_1_method_18_code 10 = .ok (.iconst 1, 1) := by decide +kernel
theorem d_Ha_isThread_11 : decode prog_1_method_18_code 11 = .ok (.goto 4, 3) := by decide +kernel
theorem d_Ha_isThread_14 : decode prog_1_method_18_code 14 = .ok (.iconst 0, 1) := by decide +kernel
theorem d_Ha_isThread_15 : decode prog_1_method_18_code 15 = .ok (.ireturn, 1) := by decide +kernel
def y_Ha_isThread : MethodName := ⟨"ChannelHall", "isThread", "(I)Z"⟩
abbrev rm_Ha_isThread : Room := { frames := 0, cells := 0, slots := 0, locals := 0 }
def wp_Ha_isThread_15 (G ca : Nat → Nat) (post : Int32 → hM → Prop) (M : hM) (s0 : Int32) : Prop := bZ s0 (post s0 M)
def wp_Ha_isThread_14 (G ca : Nat → Nat) (post : Int32 → hM → Prop) (M : hM)  : Prop := wp_Ha_isThread_15 G ca post M 0
def wp_Ha_isThread (G ca : Nat → Nat) (post : Int32 → hM → Prop) (M : hM) (x0 : Int32) : Prop := (x0 < 0 → wp_Ha_isThread_14 G ca post M) ∧ (¬ x0 < 0 → (6 ≤ x0 → wp_Ha_isThread_14 G ca post M) ∧ (¬ 6 ≤ x0 → wp_Ha_isThread_15 G ca post M 1))
set_option maxHeartbeats 1000000 in
set_option maxRecDepth 20000 in
theorem l_Ha_isThread_15 {p : Program} {l : Launch} {e : Env} {s : State} {m : MethodId} {args : Array Value} {below : List Frame} {meth : Method} {c : Code} {D : va_G} {ca G : Nat → Nat} {A : Nat → Prop} (C0 : hC p s m args meth c D ca G prog_1_method_18_code 1 (some .boolean) "ChannelHall" A) {post : Int32 → hM → Prop} {M : hM} {H : Heap} {locs : List Loc} {ls : Array Slot} (s0 : Int32) (h : wp_Ha_isThread_15 G ca post M s0) (hW : hw D wCl A M H) (hS : va_S A s.heap H locs) (hl : lv_has ls 1 []) : W p l e rm_Ha_isThread s m args below meth c H locs 0 0 (MQ below (va_Qi post (fun M' t => hw D wCl A M' t.heap) A) args s 0 0 A) (F0 m 15 ls [.int s0]) := by
  obtain ⟨hx, hb, hr, hml, hown, hts, hlocks, hK, hA, hZ0⟩ := id C0
  obtain ⟨hz, h⟩ := h
  exact W.zret hx hb hr (nb_n hz) (fun t ht hWm => ⟨⟨_, _, rfl, h, hw_t ht hW⟩, hS.F ht⟩) hS.2.2 d_Ha_isThread_15
set_option maxHeartbeats 1000000 in
set_option maxRecDepth 20000 in
theorem l_Ha_isThread_14 {p : Program} {l : Launch} {e : Env} {s : State} {m : MethodId} {args : Array Value} {below : List Frame} {meth : Method} {c : Code} {D : va_G} {ca G : Nat → Nat} {A : Nat → Prop} (C0 : hC p s m args meth c D ca G prog_1_method_18_code 1 (some .boolean) "ChannelHall" A) {post : Int32 → hM → Prop} {M : hM} {H : Heap} {locs : List Loc} {ls : Array Slot}  (h : wp_Ha_isThread_14 G ca post M) (hW : hw D wCl A M H) (hS : va_S A s.heap H locs) (hl : lv_has ls 1 []) : W p l e rm_Ha_isThread s m args below meth c H locs 0 0 (MQ below (va_Qi post (fun M' t => hw D wCl A M' t.heap) A) args s 0 0 A) (F0 m 14 ls []) := by
  obtain ⟨hx, hb, hr, hml, hown, hts, hlocks, hK, hA, hZ0⟩ := id C0
  refine lv_iconst (v := 0) hx hb d_Ha_isThread_14 (by decide) ?_
  exact l_Ha_isThread_15 C0 0 h hW hS (lv_sub hl [] rfl)
set_option maxHeartbeats 1000000 in
set_option maxRecDepth 20000 in
theorem l_Ha_isThread_e {p : Program} {l : Launch} {e : Env} {s : State} {m : MethodId} {args : Array Value} {below : List Frame} {meth : Method} {c : Code} {D : va_G} {ca G : Nat → Nat} {A : Nat → Prop} (C0 : hC p s m args meth c D ca G prog_1_method_18_code 1 (some .boolean) "ChannelHall" A) {post : Int32 → hM → Prop} {M : hM} {H : Heap} {locs : List Loc} {ls : Array Slot} (x0 : Int32) (h : wp_Ha_isThread G ca post M x0) (hW : hw D wCl A M H) (hS : va_S A s.heap H locs) (hl : lv_has ls 1 [(0, .int x0)]) : W p l e rm_Ha_isThread s m args below meth c H locs 0 0 (MQ below (va_Qi post (fun M' t => hw D wCl A M' t.heap) A) args s 0 0 A) (F0 m 0 ls []) := by
  obtain ⟨hx, hb, hr, hml, hown, hts, hlocks, hK, hA, hZ0⟩ := id C0
  refine lv_iload_n hx hb d_Ha_isThread_0 rfl (lv_at hl 0 rfl) ?_
  obtain ⟨h0, h1⟩ := h
  refine lv_if_lt (tgt := 14) hx hb d_Ha_isThread_1 (by decide) (fun c3 => ?_) (fun c3 => ?_)
  · have h := h0 c3
    exact l_Ha_isThread_14 C0  h hW hS (lv_sub hl [] rfl)
  · have h := h1 c3
    refine lv_iload_n hx hb d_Ha_isThread_4 rfl (lv_at hl 0 rfl) ?_
    refine lv_bipush (v := 6) hx hb d_Ha_isThread_5 (by decide) ?_
    obtain ⟨h0, h1⟩ := h
    refine lv_icmp_ge (tgt := 14) hx hb d_Ha_isThread_7 (by decide) (fun c4 => ?_) (fun c4 => ?_)
    · have h := h0 c4
      exact l_Ha_isThread_14 C0  h hW hS (lv_sub hl [] rfl)
    · have h := h1 c4
      refine lv_iconst (v := 1) hx hb d_Ha_isThread_10 (by decide) ?_
      refine lv_goto (tgt := 15) hx hb d_Ha_isThread_11 (by decide) ?_
      exact l_Ha_isThread_15 C0 1 h hW hS (lv_sub hl [] rfl)
set_option maxRecDepth 20000 in
theorem c_Ha_isThread {l : Launch} {D : va_G} {ca G : Nat → Nat} (post : Int32 → hM → Prop) {M : hM} {sz : Nat} {x0 : Int32} (h : wp_Ha_isThread G ca post M x0) : Met l y_Ha_isThread (wz y_Ha_isThread prog_1_method_18_code 1 (some .boolean)) rm_Ha_isThread (va_Pc [.int x0] (hI D ca G sz M)) (va_Qi post (hB D M sz) (hp_A M sz)) 0 0 (hp_A M sz) := by
  refine Met.ofW (cc := prog_1_method_18_code) (maxL := 1) (ret := some .boolean) (by decide) rfl ?_
  intro p e s m args below meth c s₁ B hml hv
  obtain ⟨rfl, hsz, hW, hK, hZ0⟩ := hv
  have hts := fun w hw => atoms_spec (ws := wz y_Ha_isThread prog_1_method_18_code 1 (some .boolean)) B.pre w (List.mem_cons_of_mem _ hw)
  have hown : s.vm.findClass "ChannelHall" = some m.cls := findClass_of_methodNamed B.named
  subst hsz
  have hl := lv_entry [.int x0] (n := 1) (Nat.le_of_ble_eq_true rfl)
  rw [lg_entry_eq]
  exact l_Ha_isThread_e ⟨B.exec, B.bytes, B.returns, hml, hown, hts, B.notSynchronized, hK, fun q h => Or.inr h, hZ0⟩ x0 h hW va_S.rf hl

theorem d_Ha_isChannel_0 : decode prog_1_method_19_code 0 = .ok (.iload_n 0, 1) := by decide +kernel
theorem d_Ha_isChannel_1 : decode prog_1_method_19_code 1 = .ok (.ifCond .lt 13, 3) := by decide +kernel
theorem d_Ha_isChannel_4 : decode prog_1_method_19_code 4 = .ok (.iload_n 0, 1) := by decide +kernel
theorem d_Ha_isChannel_5 : decode prog_1_method_19_code 5 = .ok (.bipush 8, 2) := by decide +kernel
theorem d_Ha_isChannel_7 : decode prog_1_method_19_code 7 = .ok (.if_icmp .ge 7, 3) := by decide +kernel
theorem d_Ha_isChannel_10 : decode prog_1_method_19_code 10 = .ok (.iconst 1, 1) := by decide +kernel
theorem d_Ha_isChannel_11 : decode prog_1_method_19_code 11 = .ok (.goto 4, 3) := by decide +kernel
theorem d_Ha_isChannel_14 : decode prog_1_method_19_code 14 = .ok (.iconst 0, 1) := by decide +kernel
theorem d_Ha_isChannel_15 : decode prog_1_method_19_code 15 = .ok (.ireturn, 1) := by decide +kernel
def y_Ha_isChannel : MethodName := ⟨"ChannelHall", "isChannel", "(I)Z"⟩
abbrev rm_Ha_isChannel : Room := { frames := 0, cells := 0, slots := 0, locals := 0 }
def wp_Ha_isChannel_15 (G ca : Nat → Nat) (post : Int32 → hM → Prop) (M : hM) (s0 : Int32) : Prop := bZ s0 (post s0 M)
def wp_Ha_isChannel_14 (G ca : Nat → Nat) (post : Int32 → hM → Prop) (M : hM)  : Prop := wp_Ha_isChannel_15 G ca post M 0
def wp_Ha_isChannel (G ca : Nat → Nat) (post : Int32 → hM → Prop) (M : hM) (x0 : Int32) : Prop := (x0 < 0 → wp_Ha_isChannel_14 G ca post M) ∧ (¬ x0 < 0 → (8 ≤ x0 → wp_Ha_isChannel_14 G ca post M) ∧ (¬ 8 ≤ x0 → wp_Ha_isChannel_15 G ca post M 1))
set_option maxHeartbeats 1000000 in
set_option maxRecDepth 20000 in
theorem l_Ha_isChannel_15 {p : Program} {l : Launch} {e : Env} {s : State} {m : MethodId} {args : Array Value} {below : List Frame} {meth : Method} {c : Code} {D : va_G} {ca G : Nat → Nat} {A : Nat → Prop} (C0 : hC p s m args meth c D ca G prog_1_method_19_code 1 (some .boolean) "ChannelHall" A) {post : Int32 → hM → Prop} {M : hM} {H : Heap} {locs : List Loc} {ls : Array Slot} (s0 : Int32) (h : wp_Ha_isChannel_15 G ca post M s0) (hW : hw D wCl A M H) (hS : va_S A s.heap H locs) (hl : lv_has ls 1 []) : W p l e rm_Ha_isChannel s m args below meth c H locs 0 0 (MQ below (va_Qi post (fun M' t => hw D wCl A M' t.heap) A) args s 0 0 A) (F0 m 15 ls [.int s0]) := by
  obtain ⟨hx, hb, hr, hml, hown, hts, hlocks, hK, hA, hZ0⟩ := id C0
  obtain ⟨hz, h⟩ := h
  exact W.zret hx hb hr (nb_n hz) (fun t ht hWm => ⟨⟨_, _, rfl, h, hw_t ht hW⟩, hS.F ht⟩) hS.2.2 d_Ha_isChannel_15
set_option maxHeartbeats 1000000 in
set_option maxRecDepth 20000 in
theorem l_Ha_isChannel_14 {p : Program} {l : Launch} {e : Env} {s : State} {m : MethodId} {args : Array Value} {below : List Frame} {meth : Method} {c : Code} {D : va_G} {ca G : Nat → Nat} {A : Nat → Prop} (C0 : hC p s m args meth c D ca G prog_1_method_19_code 1 (some .boolean) "ChannelHall" A) {post : Int32 → hM → Prop} {M : hM} {H : Heap} {locs : List Loc} {ls : Array Slot}  (h : wp_Ha_isChannel_14 G ca post M) (hW : hw D wCl A M H) (hS : va_S A s.heap H locs) (hl : lv_has ls 1 []) : W p l e rm_Ha_isChannel s m args below meth c H locs 0 0 (MQ below (va_Qi post (fun M' t => hw D wCl A M' t.heap) A) args s 0 0 A) (F0 m 14 ls []) := by
  obtain ⟨hx, hb, hr, hml, hown, hts, hlocks, hK, hA, hZ0⟩ := id C0
  refine lv_iconst (v := 0) hx hb d_Ha_isChannel_14 (by decide) ?_
  exact l_Ha_isChannel_15 C0 0 h hW hS (lv_sub hl [] rfl)
set_option maxHeartbeats 1000000 in
set_option maxRecDepth 20000 in
theorem l_Ha_isChannel_e {p : Program} {l : Launch} {e : Env} {s : State} {m : MethodId} {args : Array Value} {below : List Frame} {meth : Method} {c : Code} {D : va_G} {ca G : Nat → Nat} {A : Nat → Prop} (C0 : hC p s m args meth c D ca G prog_1_method_19_code 1 (some .boolean) "ChannelHall" A) {post : Int32 → hM → Prop} {M : hM} {H : Heap} {locs : List Loc} {ls : Array Slot} (x0 : Int32) (h : wp_Ha_isChannel G ca post M x0) (hW : hw D wCl A M H) (hS : va_S A s.heap H locs) (hl : lv_has ls 1 [(0, .int x0)]) : W p l e rm_Ha_isChannel s m args below meth c H locs 0 0 (MQ below (va_Qi post (fun M' t => hw D wCl A M' t.heap) A) args s 0 0 A) (F0 m 0 ls []) := by
  obtain ⟨hx, hb, hr, hml, hown, hts, hlocks, hK, hA, hZ0⟩ := id C0
  refine lv_iload_n hx hb d_Ha_isChannel_0 rfl (lv_at hl 0 rfl) ?_
  obtain ⟨h0, h1⟩ := h
  refine lv_if_lt (tgt := 14) hx hb d_Ha_isChannel_1 (by decide) (fun c3 => ?_) (fun c3 => ?_)
  · have h := h0 c3
    exact l_Ha_isChannel_14 C0  h hW hS (lv_sub hl [] rfl)
  · have h := h1 c3
    refine lv_iload_n hx hb d_Ha_isChannel_4 rfl (lv_at hl 0 rfl) ?_
    refine lv_bipush (v := 8) hx hb d_Ha_isChannel_5 (by decide) ?_
    obtain ⟨h0, h1⟩ := h
    refine lv_icmp_ge (tgt := 14) hx hb d_Ha_isChannel_7 (by decide) (fun c4 => ?_) (fun c4 => ?_)
    · have h := h0 c4
      exact l_Ha_isChannel_14 C0  h hW hS (lv_sub hl [] rfl)
    · have h := h1 c4
      refine lv_iconst (v := 1) hx hb d_Ha_isChannel_10 (by decide) ?_
      refine lv_goto (tgt := 15) hx hb d_Ha_isChannel_11 (by decide) ?_
      exact l_Ha_isChannel_15 C0 1 h hW hS (lv_sub hl [] rfl)
set_option maxRecDepth 20000 in
theorem c_Ha_isChannel {l : Launch} {D : va_G} {ca G : Nat → Nat} (post : Int32 → hM → Prop) {M : hM} {sz : Nat} {x0 : Int32} (h : wp_Ha_isChannel G ca post M x0) : Met l y_Ha_isChannel (wz y_Ha_isChannel prog_1_method_19_code 1 (some .boolean)) rm_Ha_isChannel (va_Pc [.int x0] (hI D ca G sz M)) (va_Qi post (hB D M sz) (hp_A M sz)) 0 0 (hp_A M sz) := by
  refine Met.ofW (cc := prog_1_method_19_code) (maxL := 1) (ret := some .boolean) (by decide) rfl ?_
  intro p e s m args below meth c s₁ B hml hv
  obtain ⟨rfl, hsz, hW, hK, hZ0⟩ := hv
  have hts := fun w hw => atoms_spec (ws := wz y_Ha_isChannel prog_1_method_19_code 1 (some .boolean)) B.pre w (List.mem_cons_of_mem _ hw)
  have hown : s.vm.findClass "ChannelHall" = some m.cls := findClass_of_methodNamed B.named
  subst hsz
  have hl := lv_entry [.int x0] (n := 1) (Nat.le_of_ble_eq_true rfl)
  rw [lg_entry_eq]
  exact l_Ha_isChannel_e ⟨B.exec, B.bytes, B.returns, hml, hown, hts, B.notSynchronized, hK, fun q h => Or.inr h, hZ0⟩ x0 h hW va_S.rf hl

theorem d_Ha_isLimit_0 : decode prog_1_method_20_code 0 = .ok (.dload_n 0, 1) := by decide +kernel
theorem d_Ha_isLimit_1 : decode prog_1_method_20_code 1 = .ok (.ldc2_w 239, 3) := by decide +kernel
theorem d_Ha_isLimit_4 : decode prog_1_method_20_code 4 = .ok (.dcmp .l, 1) := by decide +kernel
theorem d_Ha_isLimit_5 : decode prog_1_method_20_code 5 = .ok (.ifCond .lt 15, 3) := by decide +kernel
theorem d_Ha_isLimit_8 : decode prog_1_method_20_code 8 = .ok (.dload_n 0, 1) := by decide +kernel
theorem d_Ha_isLimit_9 : decode prog_1_method_20_code 9 = .ok (.ldc2_w 55, 3) := by decide +kernel
theorem d_Ha_isLimit_12 : decode prog_1_method_20_code 12 = .ok (.dcmp .g, 1) := by decide +kernel
theorem d_Ha_isLimit_13 : decode prog_1_method_20_code 13 = .ok (.ifCond .gt 7, 3) := by decide +kernel
theorem d_Ha_isLimit_16 : decode prog_1_method_20_code 16 = .ok (.iconst 1, 1) := by decide +kernel
theorem d_Ha_isLimit_17 : decode prog_1_method_20_code 17 = .ok (.goto 4, 3) := by decide +kernel
theorem d_Ha_isLimit_20 : decode prog_1_method_20_code 20 = .ok (.iconst 0, 1) := by decide +kernel
theorem d_Ha_isLimit_21 : decode prog_1_method_20_code 21 = .ok (.ireturn, 1) := by decide +kernel
def y_Ha_isLimit : MethodName := ⟨"ChannelHall", "isLimit", "(D)Z"⟩
abbrev rm_Ha_isLimit : Room := { frames := 0, cells := 0, slots := 0, locals := 0 }
def wp_Ha_isLimit_21 (G ca : Nat → Nat) (post : Int32 → hM → Prop) (M : hM) (s0 : Int32) : Prop := bZ s0 (post s0 M)
def wp_Ha_isLimit_20 (G ca : Nat → Nat) (post : Int32 → hM → Prop) (M : hM)  : Prop := wp_Ha_isLimit_21 G ca post M 0
def wp_Ha_isLimit (G ca : Nat → Nat) (post : Int32 → hM → Prop) (M : hM) (x0 : UInt64) : Prop := ((Op.cmpValue (FP.dcmp x0 13830554455654793216) .l) < 0 → wp_Ha_isLimit_20 G ca post M) ∧ (¬ (Op.cmpValue (FP.dcmp x0 13830554455654793216) .l) < 0 → (0 < (Op.cmpValue (FP.dcmp x0 4652007308841189376) .g) → wp_Ha_isLimit_20 G ca post M) ∧ (¬ 0 < (Op.cmpValue (FP.dcmp x0 4652007308841189376) .g) → wp_Ha_isLimit_21 G ca post M 1))
set_option maxHeartbeats 1000000 in
set_option maxRecDepth 20000 in
theorem l_Ha_isLimit_21 {p : Program} {l : Launch} {e : Env} {s : State} {m : MethodId} {args : Array Value} {below : List Frame} {meth : Method} {c : Code} {D : va_G} {ca G : Nat → Nat} {A : Nat → Prop} (C0 : hC p s m args meth c D ca G prog_1_method_20_code 2 (some .boolean) "ChannelHall" A) {post : Int32 → hM → Prop} {M : hM} {H : Heap} {locs : List Loc} {ls : Array Slot} (s0 : Int32) (h : wp_Ha_isLimit_21 G ca post M s0) (hW : hw D wCl A M H) (hS : va_S A s.heap H locs) (hl : lv_has ls 2 []) : W p l e rm_Ha_isLimit s m args below meth c H locs 0 0 (MQ below (va_Qi post (fun M' t => hw D wCl A M' t.heap) A) args s 0 0 A) (F0 m 21 ls [.int s0]) := by
  obtain ⟨hx, hb, hr, hml, hown, hts, hlocks, hK, hA, hZ0⟩ := id C0
  obtain ⟨hz, h⟩ := h
  exact W.zret hx hb hr (nb_n hz) (fun t ht hWm => ⟨⟨_, _, rfl, h, hw_t ht hW⟩, hS.F ht⟩) hS.2.2 d_Ha_isLimit_21
set_option maxHeartbeats 1000000 in
set_option maxRecDepth 20000 in
theorem l_Ha_isLimit_20 {p : Program} {l : Launch} {e : Env} {s : State} {m : MethodId} {args : Array Value} {below : List Frame} {meth : Method} {c : Code} {D : va_G} {ca G : Nat → Nat} {A : Nat → Prop} (C0 : hC p s m args meth c D ca G prog_1_method_20_code 2 (some .boolean) "ChannelHall" A) {post : Int32 → hM → Prop} {M : hM} {H : Heap} {locs : List Loc} {ls : Array Slot}  (h : wp_Ha_isLimit_20 G ca post M) (hW : hw D wCl A M H) (hS : va_S A s.heap H locs) (hl : lv_has ls 2 []) : W p l e rm_Ha_isLimit s m args below meth c H locs 0 0 (MQ below (va_Qi post (fun M' t => hw D wCl A M' t.heap) A) args s 0 0 A) (F0 m 20 ls []) := by
  obtain ⟨hx, hb, hr, hml, hown, hts, hlocks, hK, hA, hZ0⟩ := id C0
  refine lv_iconst (v := 0) hx hb d_Ha_isLimit_20 (by decide) ?_
  exact l_Ha_isLimit_21 C0 0 h hW hS (lv_sub hl [] rfl)
set_option maxHeartbeats 1000000 in
set_option maxRecDepth 20000 in
theorem l_Ha_isLimit_e {p : Program} {l : Launch} {e : Env} {s : State} {m : MethodId} {args : Array Value} {below : List Frame} {meth : Method} {c : Code} {D : va_G} {ca G : Nat → Nat} {A : Nat → Prop} (C0 : hC p s m args meth c D ca G prog_1_method_20_code 2 (some .boolean) "ChannelHall" A) {post : Int32 → hM → Prop} {M : hM} {H : Heap} {locs : List Loc} {ls : Array Slot} (x0 : UInt64) (h : wp_Ha_isLimit G ca post M x0) (hW : hw D wCl A M H) (hS : va_S A s.heap H locs) (hl : lv_has ls 2 [(0, .double x0)]) : W p l e rm_Ha_isLimit s m args below meth c H locs 0 0 (MQ below (va_Qi post (fun M' t => hw D wCl A M' t.heap) A) args s 0 0 A) (F0 m 0 ls []) := by
  obtain ⟨hx, hb, hr, hml, hown, hts, hlocks, hK, hA, hZ0⟩ := id C0
  refine lv_dload_n hx hb d_Ha_isLimit_0 rfl (lv_at hl 0 rfl) ?_
  refine lv_ldc2d (v := 13830554455654793216) hx hb hown (hts _ bw_308) d_Ha_isLimit_1 ?_
  refine lv_dcmp hx hb d_Ha_isLimit_4 ?_
  obtain ⟨h0, h1⟩ := h
  refine lv_if_lt (tgt := 20) hx hb d_Ha_isLimit_5 (by decide) (fun c3 => ?_) (fun c3 => ?_)
  · have h := h0 c3
    exact l_Ha_isLimit_20 C0  h hW hS (lv_sub hl [] rfl)
  · have h := h1 c3
    refine lv_dload_n hx hb d_Ha_isLimit_8 rfl (lv_at hl 0 rfl) ?_
    refine lv_ldc2d (v := 4652007308841189376) hx hb hown (hts _ bw_304) d_Ha_isLimit_9 ?_
    refine lv_dcmp hx hb d_Ha_isLimit_12 ?_
    obtain ⟨h0, h1⟩ := h
    refine lv_if_gt (tgt := 20) hx hb d_Ha_isLimit_13 (by decide) (fun c4 => ?_) (fun c4 => ?_)
    · have h := h0 c4
      exact l_Ha_isLimit_20 C0  h hW hS (lv_sub hl [] rfl)
    · have h := h1 c4
      refine lv_iconst (v := 1) hx hb d_Ha_isLimit_16 (by decide) ?_
      refine lv_goto (tgt := 21) hx hb d_Ha_isLimit_17 (by decide) ?_
      exact l_Ha_isLimit_21 C0 1 h hW hS (lv_sub hl [] rfl)
set_option maxRecDepth 20000 in
theorem c_Ha_isLimit {l : Launch} {D : va_G} {ca G : Nat → Nat} (post : Int32 → hM → Prop) {M : hM} {sz : Nat} {x0 : UInt64} (h : wp_Ha_isLimit G ca post M x0) : Met l y_Ha_isLimit (wz y_Ha_isLimit prog_1_method_20_code 2 (some .boolean)) rm_Ha_isLimit (va_Pc [.double x0] (hI D ca G sz M)) (va_Qi post (hB D M sz) (hp_A M sz)) 0 0 (hp_A M sz) := by
  refine Met.ofW (cc := prog_1_method_20_code) (maxL := 2) (ret := some .boolean) (by decide) rfl ?_
  intro p e s m args below meth c s₁ B hml hv
  obtain ⟨rfl, hsz, hW, hK, hZ0⟩ := hv
  have hts := fun w hw => atoms_spec (ws := wz y_Ha_isLimit prog_1_method_20_code 2 (some .boolean)) B.pre w (List.mem_cons_of_mem _ hw)
  have hown : s.vm.findClass "ChannelHall" = some m.cls := findClass_of_methodNamed B.named
  subst hsz
  have hl := lv_entry [.double x0] (n := 2) (Nat.le_of_ble_eq_true rfl)
  rw [lg_entry_eq]
  exact l_Ha_isLimit_e ⟨B.exec, B.bytes, B.returns, hml, hown, hts, B.notSynchronized, hK, fun q h => Or.inr h, hZ0⟩ x0 h hW va_S.rf hl

theorem d_Ch_holdsItems_0 : decode prog_2_method_3_code 0 = .ok (.aload_n 0, 1) := by decide +kernel
theorem d_Ch_holdsItems_1 : decode prog_2_method_3_code 1 = .ok (.getfield 39, 3) := by decide +kernel
theorem d_Ch_holdsItems_4 : decode prog_2_method_3_code 4 = .ok (.iconst 4, 1) := by decide +kernel
theorem d_Ch_holdsItems_5 : decode prog_2_method_3_code 5 = .ok (.if_icmp .gt 7, 3) := by decide +kernel
theorem d_Ch_holdsItems_8 : decode prog_2_method_3_code 8 = .ok (.iconst 1, 1) := by decide +kernel
theorem d_Ch_holdsItems_9 : decode prog_2_method_3_code 9 = .ok (.goto 4, 3) := by decide +kernel
theorem d_Ch_holdsItems_12 : decode prog_2_method_3_code 12 = .ok (.iconst 0, 1) := by decide +kernel
theorem d_Ch_holdsItems_13 : decode prog_2_method_3_code 13 = .ok (.ireturn, 1) := by decide +kernel
def y_Ch_holdsItems : MethodName := ⟨"ChannelHall$Channel", "holdsItems", "()Z"⟩
abbrev rm_Ch_holdsItems : Room := { frames := 0, cells := 0, slots := 0, locals := 0 }
def wp_Ch_holdsItems_13 (G ca : Nat → Nat) (post : Int32 → hM → Prop) (M : hM) (s0 : Int32) : Prop := bZ s0 (post s0 M)
def wp_Ch_holdsItems (G ca : Nat → Nat) (post : Int32 → hM → Prop) (M : hM) (a0 : Nat) : Prop := gI M a0 0 1 fun v3 => (4 < v3 → wp_Ch_holdsItems_13 G ca post M 0) ∧ (¬ 4 < v3 → wp_Ch_holdsItems_13 G ca post M 1)
set_option maxHeartbeats 1000000 in
set_option maxRecDepth 20000 in
theorem l_Ch_holdsItems_13 {p : Program} {l : Launch} {e : Env} {s : State} {m : MethodId} {args : Array Value} {below : List Frame} {meth : Method} {c : Code} {D : va_G} {ca G : Nat → Nat} {A : Nat → Prop} (C0 : hC p s m args meth c D ca G prog_2_method_3_code 1 (some .boolean) "ChannelHall$Channel" A) {post : Int32 → hM → Prop} {M : hM} {H : Heap} {locs : List Loc} {ls : Array Slot} (s0 : Int32) (h : wp_Ch_holdsItems_13 G ca post M s0) (hW : hw D wCl A M H) (hS : va_S A s.heap H locs) (hl : lv_has ls 1 []) : W p l e rm_Ch_holdsItems s m args below meth c H locs 0 0 (MQ below (va_Qi post (fun M' t => hw D wCl A M' t.heap) A) args s 0 0 A) (F0 m 13 ls [.int s0]) := by
  obtain ⟨hx, hb, hr, hml, hown, hts, hlocks, hK, hA, hZ0⟩ := id C0
  obtain ⟨hz, h⟩ := h
  exact W.zret hx hb hr (nb_n hz) (fun t ht hWm => ⟨⟨_, _, rfl, h, hw_t ht hW⟩, hS.F ht⟩) hS.2.2 d_Ch_holdsItems_13
set_option maxHeartbeats 1000000 in
set_option maxRecDepth 20000 in
theorem l_Ch_holdsItems_e {p : Program} {l : Launch} {e : Env} {s : State} {m : MethodId} {args : Array Value} {below : List Frame} {meth : Method} {c : Code} {D : va_G} {ca G : Nat → Nat} {A : Nat → Prop} (C0 : hC p s m args meth c D ca G prog_2_method_3_code 1 (some .boolean) "ChannelHall$Channel" A) {post : Int32 → hM → Prop} {M : hM} {H : Heap} {locs : List Loc} {ls : Array Slot} (a0 : Nat) (h : wp_Ch_holdsItems G ca post M a0) (hW : hw D wCl A M H) (hS : va_S A s.heap H locs) (hl : lv_has ls 1 [(0, .ref a0)]) : W p l e rm_Ch_holdsItems s m args below meth c H locs 0 0 (MQ below (va_Qi post (fun M' t => hw D wCl A M' t.heap) A) args s 0 0 A) (F0 m 0 ls []) := by
  obtain ⟨hx, hb, hr, hml, hown, hts, hlocks, hK, hA, hZ0⟩ := id C0
  refine lv_aload_n hx hb d_Ch_holdsItems_0 rfl (lv_at hl 0 rfl) ?_
  obtain ⟨fs, v3, h1, h2, h⟩ := h
  refine va_get (D := D) (ci := 0) (v := .int v3) (C := "ChannelHall$Channel") (T := TCh) (N := 10) hx hb hts uCh hown hK (hw_one hW h1) 0 rfl rfl 1 (by decide) (hts _ bw_253) (fun _ h9 => h9) h2 d_Ch_holdsItems_1 ?_
  refine lv_iconst (v := 4) hx hb d_Ch_holdsItems_4 (by decide) ?_
  obtain ⟨h0, h1⟩ := h
  refine lv_icmp_gt (tgt := 12) hx hb d_Ch_holdsItems_5 (by decide) (fun c4 => ?_) (fun c4 => ?_)
  · have h := h0 c4
    refine lv_iconst (v := 0) hx hb d_Ch_holdsItems_12 (by decide) ?_
    exact l_Ch_holdsItems_13 C0 0 h hW hS (lv_sub hl [] rfl)
  · have h := h1 c4
    refine lv_iconst (v := 1) hx hb d_Ch_holdsItems_8 (by decide) ?_
    refine lv_goto (tgt := 13) hx hb d_Ch_holdsItems_9 (by decide) ?_
    exact l_Ch_holdsItems_13 C0 1 h hW hS (lv_sub hl [] rfl)
set_option maxRecDepth 20000 in
theorem c_Ch_holdsItems {l : Launch} {D : va_G} {ca G : Nat → Nat} (post : Int32 → hM → Prop) {M : hM} {sz : Nat} {a0 : Nat} (h : wp_Ch_holdsItems G ca post M a0) : Met l y_Ch_holdsItems (wz y_Ch_holdsItems prog_2_method_3_code 1 (some .boolean)) rm_Ch_holdsItems (va_Pc [.ref a0] (hI D ca G sz M)) (va_Qi post (hB D M sz) (hp_A M sz)) 0 0 (hp_A M sz) := by
  refine Met.ofW (cc := prog_2_method_3_code) (maxL := 1) (ret := some .boolean) (by decide) rfl ?_
  intro p e s m args below meth c s₁ B hml hv
  obtain ⟨rfl, hsz, hW, hK, hZ0⟩ := hv
  have hts := fun w hw => atoms_spec (ws := wz y_Ch_holdsItems prog_2_method_3_code 1 (some .boolean)) B.pre w (List.mem_cons_of_mem _ hw)
  have hown : s.vm.findClass "ChannelHall$Channel" = some m.cls := findClass_of_methodNamed B.named
  subst hsz
  have hl := lv_entry [.ref a0] (n := 1) (Nat.le_of_ble_eq_true rfl)
  rw [lg_entry_eq]
  exact l_Ch_holdsItems_e ⟨B.exec, B.bytes, B.returns, hml, hown, hts, B.notSynchronized, hK, fun q h => Or.inr h, hZ0⟩ a0 h hW va_S.rf hl

theorem d_Ch_addStay_0 : decode prog_2_method_19_code 0 = .ok (.aload_n 0, 1) := by decide +kernel
theorem d_Ch_addStay_1 : decode prog_2_method_19_code 1 = .ok (.dup, 1) := by decide +kernel
theorem d_Ch_addStay_2 : decode prog_2_method_19_code 2 = .ok (.getfield 29, 3) := by decide +kernel
theorem d_Ch_addStay_5 : decode prog_2_method_19_code 5 = .ok (.dload_n 1, 1) := by decide +kernel
theorem d_Ch_addStay_6 : decode prog_2_method_19_code 6 = .ok (.dadd, 1) := by decide +kernel
theorem d_Ch_addStay_7 : decode prog_2_method_19_code 7 = .ok (.putfield 29, 3) := by decide +kernel
theorem d_Ch_addStay_10 : decode prog_2_method_19_code 10 = .ok (.aload_n 0, 1) := by decide +kernel
theorem d_Ch_addStay_11 : decode prog_2_method_19_code 11 = .ok (.dup, 1) := by decide +kernel
theorem d_Ch_addStay_12 : decode prog_2_method_19_code 12 = .ok (.getfield 33, 3) := by decide +kernel
theorem d_Ch_addStay_15 : decode prog_2_method_19_code 15 = .ok (.iconst 1, 1) := by decide +kernel
theorem d_Ch_addStay_16 : decode prog_2_method_19_code 16 = .ok (.iadd, 1) := by decide +kernel
theorem d_Ch_addStay_17 : decode prog_2_method_19_code 17 = .ok (.putfield 33, 3) := by decide +kernel
theorem d_Ch_addStay_20 : decode prog_2_method_19_code 20 = .ok (.return_, 1) := by decide +kernel
def y_Ch_addStay : MethodName := ⟨"ChannelHall$Channel", "addStay", "(D)V"⟩
abbrev rm_Ch_addStay : Room := { frames := 0, cells := 0, slots := 0, locals := 0 }
def wp_Ch_addStay (G ca : Nat → Nat) (post : hM → Prop) (M : hM) (a0 : Nat) (x1 : UInt64) : Prop := gD M a0 0 8 fun v5 => nD (FP.dadd v5 x1) (pF M a0 0 8 (.double (FP.dadd v5 x1)) fun M6 => gI M6 a0 0 9 fun v7 => pF M6 a0 0 9 (.int (v7 + 1)) fun M8 => post M8)
set_option maxHeartbeats 1000000 in
set_option maxRecDepth 20000 in
theorem l_Ch_addStay_e {p : Program} {l : Launch} {e : Env} {s : State} {m : MethodId} {args : Array Value} {below : List Frame} {meth : Method} {c : Code} {D : va_G} {ca G : Nat → Nat} {A : Nat → Prop} (C0 : hC p s m args meth c D ca G prog_2_method_19_code 3 (none) "ChannelHall$Channel" A) {post : hM → Prop} {M : hM} {H : Heap} {locs : List Loc} {ls : Array Slot} (a0 : Nat) (x1 : UInt64) (h : wp_Ch_addStay G ca post M a0 x1) (hW : hw D wCl A M H) (hS : va_S A s.heap H locs) (hl : lv_has ls 3 [(0, .ref a0), (1, .double x1)]) : W p l e rm_Ch_addStay s m args below meth c H locs 0 0 (MQ below (va_Qv post (fun M' t => hw D wCl A M' t.heap) A) args s 0 0 A) (F0 m 0 ls []) := by
  obtain ⟨hx, hb, hr, hml, hown, hts, hlocks, hK, hA, hZ0⟩ := id C0
  refine lv_aload_n hx hb d_Ch_addStay_0 rfl (lv_at hl 0 rfl) ?_
  refine lv_dup hx hb d_Ch_addStay_1 rfl ?_
  obtain ⟨fs, v5, h1, h2, h⟩ := h
  refine va_get (D := D) (ci := 0) (v := .double v5) (C := "ChannelHall$Channel") (T := TCh) (N := 10) hx hb hts uCh hown hK (hw_one hW h1) 0 rfl rfl 8 (by decide) (hts _ bw_266) (fun _ h9 => h9) h2 d_Ch_addStay_2 ?_
  refine lv_dload_n hx hb d_Ch_addStay_5 rfl (lv_at hl 1 rfl) ?_
  obtain ⟨hn, h⟩ := h
  refine lv_dadd hx hb d_Ch_addStay_6 hn ?_
  obtain ⟨fs, h1, h2, h⟩ := h
  obtain ⟨ws, q0, hq, hP, hD, hback, -⟩ := hw_open hW h1
  refine va_put (D := D) (ci := 0) (v := .double (FP.dadd v5 x1)) (ty := .double) (C := "ChannelHall$Channel") (T := TCh) (N := 10) hx hb hts uCh tCh tCh_ok nCh hown hK hP hD hS q0 hq rfl 8 (by decide) (hts _ bw_266) (fun _ h9 => h9) rfl (by decide +kernel) rfl rfl h2 d_Ch_addStay_7 (fun H locs hP hD hS => ?_)
  have hW := hback _ _ hP hD
  generalize (va_up M a0 (some (.inr (0, fs.set 8 (.double (FP.dadd v5 x1)))))) = M6 at h hW
  refine lv_aload_n hx hb d_Ch_addStay_10 rfl (lv_at hl 0 rfl) ?_
  refine lv_dup hx hb d_Ch_addStay_11 rfl ?_
  obtain ⟨fs, v7, h1, h2, h⟩ := h
  refine va_get (D := D) (ci := 0) (v := .int v7) (C := "ChannelHall$Channel") (T := TCh) (N := 10) hx hb hts uCh hown hK (hw_one hW h1) 0 rfl rfl 9 (by decide) (hts _ bw_268) (fun _ h9 => h9) h2 d_Ch_addStay_12 ?_
  refine lv_iconst (v := 1) hx hb d_Ch_addStay_15 (by decide) ?_
  refine lv_iadd hx hb d_Ch_addStay_16 ?_
  obtain ⟨fs, h1, h2, h⟩ := h
  obtain ⟨ws, q0, hq, hP, hD, hback, -⟩ := hw_open hW h1
  refine va_put (D := D) (ci := 0) (v := .int (v7 + 1)) (ty := .int) (C := "ChannelHall$Channel") (T := TCh) (N := 10) hx hb hts uCh tCh tCh_ok nCh hown hK hP hD hS q0 hq rfl 9 (by decide) (hts _ bw_268) (fun _ h9 => h9) rfl (by decide +kernel) rfl rfl h2 d_Ch_addStay_17 (fun H locs hP hD hS => ?_)
  have hW := hback _ _ hP hD
  generalize (va_up M6 a0 (some (.inr (0, fs.set 9 (.int (v7 + 1)))))) = M8 at h hW
  exact W.vret hx hb hr (fun t ht hWm => ⟨⟨_, rfl, h, hw_t ht hW⟩, hS.F ht⟩) hS.2.2 d_Ch_addStay_20
set_option maxRecDepth 20000 in
theorem c_Ch_addStay {l : Launch} {D : va_G} {ca G : Nat → Nat} (post : hM → Prop) {M : hM} {sz : Nat} {a0 : Nat} {x1 : UInt64} (h : wp_Ch_addStay G ca post M a0 x1) : Met l y_Ch_addStay (wz y_Ch_addStay prog_2_method_19_code 3 (none)) rm_Ch_addStay (va_Pc [.ref a0, .double x1] (hI D ca G sz M)) (va_Qv post (hB D M sz) (hp_A M sz)) 0 0 (hp_A M sz) := by
  refine Met.ofW (cc := prog_2_method_19_code) (maxL := 3) (ret := none) (by decide) rfl ?_
  intro p e s m args below meth c s₁ B hml hv
  obtain ⟨rfl, hsz, hW, hK, hZ0⟩ := hv
  have hts := fun w hw => atoms_spec (ws := wz y_Ch_addStay prog_2_method_19_code 3 (none)) B.pre w (List.mem_cons_of_mem _ hw)
  have hown : s.vm.findClass "ChannelHall$Channel" = some m.cls := findClass_of_methodNamed B.named
  subst hsz
  have hl := lv_entry [.ref a0, .double x1] (n := 3) (Nat.le_of_ble_eq_true rfl)
  rw [lg_entry_eq]
  exact l_Ch_addStay_e ⟨B.exec, B.bytes, B.returns, hml, hown, hts, B.notSynchronized, hK, fun q h => Or.inr h, hZ0⟩ a0 x1 h hW va_S.rf hl

theorem d_Ch_roomOf_0 : decode prog_2_method_2_code 0 = .ok (.iload_n 0, 1) := by decide +kernel
theorem d_Ch_roomOf_1 : decode prog_2_method_2_code 1 = .ok (.tableswitch 43 0 4 #[35, 37, 43, 40, 40], 35) := by decide +kernel
theorem d_Ch_roomOf_36 : decode prog_2_method_2_code 36 = .ok (.iload_n 1, 1) := by decide +kernel
theorem d_Ch_roomOf_37 : decode prog_2_method_2_code 37 = .ok (.ireturn, 1) := by decide +kernel
theorem d_Ch_roomOf_38 : decode prog_2_method_2_code 38 = .ok (.bipush 16, 2) := by decide +kernel
theorem d_Ch_roomOf_40 : decode prog_2_method_2_code 40 = .ok (.ireturn, 1) := by decide +kernel
theorem d_Ch_roomOf_41 : decode prog_2_method_2_code 41 = .ok (.bipush 6, 2) := by decide +kernel
theorem d_Ch_roomOf_43 : decode prog_2_method_2_code 43 = .ok (.ireturn, 1) := by decide +kernel
theorem d_Ch_roomOf_44 : decode prog_2_method_2_code 44 = .ok (.iconst 0, 1) := by decide +kernel
theorem d_Ch_roomOf_45 : decode prog_2_method_2_code 45 = .ok (.ireturn, 1) := by decide +kernel
def y_Ch_roomOf : MethodName := ⟨"ChannelHall$Channel", "roomOf", "(II)I"⟩
abbrev rm_Ch_roomOf : Room := { frames := 0, cells := 0, slots := 0, locals := 0 }
def wp_Ch_roomOf_44 (G ca : Nat → Nat) (post : Int32 → hM → Prop) (M : hM)  : Prop := post 0 M
def wp_Ch_roomOf_41 (G ca : Nat → Nat) (post : Int32 → hM → Prop) (M : hM)  : Prop := post 6 M
def wp_Ch_roomOf (G ca : Nat → Nat) (post : Int32 → hM → Prop) (M : hM) (x0 : Int32) (x1 : Int32) : Prop := (x0 = 0 → post x1 M) ∧ (¬ x0 = 0 → (x0 = 1 → post 16 M) ∧ (¬ x0 = 1 → (x0 = 2 → wp_Ch_roomOf_44 G ca post M) ∧ (¬ x0 = 2 → (x0 = 3 → wp_Ch_roomOf_41 G ca post M) ∧ (¬ x0 = 3 → (x0 = 4 → wp_Ch_roomOf_41 G ca post M) ∧ (¬ x0 = 4 → wp_Ch_roomOf_44 G ca post M)))))
set_option maxHeartbeats 1000000 in
set_option maxRecDepth 20000 in
theorem l_Ch_roomOf_44 {p : Program} {l : Launch} {e : Env} {s : State} {m : MethodId} {args : Array Value} {below : List Frame} {meth : Method} {c : Code} {D : va_G} {ca G : Nat → Nat} {A : Nat → Prop} (C0 : hC p s m args meth c D ca G prog_2_method_2_code 2 (some .int) "ChannelHall$Channel" A) {post : Int32 → hM → Prop} {M : hM} {H : Heap} {locs : List Loc} {ls : Array Slot}  (h : wp_Ch_roomOf_44 G ca post M) (hW : hw D wCl A M H) (hS : va_S A s.heap H locs) (hl : lv_has ls 2 []) : W p l e rm_Ch_roomOf s m args below meth c H locs 0 0 (MQ below (va_Qi post (fun M' t => hw D wCl A M' t.heap) A) args s 0 0 A) (F0 m 44 ls []) := by
  obtain ⟨hx, hb, hr, hml, hown, hts, hlocks, hK, hA, hZ0⟩ := id C0
  refine lv_iconst (v := 0) hx hb d_Ch_roomOf_44 (by decide) ?_
  exact W.iret hx hb hr (fun t ht hWm => ⟨⟨_, _, rfl, h, hw_t ht hW⟩, hS.F ht⟩) hS.2.2 d_Ch_roomOf_45
set_option maxHeartbeats 1000000 in
set_option maxRecDepth 20000 in
theorem l_Ch_roomOf_41 {p : Program} {l : Launch} {e : Env} {s : State} {m : MethodId} {args : Array Value} {below : List Frame} {meth : Method} {c : Code} {D : va_G} {ca G : Nat → Nat} {A : Nat → Prop} (C0 : hC p s m args meth c D ca G prog_2_method_2_code 2 (some .int) "ChannelHall$Channel" A) {post : Int32 → hM → Prop} {M : hM} {H : Heap} {locs : List Loc} {ls : Array Slot}  (h : wp_Ch_roomOf_41 G ca post M) (hW : hw D wCl A M H) (hS : va_S A s.heap H locs) (hl : lv_has ls 2 []) : W p l e rm_Ch_roomOf s m args below meth c H locs 0 0 (MQ below (va_Qi post (fun M' t => hw D wCl A M' t.heap) A) args s 0 0 A) (F0 m 41 ls []) := by
  obtain ⟨hx, hb, hr, hml, hown, hts, hlocks, hK, hA, hZ0⟩ := id C0
  refine lv_bipush (v := 6) hx hb d_Ch_roomOf_41 (by decide) ?_
  exact W.iret hx hb hr (fun t ht hWm => ⟨⟨_, _, rfl, h, hw_t ht hW⟩, hS.F ht⟩) hS.2.2 d_Ch_roomOf_43
set_option maxHeartbeats 1000000 in
set_option maxRecDepth 20000 in
theorem l_Ch_roomOf_e {p : Program} {l : Launch} {e : Env} {s : State} {m : MethodId} {args : Array Value} {below : List Frame} {meth : Method} {c : Code} {D : va_G} {ca G : Nat → Nat} {A : Nat → Prop} (C0 : hC p s m args meth c D ca G prog_2_method_2_code 2 (some .int) "ChannelHall$Channel" A) {post : Int32 → hM → Prop} {M : hM} {H : Heap} {locs : List Loc} {ls : Array Slot} (x0 : Int32) (x1 : Int32) (h : wp_Ch_roomOf G ca post M x0 x1) (hW : hw D wCl A M H) (hS : va_S A s.heap H locs) (hl : lv_has ls 2 [(0, .int x0), (1, .int x1)]) : W p l e rm_Ch_roomOf s m args below meth c H locs 0 0 (MQ below (va_Qi post (fun M' t => hw D wCl A M' t.heap) A) args s 0 0 A) (F0 m 0 ls []) := by
  obtain ⟨hx, hb, hr, hml, hown, hts, hlocks, hK, hA, hZ0⟩ := id C0
  refine lv_iload_n hx hb d_Ch_roomOf_0 rfl (lv_at hl 0 rfl) ?_
  obtain ⟨h0, h1⟩ := h
  by_cases c0 : x0 = 0
  · have h := h0 c0
    rw [c0]
    refine lv_tableIn (off := 35) (tgt := 36) hx hb d_Ch_roomOf_1 (by decide) (by decide) (by decide) (by decide) ?_
    refine lv_iload_n hx hb d_Ch_roomOf_36 rfl (lv_at hl 1 rfl) ?_
    exact W.iret hx hb hr (fun t ht hWm => ⟨⟨_, _, rfl, h, hw_t ht hW⟩, hS.F ht⟩) hS.2.2 d_Ch_roomOf_37
  · have h := h1 c0
    obtain ⟨h0, h1⟩ := h
    by_cases c1 : x0 = 1
    · have h := h0 c1
      rw [c1]
      refine lv_tableIn (off := 37) (tgt := 38) hx hb d_Ch_roomOf_1 (by decide) (by decide) (by decide) (by decide) ?_
      refine lv_bipush (v := 16) hx hb d_Ch_roomOf_38 (by decide) ?_
      exact W.iret hx hb hr (fun t ht hWm => ⟨⟨_, _, rfl, h, hw_t ht hW⟩, hS.F ht⟩) hS.2.2 d_Ch_roomOf_40
    · have h := h1 c1
      obtain ⟨h0, h1⟩ := h
      by_cases c2 : x0 = 2
      · have h := h0 c2
        rw [c2]
        refine lv_tableIn (off := 43) (tgt := 44) hx hb d_Ch_roomOf_1 (by decide) (by decide) (by decide) (by decide) ?_
        exact l_Ch_roomOf_44 C0  h hW hS (lv_sub hl [] rfl)
      · have h := h1 c2
        obtain ⟨h0, h1⟩ := h
        by_cases c3 : x0 = 3
        · have h := h0 c3
          rw [c3]
          refine lv_tableIn (off := 40) (tgt := 41) hx hb d_Ch_roomOf_1 (by decide) (by decide) (by decide) (by decide) ?_
          exact l_Ch_roomOf_41 C0  h hW hS (lv_sub hl [] rfl)
        · have h := h1 c3
          obtain ⟨h0, h1⟩ := h
          by_cases c4 : x0 = 4
          · have h := h0 c4
            rw [c4]
            refine lv_tableIn (off := 40) (tgt := 41) hx hb d_Ch_roomOf_1 (by decide) (by decide) (by decide) (by decide) ?_
            exact l_Ch_roomOf_41 C0  h hW hS (lv_sub hl [] rfl)
          · have h := h1 c4
            have n0 := lv_neT c0 (a := 0) (by decide); have n1 := lv_neT c1 (a := 1) (by decide); have n2 := lv_neT c2 (a := 2) (by decide); have n3 := lv_neT c3 (a := 3) (by decide); have n4 := lv_neT c4 (a := 4) (by decide)
            refine lv_tableOut (tgt := 44) hx hb d_Ch_roomOf_1 (by omega) (by decide) ?_
            exact l_Ch_roomOf_44 C0  h hW hS (lv_sub hl [] rfl)
set_option maxRecDepth 20000 in
theorem c_Ch_roomOf {l : Launch} {D : va_G} {ca G : Nat → Nat} (post : Int32 → hM → Prop) {M : hM} {sz : Nat} {x0 : Int32} {x1 : Int32} (h : wp_Ch_roomOf G ca post M x0 x1) : Met l y_Ch_roomOf (wz y_Ch_roomOf prog_2_method_2_code 2 (some .int)) rm_Ch_roomOf (va_Pc [.int x0, .int x1] (hI D ca G sz M)) (va_Qi post (hB D M sz) (hp_A M sz)) 0 0 (hp_A M sz) := by
  refine Met.ofW (cc := prog_2_method_2_code) (maxL := 2) (ret := some .int) (by decide) rfl ?_
  intro p e s m args below meth c s₁ B hml hv
  obtain ⟨rfl, hsz, hW, hK, hZ0⟩ := hv
  have hts := fun w hw => atoms_spec (ws := wz y_Ch_roomOf prog_2_method_2_code 2 (some .int)) B.pre w (List.mem_cons_of_mem _ hw)
  have hown : s.vm.findClass "ChannelHall$Channel" = some m.cls := findClass_of_methodNamed B.named
  subst hsz
  have hl := lv_entry [.int x0, .int x1] (n := 2) (Nat.le_of_ble_eq_true rfl)
  rw [lg_entry_eq]
  exact l_Ch_roomOf_e ⟨B.exec, B.bytes, B.returns, hml, hown, hts, B.notSynchronized, hK, fun q h => Or.inr h, hZ0⟩ x0 x1 h hW va_S.rf hl

theorem d_Ha_isSize_0 : decode prog_1_method_21_code 0 = .ok (.iload_n 0, 1) := by decide +kernel
theorem d_Ha_isSize_1 : decode prog_1_method_21_code 1 = .ok (.lookupswitch 59 #[(0, 27), (6, 43)], 27) := by decide +kernel
theorem d_Ha_isSize_28 : decode prog_1_method_21_code 28 = .ok (.iload_n 1, 1) := by decide +kernel
theorem d_Ha_isSize_29 : decode prog_1_method_21_code 29 = .ok (.iconst 1, 1) := by decide +kernel
theorem d_Ha_isSize_30 : decode prog_1_method_21_code 30 = .ok (.if_icmp .lt 12, 3) := by decide +kernel
theorem d_Ha_isSize_33 : decode prog_1_method_21_code 33 = .ok (.iload_n 1, 1) := by decide +kernel
theorem d_Ha_isSize_34 : decode prog_1_method_21_code 34 = .ok (.iconst 4, 1) := by decide +kernel
theorem d_Ha_isSize_35 : decode prog_1_method_21_code 35 = .ok (.if_icmp .gt 7, 3) := by decide +kernel
theorem d_Ha_isSize_38 : decode prog_1_method_21_code 38 = .ok (.iconst 1, 1) := by decide +kernel
theorem d_Ha_isSize_39 : decode prog_1_method_21_code 39 = .ok (.goto 4, 3) := by decide +kernel
theorem d_Ha_isSize_42 : decode prog_1_method_21_code 42 = .ok (.iconst 0, 1) := by decide +kernel
theorem d_Ha_isSize_43 : decode prog_1_method_21_code 43 = .ok (.ireturn, 1) := by decide +kernel
theorem d_Ha_isSize_44 : decode prog_1_method_21_code 44 = .ok (.iload_n 1, 1) := by decide +kernel
theorem d_Ha_isSize_45 : decode prog_1_method_21_code 45 = .ok (.iconst 2, 1) := by decide +kernel
theorem d_Ha_isSize_46 : decode prog_1_method_21_code 46 = .ok (.if_icmp .lt 12, 3) := by decide +kernel
theorem d_Ha_isSize_49 : decode prog_1_method_21_code 49 = .ok (.iload_n 1, 1) := by decide +kernel
theorem d_Ha_isSize_50 : decode prog_1_method_21_code 50 = .ok (.iconst 5, 1) := by decide +kernel
theorem d_Ha_isSize_51 : decode prog_1_method_21_code 51 = .ok (.if_icmp .gt 7, 3) := by decide +kernel
theorem d_Ha_isSize_54 : decode prog_1_method_21_code 54 = .ok (.iconst 1, 1) := by decide +kernel
theorem d_Ha_isSize_55 : decode prog_1_method_21_code 55 = .ok (.goto 4, 3) := by decide +kernel
theorem d_Ha_isSize_58 : decode prog_1_method_21_code 58 = .ok (.iconst 0, 1) := by decide +kernel
theorem d_Ha_isSize_59 : decode prog_1_method_21_code 59 = .ok (.ireturn, 1) := by decide +kernel
theorem d_Ha_isSize_60 : decode prog_1_method_21_code 60 = .ok (.iload_n 0, 1) := by decide +kernel
theorem d_Ha_isSize_61 : decode prog_1_method_21_code 61 = .ok (.ifCond .le 17, 3) := by decide +kernel
theorem d_Ha_isSize_64 : decode prog_1_method_21_code 64 = .ok (.iload_n 0, 1) := by decide +kernel
theorem d_Ha_isSize_65 : decode prog_1_method_21_code 65 = .ok (.bipush 6, 2) := by decide +kernel
theorem d_Ha_isSize_67 : decode prog_1_method_21_code 67 = .ok (.if_icmp .ge 11, 3) := by decide +kernel
theorem d_Ha_isSize_70 : decode prog_1_method_21_code 70 = .ok (.iload_n 1, 1) := by decide +kernel
theorem d_Ha_isSize_71 : decode prog_1_method_21_code 71 = .ok (.ifCond .ne 7, 3) := by decide +kernel
theorem d_Ha_isSize_74 : decode prog_1_method_21_code 74 = .ok (.iconst 1, 1) := by decide +kernel
theorem d_Ha_isSize_75 : decode prog_1_method_21_code 75 = .ok (.goto 4, 3) := by decide +kernel
theorem d_Ha_isSize_78 : decode prog_1_method_21_code 78 = .ok (.iconst 0, 1) := by decide +kernel
theorem d_Ha_isSize_79 : decode prog_1_method_21_code 79 = .ok (.ireturn, 1) := by decide +kernel
def y_Ha_isSize : MethodName := ⟨"ChannelHall", "isSize", "(II)Z"⟩
abbrev rm_Ha_isSize : Room := { frames := 0, cells := 0, slots := 0, locals := 0 }
def wp_Ha_isSize_79 (G ca : Nat → Nat) (post : Int32 → hM → Prop) (M : hM) (s0 : Int32) : Prop := bZ s0 (post s0 M)
def wp_Ha_isSize_78 (G ca : Nat → Nat) (post : Int32 → hM → Prop) (M : hM)  : Prop := wp_Ha_isSize_79 G ca post M 0
def wp_Ha_isSize_59 (G ca : Nat → Nat) (post : Int32 → hM → Prop) (M : hM) (s0 : Int32) : Prop := bZ s0 (post s0 M)
def wp_Ha_isSize_58 (G ca : Nat → Nat) (post : Int32 → hM → Prop) (M : hM)  : Prop := wp_Ha_isSize_59 G ca post M 0
def wp_Ha_isSize_43 (G ca : Nat → Nat) (post : Int32 → hM → Prop) (M : hM) (s0 : Int32) : Prop := bZ s0 (post s0 M)
def wp_Ha_isSize_42 (G ca : Nat → Nat) (post : Int32 → hM → Prop) (M : hM)  : Prop := wp_Ha_isSize_43 G ca post M 0
def wp_Ha_isSize (G ca : Nat → Nat) (post : Int32 → hM → Prop) (M : hM) (x0 : Int32) (x1 : Int32) : Prop := (x0 = 0 → (x1 < 1 → wp_Ha_isSize_42 G ca post M) ∧ (¬ x1 < 1 → (4 < x1 → wp_Ha_isSize_42 G ca post M) ∧ (¬ 4 < x1 → wp_Ha_isSize_43 G ca post M 1))) ∧ (¬ x0 = 0 → (x0 = 6 → (x1 < 2 → wp_Ha_isSize_58 G ca post M) ∧ (¬ x1 < 2 → (5 < x1 → wp_Ha_isSize_58 G ca post M) ∧ (¬ 5 < x1 → wp_Ha_isSize_59 G ca post M 1))) ∧ (¬ x0 = 6 → (x0 ≤ 0 → wp_Ha_isSize_78 G ca post M) ∧ (¬ x0 ≤ 0 → (6 ≤ x0 → wp_Ha_isSize_78 G ca post M) ∧ (¬ 6 ≤ x0 → (¬ x1 = 0 → wp_Ha_isSize_78 G ca post M) ∧ (x1 = 0 → wp_Ha_isSize_79 G ca post M 1)))))
set_option maxHeartbeats 1000000 in
set_option maxRecDepth 20000 in
theorem l_Ha_isSize_79 {p : Program} {l : Launch} {e : Env} {s : State} {m : MethodId} {args : Array Value} {below : List Frame} {meth : Method} {c : Code} {D : va_G} {ca G : Nat → Nat} {A : Nat → Prop} (C0 : hC p s m args meth c D ca G prog_1_method_21_code 2 (some .boolean) "ChannelHall" A) {post : Int32 → hM → Prop} {M : hM} {H : Heap} {locs : List Loc} {ls : Array Slot} (s0 : Int32) (h : wp_Ha_isSize_79 G ca post M s0) (hW : hw D wCl A M H) (hS : va_S A s.heap H locs) (hl : lv_has ls 2 []) : W p l e rm_Ha_isSize s m args below meth c H locs 0 0 (MQ below (va_Qi post (fun M' t => hw D wCl A M' t.heap) A) args s 0 0 A) (F0 m 79 ls [.int s0]) := by
  obtain ⟨hx, hb, hr, hml, hown, hts, hlocks, hK, hA, hZ0⟩ := id C0
  obtain ⟨hz, h⟩ := h
  exact W.zret hx hb hr (nb_n hz) (fun t ht hWm => ⟨⟨_, _, rfl, h, hw_t ht hW⟩, hS.F ht⟩) hS.2.2 d_Ha_isSize_79
set_option maxHeartbeats 1000000 in
set_option maxRecDepth 20000 in
theorem l_Ha_isSize_78 {p : Program} {l : Launch} {e : Env} {s : State} {m : MethodId} {args : Array Value} {below : List Frame} {meth : Method} {c : Code} {D : va_G} {ca G : Nat → Nat} {A : Nat → Prop} (C0 : hC p s m args meth c D ca G prog_1_method_21_code 2 (some .boolean) "ChannelHall" A) {post : Int32 → hM → Prop} {M : hM} {H : Heap} {locs : List Loc} {ls : Array Slot}  (h : wp_Ha_isSize_78 G ca post M) (hW : hw D wCl A M H) (hS : va_S A s.heap H locs) (hl : lv_has ls 2 []) : W p l e rm_Ha_isSize s m args below meth c H locs 0 0 (MQ below (va_Qi post (fun M' t => hw D wCl A M' t.heap) A) args s 0 0 A) (F0 m 78 ls []) := by
  obtain ⟨hx, hb, hr, hml, hown, hts, hlocks, hK, hA, hZ0⟩ := id C0
  refine lv_iconst (v := 0) hx hb d_Ha_isSize_78 (by decide) ?_
  exact l_Ha_isSize_79 C0 0 h hW hS (lv_sub hl [] rfl)
set_option maxHeartbeats 1000000 in
set_option maxRecDepth 20000 in
theorem l_Ha_isSize_59 {p : Program} {l : Launch} {e : Env} {s : State} {m : MethodId} {args : Array Value} {below : List Frame} {meth : Method} {c : Code} {D : va_G} {ca G : Nat → Nat} {A : Nat → Prop} (C0 : hC p s m args meth c D ca G prog_1_method_21_code 2 (some .boolean) "ChannelHall" A) {post : Int32 → hM → Prop} {M : hM} {H : Heap} {locs : List Loc} {ls : Array Slot} (s0 : Int32) (h : wp_Ha_isSize_59 G ca post M s0) (hW : hw D wCl A M H) (hS : va_S A s.heap H locs) (hl : lv_has ls 2 []) : W p l e rm_Ha_isSize s m args below meth c H locs 0 0 (MQ below (va_Qi post (fun M' t => hw D wCl A M' t.heap) A) args s 0 0 A) (F0 m 59 ls [.int s0]) := by
  obtain ⟨hx, hb, hr, hml, hown, hts, hlocks, hK, hA, hZ0⟩ := id C0
  obtain ⟨hz, h⟩ := h
  exact W.zret hx hb hr (nb_n hz) (fun t ht hWm => ⟨⟨_, _, rfl, h, hw_t ht hW⟩, hS.F ht⟩) hS.2.2 d_Ha_isSize_59
set_option maxHeartbeats 1000000 in
set_option maxRecDepth 20000 in
theorem l_Ha_isSize_58 {p : Program} {l : Launch} {e : Env} {s : State} {m : MethodId} {args : Array Value} {below : List Frame} {meth : Method} {c : Code} {D : va_G} {ca G : Nat → Nat} {A : Nat → Prop} (C0 : hC p s m args meth c D ca G prog_1_method_21_code 2 (some .boolean) "ChannelHall" A) {post : Int32 → hM → Prop} {M : hM} {H : Heap} {locs : List Loc} {ls : Array Slot}  (h : wp_Ha_isSize_58 G ca post M) (hW : hw D wCl A M H) (hS : va_S A s.heap H locs) (hl : lv_has ls 2 []) : W p l e rm_Ha_isSize s m args below meth c H locs 0 0 (MQ below (va_Qi post (fun M' t => hw D wCl A M' t.heap) A) args s 0 0 A) (F0 m 58 ls []) := by
  obtain ⟨hx, hb, hr, hml, hown, hts, hlocks, hK, hA, hZ0⟩ := id C0
  refine lv_iconst (v := 0) hx hb d_Ha_isSize_58 (by decide) ?_
  exact l_Ha_isSize_59 C0 0 h hW hS (lv_sub hl [] rfl)
set_option maxHeartbeats 1000000 in
set_option maxRecDepth 20000 in
theorem l_Ha_isSize_43 {p : Program} {l : Launch} {e : Env} {s : State} {m : MethodId} {args : Array Value} {below : List Frame} {meth : Method} {c : Code} {D : va_G} {ca G : Nat → Nat} {A : Nat → Prop} (C0 : hC p s m args meth c D ca G prog_1_method_21_code 2 (some .boolean) "ChannelHall" A) {post : Int32 → hM → Prop} {M : hM} {H : Heap} {locs : List Loc} {ls : Array Slot} (s0 : Int32) (h : wp_Ha_isSize_43 G ca post M s0) (hW : hw D wCl A M H) (hS : va_S A s.heap H locs) (hl : lv_has ls 2 []) : W p l e rm_Ha_isSize s m args below meth c H locs 0 0 (MQ below (va_Qi post (fun M' t => hw D wCl A M' t.heap) A) args s 0 0 A) (F0 m 43 ls [.int s0]) := by
  obtain ⟨hx, hb, hr, hml, hown, hts, hlocks, hK, hA, hZ0⟩ := id C0
  obtain ⟨hz, h⟩ := h
  exact W.zret hx hb hr (nb_n hz) (fun t ht hWm => ⟨⟨_, _, rfl, h, hw_t ht hW⟩, hS.F ht⟩) hS.2.2 d_Ha_isSize_43
set_option maxHeartbeats 1000000 in
set_option maxRecDepth 20000 in
theorem l_Ha_isSize_42 {p : Program} {l : Launch} {e : Env} {s : State} {m : MethodId} {args : Array Value} {below : List Frame} {meth : Method} {c : Code} {D : va_G} {ca G : Nat → Nat} {A : Nat → Prop} (C0 : hC p s m args meth c D ca G prog_1_method_21_code 2 (some .boolean) "ChannelHall" A) {post : Int32 → hM → Prop} {M : hM} {H : Heap} {locs : List Loc} {ls : Array Slot}  (h : wp_Ha_isSize_42 G ca post M) (hW : hw D wCl A M H) (hS : va_S A s.heap H locs) (hl : lv_has ls 2 []) : W p l e rm_Ha_isSize s m args below meth c H locs 0 0 (MQ below (va_Qi post (fun M' t => hw D wCl A M' t.heap) A) args s 0 0 A) (F0 m 42 ls []) := by
  obtain ⟨hx, hb, hr, hml, hown, hts, hlocks, hK, hA, hZ0⟩ := id C0
  refine lv_iconst (v := 0) hx hb d_Ha_isSize_42 (by decide) ?_
  exact l_Ha_isSize_43 C0 0 h hW hS (lv_sub hl [] rfl)
set_option maxHeartbeats 1000000 in
set_option maxRecDepth 20000 in
theorem l_Ha_isSize_e {p : Program} {l : Launch} {e : Env} {s : State} {m : MethodId} {args : Array Value} {below : List Frame} {meth : Method} {c : Code} {D : va_G} {ca G : Nat → Nat} {A : Nat → Prop} (C0 : hC p s m args meth c D ca G prog_1_method_21_code 2 (some .boolean) "ChannelHall" A) {post : Int32 → hM → Prop} {M : hM} {H : Heap} {locs : List Loc} {ls : Array Slot} (x0 : Int32) (x1 : Int32) (h : wp_Ha_isSize G ca post M x0 x1) (hW : hw D wCl A M H) (hS : va_S A s.heap H locs) (hl : lv_has ls 2 [(0, .int x0), (1, .int x1)]) : W p l e rm_Ha_isSize s m args below meth c H locs 0 0 (MQ below (va_Qi post (fun M' t => hw D wCl A M' t.heap) A) args s 0 0 A) (F0 m 0 ls []) := by
  obtain ⟨hx, hb, hr, hml, hown, hts, hlocks, hK, hA, hZ0⟩ := id C0
  refine lv_iload_n hx hb d_Ha_isSize_0 rfl (lv_at hl 0 rfl) ?_
  obtain ⟨h0, h1⟩ := h
  by_cases c0 : x0 = 0
  · have h := h0 c0
    rw [c0]
    refine lv_lookup (off := 27) (tgt := 28) hx hb d_Ha_isSize_1 (by decide) (by decide) (by decide) ?_
    refine lv_iload_n hx hb d_Ha_isSize_28 rfl (lv_at hl 1 rfl) ?_
    refine lv_iconst (v := 1) hx hb d_Ha_isSize_29 (by decide) ?_
    obtain ⟨h0, h1⟩ := h
    refine lv_icmp_lt (tgt := 42) hx hb d_Ha_isSize_30 (by decide) (fun c8 => ?_) (fun c8 => ?_)
    · have h := h0 c8
      exact l_Ha_isSize_42 C0  h hW hS (lv_sub hl [] rfl)
    · have h := h1 c8
      refine lv_iload_n hx hb d_Ha_isSize_33 rfl (lv_at hl 1 rfl) ?_
      refine lv_iconst (v := 4) hx hb d_Ha_isSize_34 (by decide) ?_
      obtain ⟨h0, h1⟩ := h
      refine lv_icmp_gt (tgt := 42) hx hb d_Ha_isSize_35 (by decide) (fun c9 => ?_) (fun c9 => ?_)
      · have h := h0 c9
        exact l_Ha_isSize_42 C0  h hW hS (lv_sub hl [] rfl)
      · have h := h1 c9
        refine lv_iconst (v := 1) hx hb d_Ha_isSize_38 (by decide) ?_
        refine lv_goto (tgt := 43) hx hb d_Ha_isSize_39 (by decide) ?_
        exact l_Ha_isSize_43 C0 1 h hW hS (lv_sub hl [] rfl)
  · have h := h1 c0
    obtain ⟨h0, h1⟩ := h
    by_cases c1 : x0 = 6
    · have h := h0 c1
      rw [c1]
      refine lv_lookup (off := 43) (tgt := 44) hx hb d_Ha_isSize_1 (by decide) (by decide) (by decide) ?_
      refine lv_iload_n hx hb d_Ha_isSize_44 rfl (lv_at hl 1 rfl) ?_
      refine lv_iconst (v := 2) hx hb d_Ha_isSize_45 (by decide) ?_
      obtain ⟨h0, h1⟩ := h
      refine lv_icmp_lt (tgt := 58) hx hb d_Ha_isSize_46 (by decide) (fun c10 => ?_) (fun c10 => ?_)
      · have h := h0 c10
        exact l_Ha_isSize_58 C0  h hW hS (lv_sub hl [] rfl)
      · have h := h1 c10
        refine lv_iload_n hx hb d_Ha_isSize_49 rfl (lv_at hl 1 rfl) ?_
        refine lv_iconst (v := 5) hx hb d_Ha_isSize_50 (by decide) ?_
        obtain ⟨h0, h1⟩ := h
        refine lv_icmp_gt (tgt := 58) hx hb d_Ha_isSize_51 (by decide) (fun c11 => ?_) (fun c11 => ?_)
        · have h := h0 c11
          exact l_Ha_isSize_58 C0  h hW hS (lv_sub hl [] rfl)
        · have h := h1 c11
          refine lv_iconst (v := 1) hx hb d_Ha_isSize_54 (by decide) ?_
          refine lv_goto (tgt := 59) hx hb d_Ha_isSize_55 (by decide) ?_
          exact l_Ha_isSize_59 C0 1 h hW hS (lv_sub hl [] rfl)
    · have h := h1 c1
      refine lv_lookup (off := 59) (tgt := 60) hx hb d_Ha_isSize_1 (by decide) ((lv_osw c0 (by decide)).trans ((lv_osw c1 (by decide)).trans rfl)) (by decide) ?_
      refine lv_iload_n hx hb d_Ha_isSize_60 rfl (lv_at hl 0 rfl) ?_
      obtain ⟨h0, h1⟩ := h
      refine lv_if_le (tgt := 78) hx hb d_Ha_isSize_61 (by decide) (fun c12 => ?_) (fun c12 => ?_)
      · have h := h0 c12
        exact l_Ha_isSize_78 C0  h hW hS (lv_sub hl [] rfl)
      · have h := h1 c12
        refine lv_iload_n hx hb d_Ha_isSize_64 rfl (lv_at hl 0 rfl) ?_
        refine lv_bipush (v := 6) hx hb d_Ha_isSize_65 (by decide) ?_
        obtain ⟨h0, h1⟩ := h
        refine lv_icmp_ge (tgt := 78) hx hb d_Ha_isSize_67 (by decide) (fun c13 => ?_) (fun c13 => ?_)
        · have h := h0 c13
          exact l_Ha_isSize_78 C0  h hW hS (lv_sub hl [] rfl)
        · have h := h1 c13
          refine lv_iload_n hx hb d_Ha_isSize_70 rfl (lv_at hl 1 rfl) ?_
          obtain ⟨h0, h1⟩ := h
          refine lv_if_ne (tgt := 78) hx hb d_Ha_isSize_71 (by decide) (fun c14 => ?_) (fun c14 => ?_)
          · have h := h0 c14
            exact l_Ha_isSize_78 C0  h hW hS (lv_sub hl [] rfl)
          · have h := h1 c14
            refine lv_iconst (v := 1) hx hb d_Ha_isSize_74 (by decide) ?_
            refine lv_goto (tgt := 79) hx hb d_Ha_isSize_75 (by decide) ?_
            exact l_Ha_isSize_79 C0 1 h hW hS (lv_sub hl [] rfl)
set_option maxRecDepth 20000 in
theorem c_Ha_isSize {l : Launch} {D : va_G} {ca G : Nat → Nat} (post : Int32 → hM → Prop) {M : hM} {sz : Nat} {x0 : Int32} {x1 : Int32} (h : wp_Ha_isSize G ca post M x0 x1) : Met l y_Ha_isSize (wz y_Ha_isSize prog_1_method_21_code 2 (some .boolean)) rm_Ha_isSize (va_Pc [.int x0, .int x1] (hI D ca G sz M)) (va_Qi post (hB D M sz) (hp_A M sz)) 0 0 (hp_A M sz) := by
  refine Met.ofW (cc := prog_1_method_21_code) (maxL := 2) (ret := some .boolean) (by decide) rfl ?_
  intro p e s m args below meth c s₁ B hml hv
  obtain ⟨rfl, hsz, hW, hK, hZ0⟩ := hv
  have hts := fun w hw => atoms_spec (ws := wz y_Ha_isSize prog_1_method_21_code 2 (some .boolean)) B.pre w (List.mem_cons_of_mem _ hw)
  have hown : s.vm.findClass "ChannelHall" = some m.cls := findClass_of_methodNamed B.named
  subst hsz
  have hl := lv_entry [.int x0, .int x1] (n := 2) (Nat.le_of_ble_eq_true rfl)
  rw [lg_entry_eq]
  exact l_Ha_isSize_e ⟨B.exec, B.bytes, B.returns, hml, hown, hts, B.notSynchronized, hK, fun q h => Or.inr h, hZ0⟩ x0 x1 h hW va_S.rf hl

theorem d_Al_size_0 : decode prog_30_method_8_code 0 = .ok (.aload_n 0, 1) := by decide +kernel
theorem d_Al_size_1 : decode prog_30_method_8_code 1 = .ok (.getfield 48, 3) := by decide +kernel
theorem d_Al_size_4 : decode prog_30_method_8_code 4 = .ok (.ireturn, 1) := by decide +kernel
def y_Al_size : MethodName := ⟨"java/util/ArrayList", "size", "()I"⟩
abbrev rm_Al_size : Room := { frames := 0, cells := 0, slots := 0, locals := 0 }
def wp_Al_size (G ca : Nat → Nat) (post : Int32 → hM → Prop) (M : hM) (a0 : Nat) : Prop := gI M a0 4 1 fun v2 => post v2 M
set_option maxHeartbeats 1000000 in
set_option maxRecDepth 20000 in
theorem l_Al_size_e {p : Program} {l : Launch} {e : Env} {s : State} {m : MethodId} {args : Array Value} {below : List Frame} {meth : Method} {c : Code} {D : va_G} {ca G : Nat → Nat} {A : Nat → Prop} (C0 : hC p s m args meth c D ca G prog_30_method_8_code 1 (some .int) "java/util/ArrayList" A) {post : Int32 → hM → Prop} {M : hM} {H : Heap} {locs : List Loc} {ls : Array Slot} (a0 : Nat) (h : wp_Al_size G ca post M a0) (hW : hw D wCl A M H) (hS : va_S A s.heap H locs) (hl : lv_has ls 1 [(0, .ref a0)]) : W p l e rm_Al_size s m args below meth c H locs 0 0 (MQ below (va_Qi post (fun M' t => hw D wCl A M' t.heap) A) args s 0 0 A) (F0 m 0 ls []) := by
  obtain ⟨hx, hb, hr, hml, hown, hts, hlocks, hK, hA, hZ0⟩ := id C0
  refine lv_aload_n hx hb d_Al_size_0 rfl (lv_at hl 0 rfl) ?_
  obtain ⟨fs, v2, h1, h2, h⟩ := h
  refine va_get (D := D) (ci := 4) (v := .int v2) (C := "java/util/ArrayList") (T := TAl) (N := 3) hx hb hts uAl hown hK (hw_one hW h1) 0 rfl rfl 1 (by decide) (hts _ bw_237) (fun _ h9 => h9) h2 d_Al_size_1 ?_
  exact W.iret hx hb hr (fun t ht hWm => ⟨⟨_, _, rfl, h, hw_t ht hW⟩, hS.F ht⟩) hS.2.2 d_Al_size_4
set_option maxRecDepth 20000 in
theorem c_Al_size {l : Launch} {D : va_G} {ca G : Nat → Nat} (post : Int32 → hM → Prop) {M : hM} {sz : Nat} {a0 : Nat} (h : wp_Al_size G ca post M a0) : Met l y_Al_size (wz y_Al_size prog_30_method_8_code 1 (some .int)) rm_Al_size (va_Pc [.ref a0] (hI D ca G sz M)) (va_Qi post (hB D M sz) (hp_A M sz)) 0 0 (hp_A M sz) := by
  refine Met.ofW (cc := prog_30_method_8_code) (maxL := 1) (ret := some .int) (by decide) rfl ?_
  intro p e s m args below meth c s₁ B hml hv
  obtain ⟨rfl, hsz, hW, hK, hZ0⟩ := hv
  have hts := fun w hw => atoms_spec (ws := wz y_Al_size prog_30_method_8_code 1 (some .int)) B.pre w (List.mem_cons_of_mem _ hw)
  have hown : s.vm.findClass "java/util/ArrayList" = some m.cls := findClass_of_methodNamed B.named
  subst hsz
  have hl := lv_entry [.ref a0] (n := 1) (Nat.le_of_ble_eq_true rfl)
  rw [lg_entry_eq]
  exact l_Al_size_e ⟨B.exec, B.bytes, B.returns, hml, hown, hts, B.notSynchronized, hK, fun q h => Or.inr h, hZ0⟩ a0 h hW va_S.rf hl

theorem d_Al_isEmpty_0 : decode prog_30_method_9_code 0 = .ok (.aload_n 0, 1) := by decide +kernel
theorem d_Al_isEmpty_1 : decode prog_30_method_9_code 1 = .ok (.getfield 48, 3) := by decide +kernel
theorem d_Al_isEmpty_4 : decode prog_30_method_9_code 4 = .ok (.ifCond .ne 7, 3) := by decide +kernel
theorem d_Al_isEmpty_7 : decode prog_30_method_9_code 7 = .ok (.iconst 1, 1) := by decide +kernel
theorem d_Al_isEmpty_8 : decode prog_30_method_9_code 8 = .ok (.goto 4, 3) := by decide +kernel
theorem d_Al_isEmpty_11 : decode prog_30_method_9_code 11 = .ok (.iconst 0, 1) := by decide +kernel
theorem d_Al_isEmpty_12 : decode prog_30_method_9_code 12 = .ok (.ireturn, 1) := by decide +kernel
def y_Al_isEmpty : MethodName := ⟨"java/util/ArrayList", "isEmpty", "()Z"⟩
abbrev rm_Al_isEmpty : Room := { frames := 0, cells := 0, slots := 0, locals := 0 }
def wp_Al_isEmpty_12 (G ca : Nat → Nat) (post : Int32 → hM → Prop) (M : hM) (s0 : Int32) : Prop := bZ s0 (post s0 M)
def wp_Al_isEmpty (G ca : Nat → Nat) (post : Int32 → hM → Prop) (M : hM) (a0 : Nat) : Prop := gI M a0 4 1 fun v3 => (¬ v3 = 0 → wp_Al_isEmpty_12 G ca post M 0) ∧ (v3 = 0 → wp_Al_isEmpty_12 G ca post M 1)
set_option maxHeartbeats 1000000 in
set_option maxRecDepth 20000 in
theorem l_Al_isEmpty_12 {p : Program} {l : Launch} {e : Env} {s : State} {m : MethodId} {args : Array Value} {below : List Frame} {meth : Method} {c : Code} {D : va_G} {ca G : Nat → Nat} {A : Nat → Prop} (C0 : hC p s m args meth c D ca G prog_30_method_9_code 1 (some .boolean) "java/util/ArrayList" A) {post : Int32 → hM → Prop} {M : hM} {H : Heap} {locs : List Loc} {ls : Array Slot} (s0 : Int32) (h : wp_Al_isEmpty_12 G ca post M s0) (hW : hw D wCl A M H) (hS : va_S A s.heap H locs) (hl : lv_has ls 1 []) : W p l e rm_Al_isEmpty s m args below meth c H locs 0 0 (MQ below (va_Qi post (fun M' t => hw D wCl A M' t.heap) A) args s 0 0 A) (F0 m 12 ls [.int s0]) := by
  obtain ⟨hx, hb, hr, hml, hown, hts, hlocks, hK, hA, hZ0⟩ := id C0
  obtain ⟨hz, h⟩ := h
  exact W.zret hx hb hr (nb_n hz) (fun t ht hWm => ⟨⟨_, _, rfl, h, hw_t ht hW⟩, hS.F ht⟩) hS.2.2 d_Al_isEmpty_12
set_option maxHeartbeats 1000000 in
set_option maxRecDepth 20000 in
theorem l_Al_isEmpty_e {p : Program} {l : Launch} {e : Env} {s : State} {m : MethodId} {args : Array Value} {below : List Frame} {meth : Method} {c : Code} {D : va_G} {ca G : Nat → Nat} {A : Nat → Prop} (C0 : hC p s m args meth c D ca G prog_30_method_9_code 1 (some .boolean) "java/util/ArrayList" A) {post : Int32 → hM → Prop} {M : hM} {H : Heap} {locs : List Loc} {ls : Array Slot} (a0 : Nat) (h : wp_Al_isEmpty G ca post M a0) (hW : hw D wCl A M H) (hS : va_S A s.heap H locs) (hl : lv_has ls 1 [(0, .ref a0)]) : W p l e rm_Al_isEmpty s m args below meth c H locs 0 0 (MQ below (va_Qi post (fun M' t => hw D wCl A M' t.heap) A) args s 0 0 A) (F0 m 0 ls []) := by
  obtain ⟨hx, hb, hr, hml, hown, hts, hlocks, hK, hA, hZ0⟩ := id C0
  refine lv_aload_n hx hb d_Al_isEmpty_0 rfl (lv_at hl 0 rfl) ?_
  obtain ⟨fs, v3, h1, h2, h⟩ := h
  refine va_get (D := D) (ci := 4) (v := .int v3) (C := "java/util/ArrayList") (T := TAl) (N := 3) hx hb hts uAl hown hK (hw_one hW h1) 0 rfl rfl 1 (by decide) (hts _ bw_237) (fun _ h9 => h9) h2 d_Al_isEmpty_1 ?_
  obtain ⟨h0, h1⟩ := h
  refine lv_if_ne (tgt := 11) hx hb d_Al_isEmpty_4 (by decide) (fun c4 => ?_) (fun c4 => ?_)
  · have h := h0 c4
    refine lv_iconst (v := 0) hx hb d_Al_isEmpty_11 (by decide) ?_
    exact l_Al_isEmpty_12 C0 0 h hW hS (lv_sub hl [] rfl)
  · have h := h1 c4
    refine lv_iconst (v := 1) hx hb d_Al_isEmpty_7 (by decide) ?_
    refine lv_goto (tgt := 12) hx hb d_Al_isEmpty_8 (by decide) ?_
    exact l_Al_isEmpty_12 C0 1 h hW hS (lv_sub hl [] rfl)
set_option maxRecDepth 20000 in
theorem c_Al_isEmpty {l : Launch} {D : va_G} {ca G : Nat → Nat} (post : Int32 → hM → Prop) {M : hM} {sz : Nat} {a0 : Nat} (h : wp_Al_isEmpty G ca post M a0) : Met l y_Al_isEmpty (wz y_Al_isEmpty prog_30_method_9_code 1 (some .boolean)) rm_Al_isEmpty (va_Pc [.ref a0] (hI D ca G sz M)) (va_Qi post (hB D M sz) (hp_A M sz)) 0 0 (hp_A M sz) := by
  refine Met.ofW (cc := prog_30_method_9_code) (maxL := 1) (ret := some .boolean) (by decide) rfl ?_
  intro p e s m args below meth c s₁ B hml hv
  obtain ⟨rfl, hsz, hW, hK, hZ0⟩ := hv
  have hts := fun w hw => atoms_spec (ws := wz y_Al_isEmpty prog_30_method_9_code 1 (some .boolean)) B.pre w (List.mem_cons_of_mem _ hw)
  have hown : s.vm.findClass "java/util/ArrayList" = some m.cls := findClass_of_methodNamed B.named
  subst hsz
  have hl := lv_entry [.ref a0] (n := 1) (Nat.le_of_ble_eq_true rfl)
  rw [lg_entry_eq]
  exact l_Al_isEmpty_e ⟨B.exec, B.bytes, B.returns, hml, hown, hts, B.notSynchronized, hK, fun q h => Or.inr h, hZ0⟩ a0 h hW va_S.rf hl

theorem d_Ha_time_0 : decode prog_1_method_15_code 0 = .ok (.aload_n 0, 1) := by decide +kernel
theorem d_Ha_time_1 : decode prog_1_method_15_code 1 = .ok (.getfield 25, 3) := by decide +kernel
theorem d_Ha_time_4 : decode prog_1_method_15_code 4 = .ok (.dreturn, 1) := by decide +kernel
def y_Ha_time : MethodName := ⟨"ChannelHall", "time", "()D"⟩
abbrev rm_Ha_time : Room := { frames := 0, cells := 0, slots := 0, locals := 0 }
def wp_Ha_time (G ca : Nat → Nat) (post : UInt64 → hM → Prop) (M : hM) (a0 : Nat) : Prop := gD M a0 3 3 fun v2 => post v2 M
set_option maxHeartbeats 1000000 in
set_option maxRecDepth 20000 in
theorem l_Ha_time_e {p : Program} {l : Launch} {e : Env} {s : State} {m : MethodId} {args : Array Value} {below : List Frame} {meth : Method} {c : Code} {D : va_G} {ca G : Nat → Nat} {A : Nat → Prop} (C0 : hC p s m args meth c D ca G prog_1_method_15_code 1 (some .double) "ChannelHall" A) {post : UInt64 → hM → Prop} {M : hM} {H : Heap} {locs : List Loc} {ls : Array Slot} (a0 : Nat) (h : wp_Ha_time G ca post M a0) (hW : hw D wCl A M H) (hS : va_S A s.heap H locs) (hl : lv_has ls 1 [(0, .ref a0)]) : W p l e rm_Ha_time s m args below meth c H locs 0 0 (MQ below (va_Qd post (fun M' t => hw D wCl A M' t.heap) A) args s 0 0 A) (F0 m 0 ls []) := by
  obtain ⟨hx, hb, hr, hml, hown, hts, hlocks, hK, hA, hZ0⟩ := id C0
  refine lv_aload_n hx hb d_Ha_time_0 rfl (lv_at hl 0 rfl) ?_
  obtain ⟨fs, v2, h1, h2, h⟩ := h
  refine va_get (D := D) (ci := 3) (v := .double v2) (C := "ChannelHall") (T := THa) (N := 4) hx hb hts uHa hown hK (hw_one hW h1) 0 rfl rfl 3 (by decide) (hts _ bw_103) (fun _ h9 => h9) h2 d_Ha_time_1 ?_
  exact W.dret hx hb hr (fun t ht hWm => ⟨⟨_, _, rfl, h, hw_t ht hW⟩, hS.F ht⟩) hS.2.2 d_Ha_time_4
set_option maxRecDepth 20000 in
theorem c_Ha_time {l : Launch} {D : va_G} {ca G : Nat → Nat} (post : UInt64 → hM → Prop) {M : hM} {sz : Nat} {a0 : Nat} (h : wp_Ha_time G ca post M a0) : Met l y_Ha_time (wz y_Ha_time prog_1_method_15_code 1 (some .double)) rm_Ha_time (va_Pc [.ref a0] (hI D ca G sz M)) (va_Qd post (hB D M sz) (hp_A M sz)) 0 0 (hp_A M sz) := by
  refine Met.ofW (cc := prog_1_method_15_code) (maxL := 1) (ret := some .double) (by decide) rfl ?_
  intro p e s m args below meth c s₁ B hml hv
  obtain ⟨rfl, hsz, hW, hK, hZ0⟩ := hv
  have hts := fun w hw => atoms_spec (ws := wz y_Ha_time prog_1_method_15_code 1 (some .double)) B.pre w (List.mem_cons_of_mem _ hw)
  have hown : s.vm.findClass "ChannelHall" = some m.cls := findClass_of_methodNamed B.named
  subst hsz
  have hl := lv_entry [.ref a0] (n := 1) (Nat.le_of_ble_eq_true rfl)
  rw [lg_entry_eq]
  exact l_Ha_time_e ⟨B.exec, B.bytes, B.returns, hml, hown, hts, B.notSynchronized, hK, fun q h => Or.inr h, hZ0⟩ a0 h hW va_S.rf hl

theorem d_Ch_keyOf_0 : decode prog_2_method_4_code 0 = .ok (.aload_n 0, 1) := by decide +kernel
theorem d_Ch_keyOf_1 : decode prog_2_method_4_code 1 = .ok (.getfield 39, 3) := by decide +kernel
theorem d_Ch_keyOf_4 : decode prog_2_method_4_code 4 = .ok (.lookupswitch 45 #[(3, 28), (4, 31)], 28) := by decide +kernel
theorem d_Ch_keyOf_32 : decode prog_2_method_4_code 32 = .ok (.dload_n 1, 1) := by decide +kernel
theorem d_Ch_keyOf_33 : decode prog_2_method_4_code 33 = .ok (.dneg, 1) := by decide +kernel
theorem d_Ch_keyOf_34 : decode prog_2_method_4_code 34 = .ok (.dreturn, 1) := by decide +kernel
theorem d_Ch_keyOf_35 : decode prog_2_method_4_code 35 = .ok (.dload_n 3, 1) := by decide +kernel
theorem d_Ch_keyOf_36 : decode prog_2_method_4_code 36 = .ok (.dload_n 1, 1) := by decide +kernel
theorem d_Ch_keyOf_37 : decode prog_2_method_4_code 37 = .ok (.dconst 0, 1) := by decide +kernel
theorem d_Ch_keyOf_38 : decode prog_2_method_4_code 38 = .ok (.dcmp .g, 1) := by decide +kernel
theorem d_Ch_keyOf_39 : decode prog_2_method_4_code 39 = .ok (.ifCond .ge 7, 3) := by decide +kernel
theorem d_Ch_keyOf_42 : decode prog_2_method_4_code 42 = .ok (.dconst 0, 1) := by decide +kernel
theorem d_Ch_keyOf_43 : decode prog_2_method_4_code 43 = .ok (.goto 4, 3) := by decide +kernel
theorem d_Ch_keyOf_46 : decode prog_2_method_4_code 46 = .ok (.dload_n 1, 1) := by decide +kernel
theorem d_Ch_keyOf_47 : decode prog_2_method_4_code 47 = .ok (.dadd, 1) := by decide +kernel
theorem d_Ch_keyOf_48 : decode prog_2_method_4_code 48 = .ok (.dreturn, 1) := by decide +kernel
theorem d_Ch_keyOf_49 : decode prog_2_method_4_code 49 = .ok (.dconst 0, 1) := by decide +kernel
theorem d_Ch_keyOf_50 : decode prog_2_method_4_code 50 = .ok (.dreturn, 1) := by decide +kernel
def y_Ch_keyOf : MethodName := ⟨"ChannelHall$Channel", "keyOf", "(DD)D"⟩
abbrev rm_Ch_keyOf : Room := { frames := 0, cells := 0, slots := 0, locals := 0 }
def wp_Ch_keyOf_47 (G ca : Nat → Nat) (post : UInt64 → hM → Prop) (M : hM) (s0 : UInt64) (s1 : UInt64) : Prop := nD (FP.dadd s1 s0) (post (FP.dadd s1 s0) M)
def wp_Ch_keyOf (G ca : Nat → Nat) (post : UInt64 → hM → Prop) (M : hM) (a0 : Nat) (x1 : UInt64) (x3 : UInt64) : Prop := gI M a0 0 1 fun v3 => (v3 = 3 → post (FP.dneg x1) M) ∧ (¬ v3 = 3 → (v3 = 4 → (0 ≤ (Op.cmpValue (FP.dcmp x1 FP.dconst0) .g) → wp_Ch_keyOf_47 G ca post M x1 x3) ∧ (¬ 0 ≤ (Op.cmpValue (FP.dcmp x1 FP.dconst0) .g) → wp_Ch_keyOf_47 G ca post M FP.dconst0 x3)) ∧ (¬ v3 = 4 → post FP.dconst0 M))
set_option maxHeartbeats 1000000 in
set_option maxRecDepth 20000 in
theorem l_Ch_keyOf_47 {p : Program} {l : Launch} {e : Env} {s : State} {m : MethodId} {args : Array Value} {below : List Frame} {meth : Method} {c : Code} {D : va_G} {ca G : Nat → Nat} {A : Nat → Prop} (C0 : hC p s m args meth c D ca G prog_2_method_4_code 5 (some .double) "ChannelHall$Channel" A) {post : UInt64 → hM → Prop} {M : hM} {H : Heap} {locs : List Loc} {ls : Array Slot} (s0 : UInt64) (s1 : UInt64) (h : wp_Ch_keyOf_47 G ca post M s0 s1) (hW : hw D wCl A M H) (hS : va_S A s.heap H locs) (hl : lv_has ls 5 []) : W p l e rm_Ch_keyOf s m args below meth c H locs 0 0 (MQ below (va_Qd post (fun M' t => hw D wCl A M' t.heap) A) args s 0 0 A) (F0 m 47 ls [.double s0, .double s1]) := by
  obtain ⟨hx, hb, hr, hml, hown, hts, hlocks, hK, hA, hZ0⟩ := id C0
  obtain ⟨hn, h⟩ := h
  refine lv_dadd hx hb d_Ch_keyOf_47 hn ?_
  exact W.dret hx hb hr (fun t ht hWm => ⟨⟨_, _, rfl, h, hw_t ht hW⟩, hS.F ht⟩) hS.2.2 d_Ch_keyOf_48
set_option maxHeartbeats 1000000 in
set_option maxRecDepth 20000 in
theorem l_Ch_keyOf_e {p : Program} {l : Launch} {e : Env} {s : State} {m : MethodId} {args : Array Value} {below : List Frame} {meth : Method} {c : Code} {D : va_G} {ca G : Nat → Nat} {A : Nat → Prop} (C0 : hC p s m args meth c D ca G prog_2_method_4_code 5 (some .double) "ChannelHall$Channel" A) {post : UInt64 → hM → Prop} {M : hM} {H : Heap} {locs : List Loc} {ls : Array Slot} (a0 : Nat) (x1 : UInt64) (x3 : UInt64) (h : wp_Ch_keyOf G ca post M a0 x1 x3) (hW : hw D wCl A M H) (hS : va_S A s.heap H locs) (hl : lv_has ls 5 [(0, .ref a0), (1, .double x1), (3, .double x3)]) : W p l e rm_Ch_keyOf s m args below meth c H locs 0 0 (MQ below (va_Qd post (fun M' t => hw D wCl A M' t.heap) A) args s 0 0 A) (F0 m 0 ls []) := by
  obtain ⟨hx, hb, hr, hml, hown, hts, hlocks, hK, hA, hZ0⟩ := id C0
  refine lv_aload_n hx hb d_Ch_keyOf_0 rfl (lv_at hl 0 rfl) ?_
  obtain ⟨fs, v3, h1, h2, h⟩ := h
  refine va_get (D := D) (ci := 0) (v := .int v3) (C := "ChannelHall$Channel") (T := TCh) (N := 10) hx hb hts uCh hown hK (hw_one hW h1) 0 rfl rfl 1 (by decide) (hts _ bw_253) (fun _ h9 => h9) h2 d_Ch_keyOf_1 ?_
  obtain ⟨h0, h1⟩ := h
  by_cases c0 : v3 = 3
  · have h := h0 c0
    rw [c0]
    refine lv_lookup (off := 28) (tgt := 32) hx hb d_Ch_keyOf_4 (by decide) (by decide) (by decide) ?_
    refine lv_dload_n hx hb d_Ch_keyOf_32 rfl (lv_at hl 1 rfl) ?_
    refine lv_dneg hx hb d_Ch_keyOf_33 ?_
    exact W.dret hx hb hr (fun t ht hWm => ⟨⟨_, _, rfl, h, hw_t ht hW⟩, hS.F ht⟩) hS.2.2 d_Ch_keyOf_34
  · have h := h1 c0
    obtain ⟨h0, h1⟩ := h
    by_cases c1 : v3 = 4
    · have h := h0 c1
      rw [c1]
      refine lv_lookup (off := 31) (tgt := 35) hx hb d_Ch_keyOf_4 (by decide) (by decide) (by decide) ?_
      refine lv_dload_n hx hb d_Ch_keyOf_35 rfl (lv_at hl 2 rfl) ?_
      refine lv_dload_n hx hb d_Ch_keyOf_36 rfl (lv_at hl 1 rfl) ?_
      refine lv_dconst0 hx hb d_Ch_keyOf_37 ?_
      refine lv_dcmp hx hb d_Ch_keyOf_38 ?_
      obtain ⟨h0, h1⟩ := h
      refine lv_if_ge (tgt := 46) hx hb d_Ch_keyOf_39 (by decide) (fun c4 => ?_) (fun c4 => ?_)
      · have h := h0 c4
        refine lv_dload_n hx hb d_Ch_keyOf_46 rfl (lv_at hl 1 rfl) ?_
        exact l_Ch_keyOf_47 C0 x1 x3 h hW hS (lv_sub hl [] rfl)
      · have h := h1 c4
        refine lv_dconst0 hx hb d_Ch_keyOf_42 ?_
        refine lv_goto (tgt := 47) hx hb d_Ch_keyOf_43 (by decide) ?_
        exact l_Ch_keyOf_47 C0 FP.dconst0 x3 h hW hS (lv_sub hl [] rfl)
    · have h := h1 c1
      refine lv_lookup (off := 45) (tgt := 49) hx hb d_Ch_keyOf_4 (by decide) ((lv_osw c0 (by decide)).trans ((lv_osw c1 (by decide)).trans rfl)) (by decide) ?_
      refine lv_dconst0 hx hb d_Ch_keyOf_49 ?_
      exact W.dret hx hb hr (fun t ht hWm => ⟨⟨_, _, rfl, h, hw_t ht hW⟩, hS.F ht⟩) hS.2.2 d_Ch_keyOf_50
set_option maxRecDepth 20000 in
theorem c_Ch_keyOf {l : Launch} {D : va_G} {ca G : Nat → Nat} (post : UInt64 → hM → Prop) {M : hM} {sz : Nat} {a0 : Nat} {x1 : UInt64} {x3 : UInt64} (h : wp_Ch_keyOf G ca post M a0 x1 x3) : Met l y_Ch_keyOf (wz y_Ch_keyOf prog_2_method_4_code 5 (some .double)) rm_Ch_keyOf (va_Pc [.ref a0, .double x1, .double x3] (hI D ca G sz M)) (va_Qd post (hB D M sz) (hp_A M sz)) 0 0 (hp_A M sz) := by
  refine Met.ofW (cc := prog_2_method_4_code) (maxL := 5) (ret := some .double) (by decide) rfl ?_
  intro p e s m args below meth c s₁ B hml hv
  obtain ⟨rfl, hsz, hW, hK, hZ0⟩ := hv
  have hts := fun w hw => atoms_spec (ws := wz y_Ch_keyOf prog_2_method_4_code 5 (some .double)) B.pre w (List.mem_cons_of_mem _ hw)
  have hown : s.vm.findClass "ChannelHall$Channel" = some m.cls := findClass_of_methodNamed B.named
  subst hsz
  have hl := lv_entry [.ref a0, .double x1, .double x3] (n := 5) (Nat.le_of_ble_eq_true rfl)
  rw [lg_entry_eq]
  exact l_Ch_keyOf_e ⟨B.exec, B.bytes, B.returns, hml, hown, hts, B.notSynchronized, hK, fun q h => Or.inr h, hZ0⟩ a0 x1 x3 h hW va_S.rf hl

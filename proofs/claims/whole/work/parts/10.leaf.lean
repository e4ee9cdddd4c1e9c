theorem d_Wo_losesFlag_0 : decode prog_5_method_2_code 0 = .ok (.aload_n 0, 1) := by decide +kernel
theorem d_Wo_losesFlag_1 : decode prog_5_method_2_code 1 = .ok (.getfield 9, 3) := by decide +kernel
theorem d_Wo_losesFlag_4 : decode prog_5_method_2_code 4 = .ok (.istore_n 1, 1) := by decide +kernel
theorem d_Wo_losesFlag_5 : decode prog_5_method_2_code 5 = .ok (.aload_n 0, 1) := by decide +kernel
theorem d_Wo_losesFlag_6 : decode prog_5_method_2_code 6 = .ok (.iconst 0, 1) := by decide +kernel
theorem d_Wo_losesFlag_7 : decode prog_5_method_2_code 7 = .ok (.putfield 9, 3) := by decide +kernel
theorem d_Wo_losesFlag_10 : decode prog_5_method_2_code 10 = .ok (.iload_n 1, 1) := by decide +kernel
theorem d_Wo_losesFlag_11 : decode prog_5_method_2_code 11 = .ok (.ireturn, 1) := by decide +kernel
def y_Wo_losesFlag : MethodName := ⟨"ChannelHall$Worker", "losesFlag", "()Z"⟩
abbrev rm_Wo_losesFlag : Room := { frames := 0, cells := 0, slots := 0, locals := 0 }
def wp_Wo_losesFlag (G ca : Nat → Nat) (post : Int32 → hM → Prop) (M : hM) (a0 : Nat) : Prop := gI M a0 2 1 fun v3 => pF M a0 2 1 (.int 0) fun M4 => bZ v3 (post v3 M4)
set_option maxHeartbeats 1000000 in
set_option maxRecDepth 20000 in
theorem l_Wo_losesFlag_e {p : Program} {l : Launch} {e : Env} {s : State} {m : MethodId} {args : Array Value} {below : List Frame} {meth : Method} {c : Code} {D : va_G} {ca G : Nat → Nat} {A : Nat → Prop} (C0 : hC p s m args meth c D ca G prog_5_method_2_code 2 (some .boolean) "ChannelHall$Worker" A) {post : Int32 → hM → Prop} {M : hM} {H : Heap} {locs : List Loc} {ls : Array Slot} (a0 : Nat) (h : wp_Wo_losesFlag G ca post M a0) (hW : hw D wCl A M H) (hS : va_S A s.heap H locs) (hl : lv_has ls 2 [(0, .ref a0)]) : W p l e rm_Wo_losesFlag s m args below meth c H locs 0 0 (MQ below (va_Qi post (fun M' t => hw D wCl A M' t.heap) A) args s 0 0 A) (F0 m 0 ls []) := by
  obtain ⟨hx, hb, hr, hml, hown, hts, hlocks, hK, hA, hZ0⟩ := id C0
  refine lv_aload_n hx hb d_Wo_losesFlag_0 rfl (lv_at hl 0 rfl) ?_
  obtain ⟨fs, v3, h1, h2, h⟩ := h
  refine va_get (D := D) (ci := 2) (v := .int v3) (C := "ChannelHall$Worker") (T := TWo) (N := 11) hx hb hts uWo hown hK (hw_one hW h1) 0 rfl rfl 1 (by decide) (hts _ bw_53) (fun _ h9 => h9) h2 d_Wo_losesFlag_1 ?_
  refine lv_istore_n (lv' := [(1, .int v3), (0, .ref a0)]) hx hb d_Wo_losesFlag_4 rfl hl (by decide) rfl (fun ls hl => ?_)
  refine lv_aload_n hx hb d_Wo_losesFlag_5 rfl (lv_at hl 1 rfl) ?_
  refine lv_iconst (v := 0) hx hb d_Wo_losesFlag_6 (by decide) ?_
  obtain ⟨fs, h1, h2, h⟩ := h
  obtain ⟨ws, q0, hq, hP, hD, hback, -⟩ := hw_open hW h1
  refine va_put (D := D) (ci := 2) (v := .int 0) (ty := .boolean) (C := "ChannelHall$Worker") (T := TWo) (N := 11) hx hb hts uWo tWo tWo_ok nWo hown hK hP hD hS q0 hq rfl 1 (by decide) (hts _ bw_53) (fun _ h9 => h9) rfl (by decide +kernel) (by decide) (by decide) h2 d_Wo_losesFlag_7 (fun H locs hP hD hS => ?_)
  have hW := hback _ _ hP hD
  generalize (va_up M a0 (some (.inr (2, fs.set 1 (.int 0))))) = M4 at h hW
  refine lv_iload_n hx hb d_Wo_losesFlag_10 rfl (lv_at hl 0 rfl) ?_
  obtain ⟨hz, h⟩ := h
  exact W.zret hx hb hr (nb_n hz) (fun t ht hWm => ⟨⟨_, _, rfl, h, hw_t ht hW⟩, hS.F ht⟩) hS.2.2 d_Wo_losesFlag_11
set_option maxRecDepth 20000 in
theorem c_Wo_losesFlag {l : Launch} {D : va_G} {ca G : Nat → Nat} (post : Int32 → hM → Prop) {M : hM} {sz : Nat} {a0 : Nat} (h : wp_Wo_losesFlag G ca post M a0) : Met l y_Wo_losesFlag (wz y_Wo_losesFlag prog_5_method_2_code 2 (some .boolean)) rm_Wo_losesFlag (va_Pc [.ref a0] (hI D ca G sz M)) (va_Qi post (hB D M sz) (hp_A M sz)) 0 0 (hp_A M sz) := by
  refine Met.ofW (cc := prog_5_method_2_code) (maxL := 2) (ret := some .boolean) (by decide) rfl ?_
  intro p e s m args below meth c s₁ B hml hv
  obtain ⟨rfl, hsz, hW, hK, hZ0⟩ := hv
  have hts := fun w hw => atoms_spec (ws := wz y_Wo_losesFlag prog_5_method_2_code 2 (some .boolean)) B.pre w (List.mem_cons_of_mem _ hw)
  have hown : s.vm.findClass "ChannelHall$Worker" = some m.cls := findClass_of_methodNamed B.named
  subst hsz
  have hl := lv_entry [.ref a0] (n := 2) (Nat.le_of_ble_eq_true rfl)
  rw [lg_entry_eq]
  exact l_Wo_losesFlag_e ⟨B.exec, B.bytes, B.returns, hml, hown, hts, B.notSynchronized, hK, fun q h => Or.inr h, hZ0⟩ a0 h hW va_S.rf hl

theorem d_Wo_endWith_0 : decode prog_5_method_3_code 0 = .ok (.aload_n 0, 1) := by decide +kernel
theorem d_Wo_endWith_1 : decode prog_5_method_3_code 1 = .ok (.iload_n 1, 1) := by decide +kernel
theorem d_Wo_endWith_2 : decode prog_5_method_3_code 2 = .ok (.putfield 15, 3) := by decide +kernel
theorem d_Wo_endWith_5 : decode prog_5_method_3_code 5 = .ok (.iload_n 1, 1) := by decide +kernel
theorem d_Wo_endWith_6 : decode prog_5_method_3_code 6 = .ok (.ireturn, 1) := by decide +kernel
def y_Wo_endWith : MethodName := ⟨"ChannelHall$Worker", "endWith", "(I)I"⟩
abbrev rm_Wo_endWith : Room := { frames := 0, cells := 0, slots := 0, locals := 0 }
def wp_Wo_endWith (G ca : Nat → Nat) (post : Int32 → hM → Prop) (M : hM) (a0 : Nat) (x1 : Int32) : Prop := pF M a0 2 2 (.int x1) fun M2 => post x1 M2
set_option maxHeartbeats 1000000 in
set_option maxRecDepth 20000 in
theorem l_Wo_endWith_e {p : Program} {l : Launch} {e : Env} {s : State} {m : MethodId} {args : Array Value} {below : List Frame} {meth : Method} {c : Code} {D : va_G} {ca G : Nat → Nat} {A : Nat → Prop} (C0 : hC p s m args meth c D ca G prog_5_method_3_code 2 (some .int) "ChannelHall$Worker" A) {post : Int32 → hM → Prop} {M : hM} {H : Heap} {locs : List Loc} {ls : Array Slot} (a0 : Nat) (x1 : Int32) (h : wp_Wo_endWith G ca post M a0 x1) (hW : hw D wCl A M H) (hS : va_S A s.heap H locs) (hl : lv_has ls 2 [(0, .ref a0), (1, .int x1)]) : W p l e rm_Wo_endWith s m args below meth c H locs 0 0 (MQ below (va_Qi post (fun M' t => hw D wCl A M' t.heap) A) args s 0 0 A) (F0 m 0 ls []) := by
  obtain ⟨hx, hb, hr, hml, hown, hts, hlocks, hK, hA, hZ0⟩ := id C0
  refine lv_aload_n hx hb d_Wo_endWith_0 rfl (lv_at hl 0 rfl) ?_
  refine lv_iload_n hx hb d_Wo_endWith_1 rfl (lv_at hl 1 rfl) ?_
  obtain ⟨fs, h1, h2, h⟩ := h
  obtain ⟨ws, q0, hq, hP, hD, hback, -⟩ := hw_open hW h1
  refine va_put (D := D) (ci := 2) (v := .int x1) (ty := .int) (C := "ChannelHall$Worker") (T := TWo) (N := 11) hx hb hts uWo tWo tWo_ok nWo hown hK hP hD hS q0 hq rfl 2 (by decide) (hts _ bw_55) (fun _ h9 => h9) rfl (by decide +kernel) rfl rfl h2 d_Wo_endWith_2 (fun H locs hP hD hS => ?_)
  have hW := hback _ _ hP hD
  generalize (va_up M a0 (some (.inr (2, fs.set 2 (.int x1))))) = M2 at h hW
  refine lv_iload_n hx hb d_Wo_endWith_5 rfl (lv_at hl 1 rfl) ?_
  exact W.iret hx hb hr (fun t ht hWm => ⟨⟨_, _, rfl, h, hw_t ht hW⟩, hS.F ht⟩) hS.2.2 d_Wo_endWith_6
set_option maxRecDepth 20000 in
theorem c_Wo_endWith {l : Launch} {D : va_G} {ca G : Nat → Nat} (post : Int32 → hM → Prop) {M : hM} {sz : Nat} {a0 : Nat} {x1 : Int32} (h : wp_Wo_endWith G ca post M a0 x1) : Met l y_Wo_endWith (wz y_Wo_endWith prog_5_method_3_code 2 (some .int)) rm_Wo_endWith (va_Pc [.ref a0, .int x1] (hI D ca G sz M)) (va_Qi post (hB D M sz) (hp_A M sz)) 0 0 (hp_A M sz) := by
  refine Met.ofW (cc := prog_5_method_3_code) (maxL := 2) (ret := some .int) (by decide) rfl ?_
  intro p e s m args below meth c s₁ B hml hv
  obtain ⟨rfl, hsz, hW, hK, hZ0⟩ := hv
  have hts := fun w hw => atoms_spec (ws := wz y_Wo_endWith prog_5_method_3_code 2 (some .int)) B.pre w (List.mem_cons_of_mem _ hw)
  have hown : s.vm.findClass "ChannelHall$Worker" = some m.cls := findClass_of_methodNamed B.named
  subst hsz
  have hl := lv_entry [.ref a0, .int x1] (n := 2) (Nat.le_of_ble_eq_true rfl)
  rw [lg_entry_eq]
  exact l_Wo_endWith_e ⟨B.exec, B.bytes, B.returns, hml, hown, hts, B.notSynchronized, hK, fun q h => Or.inr h, hZ0⟩ a0 x1 h hW va_S.rf hl

theorem d_Wo_receive_0 : decode prog_5_method_4_code 0 = .ok (.aload_n 0, 1) := by decide +kernel
theorem d_Wo_receive_1 : decode prog_5_method_4_code 1 = .ok (.iconst 1, 1) := by decide +kernel
theorem d_Wo_receive_2 : decode prog_5_method_4_code 2 = .ok (.putfield 19, 3) := by decide +kernel
theorem d_Wo_receive_5 : decode prog_5_method_4_code 5 = .ok (.aload_n 0, 1) := by decide +kernel
theorem d_Wo_receive_6 : decode prog_5_method_4_code 6 = .ok (.iload_n 1, 1) := by decide +kernel
theorem d_Wo_receive_7 : decode prog_5_method_4_code 7 = .ok (.putfield 22, 3) := by decide +kernel
theorem d_Wo_receive_10 : decode prog_5_method_4_code 10 = .ok (.return_, 1) := by decide +kernel
def y_Wo_receive : MethodName := ⟨"ChannelHall$Worker", "receive", "(I)V"⟩
abbrev rm_Wo_receive : Room := { frames := 0, cells := 0, slots := 0, locals := 0 }
def wp_Wo_receive (G ca : Nat → Nat) (post : hM → Prop) (M : hM) (a0 : Nat) (x1 : Int32) : Prop := pF M a0 2 3 (.int 1) fun M3 => pF M3 a0 2 4 (.int x1) fun M4 => post M4
set_option maxHeartbeats 1000000 in
set_option maxRecDepth 20000 in
theorem l_Wo_receive_e {p : Program} {l : Launch} {e : Env} {s : State} {m : MethodId} {args : Array Value} {below : List Frame} {meth : Method} {c : Code} {D : va_G} {ca G : Nat → Nat} {A : Nat → Prop} (C0 : hC p s m args meth c D ca G prog_5_method_4_code 2 (none) "ChannelHall$Worker" A) {post : hM → Prop} {M : hM} {H : Heap} {locs : List Loc} {ls : Array Slot} (a0 : Nat) (x1 : Int32) (h : wp_Wo_receive G ca post M a0 x1) (hW : hw D wCl A M H) (hS : va_S A s.heap H locs) (hl : lv_has ls 2 [(0, .ref a0), (1, .int x1)]) : W p l e rm_Wo_receive s m args below meth c H locs 0 0 (MQ below (va_Qv post (fun M' t => hw D wCl A M' t.heap) A) args s 0 0 A) (F0 m 0 ls []) := by
  obtain ⟨hx, hb, hr, hml, hown, hts, hlocks, hK, hA, hZ0⟩ := id C0
  refine lv_aload_n hx hb d_Wo_receive_0 rfl (lv_at hl 0 rfl) ?_
  refine lv_iconst (v := 1) hx hb d_Wo_receive_1 (by decide) ?_
  obtain ⟨fs, h1, h2, h⟩ := h
  obtain ⟨ws, q0, hq, hP, hD, hback, -⟩ := hw_open hW h1
  refine va_put (D := D) (ci := 2) (v := .int 1) (ty := .boolean) (C := "ChannelHall$Worker") (T := TWo) (N := 11) hx hb hts uWo tWo tWo_ok nWo hown hK hP hD hS q0 hq rfl 3 (by decide) (hts _ bw_58) (fun _ h9 => h9) rfl (by decide +kernel) (by decide) (by decide) h2 d_Wo_receive_2 (fun H locs hP hD hS => ?_)
  have hW := hback _ _ hP hD
  generalize (va_up M a0 (some (.inr (2, fs.set 3 (.int 1))))) = M3 at h hW
  refine lv_aload_n hx hb d_Wo_receive_5 rfl (lv_at hl 0 rfl) ?_
  refine lv_iload_n hx hb d_Wo_receive_6 rfl (lv_at hl 1 rfl) ?_
  obtain ⟨fs, h1, h2, h⟩ := h
  obtain ⟨ws, q0, hq, hP, hD, hback, -⟩ := hw_open hW h1
  refine va_put (D := D) (ci := 2) (v := .int x1) (ty := .int) (C := "ChannelHall$Worker") (T := TWo) (N := 11) hx hb hts uWo tWo tWo_ok nWo hown hK hP hD hS q0 hq rfl 4 (by decide) (hts _ bw_60) (fun _ h9 => h9) rfl (by decide +kernel) rfl rfl h2 d_Wo_receive_7 (fun H locs hP hD hS => ?_)
  have hW := hback _ _ hP hD
  generalize (va_up M3 a0 (some (.inr (2, fs.set 4 (.int x1))))) = M4 at h hW
  exact W.vret hx hb hr (fun t ht hWm => ⟨⟨_, rfl, h, hw_t ht hW⟩, hS.F ht⟩) hS.2.2 d_Wo_receive_10
set_option maxRecDepth 20000 in
theorem c_Wo_receive {l : Launch} {D : va_G} {ca G : Nat → Nat} (post : hM → Prop) {M : hM} {sz : Nat} {a0 : Nat} {x1 : Int32} (h : wp_Wo_receive G ca post M a0 x1) : Met l y_Wo_receive (wz y_Wo_receive prog_5_method_4_code 2 (none)) rm_Wo_receive (va_Pc [.ref a0, .int x1] (hI D ca G sz M)) (va_Qv post (hB D M sz) (hp_A M sz)) 0 0 (hp_A M sz) := by
  refine Met.ofW (cc := prog_5_method_4_code) (maxL := 2) (ret := none) (by decide) rfl ?_
  intro p e s m args below meth c s₁ B hml hv
  obtain ⟨rfl, hsz, hW, hK, hZ0⟩ := hv
  have hts := fun w hw => atoms_spec (ws := wz y_Wo_receive prog_5_method_4_code 2 (none)) B.pre w (List.mem_cons_of_mem _ hw)
  have hown : s.vm.findClass "ChannelHall$Worker" = some m.cls := findClass_of_methodNamed B.named
  subst hsz
  have hl := lv_entry [.ref a0, .int x1] (n := 2) (Nat.le_of_ble_eq_true rfl)
  rw [lg_entry_eq]
  exact l_Wo_receive_e ⟨B.exec, B.bytes, B.returns, hml, hown, hts, B.notSynchronized, hK, fun q h => Or.inr h, hZ0⟩ a0 x1 h hW va_S.rf hl

theorem d_Wo_offer_0 : decode prog_5_method_5_code 0 = .ok (.aload_n 0, 1) := by decide +kernel
theorem d_Wo_offer_1 : decode prog_5_method_5_code 1 = .ok (.iload_n 1, 1) := by decide +kernel
theorem d_Wo_offer_2 : decode prog_5_method_5_code 2 = .ok (.putfield 38, 3) := by decide +kernel
theorem d_Wo_offer_5 : decode prog_5_method_5_code 5 = .ok (.aload_n 0, 1) := by decide +kernel
theorem d_Wo_offer_6 : decode prog_5_method_5_code 6 = .ok (.dload_n 2, 1) := by decide +kernel
theorem d_Wo_offer_7 : decode prog_5_method_5_code 7 = .ok (.putfield 41, 3) := by decide +kernel
theorem d_Wo_offer_10 : decode prog_5_method_5_code 10 = .ok (.return_, 1) := by decide +kernel
def y_Wo_offer : MethodName := ⟨"ChannelHall$Worker", "offer", "(ID)V"⟩
abbrev rm_Wo_offer : Room := { frames := 0, cells := 0, slots := 0, locals := 0 }
def wp_Wo_offer (G ca : Nat → Nat) (post : hM → Prop) (M : hM) (a0 : Nat) (x1 : Int32) (x2 : UInt64) : Prop := pF M a0 2 7 (.int x1) fun M3 => pF M3 a0 2 8 (.double x2) fun M4 => post M4
set_option maxHeartbeats 1000000 in
set_option maxRecDepth 20000 in
theorem l_Wo_offer_e {p : Program} {l : Launch} {e : Env} {s : State} {m : MethodId} {args : Array Value} {below : List Frame} {meth : Method} {c : Code} {D : va_G} {ca G : Nat → Nat} {A : Nat → Prop} (C0 : hC p s m args meth c D ca G prog_5_method_5_code 4 (none) "ChannelHall$Worker" A) {post : hM → Prop} {M : hM} {H : Heap} {locs : List Loc} {ls : Array Slot} (a0 : Nat) (x1 : Int32) (x2 : UInt64) (h : wp_Wo_offer G ca post M a0 x1 x2) (hW : hw D wCl A M H) (hS : va_S A s.heap H locs) (hl : lv_has ls 4 [(0, .ref a0), (1, .int x1), (2, .double x2)]) : W p l e rm_Wo_offer s m args below meth c H locs 0 0 (MQ below (va_Qv post (fun M' t => hw D wCl A M' t.heap) A) args s 0 0 A) (F0 m 0 ls []) := by
  obtain ⟨hx, hb, hr, hml, hown, hts, hlocks, hK, hA, hZ0⟩ := id C0
  refine lv_aload_n hx hb d_Wo_offer_0 rfl (lv_at hl 0 rfl) ?_
  refine lv_iload_n hx hb d_Wo_offer_1 rfl (lv_at hl 1 rfl) ?_
  obtain ⟨fs, h1, h2, h⟩ := h
  obtain ⟨ws, q0, hq, hP, hD, hback, -⟩ := hw_open hW h1
  refine va_put (D := D) (ci := 2) (v := .int x1) (ty := .int) (C := "ChannelHall$Worker") (T := TWo) (N := 11) hx hb hts uWo tWo tWo_ok nWo hown hK hP hD hS q0 hq rfl 7 (by decide) (hts _ bw_68) (fun _ h9 => h9) rfl (by decide +kernel) rfl rfl h2 d_Wo_offer_2 (fun H locs hP hD hS => ?_)
  have hW := hback _ _ hP hD
  generalize (va_up M a0 (some (.inr (2, fs.set 7 (.int x1))))) = M3 at h hW
  refine lv_aload_n hx hb d_Wo_offer_5 rfl (lv_at hl 0 rfl) ?_
  refine lv_dload_n hx hb d_Wo_offer_6 rfl (lv_at hl 2 rfl) ?_
  obtain ⟨fs, h1, h2, h⟩ := h
  obtain ⟨ws, q0, hq, hP, hD, hback, -⟩ := hw_open hW h1
  refine va_put (D := D) (ci := 2) (v := .double x2) (ty := .double) (C := "ChannelHall$Worker") (T := TWo) (N := 11) hx hb hts uWo tWo tWo_ok nWo hown hK hP hD hS q0 hq rfl 8 (by decide) (hts _ bw_71) (fun _ h9 => h9) rfl (by decide +kernel) rfl rfl h2 d_Wo_offer_7 (fun H locs hP hD hS => ?_)
  have hW := hback _ _ hP hD
  generalize (va_up M3 a0 (some (.inr (2, fs.set 8 (.double x2))))) = M4 at h hW
  exact W.vret hx hb hr (fun t ht hWm => ⟨⟨_, rfl, h, hw_t ht hW⟩, hS.F ht⟩) hS.2.2 d_Wo_offer_10
set_option maxRecDepth 20000 in
theorem c_Wo_offer {l : Launch} {D : va_G} {ca G : Nat → Nat} (post : hM → Prop) {M : hM} {sz : Nat} {a0 : Nat} {x1 : Int32} {x2 : UInt64} (h : wp_Wo_offer G ca post M a0 x1 x2) : Met l y_Wo_offer (wz y_Wo_offer prog_5_method_5_code 4 (none)) rm_Wo_offer (va_Pc [.ref a0, .int x1, .double x2] (hI D ca G sz M)) (va_Qv post (hB D M sz) (hp_A M sz)) 0 0 (hp_A M sz) := by
  refine Met.ofW (cc := prog_5_method_5_code) (maxL := 4) (ret := none) (by decide) rfl ?_
  intro p e s m args below meth c s₁ B hml hv
  obtain ⟨rfl, hsz, hW, hK, hZ0⟩ := hv
  have hts := fun w hw => atoms_spec (ws := wz y_Wo_offer prog_5_method_5_code 4 (none)) B.pre w (List.mem_cons_of_mem _ hw)
  have hown : s.vm.findClass "ChannelHall$Worker" = some m.cls := findClass_of_methodNamed B.named
  subst hsz
  have hl := lv_entry [.ref a0, .int x1, .double x2] (n := 4) (Nat.le_of_ble_eq_true rfl)
  rw [lg_entry_eq]
  exact l_Wo_offer_e ⟨B.exec, B.bytes, B.returns, hml, hown, hts, B.notSynchronized, hK, fun q h => Or.inr h, hZ0⟩ a0 x1 x2 h hW va_S.rf hl

theorem d_Ha_isThread_0 : decode prog_1_method_18_code 0 = .ok (.iload_n 0, 1) := by decide +kernel
theorem d_Ha_isThread_1 : decode prog_1_method_18_code 1 = .ok (.ifCond .lt 13, 3) := by decide +kernel
theorem d_Ha_isThread_4 : decode prog_1_method_18_code 4 = .ok (.iload_n 0, 1) := by decide +kernel
theorem d_Ha_isThread_5 : decode prog_1_method_18_code 5 = .ok (.bipush 6, 2) := by decide +kernel
theorem d_Ha_isThread_7 : decode prog_1_method_18_code 7 = .ok (.if_icmp .ge 7, 3) := by decide +kernel
theorem d_Ha_isThread_10 : decode prog_1_method_18_code 10 = .ok (.iconst 1, 1) := by decide +kernel
theorem d_Ha_isThread_11 : decode prog_1_method_18_code 11 = .ok (.goto 4, 3) := by decide +kernel
theorem d_Ha_isThread_14 : decode prog_1_method_18_code 14 = .ok (.iconst 0, 1) := by decide +kernel
theorem d_Ha_isThread_15 : decode prog_1_method_18_code 15 = .ok (.ireturn, 1) := by decide +kernel
def y_Ha_isThread : MethodName := ⟨"ChannelHall", "isThread", "(I)Z"⟩
abbrev rm_Ha_isThread : Room := { frames := 0, cells := 0, slots := 0, locals := 0 }
def wp_Ha_isThread_15 (G ca : Nat → Nat) (post : Int32 → hM → Prop) (M : hM) (s0b15 : Int32) : Prop := bZ s0b15 (post s0b15 M)
def wp_Ha_isThread_14 (G ca : Nat → Nat) (post : Int32 → hM → Prop) (M : hM)  : Prop := wp_Ha_isThread_15 G ca post M 0
def wp_Ha_isThread (G ca : Nat → Nat) (post : Int32 → hM → Prop) (M : hM) (x0 : Int32) : Prop := (x0 < 0 → wp_Ha_isThread_14 G ca post M) ∧ (¬ x0 < 0 → (6 ≤ x0 → wp_Ha_isThread_14 G ca post M) ∧ (¬ 6 ≤ x0 → wp_Ha_isThread_15 G ca post M 1))
set_option maxHeartbeats 1000000 in
set_option maxRecDepth 20000 in
theorem l_Ha_isThread_15 {p : Program} {l : Launch} {e : Env} {s : State} {m : MethodId} {args : Array Value} {below : List Frame} {meth : Method} {c : Code} {D : va_G} {ca G : Nat → Nat} {A : Nat → Prop} (C0 : hC p s m args meth c D ca G prog_1_method_18_code 1 (some .boolean) "ChannelHall" A) {post : Int32 → hM → Prop} {M : hM} {H : Heap} {locs : List Loc} {ls : Array Slot} (s0b15 : Int32) (h : wp_Ha_isThread_15 G ca post M s0b15) (hW : hw D wCl A M H) (hS : va_S A s.heap H locs) (hl : lv_has ls 1 []) : W p l e rm_Ha_isThread s m args below meth c H locs 0 0 (MQ below (va_Qi post (fun M' t => hw D wCl A M' t.heap) A) args s 0 0 A) (F0 m 15 ls [.int s0b15]) := by
  obtain ⟨hx, hb, hr, hml, hown, hts, hlocks, hK, hA, hZ0⟩ := id C0
  obtain ⟨hz, h⟩ := h
  exact W.zret hx hb hr (nb_n hz) (fun t ht hWm => ⟨⟨_, _, rfl, h, hw_t ht hW⟩, hS.F ht⟩) hS.2.2 d_Ha_isThread_15
set_option maxHeartbeats 1000000 in
set_option maxRecDepth 20000 in
theorem l_Ha_isThread_14 {p : Program} {l : Launch} {e : Env} {s : State} {m : MethodId} {args : Array Value} {below : List Frame} {meth : Method} {c : Code} {D : va_G} {ca G : Nat → Nat} {A : Nat → Prop} (C0 : hC p s m args meth c D ca G prog_1_method_18_code 1 (some .boolean) "ChannelHall" A) {post : Int32 → hM → Prop} {M : hM} {H : Heap} {locs : List Loc} {ls : Array Slot}  (h : wp_Ha_isThread_14 G ca post M) (hW : hw D wCl A M H) (hS : va_S A s.heap H locs) (hl : lv_has ls 1 []) : W p l e rm_Ha_isThread s m args below meth c H locs 0 0 (MQ below (va_Qi post (fun M' t => hw D wCl A M' t.heap) A) args s 0 0 A) (F0 m 14 ls []) := by
  obtain ⟨hx, hb, hr, hml, hown, hts, hlocks, hK, hA, hZ0⟩ := id C0
  refine lv_iconst (v := 0) hx hb d_Ha_isThread_14 (by decide) ?_
  exact l_Ha_isThread_15 C0 0 h hW hS (lv_sub hl [] rfl)
set_option maxHeartbeats 1000000 in
set_option maxRecDepth 20000 in
theorem l_Ha_isThread_e {p : Program} {l : Launch} {e : Env} {s : State} {m : MethodId} {args : Array Value} {below : List Frame} {meth : Method} {c : Code} {D : va_G} {ca G : Nat → Nat} {A : Nat → Prop} (C0 : hC p s m args meth c D ca G prog_1_method_18_code 1 (some .boolean) "ChannelHall" A) {post : Int32 → hM → Prop} {M : hM} {H : Heap} {locs : List Loc} {ls : Array Slot} (x0 : Int32) (h : wp_Ha_isThread G ca post M x0) (hW : hw D wCl A M H) (hS : va_S A s.heap H locs) (hl : lv_has ls 1 [(0, .int x0)]) : W p l e rm_Ha_isThread s m args below meth c H locs 0 0 (MQ below (va_Qi post (fun M' t => hw D wCl A M' t.heap) A) args s 0 0 A) (F0 m 0 ls []) := by
  obtain ⟨hx, hb, hr, hml, hown, hts, hlocks, hK, hA, hZ0⟩ := id C0
  refine lv_iload_n hx hb d_Ha_isThread_0 rfl (lv_at hl 0 rfl) ?_
  obtain ⟨h0, h1⟩ := h
  refine lv_if_lt (tgt := 14) hx hb d_Ha_isThread_1 (by decide) (fun c3 => ?_) (fun c3 => ?_)
  · have h := h0 c3
    exact l_Ha_isThread_14 C0  h hW hS (lv_sub hl [] rfl)
  · have h := h1 c3
    refine lv_iload_n hx hb d_Ha_isThread_4 rfl (lv_at hl 0 rfl) ?_
    refine lv_bipush (v := 6) hx hb d_Ha_isThread_5 (by decide) ?_
    obtain ⟨h0, h1⟩ := h
    refine lv_icmp_ge (tgt := 14) hx hb d_Ha_isThread_7 (by decide) (fun c4 => ?_) (fun c4 => ?_)
    · have h := h0 c4
      exact l_Ha_isThread_14 C0  h hW hS (lv_sub hl [] rfl)
    · have h := h1 c4
      refine lv_iconst (v := 1) hx hb d_Ha_isThread_10 (by decide) ?_
      refine lv_goto (tgt := 15) hx hb d_Ha_isThread_11 (by decide) ?_
      exact l_Ha_isThread_15 C0 1 h hW hS (lv_sub hl [] rfl)
set_option maxRecDepth 20000 in
theorem c_Ha_isThread {l : Launch} {D : va_G} {ca G : Nat → Nat} (post : Int32 → hM → Prop) {M : hM} {sz : Nat} {x0 : Int32} (h : wp_Ha_isThread G ca post M x0) : Met l y_Ha_isThread (wz y_Ha_isThread prog_1_method_18_code 1 (some .boolean)) rm_Ha_isThread (va_Pc [.int x0] (hI D ca G sz M)) (va_Qi post (hB D M sz) (hp_A M sz)) 0 0 (hp_A M sz) := by
  refine Met.ofW (cc := prog_1_method_18_code) (maxL := 1) (ret := some .boolean) (by decide) rfl ?_
  intro p e s m args below meth c s₁ B hml hv
  obtain ⟨rfl, hsz, hW, hK, hZ0⟩ := hv
  have hts := fun w hw => atoms_spec (ws := wz y_Ha_isThread prog_1_method_18_code 1 (some .boolean)) B.pre w (List.mem_cons_of_mem _ hw)
  have hown : s.vm.findClass "ChannelHall" = some m.cls := findClass_of_methodNamed B.named
  subst hsz
  have hl := lv_entry [.int x0] (n := 1) (Nat.le_of_ble_eq_true rfl)
  rw [lg_entry_eq]
  exact l_Ha_isThread_e ⟨B.exec, B.bytes, B.returns, hml, hown, hts, B.notSynchronized, hK, fun q h => Or.inr h, hZ0⟩ x0 h hW va_S.rf hl

theorem d_Ha_isChannel_0 : decode prog_1_method_19_code 0 = .ok (.iload_n 0, 1) := by decide +kernel
theorem d_Ha_isChannel_1 : decode prog_1_method_19_code 1 = .ok (.ifCond .lt 13, 3) := by decide +kernel
theorem d_Ha_isChannel_4 : decode prog_1_method_19_code 4 = .ok (.iload_n 0, 1) := by decide +kernel
theorem d_Ha_isChannel_5 : decode prog_1_method_19_code 5 = .ok (.bipush 8, 2) := by decide +kernel
theorem d_Ha_isChannel_7 : decode prog_1_method_19_code 7 = .ok (.if_icmp .ge 7, 3) := by decide +kernel
theorem d_Ha_isChannel_10 : decode prog_1_method_19_code 10 = .ok (.iconst 1, 1) := by decide +kernel
theorem d_Ha_isChannel_11 : decode prog_1_method_19_code 11 = .ok (.goto 4, 3) := by decide +kernel
theorem d_Ha_isChannel_14 : decode prog_1_method_19_code 14 = .ok (.iconst 0, 1) := by decide +kernel
theorem d_Ha_isChannel_15 : decode prog_1_method_19_code 15 = .ok (.ireturn, 1) := by decide +kernel
def y_Ha_isChannel : MethodName := ⟨"ChannelHall", "isChannel", "(I)Z"⟩
abbrev rm_Ha_isChannel : Room := { frames := 0, cells := 0, slots := 0, locals := 0 }
def wp_Ha_isChannel_15 (G ca : Nat → Nat) (post : Int32 → hM → Prop) (M : hM) (s0b15 : Int32) : Prop := bZ s0b15 (post s0b15 M)
def wp_Ha_isChannel_14 (G ca : Nat → Nat) (post : Int32 → hM → Prop) (M : hM)  : Prop := wp_Ha_isChannel_15 G ca post M 0
def wp_Ha_isChannel (G ca : Nat → Nat) (post : Int32 → hM → Prop) (M : hM) (x0 : Int32) : Prop := (x0 < 0 → wp_Ha_isChannel_14 G ca post M) ∧ (¬ x0 < 0 → (8 ≤ x0 → wp_Ha_isChannel_14 G ca post M) ∧ (¬ 8 ≤ x0 → wp_Ha_isChannel_15 G ca post M 1))
set_option maxHeartbeats 1000000 in
set_option maxRecDepth 20000 in
theorem l_Ha_isChannel_15 {p : Program} {l : Launch} {e : Env} {s : State} {m : MethodId} {args : Array Value} {below : List Frame} {meth : Method} {c : Code} {D : va_G} {ca G : Nat → Nat} {A : Nat → Prop} (C0 : hC p s m args meth c D ca G prog_1_method_19_code 1 (some .boolean) "ChannelHall" A) {post : Int32 → hM → Prop} {M : hM} {H : Heap} {locs : List Loc} {ls : Array Slot} (s0b15 : Int32) (h : wp_Ha_isChannel_15 G ca post M s0b15) (hW : hw D wCl A M H) (hS : va_S A s.heap H locs) (hl : lv_has ls 1 []) : W p l e rm_Ha_isChannel s m args below meth c H locs 0 0 (MQ below (va_Qi post (fun M' t => hw D wCl A M' t.heap) A) args s 0 0 A) (F0 m 15 ls [.int s0b15]) := by
  obtain ⟨hx, hb, hr, hml, hown, hts, hlocks, hK, hA, hZ0⟩ := id C0
  obtain ⟨hz, h⟩ := h
  exact W.zret hx hb hr (nb_n hz) (fun t ht hWm => ⟨⟨_, _, rfl, h, hw_t ht hW⟩, hS.F ht⟩) hS.2.2 d_Ha_isChannel_15
set_option maxHeartbeats 1000000 in
set_option maxRecDepth 20000 in
theorem l_Ha_isChannel_14 {p : Program} {l : Launch} {e : Env} {s : State} {m : MethodId} {args : Array Value} {below : List Frame} {meth : Method} {c : Code} {D : va_G} {ca G : Nat → Nat} {A : Nat → Prop} (C0 : hC p s m args meth c D ca G prog_1_method_19_code 1 (some .boolean) "ChannelHall" A) {post : Int32 → hM → Prop} {M : hM} {H : Heap} {locs : List Loc} {ls : Array Slot}  (h : wp_Ha_isChannel_14 G ca post M) (hW : hw D wCl A M H) (hS : va_S A s.heap H locs) (hl : lv_has ls 1 []) : W p l e rm_Ha_isChannel s m args below meth c H locs 0 0 (MQ below (va_Qi post (fun M' t => hw D wCl A M' t.heap) A) args s 0 0 A) (F0 m 14 ls []) := by
  obtain ⟨hx, hb, hr, hml, hown, hts, hlocks, hK, hA, hZ0⟩ := id C0
  refine lv_iconst (v := 0) hx hb d_Ha_isChannel_14 (by decide) ?_
  exact l_Ha_isChannel_15 C0 0 h hW hS (lv_sub hl [] rfl)
set_option maxHeartbeats 1000000 in
set_option maxRecDepth 20000 in
theorem l_Ha_isChannel_e {p : Program} {l : Launch} {e : Env} {s : State} {m : MethodId} {args : Array Value} {below : List Frame} {meth : Method} {c : Code} {D : va_G} {ca G : Nat → Nat} {A : Nat → Prop} (C0 : hC p s m args meth c D ca G prog_1_method_19_code 1 (some .boolean) "ChannelHall" A) {post : Int32 → hM → Prop} {M : hM} {H : Heap} {locs : List Loc} {ls : Array Slot} (x0 : Int32) (h : wp_Ha_isChannel G ca post M x0) (hW : hw D wCl A M H) (hS : va_S A s.heap H locs) (hl : lv_has ls 1 [(0, .int x0)]) : W p l e rm_Ha_isChannel s m args below meth c H locs 0 0 (MQ below (va_Qi post (fun M' t => hw D wCl A M' t.heap) A) args s 0 0 A) (F0 m 0 ls []) := by
  obtain ⟨hx, hb, hr, hml, hown, hts, hlocks, hK, hA, hZ0⟩ := id C0
  refine lv_iload_n hx hb d_Ha_isChannel_0 rfl (lv_at hl 0 rfl) ?_
  obtain ⟨h0, h1⟩ := h
  refine lv_if_lt (tgt := 14) hx hb d_Ha_isChannel_1 (by decide) (fun c3 => ?_) (fun c3 => ?_)
  · have h := h0 c3
    exact l_Ha_isChannel_14 C0  h hW hS (lv_sub hl [] rfl)
  · have h := h1 c3
    refine lv_iload_n hx hb d_Ha_isChannel_4 rfl (lv_at hl 0 rfl) ?_
    refine lv_bipush (v := 8) hx hb d_Ha_isChannel_5 (by decide) ?_
    obtain ⟨h0, h1⟩ := h
    refine lv_icmp_ge (tgt := 14) hx hb d_Ha_isChannel_7 (by decide) (fun c4 => ?_) (fun c4 => ?_)
    · have h := h0 c4
      exact l_Ha_isChannel_14 C0  h hW hS (lv_sub hl [] rfl)
    · have h := h1 c4
      refine lv_iconst (v := 1) hx hb d_Ha_isChannel_10 (by decide) ?_
      refine lv_goto (tgt := 15) hx hb d_Ha_isChannel_11 (by decide) ?_
      exact l_Ha_isChannel_15 C0 1 h hW hS (lv_sub hl [] rfl)
set_option maxRecDepth 20000 in
theorem c_Ha_isChannel {l : Launch} {D : va_G} {ca G : Nat → Nat} (post : Int32 → hM → Prop) {M : hM} {sz : Nat} {x0 : Int32} (h : wp_Ha_isChannel G ca post M x0) : Met l y_Ha_isChannel (wz y_Ha_isChannel prog_1_method_19_code 1 (some .boolean)) rm_Ha_isChannel (va_Pc [.int x0] (hI D ca G sz M)) (va_Qi post (hB D M sz) (hp_A M sz)) 0 0 (hp_A M sz) := by
  refine Met.ofW (cc := prog_1_method_19_code) (maxL := 1) (ret := some .boolean) (by decide) rfl ?_
  intro p e s m args below meth c s₁ B hml hv
  obtain ⟨rfl, hsz, hW, hK, hZ0⟩ := hv
  have hts := fun w hw => atoms_spec (ws := wz y_Ha_isChannel prog_1_method_19_code 1 (some .boolean)) B.pre w (List.mem_cons_of_mem _ hw)
  have hown : s.vm.findClass "ChannelHall" = some m.cls := findClass_of_methodNamed B.named
  subst hsz
  have hl := lv_entry [.int x0] (n := 1) (Nat.le_of_ble_eq_true rfl)
  rw [lg_entry_eq]
  exact l_Ha_isChannel_e ⟨B.exec, B.bytes, B.returns, hml, hown, hts, B.notSynchronized, hK, fun q h => Or.inr h, hZ0⟩ x0 h hW va_S.rf hl

theorem d_Ha_isLimit_0 : decode prog_1_method_20_code 0 = .ok (.dload_n 0, 1) := by decide +kernel
theorem d_Ha_isLimit_1 : decode prog_1_method_20_code 1 = .ok (.ldc2_w 239, 3) := by decide +kernel
theorem d_Ha_isLimit_4 : decode prog_1_method_20_code 4 = .ok (.dcmp .l, 1) := by decide +kernel
theorem d_Ha_isLimit_5 : decode prog_1_method_20_code 5 = .ok (.ifCond .lt 15, 3) := by decide +kernel
theorem d_Ha_isLimit_8 : decode prog_1_method_20_code 8 = .ok (.dload_n 0, 1) := by decide +kernel
theorem d_Ha_isLimit_9 : decode prog_1_method_20_code 9 = .ok (.ldc2_w 55, 3) := by decide +kernel
theorem d_Ha_isLimit_12 : decode prog_1_method_20_code 12 = .ok (.dcmp .g, 1) := by decide +kernel
theorem d_Ha_isLimit_13 : decode prog_1_method_20_code 13 = .ok (.ifCond .gt 7, 3) := by decide +kernel
theorem d_Ha_isLimit_16 : decode prog_1_method_20_code 16 = .ok (.iconst 1, 1) := by decide +kernel
theorem d_Ha_isLimit_17 : decode prog_1_method_20_code 17 = .ok (.goto 4, 3) := by decide +kernel
theorem d_Ha_isLimit_20 : decode prog_1_method_20_code 20 = .ok (.iconst 0, 1) := by decide +kernel
theorem d_Ha_isLimit_21 : decode prog_1_method_20_code 21 = .ok (.ireturn, 1) := by decide +kernel
def y_Ha_isLimit : MethodName := ⟨"ChannelHall", "isLimit", "(D)Z"⟩
abbrev rm_Ha_isLimit : Room := { frames := 0, cells := 0, slots := 0, locals := 0 }
def wp_Ha_isLimit_21 (G ca : Nat → Nat) (post : Int32 → hM → Prop) (M : hM) (s0b21 : Int32) : Prop := bZ s0b21 (post s0b21 M)
def wp_Ha_isLimit_20 (G ca : Nat → Nat) (post : Int32 → hM → Prop) (M : hM)  : Prop := wp_Ha_isLimit_21 G ca post M 0
def wp_Ha_isLimit (G ca : Nat → Nat) (post : Int32 → hM → Prop) (M : hM) (x0 : UInt64) : Prop := ((Op.cmpValue (FP.dcmp x0 13830554455654793216) .l) < 0 → wp_Ha_isLimit_20 G ca post M) ∧ (¬ (Op.cmpValue (FP.dcmp x0 13830554455654793216) .l) < 0 → (0 < (Op.cmpValue (FP.dcmp x0 4652007308841189376) .g) → wp_Ha_isLimit_20 G ca post M) ∧ (¬ 0 < (Op.cmpValue (FP.dcmp x0 4652007308841189376) .g) → wp_Ha_isLimit_21 G ca post M 1))
set_option maxHeartbeats 1000000 in
set_option maxRecDepth 20000 in
theorem l_Ha_isLimit_21 {p : Program} {l : Launch} {e : Env} {s : State} {m : MethodId} {args : Array Value} {below : List Frame} {meth : Method} {c : Code} {D : va_G} {ca G : Nat → Nat} {A : Nat → Prop} (C0 : hC p s m args meth c D ca G prog_1_method_20_code 2 (some .boolean) "ChannelHall" A) {post : Int32 → hM → Prop} {M : hM} {H : Heap} {locs : List Loc} {ls : Array Slot} (s0b21 : Int32) (h : wp_Ha_isLimit_21 G ca post M s0b21) (hW : hw D wCl A M H) (hS : va_S A s.heap H locs) (hl : lv_has ls 2 []) : W p l e rm_Ha_isLimit s m args below meth c H locs 0 0 (MQ below (va_Qi post (fun M' t => hw D wCl A M' t.heap) A) args s 0 0 A) (F0 m 21 ls [.int s0b21]) := by
  obtain ⟨hx, hb, hr, hml, hown, hts, hlocks, hK, hA, hZ0⟩ := id C0
  obtain ⟨hz, h⟩ := h
  exact W.zret hx hb hr (nb_n hz) (fun t ht hWm => ⟨⟨_, _, rfl, h, hw_t ht hW⟩, hS.F ht⟩) hS.2.2 d_Ha_isLimit_21
set_option maxHeartbeats 1000000 in
set_option maxRecDepth 20000 in
theorem l_Ha_isLimit_20 {p : Program} {l : Launch} {e : Env} {s : State} {m : MethodId} {args : Array Value} {below : List Frame} {meth : Method} {c : Code} {D : va_G} {ca G : Nat → Nat} {A : Nat → Prop} (C0 : hC p s m args meth c D ca G prog_1_method_20_code 2 (some .boolean) "ChannelHall" A) {post : Int32 → hM → Prop} {M : hM} {H : Heap} {locs : List Loc} {ls : Array Slot}  (h : wp_Ha_isLimit_20 G ca post M) (hW : hw D wCl A M H) (hS : va_S A s.heap H locs) (hl : lv_has ls 2 []) : W p l e rm_Ha_isLimit s m args below meth c H locs 0 0 (MQ below (va_Qi post (fun M' t => hw D wCl A M' t.heap) A) args s 0 0 A) (F0 m 20 ls []) := by
  obtain ⟨hx, hb, hr, hml, hown, hts, hlocks, hK, hA, hZ0⟩ := id C0
  refine lv_iconst (v := 0) hx hb d_Ha_isLimit_20 (by decide) ?_
  exact l_Ha_isLimit_21 C0 0 h hW hS (lv_sub hl [] rfl)
set_option maxHeartbeats 1000000 in
set_option maxRecDepth 20000 in
theorem l_Ha_isLimit_e {p : Program} {l : Launch} {e : Env} {s : State} {m : MethodId} {args : Array Value} {below : List Frame} {meth : Method} {c : Code} {D : va_G} {ca G : Nat → Nat} {A : Nat → Prop} (C0 : hC p s m args meth c D ca G prog_1_method_20_code 2 (some .boolean) "ChannelHall" A) {post : Int32 → hM → Prop} {M : hM} {H : Heap} {locs : List Loc} {ls : Array Slot} (x0 : UInt64) (h : wp_Ha_isLimit G ca post M x0) (hW : hw D wCl A M H) (hS : va_S A s.heap H locs) (hl : lv_has ls 2 [(0, .double x0)]) : W p l e rm_Ha_isLimit s m args below meth c H locs 0 0 (MQ below (va_Qi post (fun M' t => hw D wCl A M' t.heap) A) args s 0 0 A) (F0 m 0 ls []) := by
  obtain ⟨hx, hb, hr, hml, hown, hts, hlocks, hK, hA, hZ0⟩ := id C0
  refine lv_dload_n hx hb d_Ha_isLimit_0 rfl (lv_at hl 0 rfl) ?_
  refine lv_ldc2d (v := 13830554455654793216) hx hb hown (hts _ bw_308) d_Ha_isLimit_1 ?_
  refine lv_dcmp hx hb d_Ha_isLimit_4 ?_
  obtain ⟨h0, h1⟩ := h
  refine lv_if_lt (tgt := 20) hx hb d_Ha_isLimit_5 (by decide) (fun c3 => ?_) (fun c3 => ?_)
  · have h := h0 c3
    exact l_Ha_isLimit_20 C0  h hW hS (lv_sub hl [] rfl)
  · have h := h1 c3
    refine lv_dload_n hx hb d_Ha_isLimit_8 rfl (lv_at hl 0 rfl) ?_
    refine lv_ldc2d (v := 4652007308841189376) hx hb hown (hts _ bw_304) d_Ha_isLimit_9 ?_
    refine lv_dcmp hx hb d_Ha_isLimit_12 ?_
    obtain ⟨h0, h1⟩ := h
    refine lv_if_gt (tgt := 20) hx hb d_Ha_isLimit_13 (by decide) (fun c4 => ?_) (fun c4 => ?_)
    · have h := h0 c4
      exact l_Ha_isLimit_20 C0  h hW hS (lv_sub hl [] rfl)
    · have h := h1 c4
      refine lv_iconst (v := 1) hx hb d_Ha_isLimit_16 (by decide) ?_
      refine lv_goto (tgt := 21) hx hb d_Ha_isLimit_17 (by decide) ?_
      exact l_Ha_isLimit_21 C0 1 h hW hS (lv_sub hl [] rfl)
set_option maxRecDepth 20000 in
theorem c_Ha_isLimit {l : Launch} {D : va_G} {ca G : Nat → Nat} (post : Int32 → hM → Prop) {M : hM} {sz : Nat} {x0 : UInt64} (h : wp_Ha_isLimit G ca post M x0) : Met l y_Ha_isLimit (wz y_Ha_isLimit prog_1_method_20_code 2 (some .boolean)) rm_Ha_isLimit (va_Pc [.double x0] (hI D ca G sz M)) (va_Qi post (hB D M sz) (hp_A M sz)) 0 0 (hp_A M sz) := by
  refine Met.ofW (cc := prog_1_method_20_code) (maxL := 2) (ret := some .boolean) (by decide) rfl ?_
  intro p e s m args below meth c s₁ B hml hv
  obtain ⟨rfl, hsz, hW, hK, hZ0⟩ := hv
  have hts := fun w hw => atoms_spec (ws := wz y_Ha_isLimit prog_1_method_20_code 2 (some .boolean)) B.pre w (List.mem_cons_of_mem _ hw)
  have hown : s.vm.findClass "ChannelHall" = some m.cls := findClass_of_methodNamed B.named
  subst hsz
  have hl := lv_entry [.double x0] (n := 2) (Nat.le_of_ble_eq_true rfl)
  rw [lg_entry_eq]
  exact l_Ha_isLimit_e ⟨B.exec, B.bytes, B.returns, hml, hown, hts, B.notSynchronized, hK, fun q h => Or.inr h, hZ0⟩ x0 h hW va_S.rf hl

theorem d_Ch_holdsItems_0 : decode prog_2_method_3_code 0 = .ok (.aload_n 0, 1) := by decide +kernel
theorem d_Ch_holdsItems_1 : decode prog_2_method_3_code 1 = .ok (.getfield 39, 3) := by decide +kernel
theorem d_Ch_holdsItems_4 : decode prog_2_method_3_code 4 = .ok (.iconst 4, 1) := by decide +kernel
theorem d_Ch_holdsItems_5 : decode prog_2_method_3_code 5 = .ok (.if_icmp .gt 7, 3) := by decide +kernel
theorem d_Ch_holdsItems_8 : decode prog_2_method_3_code 8 = .ok (.iconst 1, 1) := by decide +kernel
theorem d_Ch_holdsItems_9 : decode prog_2_method_3_code 9 = .ok (.goto 4, 3) := by decide +kernel
theorem d_Ch_holdsItems_12 : decode prog_2_method_3_code 12 = .ok (.iconst 0, 1) := by decide +kernel
theorem d_Ch_holdsItems_13 : decode prog_2_method_3_code 13 = .ok (.ireturn, 1) := by decide +kernel
def y_Ch_holdsItems : MethodName := ⟨"ChannelHall$Channel", "holdsItems", "()Z"⟩
abbrev rm_Ch_holdsItems : Room := { frames := 0, cells := 0, slots := 0, locals := 0 }
def wp_Ch_holdsItems_13 (G ca : Nat → Nat) (post : Int32 → hM → Prop) (M : hM) (s0b13 : Int32) : Prop := bZ s0b13 (post s0b13 M)
def wp_Ch_holdsItems (G ca : Nat → Nat) (post : Int32 → hM → Prop) (M : hM) (a0 : Nat) : Prop := gI M a0 0 1 fun v3 => (4 < v3 → wp_Ch_holdsItems_13 G ca post M 0) ∧ (¬ 4 < v3 → wp_Ch_holdsItems_13 G ca post M 1)
set_option maxHeartbeats 1000000 in
set_option maxRecDepth 20000 in
theorem l_Ch_holdsItems_13 {p : Program} {l : Launch} {e : Env} {s : State} {m : MethodId} {args : Array Value} {below : List Frame} {meth : Method} {c : Code} {D : va_G} {ca G : Nat → Nat} {A : Nat → Prop} (C0 : hC p s m args meth c D ca G prog_2_method_3_code 1 (some .boolean) "ChannelHall$Channel" A) {post : Int32 → hM → Prop} {M : hM} {H : Heap} {locs : List Loc} {ls : Array Slot} (s0b13 : Int32) (h : wp_Ch_holdsItems_13 G ca post M s0b13) (hW : hw D wCl A M H) (hS : va_S A s.heap H locs) (hl : lv_has ls 1 []) : W p l e rm_Ch_holdsItems s m args below meth c H locs 0 0 (MQ below (va_Qi post (fun M' t => hw D wCl A M' t.heap) A) args s 0 0 A) (F0 m 13 ls [.int s0b13]) := by
  obtain ⟨hx, hb, hr, hml, hown, hts, hlocks, hK, hA, hZ0⟩ := id C0
  obtain ⟨hz, h⟩ := h
  exact W.zret hx hb hr (nb_n hz) (fun t ht hWm => ⟨⟨_, _, rfl, h, hw_t ht hW⟩, hS.F ht⟩) hS.2.2 d_Ch_holdsItems_13
set_option maxHeartbeats 1000000 in
set_option maxRecDepth 20000 in
theorem l_Ch_holdsItems_e {p : Program} {l : Launch} {e : Env} {s : State} {m : MethodId} {args : Array Value} {below : List Frame} {meth : Method} {c : Code} {D : va_G} {ca G : Nat → Nat} {A : Nat → Prop} (C0 : hC p s m args meth c D ca G prog_2_method_3_code 1 (some .boolean) "ChannelHall$Channel" A) {post : Int32 → hM → Prop} {M : hM} {H : Heap} {locs : List Loc} {ls : Array Slot} (a0 : Nat) (h : wp_Ch_holdsItems G ca post M a0) (hW : hw D wCl A M H) (hS : va_S A s.heap H locs) (hl : lv_has ls 1 [(0, .ref a0)]) : W p l e rm_Ch_holdsItems s m args below meth c H locs 0 0 (MQ below (va_Qi post (fun M' t => hw D wCl A M' t.heap) A) args s 0 0 A) (F0 m 0 ls []) := by
  obtain ⟨hx, hb, hr, hml, hown, hts, hlocks, hK, hA, hZ0⟩ := id C0
  refine lv_aload_n hx hb d_Ch_holdsItems_0 rfl (lv_at hl 0 rfl) ?_
  obtain ⟨fs, v3, h1, h2, h⟩ := h
  refine va_get (D := D) (ci := 0) (v := .int v3) (C := "ChannelHall$Channel") (T := TCh) (N := 10) hx hb hts uCh hown hK (hw_one hW h1) 0 rfl rfl 1 (by decide) (hts _ bw_253) (fun _ h9 => h9) h2 d_Ch_holdsItems_1 ?_
  refine lv_iconst (v := 4) hx hb d_Ch_holdsItems_4 (by decide) ?_
  obtain ⟨h0, h1⟩ := h
  refine lv_icmp_gt (tgt := 12) hx hb d_Ch_holdsItems_5 (by decide) (fun c4 => ?_) (fun c4 => ?_)
  · have h := h0 c4
    refine lv_iconst (v := 0) hx hb d_Ch_holdsItems_12 (by decide) ?_
    exact l_Ch_holdsItems_13 C0 0 h hW hS (lv_sub hl [] rfl)
  · have h := h1 c4
    refine lv_iconst (v := 1) hx hb d_Ch_holdsItems_8 (by decide) ?_
    refine lv_goto (tgt := 13) hx hb d_Ch_holdsItems_9 (by decide) ?_
    exact l_Ch_holdsItems_13 C0 1 h hW hS (lv_sub hl [] rfl)
set_option maxRecDepth 20000 in
theorem c_Ch_holdsItems {l : Launch} {D : va_G} {ca G : Nat → Nat} (post : Int32 → hM → Prop) {M : hM} {sz : Nat} {a0 : Nat} (h : wp_Ch_holdsItems G ca post M a0) : Met l y_Ch_holdsItems (wz y_Ch_holdsItems prog_2_method_3_code 1 (some .boolean)) rm_Ch_holdsItems (va_Pc [.ref a0] (hI D ca G sz M)) (va_Qi post (hB D M sz) (hp_A M sz)) 0 0 (hp_A M sz) := by
  refine Met.ofW (cc := prog_2_method_3_code) (maxL := 1) (ret := some .boolean) (by decide) rfl ?_
  intro p e s m args below meth c s₁ B hml hv
  obtain ⟨rfl, hsz, hW, hK, hZ0⟩ := hv
  have hts := fun w hw => atoms_spec (ws := wz y_Ch_holdsItems prog_2_method_3_code 1 (some .boolean)) B.pre w (List.mem_cons_of_mem _ hw)
  have hown : s.vm.findClass "ChannelHall$Channel" = some m.cls := findClass_of_methodNamed B.named
  subst hsz
  have hl := lv_entry [.ref a0] (n := 1) (Nat.le_of_ble_eq_true rfl)
  rw [lg_entry_eq]
  exact l_Ch_holdsItems_e ⟨B.exec, B.bytes, B.returns, hml, hown, hts, B.notSynchronized, hK, fun q h => Or.inr h, hZ0⟩ a0 h hW va_S.rf hl

theorem d_Ch_addStay_0 : decode prog_2_method_19_code 0 = .ok (.aload_n 0, 1) := by decide +kernel
theorem d_Ch_addStay_1 : decode prog_2_method_19_code 1 = .ok (.dup, 1) := by decide +kernel
theorem d_Ch_addStay_2 : decode prog_2_method_19_code 2 = .ok (.getfield 29, 3) := by decide +kernel
theorem d_Ch_addStay_5 : decode prog_2_method_19_code 5 = .ok (.dload_n 1, 1) := by decide +kernel
theorem d_Ch_addStay_6 : decode prog_2_method_19_code 6 = .ok (.dadd, 1) := by decide +kernel
theorem d_Ch_addStay_7 : decode prog_2_method_19_code 7 = .ok (.putfield 29, 3) := by decide +kernel
theorem d_Ch_addStay_10 : decode prog_2_method_19_code 10 = .ok (.aload_n 0, 1) := by decide +kernel
theorem d_Ch_addStay_11 : decode prog_2_method_19_code 11 = .ok (.dup, 1) := by decide +kernel
theorem d_Ch_addStay_12 : decode prog_2_method_19_code 12 = .ok (.getfield 33, 3) := by decide +kernel
theorem d_Ch_addStay_15 : decode prog_2_method_19_code 15 = .ok (.iconst 1, 1) := by decide +kernel
theorem d_Ch_addStay_16 : decode prog_2_method_19_code 16 = .ok (.iadd, 1) := by decide +kernel
theorem d_Ch_addStay_17 : decode prog_2_method_19_code 17 = .ok (.putfield 33, 3) := by decide +kernel
theorem d_Ch_addStay_20 : decode prog_2_method_19_code 20 = .ok (.return_, 1) := by decide +kernel
def y_Ch_addStay : MethodName := ⟨"ChannelHall$Channel", "addStay", "(D)V"⟩
abbrev rm_Ch_addStay : Room := { frames := 0, cells := 0, slots := 0, locals := 0 }
def wp_Ch_addStay (G ca : Nat → Nat) (post : hM → Prop) (M : hM) (a0 : Nat) (x1 : UInt64) : Prop := gD M a0 0 8 fun v5 => nD (FP.dadd v5 x1) (pF M a0 0 8 (.double (FP.dadd v5 x1)) fun M6 => gI M6 a0 0 9 fun v7 => pF M6 a0 0 9 (.int (v7 + 1)) fun M8 => post M8)
set_option maxHeartbeats 1000000 in
set_option maxRecDepth 20000 in
theorem l_Ch_addStay_e {p : Program} {l : Launch} {e : Env} {s : State} {m : MethodId} {args : Array Value} {below : List Frame} {meth : Method} {c : Code} {D : va_G} {ca G : Nat → Nat} {A : Nat → Prop} (C0 : hC p s m args meth c D ca G prog_2_method_19_code 3 (none) "ChannelHall$Channel" A) {post : hM → Prop} {M : hM} {H : Heap} {locs : List Loc} {ls : Array Slot} (a0 : Nat) (x1 : UInt64) (h : wp_Ch_addStay G ca post M a0 x1) (hW : hw D wCl A M H) (hS : va_S A s.heap H locs) (hl : lv_has ls 3 [(0, .ref a0), (1, .double x1)]) : W p l e rm_Ch_addStay s m args below meth c H locs 0 0 (MQ below (va_Qv post (fun M' t => hw D wCl A M' t.heap) A) args s 0 0 A) (F0 m 0 ls []) := by
  obtain ⟨hx, hb, hr, hml, hown, hts, hlocks, hK, hA, hZ0⟩ := id C0
  refine lv_aload_n hx hb d_Ch_addStay_0 rfl (lv_at hl 0 rfl) ?_
  refine lv_dup hx hb d_Ch_addStay_1 rfl ?_
  obtain ⟨fs, v5, h1, h2, h⟩ := h
  refine va_get (D := D) (ci := 0) (v := .double v5) (C := "ChannelHall$Channel") (T := TCh) (N := 10) hx hb hts uCh hown hK (hw_one hW h1) 0 rfl rfl 8 (by decide) (hts _ bw_266) (fun _ h9 => h9) h2 d_Ch_addStay_2 ?_
  refine lv_dload_n hx hb d_Ch_addStay_5 rfl (lv_at hl 1 rfl) ?_
  obtain ⟨hn, h⟩ := h
  refine lv_dadd hx hb d_Ch_addStay_6 hn ?_
  obtain ⟨fs, h1, h2, h⟩ := h
  obtain ⟨ws, q0, hq, hP, hD, hback, -⟩ := hw_open hW h1
  refine va_put (D := D) (ci := 0) (v := .double (FP.dadd v5 x1)) (ty := .double) (C := "ChannelHall$Channel") (T := TCh) (N := 10) hx hb hts uCh tCh tCh_ok nCh hown hK hP hD hS q0 hq rfl 8 (by decide) (hts _ bw_266) (fun _ h9 => h9) rfl (by decide +kernel) rfl rfl h2 d_Ch_addStay_7 (fun H locs hP hD hS => ?_)
  have hW := hback _ _ hP hD
  generalize (va_up M a0 (some (.inr (0, fs.set 8 (.double (FP.dadd v5 x1)))))) = M6 at h hW
  refine lv_aload_n hx hb d_Ch_addStay_10 rfl (lv_at hl 0 rfl) ?_
  refine lv_dup hx hb d_Ch_addStay_11 rfl ?_
  obtain ⟨fs, v7, h1, h2, h⟩ := h
  refine va_get (D := D) (ci := 0) (v := .int v7) (C := "ChannelHall$Channel") (T := TCh) (N := 10) hx hb hts uCh hown hK (hw_one hW h1) 0 rfl rfl 9 (by decide) (hts _ bw_268) (fun _ h9 => h9) h2 d_Ch_addStay_12 ?_
  refine lv_iconst (v := 1) hx hb d_Ch_addStay_15 (by decide) ?_
  refine lv_iadd hx hb d_Ch_addStay_16 ?_
  obtain ⟨fs, h1, h2, h⟩ := h
  obtain ⟨ws, q0, hq, hP, hD, hback, -⟩ := hw_open hW h1
  refine va_put (D := D) (ci := 0) (v := .int (v7 + 1)) (ty := .int) (C := "ChannelHall$Channel") (T := TCh) (N := 10) hx hb hts uCh tCh tCh_ok nCh hown hK hP hD hS q0 hq rfl 9 (by decide) (hts _ bw_268) (fun _ h9 => h9) rfl (by decide +kernel) rfl rfl h2 d_Ch_addStay_17 (fun H locs hP hD hS => ?_)
  have hW := hback _ _ hP hD
  generalize (va_up M6 a0 (some (.inr (0, fs.set 9 (.int (v7 + 1)))))) = M8 at h hW
  exact W.vret hx hb hr (fun t ht hWm => ⟨⟨_, rfl, h, hw_t ht hW⟩, hS.F ht⟩) hS.2.2 d_Ch_addStay_20
set_option maxRecDepth 20000 in
theorem c_Ch_addStay {l : Launch} {D : va_G} {ca G : Nat → Nat} (post : hM → Prop) {M : hM} {sz : Nat} {a0 : Nat} {x1 : UInt64} (h : wp_Ch_addStay G ca post M a0 x1) : Met l y_Ch_addStay (wz y_Ch_addStay prog_2_method_19_code 3 (none)) rm_Ch_addStay (va_Pc [.ref a0, .double x1] (hI D ca G sz M)) (va_Qv post (hB D M sz) (hp_A M sz)) 0 0 (hp_A M sz) := by
  refine Met.ofW (cc := prog_2_method_19_code) (maxL := 3) (ret := none) (by decide) rfl ?_
  intro p e s m args below meth c s₁ B hml hv
  obtain ⟨rfl, hsz, hW, hK, hZ0⟩ := hv
  have hts := fun w hw => atoms_spec (ws := wz y_Ch_addStay prog_2_method_19_code 3 (none)) B.pre w (List.mem_cons_of_mem _ hw)
  have hown : s.vm.findClass "ChannelHall$Channel" = some m.cls := findClass_of_methodNamed B.named
  subst hsz
  have hl := lv_entry [.ref a0, .double x1] (n := 3) (Nat.le_of_ble_eq_true rfl)
  rw [lg_entry_eq]
  exact l_Ch_addStay_e ⟨B.exec, B.bytes, B.returns, hml, hown, hts, B.notSynchronized, hK, fun q h => Or.inr h, hZ0⟩ a0 x1 h hW va_S.rf hl

theorem d_Ch_roomOf_0 : decode prog_2_method_2_code 0 = .ok (.iload_n 0, 1) := by decide +kernel
theorem d_Ch_roomOf_1 : decode prog_2_method_2_code 1 = .ok (.tableswitch 43 0 4 #[35, 37, 43, 40, 40], 35) := by decide +kernel
theorem d_Ch_roomOf_36 : decode prog_2_method_2_code 36 = .ok (.iload_n 1, 1) := by decide +kernel
theorem d_Ch_roomOf_37 : decode prog_2_method_2_code 37 = .ok (.ireturn, 1) := by decide +kernel
theorem d_Ch_roomOf_38 : decode prog_2_method_2_code 38 = .ok (.bipush 16, 2) := by decide +kernel
theorem d_Ch_roomOf_40 : decode prog_2_method_2_code 40 = .ok (.ireturn, 1) := by decide +kernel
theorem d_Ch_roomOf_41 : decode prog_2_method_2_code 41 = .ok (.bipush 6, 2) := by decide +kernel
theorem d_Ch_roomOf_43 : decode prog_2_method_2_code 43 = .ok (.ireturn, 1) := by decide +kernel
theorem d_Ch_roomOf_44 : decode prog_2_method_2_code 44 = .ok (.iconst 0, 1) := by decide +kernel
theorem d_Ch_roomOf_45 : decode prog_2_method_2_code 45 = .ok (.ireturn, 1) := by decide +kernel
def y_Ch_roomOf : MethodName := ⟨"ChannelHall$Channel", "roomOf", "(II)I"⟩
abbrev rm_Ch_roomOf : Room := { frames := 0, cells := 0, slots := 0, locals := 0 }
def wp_Ch_roomOf_44 (G ca : Nat → Nat) (post : Int32 → hM → Prop) (M : hM)  : Prop := post 0 M
def wp_Ch_roomOf_41 (G ca : Nat → Nat) (post : Int32 → hM → Prop) (M : hM)  : Prop := post 6 M
def wp_Ch_roomOf (G ca : Nat → Nat) (post : Int32 → hM → Prop) (M : hM) (x0 : Int32) (x1 : Int32) : Prop := (x0 = 0 → post x1 M) ∧ (¬ x0 = 0 → (x0 = 1 → post 16 M) ∧ (¬ x0 = 1 → (x0 = 2 → wp_Ch_roomOf_44 G ca post M) ∧ (¬ x0 = 2 → (x0 = 3 → wp_Ch_roomOf_41 G ca post M) ∧ (¬ x0 = 3 → (x0 = 4 → wp_Ch_roomOf_41 G ca post M) ∧ (¬ x0 = 4 → wp_Ch_roomOf_44 G ca post M)))))
set_option maxHeartbeats 1000000 in
set_option maxRecDepth 20000 in
theorem l_Ch_roomOf_44 {p : Program} {l : Launch} {e : Env} {s : State} {m : MethodId} {args : Array Value} {below : List Frame} {meth : Method} {c : Code} {D : va_G} {ca G : Nat → Nat} {A : Nat → Prop} (C0 : hC p s m args meth c D ca G prog_2_method_2_code 2 (some .int) "ChannelHall$Channel" A) {post : Int32 → hM → Prop} {M : hM} {H : Heap} {locs : List Loc} {ls : Array Slot}  (h : wp_Ch_roomOf_44 G ca post M) (hW : hw D wCl A M H) (hS : va_S A s.heap H locs) (hl : lv_has ls 2 []) : W p l e rm_Ch_roomOf s m args below meth c H locs 0 0 (MQ below (va_Qi post (fun M' t => hw D wCl A M' t.heap) A) args s 0 0 A) (F0 m 44 ls []) := by
  obtain ⟨hx, hb, hr, hml, hown, hts, hlocks, hK, hA, hZ0⟩ := id C0
  refine lv_iconst (v := 0) hx hb d_Ch_roomOf_44 (by decide) ?_
  exact W.iret hx hb hr (fun t ht hWm => ⟨⟨_, _, rfl, h, hw_t ht hW⟩, hS.F ht⟩) hS.2.2 d_Ch_roomOf_45
set_option maxHeartbeats 1000000 in
set_option maxRecDepth 20000 in
theorem l_Ch_roomOf_41 {p : Program} {l : Launch} {e : Env} {s : State} {m : MethodId} {args : Array Value} {below : List Frame} {meth : Method} {c : Code} {D : va_G} {ca G : Nat → Nat} {A : Nat → Prop} (C0 : hC p s m args meth c D ca G prog_2_method_2_code 2 (some .int) "ChannelHall$Channel" A) {post : Int32 → hM → Prop} {M : hM} {H : Heap} {locs : List Loc} {ls : Array Slot}  (h : wp_Ch_roomOf_41 G ca post M) (hW : hw D wCl A M H) (hS : va_S A s.heap H locs) (hl : lv_has ls 2 []) : W p l e rm_Ch_roomOf s m args below meth c H locs 0 0 (MQ below (va_Qi post (fun M' t => hw D wCl A M' t.heap) A) args s 0 0 A) (F0 m 41 ls []) := by
  obtain ⟨hx, hb, hr, hml, hown, hts, hlocks, hK, hA, hZ0⟩ := id C0
  refine lv_bipush (v := 6) hx hb d_Ch_roomOf_41 (by decide) ?_
  exact W.iret hx hb hr (fun t ht hWm => ⟨⟨_, _, rfl, h, hw_t ht hW⟩, hS.F ht⟩) hS.2.2 d_Ch_roomOf_43
set_option maxHeartbeats 1000000 in
set_option maxRecDepth 20000 in
theorem l_Ch_roomOf_e {p : Program} {l : Launch} {e : Env} {s : State} {m : MethodId} {args : Array Value} {below : List Frame} {meth : Method} {c : Code} {D : va_G} {ca G : Nat → Nat} {A : Nat → Prop} (C0 : hC p s m args meth c D ca G prog_2_method_2_code 2 (some .int) "ChannelHall$Channel" A) {post : Int32 → hM → Prop} {M : hM} {H : Heap} {locs : List Loc} {ls : Array Slot} (x0 : Int32) (x1 : Int32) (h : wp_Ch_roomOf G ca post M x0 x1) (hW : hw D wCl A M H) (hS : va_S A s.heap H locs) (hl : lv_has ls 2 [(0, .int x0), (1, .int x1)]) : W p l e rm_Ch_roomOf s m args below meth c H locs 0 0 (MQ below (va_Qi post (fun M' t => hw D wCl A M' t.heap) A) args s 0 0 A) (F0 m 0 ls []) := by
  obtain ⟨hx, hb, hr, hml, hown, hts, hlocks, hK, hA, hZ0⟩ := id C0
  refine lv_iload_n hx hb d_Ch_roomOf_0 rfl (lv_at hl 0 rfl) ?_
  obtain ⟨h0, h1⟩ := h
  by_cases c0 : x0 = 0
  · have h := h0 c0
    rw [c0]
    refine lv_tableIn (off := 35) (tgt := 36) hx hb d_Ch_roomOf_1 (by decide) (by decide) (by decide) (by decide) ?_
    refine lv_iload_n hx hb d_Ch_roomOf_36 rfl (lv_at hl 1 rfl) ?_
    exact W.iret hx hb hr (fun t ht hWm => ⟨⟨_, _, rfl, h, hw_t ht hW⟩, hS.F ht⟩) hS.2.2 d_Ch_roomOf_37
  · have h := h1 c0
    obtain ⟨h0, h1⟩ := h
    by_cases c1 : x0 = 1
    · have h := h0 c1
      rw [c1]
      refine lv_tableIn (off := 37) (tgt := 38) hx hb d_Ch_roomOf_1 (by decide) (by decide) (by decide) (by decide) ?_
      refine lv_bipush (v := 16) hx hb d_Ch_roomOf_38 (by decide) ?_
      exact W.iret hx hb hr (fun t ht hWm => ⟨⟨_, _, rfl, h, hw_t ht hW⟩, hS.F ht⟩) hS.2.2 d_Ch_roomOf_40
    · have h := h1 c1
      obtain ⟨h0, h1⟩ := h
      by_cases c2 : x0 = 2
      · have h := h0 c2
        rw [c2]
        refine lv_tableIn (off := 43) (tgt := 44) hx hb d_Ch_roomOf_1 (by decide) (by decide) (by decide) (by decide) ?_
        exact l_Ch_roomOf_44 C0  h hW hS (lv_sub hl [] rfl)
      · have h := h1 c2
        obtain ⟨h0, h1⟩ := h
        by_cases c3 : x0 = 3
        · have h := h0 c3
          rw [c3]
          refine lv_tableIn (off := 40) (tgt := 41) hx hb d_Ch_roomOf_1 (by decide) (by decide) (by decide) (by decide) ?_
          exact l_Ch_roomOf_41 C0  h hW hS (lv_sub hl [] rfl)
        · have h := h1 c3
          obtain ⟨h0, h1⟩ := h
          by_cases c4 : x0 = 4
          · have h := h0 c4
            rw [c4]
            refine lv_tableIn (off := 40) (tgt := 41) hx hb d_Ch_roomOf_1 (by decide) (by decide) (by decide) (by decide) ?_
            exact l_Ch_roomOf_41 C0  h hW hS (lv_sub hl [] rfl)
          · have h := h1 c4
            have n0 := lv_neT c0 (a := 0) (by decide); have n1 := lv_neT c1 (a := 1) (by decide); have n2 := lv_neT c2 (a := 2) (by decide); have n3 := lv_neT c3 (a := 3) (by decide); have n4 := lv_neT c4 (a := 4) (by decide)
            refine lv_tableOut (tgt := 44) hx hb d_Ch_roomOf_1 (by omega) (by decide) ?_
            exact l_Ch_roomOf_44 C0  h hW hS (lv_sub hl [] rfl)
set_option maxRecDepth 20000 in
theorem c_Ch_roomOf {l : Launch} {D : va_G} {ca G : Nat → Nat} (post : Int32 → hM → Prop) {M : hM} {sz : Nat} {x0 : Int32} {x1 : Int32} (h : wp_Ch_roomOf G ca post M x0 x1) : Met l y_Ch_roomOf (wz y_Ch_roomOf prog_2_method_2_code 2 (some .int)) rm_Ch_roomOf (va_Pc [.int x0, .int x1] (hI D ca G sz M)) (va_Qi post (hB D M sz) (hp_A M sz)) 0 0 (hp_A M sz) := by
  refine Met.ofW (cc := prog_2_method_2_code) (maxL := 2) (ret := some .int) (by decide) rfl ?_
  intro p e s m args below meth c s₁ B hml hv
  obtain ⟨rfl, hsz, hW, hK, hZ0⟩ := hv
  have hts := fun w hw => atoms_spec (ws := wz y_Ch_roomOf prog_2_method_2_code 2 (some .int)) B.pre w (List.mem_cons_of_mem _ hw)
  have hown : s.vm.findClass "ChannelHall$Channel" = some m.cls := findClass_of_methodNamed B.named
  subst hsz
  have hl := lv_entry [.int x0, .int x1] (n := 2) (Nat.le_of_ble_eq_true rfl)
  rw [lg_entry_eq]
  exact l_Ch_roomOf_e ⟨B.exec, B.bytes, B.returns, hml, hown, hts, B.notSynchronized, hK, fun q h => Or.inr h, hZ0⟩ x0 x1 h hW va_S.rf hl

theorem d_Ha_isSize_0 : decode prog_1_method_21_code 0 = .ok (.iload_n 0, 1) := by decide +kernel
theorem d_Ha_isSize_1 : decode prog_1_method_21_code 1 = .ok (.lookupswitch 59 #[(0, 27), (6, 43)], 27) := by decide +kernel
theorem d_Ha_isSize_28 : decode prog_1_method_21_code 28 = .ok (.iload_n 1, 1) := by decide +kernel
theorem d_Ha_isSize_29 : decode prog_1_method_21_code 29 = .ok (.iconst 1, 1) := by decide +kernel
theorem d_Ha_isSize_30 : decode prog_1_method_21_code 30 = .ok (.if_icmp .lt 12, 3) := by decide +kernel
theorem d_Ha_isSize_33 : decode prog_1_method_21_code 33 = .ok (.iload_n 1, 1) := by decide +kernel
theorem d_Ha_isSize_34 : decode prog_1_method_21_code 34 = .ok (.iconst 4, 1) := by decide +kernel
theorem d_Ha_isSize_35 : decode prog_1_method_21_code 35 = .ok (.if_icmp .gt 7, 3) := by decide +kernel
theorem d_Ha_isSize_38 : decode prog_1_method_21_code 38 = .ok (.iconst 1, 1) := by decide +kernel
theorem d_Ha_isSize_39 : decode prog_1_method_21_code 39 = .ok (.goto 4, 3) := by decide +kernel
theorem d_Ha_isSize_42 : decode prog_1_method_21_code 42 = .ok (.iconst 0, 1) := by decide +kernel
theorem d_Ha_isSize_43 : decode prog_1_method_21_code 43 = .ok (.ireturn, 1) := by decide +kernel
theorem d_Ha_isSize_44 : decode prog_1_method_21_code 44 = .ok (.iload_n 1, 1) := by decide +kernel
theorem d_Ha_isSize_45 : decode prog_1_method_21_code 45 = .ok (.iconst 2, 1) := by decide +kernel
theorem d_Ha_isSize_46 : decode prog_1_method_21_code 46 = .ok (.if_icmp .lt 12, 3) := by decide +kernel
theorem d_Ha_isSize_49 : decode prog_1_method_21_code 49 = .ok (.iload_n 1, 1) := by decide +kernel
theorem d_Ha_isSize_50 : decode prog_1_method_21_code 50 = .ok (.iconst 5, 1) := by decide +kernel
theorem d_Ha_isSize_51 : decode prog_1_method_21_code 51 = .ok (.if_icmp .gt 7, 3) := by decide +kernel
theorem d_Ha_isSize_54 : decode prog_1_method_21_code 54 = .ok (.iconst 1, 1) := by decide +kernel
theorem d_Ha_isSize_55 : decode prog_1_method_21_code 55 = .ok (.goto 4, 3) := by decide +kernel
theorem d_Ha_isSize_58 : decode prog_1_method_21_code 58 = .ok (.iconst 0, 1) := by decide +kernel
theorem d_Ha_isSize_59 : decode prog_1_method_21_code 59 = .ok (.ireturn, 1) := by decide +kernel
theorem d_Ha_isSize_60 : decode prog_1_method_21_code 60 = .ok (.iload_n 0, 1) := by decide +kernel
theorem d_Ha_isSize_61 : decode prog_1_method_21_code 61 = .ok (.ifCond .le 17, 3) := by decide +kernel
theorem d_Ha_isSize_64 : decode prog_1_method_21_code 64 = .ok (.iload_n 0, 1) := by decide +kernel
theorem d_Ha_isSize_65 : decode prog_1_method_21_code 65 = .ok (.bipush 6, 2) := by decide +kernel
theorem d_Ha_isSize_67 : decode prog_1_method_21_code 67 = .ok (.if_icmp .ge 11, 3) := by decide +kernel
theorem d_Ha_isSize_70 : decode prog_1_method_21_code 70 = .ok (.iload_n 1, 1) := by decide +kernel
theorem d_Ha_isSize_71 : decode prog_1_method_21_code 71 = .ok (.ifCond .ne 7, 3) := by decide +kernel
theorem d_Ha_isSize_74 : decode prog_1_method_21_code 74 = .ok (.iconst 1, 1) := by decide +kernel
theorem d_Ha_isSize_75 : decode prog_1_method_21_code 75 = .ok (.goto 4, 3) := by decide +kernel
theorem d_Ha_isSize_78 : decode prog_1_method_21_code 78 = .ok (.iconst 0, 1) := by decide +kernel
theorem d_Ha_isSize_79 : decode prog_1_method_21_code 79 = .ok (.ireturn, 1) := by decide +kernel
def y_Ha_isSize : MethodName := ⟨"ChannelHall", "isSize", "(II)Z"⟩
abbrev rm_Ha_isSize : Room := { frames := 0, cells := 0, slots := 0, locals := 0 }
def wp_Ha_isSize_79 (G ca : Nat → Nat) (post : Int32 → hM → Prop) (M : hM) (s0b79 : Int32) : Prop := bZ s0b79 (post s0b79 M)
def wp_Ha_isSize_78 (G ca : Nat → Nat) (post : Int32 → hM → Prop) (M : hM)  : Prop := wp_Ha_isSize_79 G ca post M 0
def wp_Ha_isSize_59 (G ca : Nat → Nat) (post : Int32 → hM → Prop) (M : hM) (s0b59 : Int32) : Prop := bZ s0b59 (post s0b59 M)
def wp_Ha_isSize_58 (G ca : Nat → Nat) (post : Int32 → hM → Prop) (M : hM)  : Prop := wp_Ha_isSize_59 G ca post M 0
def wp_Ha_isSize_43 (G ca : Nat → Nat) (post : Int32 → hM → Prop) (M : hM) (s0b43 : Int32) : Prop := bZ s0b43 (post s0b43 M)
def wp_Ha_isSize_42 (G ca : Nat → Nat) (post : Int32 → hM → Prop) (M : hM)  : Prop := wp_Ha_isSize_43 G ca post M 0
def wp_Ha_isSize (G ca : Nat → Nat) (post : Int32 → hM → Prop) (M : hM) (x0 : Int32) (x1 : Int32) : Prop := (x0 = 0 → (x1 < 1 → wp_Ha_isSize_42 G ca post M) ∧ (¬ x1 < 1 → (4 < x1 → wp_Ha_isSize_42 G ca post M) ∧ (¬ 4 < x1 → wp_Ha_isSize_43 G ca post M 1))) ∧ (¬ x0 = 0 → (x0 = 6 → (x1 < 2 → wp_Ha_isSize_58 G ca post M) ∧ (¬ x1 < 2 → (5 < x1 → wp_Ha_isSize_58 G ca post M) ∧ (¬ 5 < x1 → wp_Ha_isSize_59 G ca post M 1))) ∧ (¬ x0 = 6 → (x0 ≤ 0 → wp_Ha_isSize_78 G ca post M) ∧ (¬ x0 ≤ 0 → (6 ≤ x0 → wp_Ha_isSize_78 G ca post M) ∧ (¬ 6 ≤ x0 → (¬ x1 = 0 → wp_Ha_isSize_78 G ca post M) ∧ (x1 = 0 → wp_Ha_isSize_79 G ca post M 1)))))
set_option maxHeartbeats 1000000 in
set_option maxRecDepth 20000 in
theorem l_Ha_isSize_79 {p : Program} {l : Launch} {e : Env} {s : State} {m : MethodId} {args : Array Value} {below : List Frame} {meth : Method} {c : Code} {D : va_G} {ca G : Nat → Nat} {A : Nat → Prop} (C0 : hC p s m args meth c D ca G prog_1_method_21_code 2 (some .boolean) "ChannelHall" A) {post : Int32 → hM → Prop} {M : hM} {H : Heap} {locs : List Loc} {ls : Array Slot} (s0b79 : Int32) (h : wp_Ha_isSize_79 G ca post M s0b79) (hW : hw D wCl A M H) (hS : va_S A s.heap H locs) (hl : lv_has ls 2 []) : W p l e rm_Ha_isSize s m args below meth c H locs 0 0 (MQ below (va_Qi post (fun M' t => hw D wCl A M' t.heap) A) args s 0 0 A) (F0 m 79 ls [.int s0b79]) := by
  obtain ⟨hx, hb, hr, hml, hown, hts, hlocks, hK, hA, hZ0⟩ := id C0
  obtain ⟨hz, h⟩ := h
  exact W.zret hx hb hr (nb_n hz) (fun t ht hWm => ⟨⟨_, _, rfl, h, hw_t ht hW⟩, hS.F ht⟩) hS.2.2 d_Ha_isSize_79
set_option maxHeartbeats 1000000 in
set_option maxRecDepth 20000 in
theorem l_Ha_isSize_78 {p : Program} {l : Launch} {e : Env} {s : State} {m : MethodId} {args : Array Value} {below : List Frame} {meth : Method} {c : Code} {D : va_G} {ca G : Nat → Nat} {A : Nat → Prop} (C0 : hC p s m args meth c D ca G prog_1_method_21_code 2 (some .boolean) "ChannelHall" A) {post : Int32 → hM → Prop} {M : hM} {H : Heap} {locs : List Loc} {ls : Array Slot}  (h : wp_Ha_isSize_78 G ca post M) (hW : hw D wCl A M H) (hS : va_S A s.heap H locs) (hl : lv_has ls 2 []) : W p l e rm_Ha_isSize s m args below meth c H locs 0 0 (MQ below (va_Qi post (fun M' t => hw D wCl A M' t.heap) A) args s 0 0 A) (F0 m 78 ls []) := by
  obtain ⟨hx, hb, hr, hml, hown, hts, hlocks, hK, hA, hZ0⟩ := id C0
  refine lv_iconst (v := 0) hx hb d_Ha_isSize_78 (by decide) ?_
  exact l_Ha_isSize_79 C0 0 h hW hS (lv_sub hl [] rfl)
set_option maxHeartbeats 1000000 in
set_option maxRecDepth 20000 in
theorem l_Ha_isSize_59 {p : Program} {l : Launch} {e : Env} {s : State} {m : MethodId} {args : Array Value} {below : List Frame} {meth : Method} {c : Code} {D : va_G} {ca G : Nat → Nat} {A : Nat → Prop} (C0 : hC p s m args meth c D ca G prog_1_method_21_code 2 (some .boolean) "ChannelHall" A) {post : Int32 → hM → Prop} {M : hM} {H : Heap} {locs : List Loc} {ls : Array Slot} (s0b59 : Int32) (h : wp_Ha_isSize_59 G ca post M s0b59) (hW : hw D wCl A M H) (hS : va_S A s.heap H locs) (hl : lv_has ls 2 []) : W p l e rm_Ha_isSize s m args below meth c H locs 0 0 (MQ below (va_Qi post (fun M' t => hw D wCl A M' t.heap) A) args s 0 0 A) (F0 m 59 ls [.int s0b59]) := by
  obtain ⟨hx, hb, hr, hml, hown, hts, hlocks, hK, hA, hZ0⟩ := id C0
  obtain ⟨hz, h⟩ := h
  exact W.zret hx hb hr (nb_n hz) (fun t ht hWm => ⟨⟨_, _, rfl, h, hw_t ht hW⟩, hS.F ht⟩) hS.2.2 d_Ha_isSize_59
set_option maxHeartbeats 1000000 in
set_option maxRecDepth 20000 in
theorem l_Ha_isSize_58 {p : Program} {l : Launch} {e : Env} {s : State} {m : MethodId} {args : Array Value} {below : List Frame} {meth : Method} {c : Code} {D : va_G} {ca G : Nat → Nat} {A : Nat → Prop} (C0 : hC p s m args meth c D ca G prog_1_method_21_code 2 (some .boolean) "ChannelHall" A) {post : Int32 → hM → Prop} {M : hM} {H : Heap} {locs : List Loc} {ls : Array Slot}  (h : wp_Ha_isSize_58 G ca post M) (hW : hw D wCl A M H) (hS : va_S A s.heap H locs) (hl : lv_has ls 2 []) : W p l e rm_Ha_isSize s m args below meth c H locs 0 0 (MQ below (va_Qi post (fun M' t => hw D wCl A M' t.heap) A) args s 0 0 A) (F0 m 58 ls []) := by
  obtain ⟨hx, hb, hr, hml, hown, hts, hlocks, hK, hA, hZ0⟩ := id C0
  refine lv_iconst (v := 0) hx hb d_Ha_isSize_58 (by decide) ?_
  exact l_Ha_isSize_59 C0 0 h hW hS (lv_sub hl [] rfl)
set_option maxHeartbeats 1000000 in
set_option maxRecDepth 20000 in
theorem l_Ha_isSize_43 {p : Program} {l : Launch} {e : Env} {s : State} {m : MethodId} {args : Array Value} {below : List Frame} {meth : Method} {c : Code} {D : va_G} {ca G : Nat → Nat} {A : Nat → Prop} (C0 : hC p s m args meth c D ca G prog_1_method_21_code 2 (some .boolean) "ChannelHall" A) {post : Int32 → hM → Prop} {M : hM} {H : Heap} {locs : List Loc} {ls : Array Slot} (s0b43 : Int32) (h : wp_Ha_isSize_43 G ca post M s0b43) (hW : hw D wCl A M H) (hS : va_S A s.heap H locs) (hl : lv_has ls 2 []) : W p l e rm_Ha_isSize s m args below meth c H locs 0 0 (MQ below (va_Qi post (fun M' t => hw D wCl A M' t.heap) A) args s 0 0 A) (F0 m 43 ls [.int s0b43]) := by
  obtain ⟨hx, hb, hr, hml, hown, hts, hlocks, hK, hA, hZ0⟩ := id C0
  obtain ⟨hz, h⟩ := h
  exact W.zret hx hb hr (nb_n hz) (fun t ht hWm => ⟨⟨_, _, rfl, h, hw_t ht hW⟩, hS.F ht⟩) hS.2.2 d_Ha_isSize_43
set_option maxHeartbeats 1000000 in
set_option maxRecDepth 20000 in
theorem l_Ha_isSize_42 {p : Program} {l : Launch} {e : Env} {s : State} {m : MethodId} {args : Array Value} {below : List Frame} {meth : Method} {c : Code} {D : va_G} {ca G : Nat → Nat} {A : Nat → Prop} (C0 : hC p s m args meth c D ca G prog_1_method_21_code 2 (some .boolean) "ChannelHall" A) {post : Int32 → hM → Prop} {M : hM} {H : Heap} {locs : List Loc} {ls : Array Slot}  (h : wp_Ha_isSize_42 G ca post M) (hW : hw D wCl A M H) (hS : va_S A s.heap H locs) (hl : lv_has ls 2 []) : W p l e rm_Ha_isSize s m args below meth c H locs 0 0 (MQ below (va_Qi post (fun M' t => hw D wCl A M' t.heap) A) args s 0 0 A) (F0 m 42 ls []) := by
  obtain ⟨hx, hb, hr, hml, hown, hts, hlocks, hK, hA, hZ0⟩ := id C0
  refine lv_iconst (v := 0) hx hb d_Ha_isSize_42 (by decide) ?_
  exact l_Ha_isSize_43 C0 0 h hW hS (lv_sub hl [] rfl)
set_option maxHeartbeats 1000000 in
set_option maxRecDepth 20000 in
theorem l_Ha_isSize_e {p : Program} {l : Launch} {e : Env} {s : State} {m : MethodId} {args : Array Value} {below : List Frame} {meth : Method} {c : Code} {D : va_G} {ca G : Nat → Nat} {A : Nat → Prop} (C0 : hC p s m args meth c D ca G prog_1_method_21_code 2 (some .boolean) "ChannelHall" A) {post : Int32 → hM → Prop} {M : hM} {H : Heap} {locs : List Loc} {ls : Array Slot} (x0 : Int32) (x1 : Int32) (h : wp_Ha_isSize G ca post M x0 x1) (hW : hw D wCl A M H) (hS : va_S A s.heap H locs) (hl : lv_has ls 2 [(0, .int x0), (1, .int x1)]) : W p l e rm_Ha_isSize s m args below meth c H locs 0 0 (MQ below (va_Qi post (fun M' t => hw D wCl A M' t.heap) A) args s 0 0 A) (F0 m 0 ls []) := by
  obtain ⟨hx, hb, hr, hml, hown, hts, hlocks, hK, hA, hZ0⟩ := id C0
  refine lv_iload_n hx hb d_Ha_isSize_0 rfl (lv_at hl 0 rfl) ?_
  obtain ⟨h0, h1⟩ := h
  by_cases c0 : x0 = 0
  · have h := h0 c0
    rw [c0]
    refine lv_lookup (off := 27) (tgt := 28) hx hb d_Ha_isSize_1 (by decide) (by decide) (by decide) ?_
    refine lv_iload_n hx hb d_Ha_isSize_28 rfl (lv_at hl 1 rfl) ?_
    refine lv_iconst (v := 1) hx hb d_Ha_isSize_29 (by decide) ?_
    obtain ⟨h0, h1⟩ := h
    refine lv_icmp_lt (tgt := 42) hx hb d_Ha_isSize_30 (by decide) (fun c8 => ?_) (fun c8 => ?_)
    · have h := h0 c8
      exact l_Ha_isSize_42 C0  h hW hS (lv_sub hl [] rfl)
    · have h := h1 c8
      refine lv_iload_n hx hb d_Ha_isSize_33 rfl (lv_at hl 1 rfl) ?_
      refine lv_iconst (v := 4) hx hb d_Ha_isSize_34 (by decide) ?_
      obtain ⟨h0, h1⟩ := h
      refine lv_icmp_gt (tgt := 42) hx hb d_Ha_isSize_35 (by decide) (fun c9 => ?_) (fun c9 => ?_)
      · have h := h0 c9
        exact l_Ha_isSize_42 C0  h hW hS (lv_sub hl [] rfl)
      · have h := h1 c9
        refine lv_iconst (v := 1) hx hb d_Ha_isSize_38 (by decide) ?_
        refine lv_goto (tgt := 43) hx hb d_Ha_isSize_39 (by decide) ?_
        exact l_Ha_isSize_43 C0 1 h hW hS (lv_sub hl [] rfl)
  · have h := h1 c0
    obtain ⟨h0, h1⟩ := h
    by_cases c1 : x0 = 6
    · have h := h0 c1
      rw [c1]
      refine lv_lookup (off := 43) (tgt := 44) hx hb d_Ha_isSize_1 (by decide) (by decide) (by decide) ?_
      refine lv_iload_n hx hb d_Ha_isSize_44 rfl (lv_at hl 1 rfl) ?_
      refine lv_iconst (v := 2) hx hb d_Ha_isSize_45 (by decide) ?_
      obtain ⟨h0, h1⟩ := h
      refine lv_icmp_lt (tgt := 58) hx hb d_Ha_isSize_46 (by decide) (fun c10 => ?_) (fun c10 => ?_)
      · have h := h0 c10
        exact l_Ha_isSize_58 C0  h hW hS (lv_sub hl [] rfl)
      · have h := h1 c10
        refine lv_iload_n hx hb d_Ha_isSize_49 rfl (lv_at hl 1 rfl) ?_
        refine lv_iconst (v := 5) hx hb d_Ha_isSize_50 (by decide) ?_
        obtain ⟨h0, h1⟩ := h
        refine lv_icmp_gt (tgt := 58) hx hb d_Ha_isSize_51 (by decide) (fun c11 => ?_) (fun c11 => ?_)
        · have h := h0 c11
          exact l_Ha_isSize_58 C0  h hW hS (lv_sub hl [] rfl)
        · have h := h1 c11
          refine lv_iconst (v := 1) hx hb d_Ha_isSize_54 (by decide) ?_
          refine lv_goto (tgt := 59) hx hb d_Ha_isSize_55 (by decide) ?_
          exact l_Ha_isSize_59 C0 1 h hW hS (lv_sub hl [] rfl)
    · have h := h1 c1
      refine lv_lookup (off := 59) (tgt := 60) hx hb d_Ha_isSize_1 (by decide) ((lv_osw c0 (by decide)).trans ((lv_osw c1 (by decide)).trans rfl)) (by decide) ?_
      refine lv_iload_n hx hb d_Ha_isSize_60 rfl (lv_at hl 0 rfl) ?_
      obtain ⟨h0, h1⟩ := h
      refine lv_if_le (tgt := 78) hx hb d_Ha_isSize_61 (by decide) (fun c12 => ?_) (fun c12 => ?_)
      · have h := h0 c12
        exact l_Ha_isSize_78 C0  h hW hS (lv_sub hl [] rfl)
      · have h := h1 c12
        refine lv_iload_n hx hb d_Ha_isSize_64 rfl (lv_at hl 0 rfl) ?_
        refine lv_bipush (v := 6) hx hb d_Ha_isSize_65 (by decide) ?_
        obtain ⟨h0, h1⟩ := h
        refine lv_icmp_ge (tgt := 78) hx hb d_Ha_isSize_67 (by decide) (fun c13 => ?_) (fun c13 => ?_)
        · have h := h0 c13
          exact l_Ha_isSize_78 C0  h hW hS (lv_sub hl [] rfl)
        · have h := h1 c13
          refine lv_iload_n hx hb d_Ha_isSize_70 rfl (lv_at hl 1 rfl) ?_
          obtain ⟨h0, h1⟩ := h
          refine lv_if_ne (tgt := 78) hx hb d_Ha_isSize_71 (by decide) (fun c14 => ?_) (fun c14 => ?_)
          · have h := h0 c14
            exact l_Ha_isSize_78 C0  h hW hS (lv_sub hl [] rfl)
          · have h := h1 c14
            refine lv_iconst (v := 1) hx hb d_Ha_isSize_74 (by decide) ?_
            refine lv_goto (tgt := 79) hx hb d_Ha_isSize_75 (by decide) ?_
            exact l_Ha_isSize_79 C0 1 h hW hS (lv_sub hl [] rfl)
set_option maxRecDepth 20000 in
theorem c_Ha_isSize {l : Launch} {D : va_G} {ca G : Nat → Nat} (post : Int32 → hM → Prop) {M : hM} {sz : Nat} {x0 : Int32} {x1 : Int32} (h : wp_Ha_isSize G ca post M x0 x1) : Met l y_Ha_isSize (wz y_Ha_isSize prog_1_method_21_code 2 (some .boolean)) rm_Ha_isSize (va_Pc [.int x0, .int x1] (hI D ca G sz M)) (va_Qi post (hB D M sz) (hp_A M sz)) 0 0 (hp_A M sz) := by
  refine Met.ofW (cc := prog_1_method_21_code) (maxL := 2) (ret := some .boolean) (by decide) rfl ?_
  intro p e s m args below meth c s₁ B hml hv
  obtain ⟨rfl, hsz, hW, hK, hZ0⟩ := hv
  have hts := fun w hw => atoms_spec (ws := wz y_Ha_isSize prog_1_method_21_code 2 (some .boolean)) B.pre w (List.mem_cons_of_mem _ hw)
  have hown : s.vm.findClass "ChannelHall" = some m.cls := findClass_of_methodNamed B.named
  subst hsz
  have hl := lv_entry [.int x0, .int x1] (n := 2) (Nat.le_of_ble_eq_true rfl)
  rw [lg_entry_eq]
  exact l_Ha_isSize_e ⟨B.exec, B.bytes, B.returns, hml, hown, hts, B.notSynchronized, hK, fun q h => Or.inr h, hZ0⟩ x0 x1 h hW va_S.rf hl

theorem d_Al_size_0 : decode prog_30_method_8_code 0 = .ok (.aload_n 0, 1) := by decide +kernel
theorem d_Al_size_1 : decode prog_30_method_8_code 1 = .ok (.getfield 48, 3) := by decide +kernel
theorem d_Al_size_4 : decode prog_30_method_8_code 4 = .ok (.ireturn, 1) := by decide +kernel
def y_Al_size : MethodName := ⟨"java/util/ArrayList", "size", "()I"⟩
abbrev rm_Al_size : Room := { frames := 0, cells := 0, slots := 0, locals := 0 }
def wp_Al_size (G ca : Nat → Nat) (post : Int32 → hM → Prop) (M : hM) (a0 : Nat) : Prop := gI M a0 4 1 fun v2 => post v2 M
set_option maxHeartbeats 1000000 in
set_option maxRecDepth 20000 in
theorem l_Al_size_e {p : Program} {l : Launch} {e : Env} {s : State} {m : MethodId} {args : Array Value} {below : List Frame} {meth : Method} {c : Code} {D : va_G} {ca G : Nat → Nat} {A : Nat → Prop} (C0 : hC p s m args meth c D ca G prog_30_method_8_code 1 (some .int) "java/util/ArrayList" A) {post : Int32 → hM → Prop} {M : hM} {H : Heap} {locs : List Loc} {ls : Array Slot} (a0 : Nat) (h : wp_Al_size G ca post M a0) (hW : hw D wCl A M H) (hS : va_S A s.heap H locs) (hl : lv_has ls 1 [(0, .ref a0)]) : W p l e rm_Al_size s m args below meth c H locs 0 0 (MQ below (va_Qi post (fun M' t => hw D wCl A M' t.heap) A) args s 0 0 A) (F0 m 0 ls []) := by
  obtain ⟨hx, hb, hr, hml, hown, hts, hlocks, hK, hA, hZ0⟩ := id C0
  refine lv_aload_n hx hb d_Al_size_0 rfl (lv_at hl 0 rfl) ?_
  obtain ⟨fs, v2, h1, h2, h⟩ := h
  refine va_get (D := D) (ci := 4) (v := .int v2) (C := "java/util/ArrayList") (T := TAl) (N := 3) hx hb hts uAl hown hK (hw_one hW h1) 0 rfl rfl 1 (by decide) (hts _ bw_237) (fun _ h9 => h9) h2 d_Al_size_1 ?_
  exact W.iret hx hb hr (fun t ht hWm => ⟨⟨_, _, rfl, h, hw_t ht hW⟩, hS.F ht⟩) hS.2.2 d_Al_size_4
set_option maxRecDepth 20000 in
theorem c_Al_size {l : Launch} {D : va_G} {ca G : Nat → Nat} (post : Int32 → hM → Prop) {M : hM} {sz : Nat} {a0 : Nat} (h : wp_Al_size G ca post M a0) : Met l y_Al_size (wz y_Al_size prog_30_method_8_code 1 (some .int)) rm_Al_size (va_Pc [.ref a0] (hI D ca G sz M)) (va_Qi post (hB D M sz) (hp_A M sz)) 0 0 (hp_A M sz) := by
  refine Met.ofW (cc := prog_30_method_8_code) (maxL := 1) (ret := some .int) (by decide) rfl ?_
  intro p e s m args below meth c s₁ B hml hv
  obtain ⟨rfl, hsz, hW, hK, hZ0⟩ := hv
  have hts := fun w hw => atoms_spec (ws := wz y_Al_size prog_30_method_8_code 1 (some .int)) B.pre w (List.mem_cons_of_mem _ hw)
  have hown : s.vm.findClass "java/util/ArrayList" = some m.cls := findClass_of_methodNamed B.named
  subst hsz
  have hl := lv_entry [.ref a0] (n := 1) (Nat.le_of_ble_eq_true rfl)
  rw [lg_entry_eq]
  exact l_Al_size_e ⟨B.exec, B.bytes, B.returns, hml, hown, hts, B.notSynchronized, hK, fun q h => Or.inr h, hZ0⟩ a0 h hW va_S.rf hl

theorem d_Al_isEmpty_0 : decode prog_30_method_9_code 0 = .ok (.aload_n 0, 1) := by decide +kernel
theorem d_Al_isEmpty_1 : decode prog_30_method_9_code 1 = .ok (.getfield 48, 3) := by decide +kernel
theorem d_Al_isEmpty_4 : decode prog_30_method_9_code 4 = .ok (.ifCond .ne 7, 3) := by decide +kernel
theorem d_Al_isEmpty_7 : decode prog_30_method_9_code 7 = .ok (.iconst 1, 1) := by decide +kernel
theorem d_Al_isEmpty_8 : decode prog_30_method_9_code 8 = .ok (.goto 4, 3) := by decide +kernel
theorem d_Al_isEmpty_11 : decode prog_30_method_9_code 11 = .ok (.iconst 0, 1) := by decide +kernel
theorem d_Al_isEmpty_12 : decode prog_30_method_9_code 12 = .ok (.ireturn, 1) := by decide +kernel
def y_Al_isEmpty : MethodName := ⟨"java/util/ArrayList", "isEmpty", "()Z"⟩
abbrev rm_Al_isEmpty : Room := { frames := 0, cells := 0, slots := 0, locals := 0 }
def wp_Al_isEmpty_12 (G ca : Nat → Nat) (post : Int32 → hM → Prop) (M : hM) (s0b12 : Int32) : Prop := bZ s0b12 (post s0b12 M)
def wp_Al_isEmpty (G ca : Nat → Nat) (post : Int32 → hM → Prop) (M : hM) (a0 : Nat) : Prop := gI M a0 4 1 fun v3 => (¬ v3 = 0 → wp_Al_isEmpty_12 G ca post M 0) ∧ (v3 = 0 → wp_Al_isEmpty_12 G ca post M 1)
set_option maxHeartbeats 1000000 in
set_option maxRecDepth 20000 in
theorem l_Al_isEmpty_12 {p : Program} {l : Launch} {e : Env} {s : State} {m : MethodId} {args : Array Value} {below : List Frame} {meth : Method} {c : Code} {D : va_G} {ca G : Nat → Nat} {A : Nat → Prop} (C0 : hC p s m args meth c D ca G prog_30_method_9_code 1 (some .boolean) "java/util/ArrayList" A) {post : Int32 → hM → Prop} {M : hM} {H : Heap} {locs : List Loc} {ls : Array Slot} (s0b12 : Int32) (h : wp_Al_isEmpty_12 G ca post M s0b12) (hW : hw D wCl A M H) (hS : va_S A s.heap H locs) (hl : lv_has ls 1 []) : W p l e rm_Al_isEmpty s m args below meth c H locs 0 0 (MQ below (va_Qi post (fun M' t => hw D wCl A M' t.heap) A) args s 0 0 A) (F0 m 12 ls [.int s0b12]) := by
  obtain ⟨hx, hb, hr, hml, hown, hts, hlocks, hK, hA, hZ0⟩ := id C0
  obtain ⟨hz, h⟩ := h
  exact W.zret hx hb hr (nb_n hz) (fun t ht hWm => ⟨⟨_, _, rfl, h, hw_t ht hW⟩, hS.F ht⟩) hS.2.2 d_Al_isEmpty_12
set_option maxHeartbeats 1000000 in
set_option maxRecDepth 20000 in
theorem l_Al_isEmpty_e {p : Program} {l : Launch} {e : Env} {s : State} {m : MethodId} {args : Array Value} {below : List Frame} {meth : Method} {c : Code} {D : va_G} {ca G : Nat → Nat} {A : Nat → Prop} (C0 : hC p s m args meth c D ca G prog_30_method_9_code 1 (some .boolean) "java/util/ArrayList" A) {post : Int32 → hM → Prop} {M : hM} {H : Heap} {locs : List Loc} {ls : Array Slot} (a0 : Nat) (h : wp_Al_isEmpty G ca post M a0) (hW : hw D wCl A M H) (hS : va_S A s.heap H locs) (hl : lv_has ls 1 [(0, .ref a0)]) : W p l e rm_Al_isEmpty s m args below meth c H locs 0 0 (MQ below (va_Qi post (fun M' t => hw D wCl A M' t.heap) A) args s 0 0 A) (F0 m 0 ls []) := by
  obtain ⟨hx, hb, hr, hml, hown, hts, hlocks, hK, hA, hZ0⟩ := id C0
  refine lv_aload_n hx hb d_Al_isEmpty_0 rfl (lv_at hl 0 rfl) ?_
  obtain ⟨fs, v3, h1, h2, h⟩ := h
  refine va_get (D := D) (ci := 4) (v := .int v3) (C := "java/util/ArrayList") (T := TAl) (N := 3) hx hb hts uAl hown hK (hw_one hW h1) 0 rfl rfl 1 (by decide) (hts _ bw_237) (fun _ h9 => h9) h2 d_Al_isEmpty_1 ?_
  obtain ⟨h0, h1⟩ := h
  refine lv_if_ne (tgt := 11) hx hb d_Al_isEmpty_4 (by decide) (fun c4 => ?_) (fun c4 => ?_)
  · have h := h0 c4
    refine lv_iconst (v := 0) hx hb d_Al_isEmpty_11 (by decide) ?_
    exact l_Al_isEmpty_12 C0 0 h hW hS (lv_sub hl [] rfl)
  · have h := h1 c4
    refine lv_iconst (v := 1) hx hb d_Al_isEmpty_7 (by decide) ?_
    refine lv_goto (tgt := 12) hx hb d_Al_isEmpty_8 (by decide) ?_
    exact l_Al_isEmpty_12 C0 1 h hW hS (lv_sub hl [] rfl)
set_option maxRecDepth 20000 in
theorem c_Al_isEmpty {l : Launch} {D : va_G} {ca G : Nat → Nat} (post : Int32 → hM → Prop) {M : hM} {sz : Nat} {a0 : Nat} (h : wp_Al_isEmpty G ca post M a0) : Met l y_Al_isEmpty (wz y_Al_isEmpty prog_30_method_9_code 1 (some .boolean)) rm_Al_isEmpty (va_Pc [.ref a0] (hI D ca G sz M)) (va_Qi post (hB D M sz) (hp_A M sz)) 0 0 (hp_A M sz) := by
  refine Met.ofW (cc := prog_30_method_9_code) (maxL := 1) (ret := some .boolean) (by decide) rfl ?_
  intro p e s m args below meth c s₁ B hml hv
  obtain ⟨rfl, hsz, hW, hK, hZ0⟩ := hv
  have hts := fun w hw => atoms_spec (ws := wz y_Al_isEmpty prog_30_method_9_code 1 (some .boolean)) B.pre w (List.mem_cons_of_mem _ hw)
  have hown : s.vm.findClass "java/util/ArrayList" = some m.cls := findClass_of_methodNamed B.named
  subst hsz
  have hl := lv_entry [.ref a0] (n := 1) (Nat.le_of_ble_eq_true rfl)
  rw [lg_entry_eq]
  exact l_Al_isEmpty_e ⟨B.exec, B.bytes, B.returns, hml, hown, hts, B.notSynchronized, hK, fun q h => Or.inr h, hZ0⟩ a0 h hW va_S.rf hl

theorem d_Ha_time_0 : decode prog_1_method_15_code 0 = .ok (.aload_n 0, 1) := by decide +kernel
theorem d_Ha_time_1 : decode prog_1_method_15_code 1 = .ok (.getfield 25, 3) := by decide +kernel
theorem d_Ha_time_4 : decode prog_1_method_15_code 4 = .ok (.dreturn, 1) := by decide +kernel
def y_Ha_time : MethodName := ⟨"ChannelHall", "time", "()D"⟩
abbrev rm_Ha_time : Room := { frames := 0, cells := 0, slots := 0, locals := 0 }
def wp_Ha_time (G ca : Nat → Nat) (post : UInt64 → hM → Prop) (M : hM) (a0 : Nat) : Prop := gD M a0 3 3 fun v2 => post v2 M
set_option maxHeartbeats 1000000 in
set_option maxRecDepth 20000 in
theorem l_Ha_time_e {p : Program} {l : Launch} {e : Env} {s : State} {m : MethodId} {args : Array Value} {below : List Frame} {meth : Method} {c : Code} {D : va_G} {ca G : Nat → Nat} {A : Nat → Prop} (C0 : hC p s m args meth c D ca G prog_1_method_15_code 1 (some .double) "ChannelHall" A) {post : UInt64 → hM → Prop} {M : hM} {H : Heap} {locs : List Loc} {ls : Array Slot} (a0 : Nat) (h : wp_Ha_time G ca post M a0) (hW : hw D wCl A M H) (hS : va_S A s.heap H locs) (hl : lv_has ls 1 [(0, .ref a0)]) : W p l e rm_Ha_time s m args below meth c H locs 0 0 (MQ below (va_Qd post (fun M' t => hw D wCl A M' t.heap) A) args s 0 0 A) (F0 m 0 ls []) := by
  obtain ⟨hx, hb, hr, hml, hown, hts, hlocks, hK, hA, hZ0⟩ := id C0
  refine lv_aload_n hx hb d_Ha_time_0 rfl (lv_at hl 0 rfl) ?_
  obtain ⟨fs, v2, h1, h2, h⟩ := h
  refine va_get (D := D) (ci := 3) (v := .double v2) (C := "ChannelHall") (T := THa) (N := 4) hx hb hts uHa hown hK (hw_one hW h1) 0 rfl rfl 3 (by decide) (hts _ bw_103) (fun _ h9 => h9) h2 d_Ha_time_1 ?_
  exact W.dret hx hb hr (fun t ht hWm => ⟨⟨_, _, rfl, h, hw_t ht hW⟩, hS.F ht⟩) hS.2.2 d_Ha_time_4
set_option maxRecDepth 20000 in
theorem c_Ha_time {l : Launch} {D : va_G} {ca G : Nat → Nat} (post : UInt64 → hM → Prop) {M : hM} {sz : Nat} {a0 : Nat} (h : wp_Ha_time G ca post M a0) : Met l y_Ha_time (wz y_Ha_time prog_1_method_15_code 1 (some .double)) rm_Ha_time (va_Pc [.ref a0] (hI D ca G sz M)) (va_Qd post (hB D M sz) (hp_A M sz)) 0 0 (hp_A M sz) := by
  refine Met.ofW (cc := prog_1_method_15_code) (maxL := 1) (ret := some .double) (by decide) rfl ?_
  intro p e s m args below meth c s₁ B hml hv
  obtain ⟨rfl, hsz, hW, hK, hZ0⟩ := hv
  have hts := fun w hw => atoms_spec (ws := wz y_Ha_time prog_1_method_15_code 1 (some .double)) B.pre w (List.mem_cons_of_mem _ hw)
  have hown : s.vm.findClass "ChannelHall" = some m.cls := findClass_of_methodNamed B.named
  subst hsz
  have hl := lv_entry [.ref a0] (n := 1) (Nat.le_of_ble_eq_true rfl)
  rw [lg_entry_eq]
  exact l_Ha_time_e ⟨B.exec, B.bytes, B.returns, hml, hown, hts, B.notSynchronized, hK, fun q h => Or.inr h, hZ0⟩ a0 h hW va_S.rf hl

theorem d_Ch_keyOf_0 : decode prog_2_method_4_code 0 = .ok (.aload_n 0, 1) := by decide +kernel
theorem d_Ch_keyOf_1 : decode prog_2_method_4_code 1 = .ok (.getfield 39, 3) := by decide +kernel
theorem d_Ch_keyOf_4 : decode prog_2_method_4_code 4 = .ok (.lookupswitch 45 #[(3, 28), (4, 31)], 28) := by decide +kernel
theorem d_Ch_keyOf_32 : decode prog_2_method_4_code 32 = .ok (.dload_n 1, 1) := by decide +kernel
theorem d_Ch_keyOf_33 : decode prog_2_method_4_code 33 = .ok (.dneg, 1) := by decide +kernel
theorem d_Ch_keyOf_34 : decode prog_2_method_4_code 34 = .ok (.dreturn, 1) := by decide +kernel
theorem d_Ch_keyOf_35 : decode prog_2_method_4_code 35 = .ok (.dload_n 3, 1) := by decide +kernel
theorem d_Ch_keyOf_36 : decode prog_2_method_4_code 36 = .ok (.dload_n 1, 1) := by decide +kernel
theorem d_Ch_keyOf_37 : decode prog_2_method_4_code 37 = .ok (.dconst 0, 1) := by decide +kernel
theorem d_Ch_keyOf_38 : decode prog_2_method_4_code 38 = .ok (.dcmp .g, 1) := by decide +kernel
theorem d_Ch_keyOf_39 : decode prog_2_method_4_code 39 = .ok (.ifCond .ge 7, 3) := by decide +kernel
theorem d_Ch_keyOf_42 : decode prog_2_method_4_code 42 = .ok (.dconst 0, 1) := by decide +kernel
theorem d_Ch_keyOf_43 : decode prog_2_method_4_code 43 = .ok (.goto 4, 3) := by decide +kernel
theorem d_Ch_keyOf_46 : decode prog_2_method_4_code 46 = .ok (.dload_n 1, 1) := by decide +kernel
theorem d_Ch_keyOf_47 : decode prog_2_method_4_code 47 = .ok (.dadd, 1) := by decide +kernel
theorem d_Ch_keyOf_48 : decode prog_2_method_4_code 48 = .ok (.dreturn, 1) := by decide +kernel
theorem d_Ch_keyOf_49 : decode prog_2_method_4_code 49 = .ok (.dconst 0, 1) := by decide +kernel
theorem d_Ch_keyOf_50 : decode prog_2_method_4_code 50 = .ok (.dreturn, 1) := by decide +kernel
def y_Ch_keyOf : MethodName := ⟨"ChannelHall$Channel", "keyOf", "(DD)D"⟩
abbrev rm_Ch_keyOf : Room := { frames := 0, cells := 0, slots := 0, locals := 0 }
def wp_Ch_keyOf_47 (G ca : Nat → Nat) (post : UInt64 → hM → Prop) (M : hM) (s0b47 : UInt64) (s1b47 : UInt64) : Prop := nD (FP.dadd s1b47 s0b47) (post (FP.dadd s1b47 s0b47) M)
def wp_Ch_keyOf (G ca : Nat → Nat) (post : UInt64 → hM → Prop) (M : hM) (a0 : Nat) (x1 : UInt64) (x3 : UInt64) : Prop := gI M a0 0 1 fun v3 => (v3 = 3 → post (FP.dneg x1) M) ∧ (¬ v3 = 3 → (v3 = 4 → (0 ≤ (Op.cmpValue (FP.dcmp x1 FP.dconst0) .g) → wp_Ch_keyOf_47 G ca post M x1 x3) ∧ (¬ 0 ≤ (Op.cmpValue (FP.dcmp x1 FP.dconst0) .g) → wp_Ch_keyOf_47 G ca post M FP.dconst0 x3)) ∧ (¬ v3 = 4 → post FP.dconst0 M))
set_option maxHeartbeats 1000000 in
set_option maxRecDepth 20000 in
theorem l_Ch_keyOf_47 {p : Program} {l : Launch} {e : Env} {s : State} {m : MethodId} {args : Array Value} {below : List Frame} {meth : Method} {c : Code} {D : va_G} {ca G : Nat → Nat} {A : Nat → Prop} (C0 : hC p s m args meth c D ca G prog_2_method_4_code 5 (some .double) "ChannelHall$Channel" A) {post : UInt64 → hM → Prop} {M : hM} {H : Heap} {locs : List Loc} {ls : Array Slot} (s0b47 : UInt64) (s1b47 : UInt64) (h : wp_Ch_keyOf_47 G ca post M s0b47 s1b47) (hW : hw D wCl A M H) (hS : va_S A s.heap H locs) (hl : lv_has ls 5 []) : W p l e rm_Ch_keyOf s m args below meth c H locs 0 0 (MQ below (va_Qd post (fun M' t => hw D wCl A M' t.heap) A) args s 0 0 A) (F0 m 47 ls [.double s0b47, .double s1b47]) := by
  obtain ⟨hx, hb, hr, hml, hown, hts, hlocks, hK, hA, hZ0⟩ := id C0
  obtain ⟨hn, h⟩ := h
  refine lv_dadd hx hb d_Ch_keyOf_47 hn ?_
  exact W.dret hx hb hr (fun t ht hWm => ⟨⟨_, _, rfl, h, hw_t ht hW⟩, hS.F ht⟩) hS.2.2 d_Ch_keyOf_48
set_option maxHeartbeats 1000000 in
set_option maxRecDepth 20000 in
theorem l_Ch_keyOf_e {p : Program} {l : Launch} {e : Env} {s : State} {m : MethodId} {args : Array Value} {below : List Frame} {meth : Method} {c : Code} {D : va_G} {ca G : Nat → Nat} {A : Nat → Prop} (C0 : hC p s m args meth c D ca G prog_2_method_4_code 5 (some .double) "ChannelHall$Channel" A) {post : UInt64 → hM → Prop} {M : hM} {H : Heap} {locs : List Loc} {ls : Array Slot} (a0 : Nat) (x1 : UInt64) (x3 : UInt64) (h : wp_Ch_keyOf G ca post M a0 x1 x3) (hW : hw D wCl A M H) (hS : va_S A s.heap H locs) (hl : lv_has ls 5 [(0, .ref a0), (1, .double x1), (3, .double x3)]) : W p l e rm_Ch_keyOf s m args below meth c H locs 0 0 (MQ below (va_Qd post (fun M' t => hw D wCl A M' t.heap) A) args s 0 0 A) (F0 m 0 ls []) := by
  obtain ⟨hx, hb, hr, hml, hown, hts, hlocks, hK, hA, hZ0⟩ := id C0
  refine lv_aload_n hx hb d_Ch_keyOf_0 rfl (lv_at hl 0 rfl) ?_
  obtain ⟨fs, v3, h1, h2, h⟩ := h
  refine va_get (D := D) (ci := 0) (v := .int v3) (C := "ChannelHall$Channel") (T := TCh) (N := 10) hx hb hts uCh hown hK (hw_one hW h1) 0 rfl rfl 1 (by decide) (hts _ bw_253) (fun _ h9 => h9) h2 d_Ch_keyOf_1 ?_
  obtain ⟨h0, h1⟩ := h
  by_cases c0 : v3 = 3
  · have h := h0 c0
    rw [c0]
    refine lv_lookup (off := 28) (tgt := 32) hx hb d_Ch_keyOf_4 (by decide) (by decide) (by decide) ?_
    refine lv_dload_n hx hb d_Ch_keyOf_32 rfl (lv_at hl 1 rfl) ?_
    refine lv_dneg hx hb d_Ch_keyOf_33 ?_
    exact W.dret hx hb hr (fun t ht hWm => ⟨⟨_, _, rfl, h, hw_t ht hW⟩, hS.F ht⟩) hS.2.2 d_Ch_keyOf_34
  · have h := h1 c0
    obtain ⟨h0, h1⟩ := h
    by_cases c1 : v3 = 4
    · have h := h0 c1
      rw [c1]
      refine lv_lookup (off := 31) (tgt := 35) hx hb d_Ch_keyOf_4 (by decide) (by decide) (by decide) ?_
      refine lv_dload_n hx hb d_Ch_keyOf_35 rfl (lv_at hl 2 rfl) ?_
      refine lv_dload_n hx hb d_Ch_keyOf_36 rfl (lv_at hl 1 rfl) ?_
      refine lv_dconst0 hx hb d_Ch_keyOf_37 ?_
      refine lv_dcmp hx hb d_Ch_keyOf_38 ?_
      obtain ⟨h0, h1⟩ := h
      refine lv_if_ge (tgt := 46) hx hb d_Ch_keyOf_39 (by decide) (fun c4 => ?_) (fun c4 => ?_)
      · have h := h0 c4
        refine lv_dload_n hx hb d_Ch_keyOf_46 rfl (lv_at hl 1 rfl) ?_
        exact l_Ch_keyOf_47 C0 x1 x3 h hW hS (lv_sub hl [] rfl)
      · have h := h1 c4
        refine lv_dconst0 hx hb d_Ch_keyOf_42 ?_
        refine lv_goto (tgt := 47) hx hb d_Ch_keyOf_43 (by decide) ?_
        exact l_Ch_keyOf_47 C0 FP.dconst0 x3 h hW hS (lv_sub hl [] rfl)
    · have h := h1 c1
      refine lv_lookup (off := 45) (tgt := 49) hx hb d_Ch_keyOf_4 (by decide) ((lv_osw c0 (by decide)).trans ((lv_osw c1 (by decide)).trans rfl)) (by decide) ?_
      refine lv_dconst0 hx hb d_Ch_keyOf_49 ?_
      exact W.dret hx hb hr (fun t ht hWm => ⟨⟨_, _, rfl, h, hw_t ht hW⟩, hS.F ht⟩) hS.2.2 d_Ch_keyOf_50
set_option maxRecDepth 20000 in
theorem c_Ch_keyOf {l : Launch} {D : va_G} {ca G : Nat → Nat} (post : UInt64 → hM → Prop) {M : hM} {sz : Nat} {a0 : Nat} {x1 : UInt64} {x3 : UInt64} (h : wp_Ch_keyOf G ca post M a0 x1 x3) : Met l y_Ch_keyOf (wz y_Ch_keyOf prog_2_method_4_code 5 (some .double)) rm_Ch_keyOf (va_Pc [.ref a0, .double x1, .double x3] (hI D ca G sz M)) (va_Qd post (hB D M sz) (hp_A M sz)) 0 0 (hp_A M sz) := by
  refine Met.ofW (cc := prog_2_method_4_code) (maxL := 5) (ret := some .double) (by decide) rfl ?_
  intro p e s m args below meth c s₁ B hml hv
  obtain ⟨rfl, hsz, hW, hK, hZ0⟩ := hv
  have hts := fun w hw => atoms_spec (ws := wz y_Ch_keyOf prog_2_method_4_code 5 (some .double)) B.pre w (List.mem_cons_of_mem _ hw)
  have hown : s.vm.findClass "ChannelHall$Channel" = some m.cls := findClass_of_methodNamed B.named
  subst hsz
  have hl := lv_entry [.ref a0, .double x1, .double x3] (n := 5) (Nat.le_of_ble_eq_true rfl)
  rw [lg_entry_eq]
  exact l_Ch_keyOf_e ⟨B.exec, B.bytes, B.returns, hml, hown, hts, B.notSynchronized, hK, fun q h => Or.inr h, hZ0⟩ a0 x1 x3 h hW va_S.rf hl

theorem d_Wo_init_0 : decode prog_5_method_1_code 0 = .ok (.aload_n 0, 1) := by decide +kernel
theorem d_Wo_init_1 : decode prog_5_method_1_code 1 = .ok (.invokespecial 3, 3) := by decide +kernel
theorem d_Wo_init_4 : decode prog_5_method_1_code 4 = .ok (.aload_n 0, 1) := by decide +kernel
theorem d_Wo_init_5 : decode prog_5_method_1_code 5 = .ok (.iconst 0, 1) := by decide +kernel
theorem d_Wo_init_6 : decode prog_5_method_1_code 6 = .ok (.putfield 9, 3) := by decide +kernel
theorem d_Wo_init_9 : decode prog_5_method_1_code 9 = .ok (.aload_n 0, 1) := by decide +kernel
theorem d_Wo_init_10 : decode prog_5_method_1_code 10 = .ok (.iconst (-1), 1) := by decide +kernel
theorem d_Wo_init_11 : decode prog_5_method_1_code 11 = .ok (.putfield 15, 3) := by decide +kernel
theorem d_Wo_init_14 : decode prog_5_method_1_code 14 = .ok (.aload_n 0, 1) := by decide +kernel
theorem d_Wo_init_15 : decode prog_5_method_1_code 15 = .ok (.iconst 0, 1) := by decide +kernel
theorem d_Wo_init_16 : decode prog_5_method_1_code 16 = .ok (.putfield 19, 3) := by decide +kernel
theorem d_Wo_init_19 : decode prog_5_method_1_code 19 = .ok (.aload_n 0, 1) := by decide +kernel
theorem d_Wo_init_20 : decode prog_5_method_1_code 20 = .ok (.iconst 0, 1) := by decide +kernel
theorem d_Wo_init_21 : decode prog_5_method_1_code 21 = .ok (.putfield 22, 3) := by decide +kernel
theorem d_Wo_init_24 : decode prog_5_method_1_code 24 = .ok (.aload_n 0, 1) := by decide +kernel
theorem d_Wo_init_25 : decode prog_5_method_1_code 25 = .ok (.aconst_null, 1) := by decide +kernel
theorem d_Wo_init_26 : decode prog_5_method_1_code 26 = .ok (.putfield 25, 3) := by decide +kernel
theorem d_Wo_init_29 : decode prog_5_method_1_code 29 = .ok (.aload_n 0, 1) := by decide +kernel
theorem d_Wo_init_30 : decode prog_5_method_1_code 30 = .ok (.getstatic 29, 3) := by decide +kernel
theorem d_Wo_init_33 : decode prog_5_method_1_code 33 = .ok (.putfield 35, 3) := by decide +kernel
theorem d_Wo_init_36 : decode prog_5_method_1_code 36 = .ok (.aload_n 0, 1) := by decide +kernel
theorem d_Wo_init_37 : decode prog_5_method_1_code 37 = .ok (.iconst 0, 1) := by decide +kernel
theorem d_Wo_init_38 : decode prog_5_method_1_code 38 = .ok (.putfield 38, 3) := by decide +kernel
theorem d_Wo_init_41 : decode prog_5_method_1_code 41 = .ok (.aload_n 0, 1) := by decide +kernel
theorem d_Wo_init_42 : decode prog_5_method_1_code 42 = .ok (.dconst 0, 1) := by decide +kernel
theorem d_Wo_init_43 : decode prog_5_method_1_code 43 = .ok (.putfield 41, 3) := by decide +kernel
theorem d_Wo_init_46 : decode prog_5_method_1_code 46 = .ok (.aload_n 0, 1) := by decide +kernel
theorem d_Wo_init_47 : decode prog_5_method_1_code 47 = .ok (.iconst 0, 1) := by decide +kernel
theorem d_Wo_init_48 : decode prog_5_method_1_code 48 = .ok (.putfield 45, 3) := by decide +kernel
theorem d_Wo_init_51 : decode prog_5_method_1_code 51 = .ok (.aload_n 0, 1) := by decide +kernel
theorem d_Wo_init_52 : decode prog_5_method_1_code 52 = .ok (.dconst 0, 1) := by decide +kernel
theorem d_Wo_init_53 : decode prog_5_method_1_code 53 = .ok (.putfield 48, 3) := by decide +kernel
theorem d_Wo_init_56 : decode prog_5_method_1_code 56 = .ok (.aload_n 0, 1) := by decide +kernel
theorem d_Wo_init_57 : decode prog_5_method_1_code 57 = .ok (.iload_n 1, 1) := by decide +kernel
theorem d_Wo_init_58 : decode prog_5_method_1_code 58 = .ok (.putfield 51, 3) := by decide +kernel
theorem d_Wo_init_61 : decode prog_5_method_1_code 61 = .ok (.return_, 1) := by decide +kernel
def y_Wo_init : MethodName := ⟨"ChannelHall$Worker", "<init>", "(I)V"⟩
abbrev rm_Wo_init : Room := { frames := 1, cells := 0, slots := 0, locals := 12 }
def wp_Wo_init (G ca : Nat → Nat) (post : hM → Prop) (M : hM) (a0 : Nat) (x1 : Int32) : Prop := pF M a0 2 1 (.int 0) fun M12 => pF M12 a0 2 2 (.int (-1)) fun M13 => pF M13 a0 2 3 (.int 0) fun M14 => pF M14 a0 2 4 (.int 0) fun M15 => pF M15 a0 2 5 (.null) fun M16 => pF M16 a0 2 6 (.ref (G 2)) fun M17 => pF M17 a0 2 7 (.int 0) fun M18 => pF M18 a0 2 8 (.double FP.dconst0) fun M19 => pF M19 a0 2 9 (.int 0) fun M20 => pF M20 a0 2 10 (.double FP.dconst0) fun M21 => pF M21 a0 2 0 (.int x1) fun M22 => post M22
set_option maxHeartbeats 1000000 in
set_option maxRecDepth 20000 in
theorem l_Wo_init_e {p : Program} {l : Launch} {e : Env} {s : State} {m : MethodId} {args : Array Value} {below : List Frame} {meth : Method} {c : Code} {D : va_G} {ca G : Nat → Nat} {A : Nat → Prop} (C0 : hC p s m args meth c D ca G prog_5_method_1_code 2 (none) "ChannelHall$Worker" A) (hin : meth.name = "<init>") {post : hM → Prop} {M : hM} {H : Heap} {locs : List Loc} {ls : Array Slot} (a0 : Nat) (x1 : Int32) (h : wp_Wo_init G ca post M a0 x1) (hW : hw D wCl A M H) (hS : va_S A s.heap H locs) (hl : lv_has ls 2 [(0, .ref a0), (1, .int x1)]) : W p l e rm_Wo_init s m args below meth c H locs 0 0 (MQ below (va_Qv post (fun M' t => hw D wCl A M' t.heap) A) args s 0 0 A) (F0 m 0 ls []) := by
  obtain ⟨hx, hb, hr, hml, hown, hts, hlocks, hK, hA, hZ0⟩ := id C0
  refine lv_aload_n hx hb d_Wo_init_0 rfl (lv_at hl 0 rfl) ?_
  refine W.objInit (rest := []) hx hb hown (hts _ bw_48) (hts _ bw_38) (hts _ bw_39) rfl (hl.1.trans hml.symm) rfl d_Wo_init_1 (Nat.le_of_ble_eq_true rfl) (Nat.le_of_ble_eq_true rfl) ?_
  refine W.eq (g2 := F0 m 4 ls []) rfl ?_
  refine lv_aload_n hx hb d_Wo_init_4 rfl (lv_at hl 0 rfl) ?_
  refine lv_iconst (v := 0) hx hb d_Wo_init_5 (by decide) ?_
  obtain ⟨fs, h1, h2, h⟩ := h
  obtain ⟨ws, q0, hq, hP, hD, hback, -⟩ := hw_open hW h1
  refine va_put (D := D) (ci := 2) (v := .int 0) (ty := .boolean) (C := "ChannelHall$Worker") (T := TWo) (N := 11) hx hb hts uWo tWo tWo_ok nWo hown hK hP hD hS q0 hq rfl 1 (by decide) (hts _ bw_53) (fun _ h9 => h9) rfl (by decide +kernel) (by decide) (by decide) h2 d_Wo_init_6 (fun H locs hP hD hS => ?_)
  have hW := hback _ _ hP hD
  generalize (va_up M a0 (some (.inr (2, fs.set 1 (.int 0))))) = M12 at h hW
  refine lv_aload_n hx hb d_Wo_init_9 rfl (lv_at hl 0 rfl) ?_
  refine lv_iconst (v := (-1)) hx hb d_Wo_init_10 (by decide) ?_
  obtain ⟨fs, h1, h2, h⟩ := h
  obtain ⟨ws, q0, hq, hP, hD, hback, -⟩ := hw_open hW h1
  refine va_put (D := D) (ci := 2) (v := .int (-1)) (ty := .int) (C := "ChannelHall$Worker") (T := TWo) (N := 11) hx hb hts uWo tWo tWo_ok nWo hown hK hP hD hS q0 hq rfl 2 (by decide) (hts _ bw_55) (fun _ h9 => h9) rfl (by decide +kernel) rfl rfl h2 d_Wo_init_11 (fun H locs hP hD hS => ?_)
  have hW := hback _ _ hP hD
  generalize (va_up M12 a0 (some (.inr (2, fs.set 2 (.int (-1)))))) = M13 at h hW
  refine lv_aload_n hx hb d_Wo_init_14 rfl (lv_at hl 0 rfl) ?_
  refine lv_iconst (v := 0) hx hb d_Wo_init_15 (by decide) ?_
  obtain ⟨fs, h1, h2, h⟩ := h
  obtain ⟨ws, q0, hq, hP, hD, hback, -⟩ := hw_open hW h1
  refine va_put (D := D) (ci := 2) (v := .int 0) (ty := .boolean) (C := "ChannelHall$Worker") (T := TWo) (N := 11) hx hb hts uWo tWo tWo_ok nWo hown hK hP hD hS q0 hq rfl 3 (by decide) (hts _ bw_58) (fun _ h9 => h9) rfl (by decide +kernel) (by decide) (by decide) h2 d_Wo_init_16 (fun H locs hP hD hS => ?_)
  have hW := hback _ _ hP hD
  generalize (va_up M13 a0 (some (.inr (2, fs.set 3 (.int 0))))) = M14 at h hW
  refine lv_aload_n hx hb d_Wo_init_19 rfl (lv_at hl 0 rfl) ?_
  refine lv_iconst (v := 0) hx hb d_Wo_init_20 (by decide) ?_
  obtain ⟨fs, h1, h2, h⟩ := h
  obtain ⟨ws, q0, hq, hP, hD, hback, -⟩ := hw_open hW h1
  refine va_put (D := D) (ci := 2) (v := .int 0) (ty := .int) (C := "ChannelHall$Worker") (T := TWo) (N := 11) hx hb hts uWo tWo tWo_ok nWo hown hK hP hD hS q0 hq rfl 4 (by decide) (hts _ bw_60) (fun _ h9 => h9) rfl (by decide +kernel) rfl rfl h2 d_Wo_init_21 (fun H locs hP hD hS => ?_)
  have hW := hback _ _ hP hD
  generalize (va_up M14 a0 (some (.inr (2, fs.set 4 (.int 0))))) = M15 at h hW
  refine lv_aload_n hx hb d_Wo_init_24 rfl (lv_at hl 0 rfl) ?_
  refine lv_null hx hb d_Wo_init_25 ?_
  obtain ⟨fs, h1, h2, h⟩ := h
  obtain ⟨ws, q0, hq, hP, hD, hback, -⟩ := hw_open hW h1
  refine va_put (D := D) (ci := 2) (v := .null) (ty := .object "ChannelHall$Channel") (C := "ChannelHall$Worker") (T := TWo) (N := 11) hx hb hts uWo tWo tWo_ok nWo hown hK hP hD hS q0 hq rfl 5 (by decide) (hts _ bw_62) (fun _ h9 => h9) rfl (by decide +kernel) rfl rfl h2 d_Wo_init_26 (fun H locs hP hD hS => ?_)
  have hW := hback _ _ hP hD
  generalize (va_up M15 a0 (some (.inr (2, fs.set 5 (.null))))) = M16 at h hW
  refine lv_aload_n hx hb d_Wo_init_29 rfl (lv_at hl 0 rfl) ?_
  refine va_gets (v := .ref (G 2)) hx hb (hZ0.2.2.1) hS hown (hts _ bw_49) (fun _ h9 => h9) d_Wo_init_30 ?_
  obtain ⟨fs, h1, h2, h⟩ := h
  obtain ⟨ws, q0, hq, hP, hD, hback, -⟩ := hw_open hW h1
  refine va_put (D := D) (ci := 2) (v := .ref (G 2)) (ty := .object "ChannelHall$Role") (C := "ChannelHall$Worker") (T := TWo) (N := 11) hx hb hts uWo tWo tWo_ok nWo hown hK hP hD hS q0 hq rfl 6 (by decide) (hts _ bw_65) (fun _ h9 => h9) rfl (by decide +kernel) rfl rfl h2 d_Wo_init_33 (fun H locs hP hD hS => ?_)
  have hW := hback _ _ hP hD
  generalize (va_up M16 a0 (some (.inr (2, fs.set 6 (.ref (G 2)))))) = M17 at h hW
  refine lv_aload_n hx hb d_Wo_init_36 rfl (lv_at hl 0 rfl) ?_
  refine lv_iconst (v := 0) hx hb d_Wo_init_37 (by decide) ?_
  obtain ⟨fs, h1, h2, h⟩ := h
  obtain ⟨ws, q0, hq, hP, hD, hback, -⟩ := hw_open hW h1
  refine va_put (D := D) (ci := 2) (v := .int 0) (ty := .int) (C := "ChannelHall$Worker") (T := TWo) (N := 11) hx hb hts uWo tWo tWo_ok nWo hown hK hP hD hS q0 hq rfl 7 (by decide) (hts _ bw_68) (fun _ h9 => h9) rfl (by decide +kernel) rfl rfl h2 d_Wo_init_38 (fun H locs hP hD hS => ?_)
  have hW := hback _ _ hP hD
  generalize (va_up M17 a0 (some (.inr (2, fs.set 7 (.int 0))))) = M18 at h hW
  refine lv_aload_n hx hb d_Wo_init_41 rfl (lv_at hl 0 rfl) ?_
  refine lv_dconst0 hx hb d_Wo_init_42 ?_
  obtain ⟨fs, h1, h2, h⟩ := h
  obtain ⟨ws, q0, hq, hP, hD, hback, -⟩ := hw_open hW h1
  refine va_put (D := D) (ci := 2) (v := .double FP.dconst0) (ty := .double) (C := "ChannelHall$Worker") (T := TWo) (N := 11) hx hb hts uWo tWo tWo_ok nWo hown hK hP hD hS q0 hq rfl 8 (by decide) (hts _ bw_71) (fun _ h9 => h9) rfl (by decide +kernel) rfl rfl h2 d_Wo_init_43 (fun H locs hP hD hS => ?_)
  have hW := hback _ _ hP hD
  generalize (va_up M18 a0 (some (.inr (2, fs.set 8 (.double FP.dconst0))))) = M19 at h hW
  refine lv_aload_n hx hb d_Wo_init_46 rfl (lv_at hl 0 rfl) ?_
  refine lv_iconst (v := 0) hx hb d_Wo_init_47 (by decide) ?_
  obtain ⟨fs, h1, h2, h⟩ := h
  obtain ⟨ws, q0, hq, hP, hD, hback, -⟩ := hw_open hW h1
  refine va_put (D := D) (ci := 2) (v := .int 0) (ty := .boolean) (C := "ChannelHall$Worker") (T := TWo) (N := 11) hx hb hts uWo tWo tWo_ok nWo hown hK hP hD hS q0 hq rfl 9 (by decide) (hts _ bw_73) (fun _ h9 => h9) rfl (by decide +kernel) (by decide) (by decide) h2 d_Wo_init_48 (fun H locs hP hD hS => ?_)
  have hW := hback _ _ hP hD
  generalize (va_up M19 a0 (some (.inr (2, fs.set 9 (.int 0))))) = M20 at h hW
  refine lv_aload_n hx hb d_Wo_init_51 rfl (lv_at hl 0 rfl) ?_
  refine lv_dconst0 hx hb d_Wo_init_52 ?_
  obtain ⟨fs, h1, h2, h⟩ := h
  obtain ⟨ws, q0, hq, hP, hD, hback, -⟩ := hw_open hW h1
  refine va_put (D := D) (ci := 2) (v := .double FP.dconst0) (ty := .double) (C := "ChannelHall$Worker") (T := TWo) (N := 11) hx hb hts uWo tWo tWo_ok nWo hown hK hP hD hS q0 hq rfl 10 (by decide) (hts _ bw_75) (fun _ h9 => h9) rfl (by decide +kernel) rfl rfl h2 d_Wo_init_53 (fun H locs hP hD hS => ?_)
  have hW := hback _ _ hP hD
  generalize (va_up M20 a0 (some (.inr (2, fs.set 10 (.double FP.dconst0))))) = M21 at h hW
  refine lv_aload_n hx hb d_Wo_init_56 rfl (lv_at hl 0 rfl) ?_
  refine lv_iload_n hx hb d_Wo_init_57 rfl (lv_at hl 1 rfl) ?_
  obtain ⟨fs, h1, h2, h⟩ := h
  obtain ⟨ws, q0, hq, hP, hD, hback, -⟩ := hw_open hW h1
  refine va_putF (D := D) (ci := 2) (v := .int x1) (ty := .int) (C := "ChannelHall$Worker") (T := TWo) (N := 11) hx hb hts uWo tWo tWo_ok nWo hown hK hP hD hS q0 hq rfl 0 (by decide) (hts _ bw_51) (fun _ h9 => h9) rfl hin rfl (by decide +kernel) rfl rfl h2 d_Wo_init_58 (fun H locs hP hD hS => ?_)
  have hW := hback _ _ hP hD
  generalize (va_up M21 a0 (some (.inr (2, fs.set 0 (.int x1))))) = M22 at h hW
  exact W.vret hx hb hr (fun t ht hWm => ⟨⟨_, rfl, h, hw_t ht hW⟩, hS.F ht⟩) hS.2.2 d_Wo_init_61
set_option maxRecDepth 20000 in
theorem c_Wo_init {l : Launch} {D : va_G} {ca G : Nat → Nat} (post : hM → Prop) {M : hM} {sz : Nat} {a0 : Nat} {x1 : Int32} (h : wp_Wo_init G ca post M a0 x1) : Met l y_Wo_init (wz y_Wo_init prog_5_method_1_code 2 (none)) rm_Wo_init (va_Pc [.ref a0, .int x1] (hI D ca G sz M)) (va_Qv post (hB D M sz) (hp_A M sz)) 0 0 (hp_A M sz) := by
  refine Met.ofW (cc := prog_5_method_1_code) (maxL := 2) (ret := none) (by decide) rfl ?_
  intro p e s m args below meth c s₁ B hml hv
  obtain ⟨rfl, hsz, hW, hK, hZ0⟩ := hv
  have hts := fun w hw => atoms_spec (ws := wz y_Wo_init prog_5_method_1_code 2 (none)) B.pre w (List.mem_cons_of_mem _ hw)
  have hown : s.vm.findClass "ChannelHall$Worker" = some m.cls := findClass_of_methodNamed B.named
  subst hsz
  have hl := lv_entry [.ref a0, .int x1] (n := 2) (Nat.le_of_ble_eq_true rfl)
  rw [lg_entry_eq]
  exact l_Wo_init_e ⟨B.exec, B.bytes, B.returns, hml, hown, hts, B.notSynchronized, hK, fun q h => Or.inr h, hZ0⟩ (name_of_methodNamed B.named B.method).1 a0 x1 h hW va_S.rf hl

theorem d_It_init_0 : decode prog_3_method_1_code 0 = .ok (.aload_n 0, 1) := by decide +kernel
theorem d_It_init_1 : decode prog_3_method_1_code 1 = .ok (.invokespecial 1, 3) := by decide +kernel
theorem d_It_init_4 : decode prog_3_method_1_code 4 = .ok (.aload_n 0, 1) := by decide +kernel
theorem d_It_init_5 : decode prog_3_method_1_code 5 = .ok (.iload_n 1, 1) := by decide +kernel
theorem d_It_init_6 : decode prog_3_method_1_code 6 = .ok (.putfield 7, 3) := by decide +kernel
theorem d_It_init_9 : decode prog_3_method_1_code 9 = .ok (.aload_n 0, 1) := by decide +kernel
theorem d_It_init_10 : decode prog_3_method_1_code 10 = .ok (.dload_n 2, 1) := by decide +kernel
theorem d_It_init_11 : decode prog_3_method_1_code 11 = .ok (.putfield 13, 3) := by decide +kernel
theorem d_It_init_14 : decode prog_3_method_1_code 14 = .ok (.aload_n 0, 1) := by decide +kernel
theorem d_It_init_15 : decode prog_3_method_1_code 15 = .ok (.dload 4, 2) := by decide +kernel
theorem d_It_init_17 : decode prog_3_method_1_code 17 = .ok (.putfield 17, 3) := by decide +kernel
theorem d_It_init_20 : decode prog_3_method_1_code 20 = .ok (.return_, 1) := by decide +kernel
def y_It_init : MethodName := ⟨"ChannelHall$Item", "<init>", "(IDD)V"⟩
abbrev rm_It_init : Room := { frames := 1, cells := 0, slots := 0, locals := 12 }
def wp_It_init (G ca : Nat → Nat) (post : hM → Prop) (M : hM) (a0 : Nat) (x1 : Int32) (x2 : UInt64) (x4 : UInt64) : Prop := pF M a0 1 0 (.int x1) fun M4 => pF M4 a0 1 1 (.double x2) fun M5 => pF M5 a0 1 2 (.double x4) fun M6 => post M6
set_option maxHeartbeats 1000000 in
set_option maxRecDepth 20000 in
theorem l_It_init_e {p : Program} {l : Launch} {e : Env} {s : State} {m : MethodId} {args : Array Value} {below : List Frame} {meth : Method} {c : Code} {D : va_G} {ca G : Nat → Nat} {A : Nat → Prop} (C0 : hC p s m args meth c D ca G prog_3_method_1_code 6 (none) "ChannelHall$Item" A) (hin : meth.name = "<init>") {post : hM → Prop} {M : hM} {H : Heap} {locs : List Loc} {ls : Array Slot} (a0 : Nat) (x1 : Int32) (x2 : UInt64) (x4 : UInt64) (h : wp_It_init G ca post M a0 x1 x2 x4) (hW : hw D wCl A M H) (hS : va_S A s.heap H locs) (hl : lv_has ls 6 [(0, .ref a0), (1, .int x1), (2, .double x2), (4, .double x4)]) : W p l e rm_It_init s m args below meth c H locs 0 0 (MQ below (va_Qv post (fun M' t => hw D wCl A M' t.heap) A) args s 0 0 A) (F0 m 0 ls []) := by
  obtain ⟨hx, hb, hr, hml, hown, hts, hlocks, hK, hA, hZ0⟩ := id C0
  refine lv_aload_n hx hb d_It_init_0 rfl (lv_at hl 0 rfl) ?_
  refine W.objInit (rest := []) hx hb hown (hts _ bw_481) (hts _ bw_38) (hts _ bw_39) rfl (hl.1.trans hml.symm) rfl d_It_init_1 (Nat.le_of_ble_eq_true rfl) (Nat.le_of_ble_eq_true rfl) ?_
  refine W.eq (g2 := F0 m 4 ls []) rfl ?_
  refine lv_aload_n hx hb d_It_init_4 rfl (lv_at hl 0 rfl) ?_
  refine lv_iload_n hx hb d_It_init_5 rfl (lv_at hl 1 rfl) ?_
  obtain ⟨fs, h1, h2, h⟩ := h
  obtain ⟨ws, q0, hq, hP, hD, hback, -⟩ := hw_open hW h1
  refine va_putF (D := D) (ci := 1) (v := .int x1) (ty := .int) (C := "ChannelHall$Item") (T := TIt) (N := 3) hx hb hts uIt tIt tIt_ok nIt hown hK hP hD hS q0 hq rfl 0 (by decide) (hts _ bw_482) (fun _ h9 => h9) rfl hin rfl (by decide +kernel) rfl rfl h2 d_It_init_6 (fun H locs hP hD hS => ?_)
  have hW := hback _ _ hP hD
  generalize (va_up M a0 (some (.inr (1, fs.set 0 (.int x1))))) = M4 at h hW
  refine lv_aload_n hx hb d_It_init_9 rfl (lv_at hl 0 rfl) ?_
  refine lv_dload_n hx hb d_It_init_10 rfl (lv_at hl 2 rfl) ?_
  obtain ⟨fs, h1, h2, h⟩ := h
  obtain ⟨ws, q0, hq, hP, hD, hback, -⟩ := hw_open hW h1
  refine va_putF (D := D) (ci := 1) (v := .double x2) (ty := .double) (C := "ChannelHall$Item") (T := TIt) (N := 3) hx hb hts uIt tIt tIt_ok nIt hown hK hP hD hS q0 hq rfl 1 (by decide) (hts _ bw_485) (fun _ h9 => h9) rfl hin rfl (by decide +kernel) rfl rfl h2 d_It_init_11 (fun H locs hP hD hS => ?_)
  have hW := hback _ _ hP hD
  generalize (va_up M4 a0 (some (.inr (1, fs.set 1 (.double x2))))) = M5 at h hW
  refine lv_aload_n hx hb d_It_init_14 rfl (lv_at hl 0 rfl) ?_
  refine lv_dload hx hb d_It_init_15 (lv_at hl 3 rfl) ?_
  obtain ⟨fs, h1, h2, h⟩ := h
  obtain ⟨ws, q0, hq, hP, hD, hback, -⟩ := hw_open hW h1
  refine va_putF (D := D) (ci := 1) (v := .double x4) (ty := .double) (C := "ChannelHall$Item") (T := TIt) (N := 3) hx hb hts uIt tIt tIt_ok nIt hown hK hP hD hS q0 hq rfl 2 (by decide) (hts _ bw_487) (fun _ h9 => h9) rfl hin rfl (by decide +kernel) rfl rfl h2 d_It_init_17 (fun H locs hP hD hS => ?_)
  have hW := hback _ _ hP hD
  generalize (va_up M5 a0 (some (.inr (1, fs.set 2 (.double x4))))) = M6 at h hW
  exact W.vret hx hb hr (fun t ht hWm => ⟨⟨_, rfl, h, hw_t ht hW⟩, hS.F ht⟩) hS.2.2 d_It_init_20
set_option maxRecDepth 20000 in
theorem c_It_init {l : Launch} {D : va_G} {ca G : Nat → Nat} (post : hM → Prop) {M : hM} {sz : Nat} {a0 : Nat} {x1 : Int32} {x2 : UInt64} {x4 : UInt64} (h : wp_It_init G ca post M a0 x1 x2 x4) : Met l y_It_init (wz y_It_init prog_3_method_1_code 6 (none)) rm_It_init (va_Pc [.ref a0, .int x1, .double x2, .double x4] (hI D ca G sz M)) (va_Qv post (hB D M sz) (hp_A M sz)) 0 0 (hp_A M sz) := by
  refine Met.ofW (cc := prog_3_method_1_code) (maxL := 6) (ret := none) (by decide) rfl ?_
  intro p e s m args below meth c s₁ B hml hv
  obtain ⟨rfl, hsz, hW, hK, hZ0⟩ := hv
  have hts := fun w hw => atoms_spec (ws := wz y_It_init prog_3_method_1_code 6 (none)) B.pre w (List.mem_cons_of_mem _ hw)
  have hown : s.vm.findClass "ChannelHall$Item" = some m.cls := findClass_of_methodNamed B.named
  subst hsz
  have hl := lv_entry [.ref a0, .int x1, .double x2, .double x4] (n := 6) (Nat.le_of_ble_eq_true rfl)
  rw [lg_entry_eq]
  exact l_It_init_e ⟨B.exec, B.bytes, B.returns, hml, hown, hts, B.notSynchronized, hK, fun q h => Or.inr h, hZ0⟩ (name_of_methodNamed B.named B.method).1 a0 x1 x2 x4 h hW va_S.rf hl

theorem d_Ac_init_0 : decode prog_28_method_1_code 0 = .ok (.aload_n 0, 1) := by decide +kernel
theorem d_Ac_init_1 : decode prog_28_method_1_code 1 = .ok (.invokespecial 1, 3) := by decide +kernel
theorem d_Ac_init_4 : decode prog_28_method_1_code 4 = .ok (.return_, 1) := by decide +kernel
def y_Ac_init : MethodName := ⟨"java/util/AbstractCollection", "<init>", "()V"⟩
abbrev rm_Ac_init : Room := { frames := 1, cells := 0, slots := 0, locals := 12 }
def wp_Ac_init (G ca : Nat → Nat) (post : hM → Prop) (M : hM) (a0 : Nat) : Prop := post M
set_option maxHeartbeats 1000000 in
set_option maxRecDepth 20000 in
theorem l_Ac_init_e {p : Program} {l : Launch} {e : Env} {s : State} {m : MethodId} {args : Array Value} {below : List Frame} {meth : Method} {c : Code} {D : va_G} {ca G : Nat → Nat} {A : Nat → Prop} (C0 : hC p s m args meth c D ca G prog_28_method_1_code 1 (none) "java/util/AbstractCollection" A) (hin : meth.name = "<init>") {post : hM → Prop} {M : hM} {H : Heap} {locs : List Loc} {ls : Array Slot} (a0 : Nat) (h : wp_Ac_init G ca post M a0) (hW : hw D wCl A M H) (hS : va_S A s.heap H locs) (hl : lv_has ls 1 [(0, .ref a0)]) : W p l e rm_Ac_init s m args below meth c H locs 0 0 (MQ below (va_Qv post (fun M' t => hw D wCl A M' t.heap) A) args s 0 0 A) (F0 m 0 ls []) := by
  obtain ⟨hx, hb, hr, hml, hown, hts, hlocks, hK, hA, hZ0⟩ := id C0
  refine lv_aload_n hx hb d_Ac_init_0 rfl (lv_at hl 0 rfl) ?_
  refine W.objInit (rest := []) hx hb hown (hts _ bw_233) (hts _ bw_38) (hts _ bw_39) rfl (hl.1.trans hml.symm) rfl d_Ac_init_1 (Nat.le_of_ble_eq_true rfl) (Nat.le_of_ble_eq_true rfl) ?_
  refine W.eq (g2 := F0 m 4 ls []) rfl ?_
  exact W.vret hx hb hr (fun t ht hWm => ⟨⟨_, rfl, h, hw_t ht hW⟩, hS.F ht⟩) hS.2.2 d_Ac_init_4
set_option maxRecDepth 20000 in
theorem c_Ac_init {l : Launch} {D : va_G} {ca G : Nat → Nat} (post : hM → Prop) {M : hM} {sz : Nat} {a0 : Nat} (h : wp_Ac_init G ca post M a0) : Met l y_Ac_init (wz y_Ac_init prog_28_method_1_code 1 (none)) rm_Ac_init (va_Pc [.ref a0] (hI D ca G sz M)) (va_Qv post (hB D M sz) (hp_A M sz)) 0 0 (hp_A M sz) := by
  refine Met.ofW (cc := prog_28_method_1_code) (maxL := 1) (ret := none) (by decide) rfl ?_
  intro p e s m args below meth c s₁ B hml hv
  obtain ⟨rfl, hsz, hW, hK, hZ0⟩ := hv
  have hts := fun w hw => atoms_spec (ws := wz y_Ac_init prog_28_method_1_code 1 (none)) B.pre w (List.mem_cons_of_mem _ hw)
  have hown : s.vm.findClass "java/util/AbstractCollection" = some m.cls := findClass_of_methodNamed B.named
  subst hsz
  have hl := lv_entry [.ref a0] (n := 1) (Nat.le_of_ble_eq_true rfl)
  rw [lg_entry_eq]
  exact l_Ac_init_e ⟨B.exec, B.bytes, B.returns, hml, hown, hts, B.notSynchronized, hK, fun q h => Or.inr h, hZ0⟩ (name_of_methodNamed B.named B.method).1 a0 h hW va_S.rf hl

theorem d_Ab_init_0 : decode prog_29_method_1_code 0 = .ok (.aload_n 0, 1) := by decide +kernel
theorem d_Ab_init_1 : decode prog_29_method_1_code 1 = .ok (.invokespecial 1, 3) := by decide +kernel
theorem d_Ab_init_4 : decode prog_29_method_1_code 4 = .ok (.aload_n 0, 1) := by decide +kernel
theorem d_Ab_init_5 : decode prog_29_method_1_code 5 = .ok (.iconst 0, 1) := by decide +kernel
theorem d_Ab_init_6 : decode prog_29_method_1_code 6 = .ok (.putfield 7, 3) := by decide +kernel
theorem d_Ab_init_9 : decode prog_29_method_1_code 9 = .ok (.return_, 1) := by decide +kernel
def y_Ab_init : MethodName := ⟨"java/util/AbstractList", "<init>", "()V"⟩
abbrev rm_Ab_init : Room := { frames := 2, cells := 0, slots := 0, locals := 32 }
def wp_Ab_init (G ca : Nat → Nat) (post : hM → Prop) (M : hM) (a0 : Nat) : Prop := wp_Ac_init G ca (fun M3 => pF M3 a0 4 2 (.int 0) fun M4 => post M4) M a0
set_option maxHeartbeats 1000000 in
set_option maxRecDepth 20000 in
theorem l_Ab_init_e {p : Program} {l : Launch} {e : Env} {s : State} {m : MethodId} {args : Array Value} {below : List Frame} {meth : Method} {c : Code} {D : va_G} {ca G : Nat → Nat} {A : Nat → Prop} (C0 : hC p s m args meth c D ca G prog_29_method_1_code 1 (none) "java/util/AbstractList" A) (hin : meth.name = "<init>") {post : hM → Prop} {M : hM} {H : Heap} {locs : List Loc} {ls : Array Slot} (a0 : Nat) (h : wp_Ab_init G ca post M a0) (hW : hw D wCl A M H) (hS : va_S A s.heap H locs) (hl : lv_has ls 1 [(0, .ref a0)]) : W p l e rm_Ab_init s m args below meth c H locs 0 0 (MQ below (va_Qv post (fun M' t => hw D wCl A M' t.heap) A) args s 0 0 A) (F0 m 0 ls []) := by
  obtain ⟨hx, hb, hr, hml, hown, hts, hlocks, hK, hA, hZ0⟩ := id C0
  refine lv_aload_n hx hb d_Ab_init_0 rfl (lv_at hl 0 rfl) ?_
  have h9 := h
  clear h
  have hF := hW.free hS hA
  refine va_callv (va_runI (As := []) (rest := []) ⟨hx, hb, hml, hown, hts⟩ (c_Ac_init _ h9) (cwI 0 hts (gi_z bw_232) rfl rfl rfl (hts _ bw_12) (hts _ bw_230) (hts _ bw_231) rfl (by decide +kernel) ⟨Nat.le_of_ble_eq_true rfl, Nat.le_of_ble_eq_true rfl⟩) ⟨hI.blind, hI.give hW hS hA hK hZ0⟩ rfl rfl hl.1 rfl (lv_room (Nat.le_of_ble_eq_true rfl)) d_Ab_init_1 ⟨(show _ ≤ 0 by omega), (show _ ≤ 0 by omega)⟩) hS (fun q _ z => hF q z) hF (fun M3 t H locs ht _ h hB1 _ _ hS => ?_)
  have hW := hw_back hF ht hB1
  clear h9
  refine lv_aload_n hx hb d_Ab_init_4 rfl (lv_at hl 0 rfl) ?_
  refine lv_iconst (v := 0) hx hb d_Ab_init_5 (by decide) ?_
  obtain ⟨fs, h1, h2, h⟩ := h
  obtain ⟨ws, q0, hq, hP, hD, hback, -⟩ := hw_open hW h1
  refine va_put (D := D) (ci := 4) (v := .int 0) (ty := .int) (C := "java/util/ArrayList") (T := TAl) (N := 3) hx hb hts uAl tAl tAl_ok nAl hown hK hP hD hS q0 hq rfl 2 (by decide) (hts _ bw_238) (fun _ h9 => h9) rfl (by decide +kernel) rfl rfl h2 d_Ab_init_6 (fun H locs hP hD hS => ?_)
  have hW := hback _ _ hP hD
  generalize (va_up M3 a0 (some (.inr (4, fs.set 2 (.int 0))))) = M4 at h hW
  exact W.vret hx hb hr (fun t ht hWm => ⟨⟨_, rfl, h, hw_t ht hW⟩, hS.F ht⟩) hS.2.2 d_Ab_init_9
set_option maxRecDepth 20000 in
theorem c_Ab_init {l : Launch} {D : va_G} {ca G : Nat → Nat} (post : hM → Prop) {M : hM} {sz : Nat} {a0 : Nat} (h : wp_Ab_init G ca post M a0) : Met l y_Ab_init (wz y_Ab_init prog_29_method_1_code 1 (none)) rm_Ab_init (va_Pc [.ref a0] (hI D ca G sz M)) (va_Qv post (hB D M sz) (hp_A M sz)) 0 0 (hp_A M sz) := by
  refine Met.ofW (cc := prog_29_method_1_code) (maxL := 1) (ret := none) (by decide) rfl ?_
  intro p e s m args below meth c s₁ B hml hv
  obtain ⟨rfl, hsz, hW, hK, hZ0⟩ := hv
  have hts := fun w hw => atoms_spec (ws := wz y_Ab_init prog_29_method_1_code 1 (none)) B.pre w (List.mem_cons_of_mem _ hw)
  have hown : s.vm.findClass "java/util/AbstractList" = some m.cls := findClass_of_methodNamed B.named
  subst hsz
  have hl := lv_entry [.ref a0] (n := 1) (Nat.le_of_ble_eq_true rfl)
  rw [lg_entry_eq]
  exact l_Ab_init_e ⟨B.exec, B.bytes, B.returns, hml, hown, hts, B.notSynchronized, hK, fun q h => Or.inr h, hZ0⟩ (name_of_methodNamed B.named B.method).1 a0 h hW va_S.rf hl

theorem d_Al_init_0 : decode prog_30_method_2_code 0 = .ok (.aload_n 0, 1) := by decide +kernel
theorem d_Al_init_1 : decode prog_30_method_2_code 1 = .ok (.invokespecial 1, 3) := by decide +kernel
theorem d_Al_init_4 : decode prog_30_method_2_code 4 = .ok (.aload_n 0, 1) := by decide +kernel
theorem d_Al_init_5 : decode prog_30_method_2_code 5 = .ok (.getstatic 39, 3) := by decide +kernel
theorem d_Al_init_8 : decode prog_30_method_2_code 8 = .ok (.putfield 9, 3) := by decide +kernel
theorem d_Al_init_11 : decode prog_30_method_2_code 11 = .ok (.return_, 1) := by decide +kernel
def y_Al_init : MethodName := ⟨"java/util/ArrayList", "<init>", "()V"⟩
abbrev rm_Al_init : Room := { frames := 3, cells := 0, slots := 0, locals := 52 }
def wp_Al_init (G ca : Nat → Nat) (post : hM → Prop) (M : hM) (a0 : Nat) : Prop := wp_Ab_init G ca (fun M3 => pF M3 a0 4 0 (.ref (G 3)) fun M4 => post M4) M a0
set_option maxHeartbeats 1000000 in
set_option maxRecDepth 20000 in
theorem l_Al_init_e {p : Program} {l : Launch} {e : Env} {s : State} {m : MethodId} {args : Array Value} {below : List Frame} {meth : Method} {c : Code} {D : va_G} {ca G : Nat → Nat} {A : Nat → Prop} (C0 : hC p s m args meth c D ca G prog_30_method_2_code 1 (none) "java/util/ArrayList" A) (hin : meth.name = "<init>") {post : hM → Prop} {M : hM} {H : Heap} {locs : List Loc} {ls : Array Slot} (a0 : Nat) (h : wp_Al_init G ca post M a0) (hW : hw D wCl A M H) (hS : va_S A s.heap H locs) (hl : lv_has ls 1 [(0, .ref a0)]) : W p l e rm_Al_init s m args below meth c H locs 0 0 (MQ below (va_Qv post (fun M' t => hw D wCl A M' t.heap) A) args s 0 0 A) (F0 m 0 ls []) := by
  obtain ⟨hx, hb, hr, hml, hown, hts, hlocks, hK, hA, hZ0⟩ := id C0
  refine lv_aload_n hx hb d_Al_init_0 rfl (lv_at hl 0 rfl) ?_
  have h9 := h
  clear h
  have hF := hW.free hS hA
  refine va_callv (va_runI (As := []) (rest := []) ⟨hx, hb, hml, hown, hts⟩ (c_Ab_init _ h9) (cwI 0 hts (gi_z bw_229) rfl rfl rfl (hts _ bw_13) (hts _ bw_227) (hts _ bw_228) rfl (by decide +kernel) ⟨Nat.le_of_ble_eq_true rfl, Nat.le_of_ble_eq_true rfl⟩) ⟨hI.blind, hI.give hW hS hA hK hZ0⟩ rfl rfl hl.1 rfl (lv_room (Nat.le_of_ble_eq_true rfl)) d_Al_init_1 ⟨(show _ ≤ 0 by omega), (show _ ≤ 0 by omega)⟩) hS (fun q _ z => hF q z) hF (fun M3 t H locs ht _ h hB1 _ _ hS => ?_)
  have hW := hw_back hF ht hB1
  clear h9
  refine lv_aload_n hx hb d_Al_init_4 rfl (lv_at hl 0 rfl) ?_
  refine va_gets (v := .ref (G 3)) hx hb (hZ0.2.2.2.1) hS hown (hts _ bw_234) (fun _ h9 => h9) d_Al_init_5 ?_
  obtain ⟨fs, h1, h2, h⟩ := h
  obtain ⟨ws, q0, hq, hP, hD, hback, -⟩ := hw_open hW h1
  refine va_put (D := D) (ci := 4) (v := .ref (G 3)) (ty := .array (.object "java/lang/Object")) (C := "java/util/ArrayList") (T := TAl) (N := 3) hx hb hts uAl tAl tAl_ok nAl hown hK hP hD hS q0 hq rfl 0 (by decide) (hts _ bw_236) (fun _ h9 => h9) rfl (by decide +kernel) rfl rfl h2 d_Al_init_8 (fun H locs hP hD hS => ?_)
  have hW := hback _ _ hP hD
  generalize (va_up M3 a0 (some (.inr (4, fs.set 0 (.ref (G 3)))))) = M4 at h hW
  exact W.vret hx hb hr (fun t ht hWm => ⟨⟨_, rfl, h, hw_t ht hW⟩, hS.F ht⟩) hS.2.2 d_Al_init_11
set_option maxRecDepth 20000 in
theorem c_Al_init {l : Launch} {D : va_G} {ca G : Nat → Nat} (post : hM → Prop) {M : hM} {sz : Nat} {a0 : Nat} (h : wp_Al_init G ca post M a0) : Met l y_Al_init (wz y_Al_init prog_30_method_2_code 1 (none)) rm_Al_init (va_Pc [.ref a0] (hI D ca G sz M)) (va_Qv post (hB D M sz) (hp_A M sz)) 0 0 (hp_A M sz) := by
  refine Met.ofW (cc := prog_30_method_2_code) (maxL := 1) (ret := none) (by decide) rfl ?_
  intro p e s m args below meth c s₁ B hml hv
  obtain ⟨rfl, hsz, hW, hK, hZ0⟩ := hv
  have hts := fun w hw => atoms_spec (ws := wz y_Al_init prog_30_method_2_code 1 (none)) B.pre w (List.mem_cons_of_mem _ hw)
  have hown : s.vm.findClass "java/util/ArrayList" = some m.cls := findClass_of_methodNamed B.named
  subst hsz
  have hl := lv_entry [.ref a0] (n := 1) (Nat.le_of_ble_eq_true rfl)
  rw [lg_entry_eq]
  exact l_Al_init_e ⟨B.exec, B.bytes, B.returns, hml, hown, hts, B.notSynchronized, hK, fun q h => Or.inr h, hZ0⟩ (name_of_methodNamed B.named B.method).1 a0 h hW va_S.rf hl

theorem d_Ch_init_0 : decode prog_2_method_1_code 0 = .ok (.aload_n 0, 1) := by decide +kernel
theorem d_Ch_init_1 : decode prog_2_method_1_code 1 = .ok (.invokespecial 3, 3) := by decide +kernel
theorem d_Ch_init_4 : decode prog_2_method_1_code 4 = .ok (.aload_n 0, 1) := by decide +kernel
theorem d_Ch_init_5 : decode prog_2_method_1_code 5 = .ok (.new 9, 3) := by decide +kernel
theorem d_Ch_init_8 : decode prog_2_method_1_code 8 = .ok (.dup, 1) := by decide +kernel
theorem d_Ch_init_9 : decode prog_2_method_1_code 9 = .ok (.invokespecial 11, 3) := by decide +kernel
theorem d_Ch_init_12 : decode prog_2_method_1_code 12 = .ok (.putfield 12, 3) := by decide +kernel
theorem d_Ch_init_15 : decode prog_2_method_1_code 15 = .ok (.aload_n 0, 1) := by decide +kernel
theorem d_Ch_init_16 : decode prog_2_method_1_code 16 = .ok (.new 9, 3) := by decide +kernel
theorem d_Ch_init_19 : decode prog_2_method_1_code 19 = .ok (.dup, 1) := by decide +kernel
theorem d_Ch_init_20 : decode prog_2_method_1_code 20 = .ok (.invokespecial 11, 3) := by decide +kernel
theorem d_Ch_init_23 : decode prog_2_method_1_code 23 = .ok (.putfield 18, 3) := by decide +kernel
theorem d_Ch_init_26 : decode prog_2_method_1_code 26 = .ok (.aload_n 0, 1) := by decide +kernel
theorem d_Ch_init_27 : decode prog_2_method_1_code 27 = .ok (.iconst 0, 1) := by decide +kernel
theorem d_Ch_init_28 : decode prog_2_method_1_code 28 = .ok (.putfield 21, 3) := by decide +kernel
theorem d_Ch_init_31 : decode prog_2_method_1_code 31 = .ok (.aload_n 0, 1) := by decide +kernel
theorem d_Ch_init_32 : decode prog_2_method_1_code 32 = .ok (.iconst 0, 1) := by decide +kernel
theorem d_Ch_init_33 : decode prog_2_method_1_code 33 = .ok (.putfield 25, 3) := by decide +kernel
theorem d_Ch_init_36 : decode prog_2_method_1_code 36 = .ok (.aload_n 0, 1) := by decide +kernel
theorem d_Ch_init_37 : decode prog_2_method_1_code 37 = .ok (.dconst 0, 1) := by decide +kernel
theorem d_Ch_init_38 : decode prog_2_method_1_code 38 = .ok (.putfield 29, 3) := by decide +kernel
theorem d_Ch_init_41 : decode prog_2_method_1_code 41 = .ok (.aload_n 0, 1) := by decide +kernel
theorem d_Ch_init_42 : decode prog_2_method_1_code 42 = .ok (.iconst 0, 1) := by decide +kernel
theorem d_Ch_init_43 : decode prog_2_method_1_code 43 = .ok (.putfield 33, 3) := by decide +kernel
theorem d_Ch_init_46 : decode prog_2_method_1_code 46 = .ok (.aload_n 0, 1) := by decide +kernel
theorem d_Ch_init_47 : decode prog_2_method_1_code 47 = .ok (.iload_n 1, 1) := by decide +kernel
theorem d_Ch_init_48 : decode prog_2_method_1_code 48 = .ok (.putfield 36, 3) := by decide +kernel
theorem d_Ch_init_51 : decode prog_2_method_1_code 51 = .ok (.aload_n 0, 1) := by decide +kernel
theorem d_Ch_init_52 : decode prog_2_method_1_code 52 = .ok (.iload_n 2, 1) := by decide +kernel
theorem d_Ch_init_53 : decode prog_2_method_1_code 53 = .ok (.putfield 39, 3) := by decide +kernel
theorem d_Ch_init_56 : decode prog_2_method_1_code 56 = .ok (.aload_n 0, 1) := by decide +kernel
theorem d_Ch_init_57 : decode prog_2_method_1_code 57 = .ok (.iload_n 2, 1) := by decide +kernel
theorem d_Ch_init_58 : decode prog_2_method_1_code 58 = .ok (.iload_n 3, 1) := by decide +kernel
theorem d_Ch_init_59 : decode prog_2_method_1_code 59 = .ok (.invokestatic 42, 3) := by decide +kernel
theorem d_Ch_init_62 : decode prog_2_method_1_code 62 = .ok (.putfield 46, 3) := by decide +kernel
theorem d_Ch_init_65 : decode prog_2_method_1_code 65 = .ok (.aload_n 0, 1) := by decide +kernel
theorem d_Ch_init_66 : decode prog_2_method_1_code 66 = .ok (.iload_n 2, 1) := by decide +kernel
theorem d_Ch_init_67 : decode prog_2_method_1_code 67 = .ok (.bipush 6, 2) := by decide +kernel
theorem d_Ch_init_69 : decode prog_2_method_1_code 69 = .ok (.if_icmp .ne 7, 3) := by decide +kernel
theorem d_Ch_init_72 : decode prog_2_method_1_code 72 = .ok (.iload_n 3, 1) := by decide +kernel
theorem d_Ch_init_73 : decode prog_2_method_1_code 73 = .ok (.goto 4, 3) := by decide +kernel
theorem d_Ch_init_76 : decode prog_2_method_1_code 76 = .ok (.iconst 0, 1) := by decide +kernel
theorem d_Ch_init_77 : decode prog_2_method_1_code 77 = .ok (.putfield 49, 3) := by decide +kernel
theorem d_Ch_init_80 : decode prog_2_method_1_code 80 = .ok (.return_, 1) := by decide +kernel
def y_Ch_init : MethodName := ⟨"ChannelHall$Channel", "<init>", "(III)V"⟩
abbrev rm_Ch_init : Room := { frames := 4, cells := 2, slots := 6, locals := 72 }
def wp_Ch_init_77 (G ca : Nat → Nat) (post : hM → Prop) (M : hM) (s0b77 : Int32) (s1b77 : Nat) : Prop := pF M s1b77 0 3 (.int s0b77) fun M20 => post M20
def wp_Ch_init (G ca : Nat → Nat) (post : hM → Prop) (M : hM) (a0 : Nat) (x1 : Int32) (x2 : Int32) (x3 : Int32) : Prop := nO M (.inr (4, [.null, .int 0, .int 0])) fun q21 M22 => wp_Al_init G ca (fun M23 => pF M23 a0 0 4 (.ref q21) fun M24 => nO M24 (.inr (4, [.null, .int 0, .int 0])) fun q25 M26 => wp_Al_init G ca (fun M27 => pF M27 a0 0 5 (.ref q25) fun M28 => pF M28 a0 0 6 (.int 0) fun M29 => pF M29 a0 0 7 (.int 0) fun M30 => pF M30 a0 0 8 (.double FP.dconst0) fun M31 => pF M31 a0 0 9 (.int 0) fun M32 => pF M32 a0 0 0 (.int x1) fun M33 => pF M33 a0 0 1 (.int x2) fun M34 => wp_Ch_roomOf G ca (fun r35 M36 => pF M36 a0 0 2 (.int r35) fun M37 => (¬ x2 = 6 → wp_Ch_init_77 G ca post M37 0 a0) ∧ (x2 = 6 → wp_Ch_init_77 G ca post M37 x3 a0)) M34 x2 x3) M26 q25) M22 q21
set_option maxHeartbeats 1000000 in
set_option maxRecDepth 20000 in
theorem l_Ch_init_77 {p : Program} {l : Launch} {e : Env} {s : State} {m : MethodId} {args : Array Value} {below : List Frame} {meth : Method} {c : Code} {D : va_G} {ca G : Nat → Nat} {A : Nat → Prop} (C0 : hC p s m args meth c D ca G prog_2_method_1_code 4 (none) "ChannelHall$Channel" A) (hin : meth.name = "<init>") {post : hM → Prop} {M : hM} {H : Heap} {locs : List Loc} {ls : Array Slot} {cells slots : Nat} (s0b77 : Int32) (s1b77 : Nat) (hc : cells ≤ 2) (hs : slots ≤ 6) (h : wp_Ch_init_77 G ca post M s0b77 s1b77) (hW : hw D wCl A M H) (hS : va_S A s.heap H locs) (hl : lv_has ls 4 []) : W p l e rm_Ch_init s m args below meth c H locs cells slots (MQ below (va_Qv post (fun M' t => hw D wCl A M' t.heap) A) args s 2 6 A) (F0 m 77 ls [.int s0b77, .ref s1b77]) := by
  obtain ⟨hx, hb, hr, hml, hown, hts, hlocks, hK, hA, hZ0⟩ := id C0
  obtain ⟨fs, h1, h2, h⟩ := h
  obtain ⟨ws, q0, hq, hP, hD, hback, -⟩ := hw_open hW h1
  refine va_putF (D := D) (ci := 0) (v := .int s0b77) (ty := .int) (C := "ChannelHall$Channel") (T := TCh) (N := 10) hx hb hts uCh tCh tCh_ok nCh hown hK hP hD hS q0 hq rfl 3 (by decide) (hts _ bw_256) (fun _ h9 => h9) rfl hin rfl (by decide +kernel) rfl rfl h2 d_Ch_init_77 (fun H locs hP hD hS => ?_)
  have hW := hback _ _ hP hD
  generalize (va_up M s1b77 (some (.inr (0, fs.set 3 (.int s0b77))))) = M20 at h hW
  refine W.widen (k := 2) (n := 6) (by omega) (by omega) ?_
  exact W.vret hx hb hr (fun t ht hWm => ⟨⟨_, rfl, h, hw_t ht hW⟩, hS.F ht⟩) hS.2.2 d_Ch_init_80
set_option maxHeartbeats 1000000 in
set_option maxRecDepth 20000 in
theorem l_Ch_init_e {p : Program} {l : Launch} {e : Env} {s : State} {m : MethodId} {args : Array Value} {below : List Frame} {meth : Method} {c : Code} {D : va_G} {ca G : Nat → Nat} {A : Nat → Prop} (C0 : hC p s m args meth c D ca G prog_2_method_1_code 4 (none) "ChannelHall$Channel" A) (hin : meth.name = "<init>") {post : hM → Prop} {M : hM} {H : Heap} {locs : List Loc} {ls : Array Slot} {cells slots : Nat} (a0 : Nat) (x1 : Int32) (x2 : Int32) (x3 : Int32) (hc : cells ≤ 0) (hs : slots ≤ 0) (h : wp_Ch_init G ca post M a0 x1 x2 x3) (hW : hw D wCl A M H) (hS : va_S A s.heap H locs) (hl : lv_has ls 4 [(0, .ref a0), (1, .int x1), (2, .int x2), (3, .int x3)]) : W p l e rm_Ch_init s m args below meth c H locs cells slots (MQ below (va_Qv post (fun M' t => hw D wCl A M' t.heap) A) args s 2 6 A) (F0 m 0 ls []) := by
  obtain ⟨hx, hb, hr, hml, hown, hts, hlocks, hK, hA, hZ0⟩ := id C0
  refine lv_aload_n hx hb d_Ch_init_0 rfl (lv_at hl 0 rfl) ?_
  refine W.objInit (rest := []) hx hb hown (hts _ bw_221) (hts _ bw_38) (hts _ bw_39) rfl (hl.1.trans hml.symm) rfl d_Ch_init_1 (Nat.le_of_ble_eq_true rfl) (Nat.le_of_ble_eq_true rfl) ?_
  refine W.eq (g2 := F0 m 4 ls []) rfl ?_
  refine lv_aload_n hx hb d_Ch_init_4 rfl (lv_at hl 0 rfl) ?_
  obtain ⟨ws, hP, hD, hmake⟩ := hw_make hW
  refine va_new (ci := 4) (fs := [.null, .int 0, .int 0]) (C := "java/util/ArrayList") (T := TAl) (N := 3) hx hb hts uAl tAl tAl_ok hown (hts _ bw_222) (hts _ bw_223) (hts _ bw_14) hK hP hD hS hA rfl (by decide) (show _ ≤ 2 by omega) (show _ ≤ 6 by omega) d_Ch_init_5 (fun q21 H hP hD hS => ?_)
  obtain ⟨hfr, hW⟩ := hmake _ _ _ hP hD
  replace h := h q21 hfr
  generalize va_up M q21 _ = M22 at h hW
  refine lv_dup hx hb d_Ch_init_8 rfl ?_
  have h9 := h
  clear h
  have hF := hW.free hS hA
  refine va_callv (va_runI (As := []) (rest := [.ref q21, .ref a0]) ⟨hx, hb, hml, hown, hts⟩ (c_Al_init _ h9) (cwI 0 hts (gi_z bw_226) rfl rfl rfl (hts _ bw_14) (hts _ bw_224) (hts _ bw_225) rfl (by decide +kernel) ⟨Nat.le_of_ble_eq_true rfl, Nat.le_of_ble_eq_true rfl⟩) ⟨hI.blind, hI.give hW hS hA hK hZ0⟩ rfl rfl hl.1 rfl (lv_room (Nat.le_of_ble_eq_true rfl)) d_Ch_init_9 ⟨(show _ ≤ 2 by omega), (show _ ≤ 6 by omega)⟩) hS (fun q _ z => hF q z) hF (fun M23 t H locs ht _ h hB1 _ _ hS => ?_)
  have hW := hw_back hF ht hB1
  clear h9
  obtain ⟨fs, h1, h2, h⟩ := h
  obtain ⟨ws, q0, hq, hP, hD, hback, -⟩ := hw_open hW h1
  refine va_putF (D := D) (ci := 0) (v := .ref q21) (ty := .object "java/util/ArrayList") (C := "ChannelHall$Channel") (T := TCh) (N := 10) hx hb hts uCh tCh tCh_ok nCh hown hK hP hD hS q0 hq rfl 4 (by decide) (hts _ bw_258) (fun _ h9 => h9) rfl hin rfl (by decide +kernel) rfl rfl h2 d_Ch_init_12 (fun H locs hP hD hS => ?_)
  have hW := hback _ _ hP hD
  generalize (va_up M23 a0 (some (.inr (0, fs.set 4 (.ref q21))))) = M24 at h hW
  refine lv_aload_n hx hb d_Ch_init_15 rfl (lv_at hl 0 rfl) ?_
  obtain ⟨ws, hP, hD, hmake⟩ := hw_make hW
  refine va_new (ci := 4) (fs := [.null, .int 0, .int 0]) (C := "java/util/ArrayList") (T := TAl) (N := 3) hx hb hts uAl tAl tAl_ok hown (hts _ bw_222) (hts _ bw_223) (hts _ bw_14) hK hP hD hS hA rfl (by decide) (show _ ≤ 2 by omega) (show _ ≤ 6 by omega) d_Ch_init_16 (fun q25 H hP hD hS => ?_)
  obtain ⟨hfr, hW⟩ := hmake _ _ _ hP hD
  replace h := h q25 hfr
  generalize va_up M24 q25 _ = M26 at h hW
  refine lv_dup hx hb d_Ch_init_19 rfl ?_
  have h9 := h
  clear h
  have hF := hW.free hS hA
  refine va_callv (va_runI (As := []) (rest := [.ref q25, .ref a0]) ⟨hx, hb, hml, hown, hts⟩ (c_Al_init _ h9) (cwI 0 hts (gi_z bw_226) rfl rfl rfl (hts _ bw_14) (hts _ bw_224) (hts _ bw_225) rfl (by decide +kernel) ⟨Nat.le_of_ble_eq_true rfl, Nat.le_of_ble_eq_true rfl⟩) ⟨hI.blind, hI.give hW hS hA hK hZ0⟩ rfl rfl hl.1 rfl (lv_room (Nat.le_of_ble_eq_true rfl)) d_Ch_init_20 ⟨(show _ ≤ 2 by omega), (show _ ≤ 6 by omega)⟩) hS (fun q _ z => hF q z) hF (fun M27 t H locs ht _ h hB1 _ _ hS => ?_)
  have hW := hw_back hF ht hB1
  clear h9
  obtain ⟨fs, h1, h2, h⟩ := h
  obtain ⟨ws, q0, hq, hP, hD, hback, -⟩ := hw_open hW h1
  refine va_putF (D := D) (ci := 0) (v := .ref q25) (ty := .object "java/util/ArrayList") (C := "ChannelHall$Channel") (T := TCh) (N := 10) hx hb hts uCh tCh tCh_ok nCh hown hK hP hD hS q0 hq rfl 5 (by decide) (hts _ bw_260) (fun _ h9 => h9) rfl hin rfl (by decide +kernel) rfl rfl h2 d_Ch_init_23 (fun H locs hP hD hS => ?_)
  have hW := hback _ _ hP hD
  generalize (va_up M27 a0 (some (.inr (0, fs.set 5 (.ref q25))))) = M28 at h hW
  refine lv_aload_n hx hb d_Ch_init_26 rfl (lv_at hl 0 rfl) ?_
  refine lv_iconst (v := 0) hx hb d_Ch_init_27 (by decide) ?_
  obtain ⟨fs, h1, h2, h⟩ := h
  obtain ⟨ws, q0, hq, hP, hD, hback, -⟩ := hw_open hW h1
  refine va_put (D := D) (ci := 0) (v := .int 0) (ty := .boolean) (C := "ChannelHall$Channel") (T := TCh) (N := 10) hx hb hts uCh tCh tCh_ok nCh hown hK hP hD hS q0 hq rfl 6 (by decide) (hts _ bw_262) (fun _ h9 => h9) rfl (by decide +kernel) (by decide) (by decide) h2 d_Ch_init_28 (fun H locs hP hD hS => ?_)
  have hW := hback _ _ hP hD
  generalize (va_up M28 a0 (some (.inr (0, fs.set 6 (.int 0))))) = M29 at h hW
  refine lv_aload_n hx hb d_Ch_init_31 rfl (lv_at hl 0 rfl) ?_
  refine lv_iconst (v := 0) hx hb d_Ch_init_32 (by decide) ?_
  obtain ⟨fs, h1, h2, h⟩ := h
  obtain ⟨ws, q0, hq, hP, hD, hback, -⟩ := hw_open hW h1
  refine va_put (D := D) (ci := 0) (v := .int 0) (ty := .int) (C := "ChannelHall$Channel") (T := TCh) (N := 10) hx hb hts uCh tCh tCh_ok nCh hown hK hP hD hS q0 hq rfl 7 (by decide) (hts _ bw_264) (fun _ h9 => h9) rfl (by decide +kernel) rfl rfl h2 d_Ch_init_33 (fun H locs hP hD hS => ?_)
  have hW := hback _ _ hP hD
  generalize (va_up M29 a0 (some (.inr (0, fs.set 7 (.int 0))))) = M30 at h hW
  refine lv_aload_n hx hb d_Ch_init_36 rfl (lv_at hl 0 rfl) ?_
  refine lv_dconst0 hx hb d_Ch_init_37 ?_
  obtain ⟨fs, h1, h2, h⟩ := h
  obtain ⟨ws, q0, hq, hP, hD, hback, -⟩ := hw_open hW h1
  refine va_put (D := D) (ci := 0) (v := .double FP.dconst0) (ty := .double) (C := "ChannelHall$Channel") (T := TCh) (N := 10) hx hb hts uCh tCh tCh_ok nCh hown hK hP hD hS q0 hq rfl 8 (by decide) (hts _ bw_266) (fun _ h9 => h9) rfl (by decide +kernel) rfl rfl h2 d_Ch_init_38 (fun H locs hP hD hS => ?_)
  have hW := hback _ _ hP hD
  generalize (va_up M30 a0 (some (.inr (0, fs.set 8 (.double FP.dconst0))))) = M31 at h hW
  refine lv_aload_n hx hb d_Ch_init_41 rfl (lv_at hl 0 rfl) ?_
  refine lv_iconst (v := 0) hx hb d_Ch_init_42 (by decide) ?_
  obtain ⟨fs, h1, h2, h⟩ := h
  obtain ⟨ws, q0, hq, hP, hD, hback, -⟩ := hw_open hW h1
  refine va_put (D := D) (ci := 0) (v := .int 0) (ty := .int) (C := "ChannelHall$Channel") (T := TCh) (N := 10) hx hb hts uCh tCh tCh_ok nCh hown hK hP hD hS q0 hq rfl 9 (by decide) (hts _ bw_268) (fun _ h9 => h9) rfl (by decide +kernel) rfl rfl h2 d_Ch_init_43 (fun H locs hP hD hS => ?_)
  have hW := hback _ _ hP hD
  generalize (va_up M31 a0 (some (.inr (0, fs.set 9 (.int 0))))) = M32 at h hW
  refine lv_aload_n hx hb d_Ch_init_46 rfl (lv_at hl 0 rfl) ?_
  refine lv_iload_n hx hb d_Ch_init_47 rfl (lv_at hl 1 rfl) ?_
  obtain ⟨fs, h1, h2, h⟩ := h
  obtain ⟨ws, q0, hq, hP, hD, hback, -⟩ := hw_open hW h1
  refine va_putF (D := D) (ci := 0) (v := .int x1) (ty := .int) (C := "ChannelHall$Channel") (T := TCh) (N := 10) hx hb hts uCh tCh tCh_ok nCh hown hK hP hD hS q0 hq rfl 0 (by decide) (hts _ bw_251) (fun _ h9 => h9) rfl hin rfl (by decide +kernel) rfl rfl h2 d_Ch_init_48 (fun H locs hP hD hS => ?_)
  have hW := hback _ _ hP hD
  generalize (va_up M32 a0 (some (.inr (0, fs.set 0 (.int x1))))) = M33 at h hW
  refine lv_aload_n hx hb d_Ch_init_51 rfl (lv_at hl 0 rfl) ?_
  refine lv_iload_n hx hb d_Ch_init_52 rfl (lv_at hl 2 rfl) ?_
  obtain ⟨fs, h1, h2, h⟩ := h
  obtain ⟨ws, q0, hq, hP, hD, hback, -⟩ := hw_open hW h1
  refine va_putF (D := D) (ci := 0) (v := .int x2) (ty := .int) (C := "ChannelHall$Channel") (T := TCh) (N := 10) hx hb hts uCh tCh tCh_ok nCh hown hK hP hD hS q0 hq rfl 1 (by decide) (hts _ bw_253) (fun _ h9 => h9) rfl hin rfl (by decide +kernel) rfl rfl h2 d_Ch_init_53 (fun H locs hP hD hS => ?_)
  have hW := hback _ _ hP hD
  generalize (va_up M33 a0 (some (.inr (0, fs.set 1 (.int x2))))) = M34 at h hW
  refine lv_aload_n hx hb d_Ch_init_56 rfl (lv_at hl 0 rfl) ?_
  refine lv_iload_n hx hb d_Ch_init_57 rfl (lv_at hl 2 rfl) ?_
  refine lv_iload_n hx hb d_Ch_init_58 rfl (lv_at hl 3 rfl) ?_
  have h9 := h
  clear h
  have hF := hW.free hS hA
  refine va_calli (va_runS (As := [.int x2, .int x3]) (rest := [.ref a0]) ⟨hx, hb, hml, hown, hts⟩ (c_Ch_roomOf _ h9) (va_cwS 2 hts (gi_S bw_248 bw_249 bw_11 bw_250) rfl rfl rfl (by decide +kernel) ⟨Nat.le_of_ble_eq_true rfl, Nat.le_of_ble_eq_true rfl⟩) ⟨hI.blind, hI.give hW hS hA hK hZ0⟩ rfl rfl hl.1 rfl (lv_room (Nat.le_of_ble_eq_true rfl)) d_Ch_init_59 ⟨(show _ ≤ 2 by omega), (show _ ≤ 6 by omega)⟩) hS (fun q _ z => hF q z) hF (fun r35 M36 t H locs ht _ h hB1 _ _ hS => ?_)
  have hW := hw_back hF ht hB1
  clear h9
  obtain ⟨fs, h1, h2, h⟩ := h
  obtain ⟨ws, q0, hq, hP, hD, hback, -⟩ := hw_open hW h1
  refine va_putF (D := D) (ci := 0) (v := .int r35) (ty := .int) (C := "ChannelHall$Channel") (T := TCh) (N := 10) hx hb hts uCh tCh tCh_ok nCh hown hK hP hD hS q0 hq rfl 2 (by decide) (hts _ bw_255) (fun _ h9 => h9) rfl hin rfl (by decide +kernel) rfl rfl h2 d_Ch_init_62 (fun H locs hP hD hS => ?_)
  have hW := hback _ _ hP hD
  generalize (va_up M36 a0 (some (.inr (0, fs.set 2 (.int r35))))) = M37 at h hW
  refine lv_aload_n hx hb d_Ch_init_65 rfl (lv_at hl 0 rfl) ?_
  refine lv_iload_n hx hb d_Ch_init_66 rfl (lv_at hl 2 rfl) ?_
  refine lv_bipush (v := 6) hx hb d_Ch_init_67 (by decide) ?_
  obtain ⟨h0, h1⟩ := h
  refine lv_icmp_ne (tgt := 76) hx hb d_Ch_init_69 (by decide) (fun c38 => ?_) (fun c38 => ?_)
  · have h := h0 c38
    refine lv_iconst (v := 0) hx hb d_Ch_init_76 (by decide) ?_
    exact l_Ch_init_77 C0 hin 0 a0 (by omega) (by omega) h hW hS (lv_sub hl [] rfl)
  · have h := h1 c38
    refine lv_iload_n hx hb d_Ch_init_72 rfl (lv_at hl 3 rfl) ?_
    refine lv_goto (tgt := 77) hx hb d_Ch_init_73 (by decide) ?_
    exact l_Ch_init_77 C0 hin x3 a0 (by omega) (by omega) h hW hS (lv_sub hl [] rfl)
set_option maxRecDepth 20000 in
theorem c_Ch_init {l : Launch} {D : va_G} {ca G : Nat → Nat} (post : hM → Prop) {M : hM} {sz : Nat} {a0 : Nat} {x1 : Int32} {x2 : Int32} {x3 : Int32} (h : wp_Ch_init G ca post M a0 x1 x2 x3) : Met l y_Ch_init (wz y_Ch_init prog_2_method_1_code 4 (none)) rm_Ch_init (va_Pc [.ref a0, .int x1, .int x2, .int x3] (hI D ca G sz M)) (va_Qv post (hB D M sz) (hp_A M sz)) 2 6 (hp_A M sz) := by
  refine Met.ofW (cc := prog_2_method_1_code) (maxL := 4) (ret := none) (by decide) rfl ?_
  intro p e s m args below meth c s₁ B hml hv
  obtain ⟨rfl, hsz, hW, hK, hZ0⟩ := hv
  have hts := fun w hw => atoms_spec (ws := wz y_Ch_init prog_2_method_1_code 4 (none)) B.pre w (List.mem_cons_of_mem _ hw)
  have hown : s.vm.findClass "ChannelHall$Channel" = some m.cls := findClass_of_methodNamed B.named
  subst hsz
  have hl := lv_entry [.ref a0, .int x1, .int x2, .int x3] (n := 4) (Nat.le_of_ble_eq_true rfl)
  rw [lg_entry_eq]
  exact l_Ch_init_e ⟨B.exec, B.bytes, B.returns, hml, hown, hts, B.notSynchronized, hK, fun q h => Or.inr h, hZ0⟩ (name_of_methodNamed B.named B.method).1 a0 x1 x2 x3 (Nat.zero_le _) (Nat.zero_le _) h hW va_S.rf hl

theorem d_As_newLength_0 : decode prog_38_method_27_code 0 = .ok (.iload_n 0, 1) := by decide +kernel
theorem d_As_newLength_1 : decode prog_38_method_27_code 1 = .ok (.iload_n 1, 1) := by decide +kernel
theorem d_As_newLength_2 : decode prog_38_method_27_code 2 = .ok (.iload_n 2, 1) := by decide +kernel
theorem d_As_newLength_3 : decode prog_38_method_27_code 3 = .ok (.invokestatic 194, 3) := by decide +kernel
theorem d_As_newLength_6 : decode prog_38_method_27_code 6 = .ok (.iadd, 1) := by decide +kernel
theorem d_As_newLength_7 : decode prog_38_method_27_code 7 = .ok (.istore_n 3, 1) := by decide +kernel
theorem d_As_newLength_8 : decode prog_38_method_27_code 8 = .ok (.iconst 0, 1) := by decide +kernel
theorem d_As_newLength_9 : decode prog_38_method_27_code 9 = .ok (.iload_n 3, 1) := by decide +kernel
theorem d_As_newLength_10 : decode prog_38_method_27_code 10 = .ok (.if_icmp .ge 11, 3) := by decide +kernel
theorem d_As_newLength_13 : decode prog_38_method_27_code 13 = .ok (.iload_n 3, 1) := by decide +kernel
theorem d_As_newLength_14 : decode prog_38_method_27_code 14 = .ok (.ldc 200, 2) := by decide +kernel
theorem d_As_newLength_16 : decode prog_38_method_27_code 16 = .ok (.if_icmp .gt 5, 3) := by decide +kernel
theorem d_As_newLength_19 : decode prog_38_method_27_code 19 = .ok (.iload_n 3, 1) := by decide +kernel
theorem d_As_newLength_20 : decode prog_38_method_27_code 20 = .ok (.ireturn, 1) := by decide +kernel
theorem d_As_newLength_21 : decode prog_38_method_27_code 21 = .ok (.iload_n 0, 1) := by decide +kernel
def y_As_newLength : MethodName := ⟨"jdk/internal/util/ArraysSupport", "newLength", "(III)I"⟩
abbrev rm_As_newLength : Room := { frames := 1, cells := 0, slots := 0, locals := 14 }
def wp_As_newLength_21 (G ca : Nat → Nat) (post : Int32 → hM → Prop) (M : hM) (l0b21 : Int32) : Prop := False
def wp_As_newLength (G ca : Nat → Nat) (post : Int32 → hM → Prop) (M : hM) (x0 : Int32) (x1 : Int32) (x2 : Int32) : Prop := ((x0 + (if x1 < x2 then x2 else x1)) ≤ 0 → wp_As_newLength_21 G ca post M x0) ∧ (¬ (x0 + (if x1 < x2 then x2 else x1)) ≤ 0 → (2147483639 < (x0 + (if x1 < x2 then x2 else x1)) → wp_As_newLength_21 G ca post M x0) ∧ (¬ 2147483639 < (x0 + (if x1 < x2 then x2 else x1)) → post (x0 + (if x1 < x2 then x2 else x1)) M))
set_option maxHeartbeats 1000000 in
set_option maxRecDepth 20000 in
theorem l_As_newLength_21 {p : Program} {l : Launch} {e : Env} {s : State} {m : MethodId} {args : Array Value} {below : List Frame} {meth : Method} {c : Code} {D : va_G} {ca G : Nat → Nat} {A : Nat → Prop} (C0 : hC p s m args meth c D ca G prog_38_method_27_code 4 (some .int) "jdk/internal/util/ArraysSupport" A) {post : Int32 → hM → Prop} {M : hM} {H : Heap} {locs : List Loc} {ls : Array Slot} (l0b21 : Int32) (h : wp_As_newLength_21 G ca post M l0b21) (hW : hw D wCl A M H) (hS : va_S A s.heap H locs) (hl : lv_has ls 4 [(0, .int l0b21)]) : W p l e rm_As_newLength s m args below meth c H locs 0 0 (MQ below (va_Qi post (fun M' t => hw D wCl A M' t.heap) A) args s 0 0 A) (F0 m 21 ls []) := by
  obtain ⟨hx, hb, hr, hml, hown, hts, hlocks, hK, hA, hZ0⟩ := id C0
  exact h.elim
set_option maxHeartbeats 1000000 in
set_option maxRecDepth 20000 in
theorem l_As_newLength_e {p : Program} {l : Launch} {e : Env} {s : State} {m : MethodId} {args : Array Value} {below : List Frame} {meth : Method} {c : Code} {D : va_G} {ca G : Nat → Nat} {A : Nat → Prop} (C0 : hC p s m args meth c D ca G prog_38_method_27_code 4 (some .int) "jdk/internal/util/ArraysSupport" A) {post : Int32 → hM → Prop} {M : hM} {H : Heap} {locs : List Loc} {ls : Array Slot} (x0 : Int32) (x1 : Int32) (x2 : Int32) (h : wp_As_newLength G ca post M x0 x1 x2) (hW : hw D wCl A M H) (hS : va_S A s.heap H locs) (hl : lv_has ls 4 [(0, .int x0), (1, .int x1), (2, .int x2)]) : W p l e rm_As_newLength s m args below meth c H locs 0 0 (MQ below (va_Qi post (fun M' t => hw D wCl A M' t.heap) A) args s 0 0 A) (F0 m 0 ls []) := by
  obtain ⟨hx, hb, hr, hml, hown, hts, hlocks, hK, hA, hZ0⟩ := id C0
  refine lv_iload_n hx hb d_As_newLength_0 rfl (lv_at hl 0 rfl) ?_
  refine lv_iload_n hx hb d_As_newLength_1 rfl (lv_at hl 1 rfl) ?_
  refine lv_iload_n hx hb d_As_newLength_2 rfl (lv_at hl 2 rfl) ?_
  refine va_mmax (rest := [.int x0]) hx hb (hml.trans hl.1.symm) hown (hts _ bw_425) (hts _ bw_426) (hts _ bw_20) (hts _ bw_427) (by decide) (Nat.le_of_ble_eq_true rfl) (show _ ≤ 0 by omega) (show _ ≤ 0 by omega) d_As_newLength_3 ?_
  refine lv_iadd hx hb d_As_newLength_6 ?_
  refine lv_istore_n (lv' := [(3, .int (x0 + (if x1 < x2 then x2 else x1))), (0, .int x0), (1, .int x1), (2, .int x2)]) hx hb d_As_newLength_7 rfl hl (by decide) rfl (fun ls hl => ?_)
  refine lv_iconst (v := 0) hx hb d_As_newLength_8 (by decide) ?_
  refine lv_iload_n hx hb d_As_newLength_9 rfl (lv_at hl 0 rfl) ?_
  obtain ⟨h0, h1⟩ := h
  refine lv_icmp_ge (tgt := 21) hx hb d_As_newLength_10 (by decide) (fun c3 => ?_) (fun c3 => ?_)
  · have h := h0 c3
    exact l_As_newLength_21 C0 x0 h hW hS (lv_sub hl [1] rfl)
  · have h := h1 c3
    refine lv_iload_n hx hb d_As_newLength_13 rfl (lv_at hl 0 rfl) ?_
    refine lv_ldc (v := 2147483639) hx hb hown (hts _ bw_428) d_As_newLength_14 ?_
    obtain ⟨h0, h1⟩ := h
    refine lv_icmp_gt (tgt := 21) hx hb d_As_newLength_16 (by decide) (fun c4 => ?_) (fun c4 => ?_)
    · have h := h0 c4
      exact l_As_newLength_21 C0 x0 h hW hS (lv_sub hl [1] rfl)
    · have h := h1 c4
      refine lv_iload_n hx hb d_As_newLength_19 rfl (lv_at hl 0 rfl) ?_
      exact W.iret hx hb hr (fun t ht hWm => ⟨⟨_, _, rfl, h, hw_t ht hW⟩, hS.F ht⟩) hS.2.2 d_As_newLength_20
set_option maxRecDepth 20000 in
theorem c_As_newLength {l : Launch} {D : va_G} {ca G : Nat → Nat} (post : Int32 → hM → Prop) {M : hM} {sz : Nat} {x0 : Int32} {x1 : Int32} {x2 : Int32} (h : wp_As_newLength G ca post M x0 x1 x2) : Met l y_As_newLength (wz y_As_newLength prog_38_method_27_code 4 (some .int)) rm_As_newLength (va_Pc [.int x0, .int x1, .int x2] (hI D ca G sz M)) (va_Qi post (hB D M sz) (hp_A M sz)) 0 0 (hp_A M sz) := by
  refine Met.ofW (cc := prog_38_method_27_code) (maxL := 4) (ret := some .int) (by decide) rfl ?_
  intro p e s m args below meth c s₁ B hml hv
  obtain ⟨rfl, hsz, hW, hK, hZ0⟩ := hv
  have hts := fun w hw => atoms_spec (ws := wz y_As_newLength prog_38_method_27_code 4 (some .int)) B.pre w (List.mem_cons_of_mem _ hw)
  have hown : s.vm.findClass "jdk/internal/util/ArraysSupport" = some m.cls := findClass_of_methodNamed B.named
  subst hsz
  have hl := lv_entry [.int x0, .int x1, .int x2] (n := 4) (Nat.le_of_ble_eq_true rfl)
  rw [lg_entry_eq]
  exact l_As_newLength_e ⟨B.exec, B.bytes, B.returns, hml, hown, hts, B.notSynchronized, hK, fun q h => Or.inr h, hZ0⟩ x0 x1 x2 h hW va_S.rf hl

theorem d_Pc_checkIndex_0 : decode prog_39_method_11_code 0 = .ok (.iload_n 0, 1) := by decide +kernel
theorem d_Pc_checkIndex_1 : decode prog_39_method_11_code 1 = .ok (.ifCond .lt 8, 3) := by decide +kernel
theorem d_Pc_checkIndex_4 : decode prog_39_method_11_code 4 = .ok (.iload_n 0, 1) := by decide +kernel
theorem d_Pc_checkIndex_5 : decode prog_39_method_11_code 5 = .ok (.iload_n 1, 1) := by decide +kernel
theorem d_Pc_checkIndex_6 : decode prog_39_method_11_code 6 = .ok (.if_icmp .lt 10, 3) := by decide +kernel
theorem d_Pc_checkIndex_9 : decode prog_39_method_11_code 9 = .ok (.aload_n 2, 1) := by decide +kernel
theorem d_Pc_checkIndex_16 : decode prog_39_method_11_code 16 = .ok (.iload_n 0, 1) := by decide +kernel
theorem d_Pc_checkIndex_17 : decode prog_39_method_11_code 17 = .ok (.ireturn, 1) := by decide +kernel
def y_Pc_checkIndex : MethodName := ⟨"jdk/internal/util/Preconditions", "checkIndex", "(IILjava/util/function/BiFunction;)I"⟩
abbrev rm_Pc_checkIndex : Room := { frames := 0, cells := 0, slots := 0, locals := 0 }
def wp_Pc_checkIndex_9 (G ca : Nat → Nat) (post : Int32 → hM → Prop) (M : hM) (l2b9 : Option Nat) : Prop := False
def wp_Pc_checkIndex (G ca : Nat → Nat) (post : Int32 → hM → Prop) (M : hM) (x0 : Int32) (x1 : Int32) (a2 : Option Nat) : Prop := (x0 < 0 → wp_Pc_checkIndex_9 G ca post M a2) ∧ (¬ x0 < 0 → (x0 < x1 → post x0 M) ∧ (¬ x0 < x1 → wp_Pc_checkIndex_9 G ca post M a2))
set_option maxHeartbeats 1000000 in
set_option maxRecDepth 20000 in
theorem l_Pc_checkIndex_9 {p : Program} {l : Launch} {e : Env} {s : State} {m : MethodId} {args : Array Value} {below : List Frame} {meth : Method} {c : Code} {D : va_G} {ca G : Nat → Nat} {A : Nat → Prop} (C0 : hC p s m args meth c D ca G prog_39_method_11_code 3 (some .int) "jdk/internal/util/Preconditions" A) {post : Int32 → hM → Prop} {M : hM} {H : Heap} {locs : List Loc} {ls : Array Slot} (l2b9 : Option Nat) (h : wp_Pc_checkIndex_9 G ca post M l2b9) (hW : hw D wCl A M H) (hS : va_S A s.heap H locs) (hl : lv_has ls 3 [(2, va_rf l2b9)]) : W p l e rm_Pc_checkIndex s m args below meth c H locs 0 0 (MQ below (va_Qi post (fun M' t => hw D wCl A M' t.heap) A) args s 0 0 A) (F0 m 9 ls []) := by
  obtain ⟨hx, hb, hr, hml, hown, hts, hlocks, hK, hA, hZ0⟩ := id C0
  exact h.elim
set_option maxHeartbeats 1000000 in
set_option maxRecDepth 20000 in
theorem l_Pc_checkIndex_e {p : Program} {l : Launch} {e : Env} {s : State} {m : MethodId} {args : Array Value} {below : List Frame} {meth : Method} {c : Code} {D : va_G} {ca G : Nat → Nat} {A : Nat → Prop} (C0 : hC p s m args meth c D ca G prog_39_method_11_code 3 (some .int) "jdk/internal/util/Preconditions" A) {post : Int32 → hM → Prop} {M : hM} {H : Heap} {locs : List Loc} {ls : Array Slot} (x0 : Int32) (x1 : Int32) (a2 : Option Nat) (h : wp_Pc_checkIndex G ca post M x0 x1 a2) (hW : hw D wCl A M H) (hS : va_S A s.heap H locs) (hl : lv_has ls 3 [(0, .int x0), (1, .int x1), (2, va_rf a2)]) : W p l e rm_Pc_checkIndex s m args below meth c H locs 0 0 (MQ below (va_Qi post (fun M' t => hw D wCl A M' t.heap) A) args s 0 0 A) (F0 m 0 ls []) := by
  obtain ⟨hx, hb, hr, hml, hown, hts, hlocks, hK, hA, hZ0⟩ := id C0
  refine lv_iload_n hx hb d_Pc_checkIndex_0 rfl (lv_at hl 0 rfl) ?_
  obtain ⟨h0, h1⟩ := h
  refine lv_if_lt (tgt := 9) hx hb d_Pc_checkIndex_1 (by decide) (fun c3 => ?_) (fun c3 => ?_)
  · have h := h0 c3
    exact l_Pc_checkIndex_9 C0 a2 h hW hS (lv_sub hl [2] rfl)
  · have h := h1 c3
    refine lv_iload_n hx hb d_Pc_checkIndex_4 rfl (lv_at hl 0 rfl) ?_
    refine lv_iload_n hx hb d_Pc_checkIndex_5 rfl (lv_at hl 1 rfl) ?_
    obtain ⟨h0, h1⟩ := h
    refine lv_icmp_lt (tgt := 16) hx hb d_Pc_checkIndex_6 (by decide) (fun c4 => ?_) (fun c4 => ?_)
    · have h := h0 c4
      refine lv_iload_n hx hb d_Pc_checkIndex_16 rfl (lv_at hl 0 rfl) ?_
      exact W.iret hx hb hr (fun t ht hWm => ⟨⟨_, _, rfl, h, hw_t ht hW⟩, hS.F ht⟩) hS.2.2 d_Pc_checkIndex_17
    · have h := h1 c4
      exact l_Pc_checkIndex_9 C0 a2 h hW hS (lv_sub hl [2] rfl)
set_option maxRecDepth 20000 in
theorem c_Pc_checkIndex {l : Launch} {D : va_G} {ca G : Nat → Nat} (post : Int32 → hM → Prop) {M : hM} {sz : Nat} {x0 : Int32} {x1 : Int32} {a2 : Option Nat} (h : wp_Pc_checkIndex G ca post M x0 x1 a2) : Met l y_Pc_checkIndex (wz y_Pc_checkIndex prog_39_method_11_code 3 (some .int)) rm_Pc_checkIndex (va_Pc [.int x0, .int x1, va_rf a2] (hI D ca G sz M)) (va_Qi post (hB D M sz) (hp_A M sz)) 0 0 (hp_A M sz) := by
  refine Met.ofW (cc := prog_39_method_11_code) (maxL := 3) (ret := some .int) (by decide) rfl ?_
  intro p e s m args below meth c s₁ B hml hv
  obtain ⟨rfl, hsz, hW, hK, hZ0⟩ := hv
  have hts := fun w hw => atoms_spec (ws := wz y_Pc_checkIndex prog_39_method_11_code 3 (some .int)) B.pre w (List.mem_cons_of_mem _ hw)
  have hown : s.vm.findClass "jdk/internal/util/Preconditions" = some m.cls := findClass_of_methodNamed B.named
  subst hsz
  have hl : lv_has ((lg_sl [.int x0, .int x1, va_rf a2] ++ List.replicate (3 - (lg_sl [.int x0, .int x1, va_rf a2]).length) Slot.unset).toArray) 3 [(0, .int x0), (1, .int x1), (2, va_rf a2)] := by cases a2 <;> exact lv_entry _ (Nat.le_of_ble_eq_true rfl)
  rw [lg_entry_eq]
  exact l_Pc_checkIndex_e ⟨B.exec, B.bytes, B.returns, hml, hown, hts, B.notSynchronized, hK, fun q h => Or.inr h, hZ0⟩ x0 x1 a2 h hW va_S.rf hl

theorem d_Ob_checkIndex_0 : decode prog_35_method_17_code 0 = .ok (.iload_n 0, 1) := by decide +kernel
theorem d_Ob_checkIndex_1 : decode prog_35_method_17_code 1 = .ok (.iload_n 1, 1) := by decide +kernel
theorem d_Ob_checkIndex_2 : decode prog_35_method_17_code 2 = .ok (.aconst_null, 1) := by decide +kernel
theorem d_Ob_checkIndex_3 : decode prog_35_method_17_code 3 = .ok (.invokestatic 105, 3) := by decide +kernel
theorem d_Ob_checkIndex_6 : decode prog_35_method_17_code 6 = .ok (.ireturn, 1) := by decide +kernel
def y_Ob_checkIndex : MethodName := ⟨"java/util/Objects", "checkIndex", "(II)I"⟩
abbrev rm_Ob_checkIndex : Room := { frames := 1, cells := 0, slots := 0, locals := 22 }
def wp_Ob_checkIndex (G ca : Nat → Nat) (post : Int32 → hM → Prop) (M : hM) (x0 : Int32) (x1 : Int32) : Prop := wp_Pc_checkIndex G ca (fun r3 M4 => post r3 M4) M x0 x1 none
set_option maxHeartbeats 1000000 in
set_option maxRecDepth 20000 in
theorem l_Ob_checkIndex_e {p : Program} {l : Launch} {e : Env} {s : State} {m : MethodId} {args : Array Value} {below : List Frame} {meth : Method} {c : Code} {D : va_G} {ca G : Nat → Nat} {A : Nat → Prop} (C0 : hC p s m args meth c D ca G prog_35_method_17_code 2 (some .int) "java/util/Objects" A) {post : Int32 → hM → Prop} {M : hM} {H : Heap} {locs : List Loc} {ls : Array Slot} (x0 : Int32) (x1 : Int32) (h : wp_Ob_checkIndex G ca post M x0 x1) (hW : hw D wCl A M H) (hS : va_S A s.heap H locs) (hl : lv_has ls 2 [(0, .int x0), (1, .int x1)]) : W p l e rm_Ob_checkIndex s m args below meth c H locs 0 0 (MQ below (va_Qi post (fun M' t => hw D wCl A M' t.heap) A) args s 0 0 A) (F0 m 0 ls []) := by
  obtain ⟨hx, hb, hr, hml, hown, hts, hlocks, hK, hA, hZ0⟩ := id C0
  refine lv_iload_n hx hb d_Ob_checkIndex_0 rfl (lv_at hl 0 rfl) ?_
  refine lv_iload_n hx hb d_Ob_checkIndex_1 rfl (lv_at hl 1 rfl) ?_
  refine lv_null hx hb d_Ob_checkIndex_2 ?_
  have h9 := h
  clear h
  have hF := hW.free hS hA
  refine va_calli (va_runS (As := [.int x0, .int x1, .null]) (rest := []) ⟨hx, hb, hml, hown, hts⟩ (c_Pc_checkIndex _ h9) (va_cwS 3 hts (gi_S bw_387 bw_388 bw_18 bw_389) rfl rfl rfl (by decide +kernel) ⟨Nat.le_of_ble_eq_true rfl, Nat.le_of_ble_eq_true rfl⟩) ⟨hI.blind, hI.give hW hS hA hK hZ0⟩ rfl rfl hl.1 rfl (lv_room (Nat.le_of_ble_eq_true rfl)) d_Ob_checkIndex_3 ⟨(show _ ≤ 0 by omega), (show _ ≤ 0 by omega)⟩) hS (fun q _ z => hF q z) hF (fun r3 M4 t H locs ht _ h hB1 _ _ hS => ?_)
  have hW := hw_back hF ht hB1
  clear h9
  exact W.iret hx hb hr (fun t ht hWm => ⟨⟨_, _, rfl, h, hw_t ht hW⟩, hS.F ht⟩) hS.2.2 d_Ob_checkIndex_6
set_option maxRecDepth 20000 in
theorem c_Ob_checkIndex {l : Launch} {D : va_G} {ca G : Nat → Nat} (post : Int32 → hM → Prop) {M : hM} {sz : Nat} {x0 : Int32} {x1 : Int32} (h : wp_Ob_checkIndex G ca post M x0 x1) : Met l y_Ob_checkIndex (wz y_Ob_checkIndex prog_35_method_17_code 2 (some .int)) rm_Ob_checkIndex (va_Pc [.int x0, .int x1] (hI D ca G sz M)) (va_Qi post (hB D M sz) (hp_A M sz)) 0 0 (hp_A M sz) := by
  refine Met.ofW (cc := prog_35_method_17_code) (maxL := 2) (ret := some .int) (by decide) rfl ?_
  intro p e s m args below meth c s₁ B hml hv
  obtain ⟨rfl, hsz, hW, hK, hZ0⟩ := hv
  have hts := fun w hw => atoms_spec (ws := wz y_Ob_checkIndex prog_35_method_17_code 2 (some .int)) B.pre w (List.mem_cons_of_mem _ hw)
  have hown : s.vm.findClass "java/util/Objects" = some m.cls := findClass_of_methodNamed B.named
  subst hsz
  have hl := lv_entry [.int x0, .int x1] (n := 2) (Nat.le_of_ble_eq_true rfl)
  rw [lg_entry_eq]
  exact l_Ob_checkIndex_e ⟨B.exec, B.bytes, B.returns, hml, hown, hts, B.notSynchronized, hK, fun q h => Or.inr h, hZ0⟩ x0 x1 h hW va_S.rf hl

theorem d_Al_elementData_0 : decode prog_30_method_18_code 0 = .ok (.aload_n 0, 1) := by decide +kernel
theorem d_Al_elementData_1 : decode prog_30_method_18_code 1 = .ok (.getfield 9, 3) := by decide +kernel
theorem d_Al_elementData_4 : decode prog_30_method_18_code 4 = .ok (.iload_n 1, 1) := by decide +kernel
theorem d_Al_elementData_5 : decode prog_30_method_18_code 5 = .ok (.aaload, 1) := by decide +kernel
theorem d_Al_elementData_6 : decode prog_30_method_18_code 6 = .ok (.areturn, 1) := by decide +kernel
def y_Al_elementData : MethodName := ⟨"java/util/ArrayList", "elementData", "(I)Ljava/lang/Object;"⟩
abbrev rm_Al_elementData : Room := { frames := 0, cells := 0, slots := 0, locals := 0 }
def wp_Al_elementData (G ca : Nat → Nat) (post : Option Nat → hM → Prop) (M : hM) (a0 : Nat) (x1 : Int32) : Prop := gR M a0 4 0 fun v4 => nN v4 fun b5 => aR M b5 (ca 2) x1 fun v6 => post v6 M
set_option maxHeartbeats 1000000 in
set_option maxRecDepth 20000 in
theorem l_Al_elementData_e {p : Program} {l : Launch} {e : Env} {s : State} {m : MethodId} {args : Array Value} {below : List Frame} {meth : Method} {c : Code} {D : va_G} {ca G : Nat → Nat} {A : Nat → Prop} (C0 : hC p s m args meth c D ca G prog_30_method_18_code 2 (some (.object "java/lang/Object")) "java/util/ArrayList" A) {post : Option Nat → hM → Prop} {M : hM} {H : Heap} {locs : List Loc} {ls : Array Slot} (a0 : Nat) (x1 : Int32) (h : wp_Al_elementData G ca post M a0 x1) (hW : hw D wCl A M H) (hS : va_S A s.heap H locs) (hl : lv_has ls 2 [(0, .ref a0), (1, .int x1)]) : W p l e rm_Al_elementData s m args below meth c H locs 0 0 (MQ below (va_Qq post (fun M' t => hw D wCl A M' t.heap) A) args s 0 0 A) (F0 m 0 ls []) := by
  obtain ⟨hx, hb, hr, hml, hown, hts, hlocks, hK, hA, hZ0⟩ := id C0
  refine lv_aload_n hx hb d_Al_elementData_0 rfl (lv_at hl 0 rfl) ?_
  obtain ⟨fs, v4, h1, h2, h⟩ := h
  refine va_get (D := D) (ci := 4) (v := va_rf v4) (C := "java/util/ArrayList") (T := TAl) (N := 3) hx hb hts uAl hown hK (hw_one hW h1) 0 rfl rfl 0 (by decide) (hts _ bw_236) (fun _ h9 => h9) h2 d_Al_elementData_1 ?_
  refine lv_iload_n hx hb d_Al_elementData_4 rfl (lv_at hl 1 rfl) ?_
  obtain ⟨b5, rfl, h⟩ := h
  obtain ⟨n, f, h1, h2, h⟩ := h
  refine va_aldq hx hb hK (hw_one hW h1) 0 2 rfl rfl h2 d_Al_elementData_5 ?_
  generalize f (x1).toNatClampNeg = v6 at h ⊢
  exact W.aret hx hb hr (Or.inl ⟨_, rfl⟩) (va_rf_or _) (fun t ht hWm => ⟨⟨v6, _, rfl, h, hw_t ht hW⟩, hS.F ht⟩) hS.2.2 d_Al_elementData_6
set_option maxRecDepth 20000 in
theorem c_Al_elementData {l : Launch} {D : va_G} {ca G : Nat → Nat} (post : Option Nat → hM → Prop) {M : hM} {sz : Nat} {a0 : Nat} {x1 : Int32} (h : wp_Al_elementData G ca post M a0 x1) : Met l y_Al_elementData (wz y_Al_elementData prog_30_method_18_code 2 (some (.object "java/lang/Object"))) rm_Al_elementData (va_Pc [.ref a0, .int x1] (hI D ca G sz M)) (va_Qq post (hB D M sz) (hp_A M sz)) 0 0 (hp_A M sz) := by
  refine Met.ofW (cc := prog_30_method_18_code) (maxL := 2) (ret := some (.object "java/lang/Object")) (by decide) rfl ?_
  intro p e s m args below meth c s₁ B hml hv
  obtain ⟨rfl, hsz, hW, hK, hZ0⟩ := hv
  have hts := fun w hw => atoms_spec (ws := wz y_Al_elementData prog_30_method_18_code 2 (some (.object "java/lang/Object"))) B.pre w (List.mem_cons_of_mem _ hw)
  have hown : s.vm.findClass "java/util/ArrayList" = some m.cls := findClass_of_methodNamed B.named
  subst hsz
  have hl := lv_entry [.ref a0, .int x1] (n := 2) (Nat.le_of_ble_eq_true rfl)
  rw [lg_entry_eq]
  exact l_Al_elementData_e ⟨B.exec, B.bytes, B.returns, hml, hown, hts, B.notSynchronized, hK, fun q h => Or.inr h, hZ0⟩ a0 x1 h hW va_S.rf hl

theorem d_Al_get_0 : decode prog_30_method_20_code 0 = .ok (.iload_n 1, 1) := by decide +kernel
theorem d_Al_get_1 : decode prog_30_method_20_code 1 = .ok (.aload_n 0, 1) := by decide +kernel
theorem d_Al_get_2 : decode prog_30_method_20_code 2 = .ok (.getfield 48, 3) := by decide +kernel
theorem d_Al_get_5 : decode prog_30_method_20_code 5 = .ok (.invokestatic 118, 3) := by decide +kernel
theorem d_Al_get_8 : decode prog_30_method_20_code 8 = .ok (.pop, 1) := by decide +kernel
theorem d_Al_get_9 : decode prog_30_method_20_code 9 = .ok (.aload_n 0, 1) := by decide +kernel
theorem d_Al_get_10 : decode prog_30_method_20_code 10 = .ok (.iload_n 1, 1) := by decide +kernel
theorem d_Al_get_11 : decode prog_30_method_20_code 11 = .ok (.invokevirtual 123, 3) := by decide +kernel
theorem d_Al_get_14 : decode prog_30_method_20_code 14 = .ok (.areturn, 1) := by decide +kernel
def y_Al_get : MethodName := ⟨"java/util/ArrayList", "get", "(I)Ljava/lang/Object;"⟩
abbrev rm_Al_get : Room := { frames := 2, cells := 0, slots := 0, locals := 43 }
def wp_Al_get (G ca : Nat → Nat) (post : Option Nat → hM → Prop) (M : hM) (a0 : Nat) (x1 : Int32) : Prop := gI M a0 4 1 fun v6 => wp_Ob_checkIndex G ca (fun r7 M8 => rC M8 a0 4 (wp_Al_elementData G ca (fun r9 M10 => post r9 M10) M8 a0 x1)) M x1 v6
set_option maxHeartbeats 1000000 in
set_option maxRecDepth 20000 in
theorem l_Al_get_e {p : Program} {l : Launch} {e : Env} {s : State} {m : MethodId} {args : Array Value} {below : List Frame} {meth : Method} {c : Code} {D : va_G} {ca G : Nat → Nat} {A : Nat → Prop} (C0 : hC p s m args meth c D ca G prog_30_method_20_code 2 (some (.object "java/lang/Object")) "java/util/ArrayList" A) {post : Option Nat → hM → Prop} {M : hM} {H : Heap} {locs : List Loc} {ls : Array Slot} (a0 : Nat) (x1 : Int32) (h : wp_Al_get G ca post M a0 x1) (hW : hw D wCl A M H) (hS : va_S A s.heap H locs) (hl : lv_has ls 2 [(0, .ref a0), (1, .int x1)]) : W p l e rm_Al_get s m args below meth c H locs 0 0 (MQ below (va_Qq post (fun M' t => hw D wCl A M' t.heap) A) args s 0 0 A) (F0 m 0 ls []) := by
  obtain ⟨hx, hb, hr, hml, hown, hts, hlocks, hK, hA, hZ0⟩ := id C0
  refine lv_iload_n hx hb d_Al_get_0 rfl (lv_at hl 1 rfl) ?_
  refine lv_aload_n hx hb d_Al_get_1 rfl (lv_at hl 0 rfl) ?_
  obtain ⟨fs, v6, h1, h2, h⟩ := h
  refine va_get (D := D) (ci := 4) (v := .int v6) (C := "java/util/ArrayList") (T := TAl) (N := 3) hx hb hts uAl hown hK (hw_one hW h1) 0 rfl rfl 1 (by decide) (hts _ bw_237) (fun _ h9 => h9) h2 d_Al_get_2 ?_
  have h9 := h
  clear h
  have hF := hW.free hS hA
  refine va_calli (va_runS (As := [.int x1, .int v6]) (rest := []) ⟨hx, hb, hml, hown, hts⟩ (c_Ob_checkIndex _ h9) (va_cwS 2 hts (gi_S bw_384 bw_385 bw_17 bw_386) rfl rfl rfl (by decide +kernel) ⟨Nat.le_of_ble_eq_true rfl, Nat.le_of_ble_eq_true rfl⟩) ⟨hI.blind, hI.give hW hS hA hK hZ0⟩ rfl rfl hl.1 rfl (lv_room (Nat.le_of_ble_eq_true rfl)) d_Al_get_5 ⟨(show _ ≤ 0 by omega), (show _ ≤ 0 by omega)⟩) hS (fun q _ z => hF q z) hF (fun r7 M8 t H locs ht _ h hB1 _ _ hS => ?_)
  have hW := hw_back hF ht hB1
  clear h9
  refine lv_pop hx hb d_Al_get_8 rfl ?_
  refine lv_aload_n hx hb d_Al_get_9 rfl (lv_at hl 0 rfl) ?_
  refine lv_iload_n hx hb d_Al_get_10 rfl (lv_at hl 1 rfl) ?_
  obtain ⟨⟨fs, h1⟩, h⟩ := h
  have h9 := h
  clear h
  have hF := hW.free hS hA
  refine va_callq (va_runV (As := [.int x1]) (rest := []) ⟨hx, hb, hml, hown, hts⟩ (c_Al_elementData _ h9) (cwV 1 hts (gi_V bw_390 bw_391 bw_392 bw_14 bw_393) rfl rfl rfl (by decide +kernel) ⟨Nat.le_of_ble_eq_true rfl, Nat.le_of_ble_eq_true rfl⟩) ⟨hI.blind, hw_recv hK hW h1 rfl, hI.give hW hS hA hK hZ0⟩ rfl rfl hl.1 rfl (lv_room (Nat.le_of_ble_eq_true rfl)) d_Al_get_11 ⟨(show _ ≤ 0 by omega), (show _ ≤ 0 by omega)⟩) hS (fun q _ z => hF q z) hF (fun r9 M10 t H locs ht _ h hB1 _ _ hS => ?_)
  have hW := hw_back hF ht hB1
  clear h9
  exact W.aret hx hb hr (Or.inl ⟨_, rfl⟩) (va_rf_or _) (fun t ht hWm => ⟨⟨r9, _, rfl, h, hw_t ht hW⟩, hS.F ht⟩) hS.2.2 d_Al_get_14
set_option maxRecDepth 20000 in
theorem c_Al_get {l : Launch} {D : va_G} {ca G : Nat → Nat} (post : Option Nat → hM → Prop) {M : hM} {sz : Nat} {a0 : Nat} {x1 : Int32} (h : wp_Al_get G ca post M a0 x1) : Met l y_Al_get (wz y_Al_get prog_30_method_20_code 2 (some (.object "java/lang/Object"))) rm_Al_get (va_Pc [.ref a0, .int x1] (hI D ca G sz M)) (va_Qq post (hB D M sz) (hp_A M sz)) 0 0 (hp_A M sz) := by
  refine Met.ofW (cc := prog_30_method_20_code) (maxL := 2) (ret := some (.object "java/lang/Object")) (by decide) rfl ?_
  intro p e s m args below meth c s₁ B hml hv
  obtain ⟨rfl, hsz, hW, hK, hZ0⟩ := hv
  have hts := fun w hw => atoms_spec (ws := wz y_Al_get prog_30_method_20_code 2 (some (.object "java/lang/Object"))) B.pre w (List.mem_cons_of_mem _ hw)
  have hown : s.vm.findClass "java/util/ArrayList" = some m.cls := findClass_of_methodNamed B.named
  subst hsz
  have hl := lv_entry [.ref a0, .int x1] (n := 2) (Nat.le_of_ble_eq_true rfl)
  rw [lg_entry_eq]
  exact l_Al_get_e ⟨B.exec, B.bytes, B.returns, hml, hown, hts, B.notSynchronized, hK, fun q h => Or.inr h, hZ0⟩ a0 x1 h hW va_S.rf hl

theorem d_Al_fastRemove_0 : decode prog_30_method_39_code 0 = .ok (.aload_n 0, 1) := by decide +kernel
theorem d_Al_fastRemove_1 : decode prog_30_method_39_code 1 = .ok (.dup, 1) := by decide +kernel
theorem d_Al_fastRemove_2 : decode prog_30_method_39_code 2 = .ok (.getfield 63, 3) := by decide +kernel
theorem d_Al_fastRemove_5 : decode prog_30_method_39_code 5 = .ok (.iconst 1, 1) := by decide +kernel
theorem d_Al_fastRemove_6 : decode prog_30_method_39_code 6 = .ok (.iadd, 1) := by decide +kernel
theorem d_Al_fastRemove_7 : decode prog_30_method_39_code 7 = .ok (.putfield 63, 3) := by decide +kernel
theorem d_Al_fastRemove_10 : decode prog_30_method_39_code 10 = .ok (.aload_n 0, 1) := by decide +kernel
theorem d_Al_fastRemove_11 : decode prog_30_method_39_code 11 = .ok (.getfield 48, 3) := by decide +kernel
theorem d_Al_fastRemove_14 : decode prog_30_method_39_code 14 = .ok (.iconst 1, 1) := by decide +kernel
theorem d_Al_fastRemove_15 : decode prog_30_method_39_code 15 = .ok (.isub, 1) := by decide +kernel
theorem d_Al_fastRemove_16 : decode prog_30_method_39_code 16 = .ok (.dup, 1) := by decide +kernel
theorem d_Al_fastRemove_17 : decode prog_30_method_39_code 17 = .ok (.istore_n 3, 1) := by decide +kernel
theorem d_Al_fastRemove_18 : decode prog_30_method_39_code 18 = .ok (.iload_n 2, 1) := by decide +kernel
theorem d_Al_fastRemove_19 : decode prog_30_method_39_code 19 = .ok (.if_icmp .le 15, 3) := by decide +kernel
theorem d_Al_fastRemove_22 : decode prog_30_method_39_code 22 = .ok (.aload_n 1, 1) := by decide +kernel
theorem d_Al_fastRemove_23 : decode prog_30_method_39_code 23 = .ok (.iload_n 2, 1) := by decide +kernel
theorem d_Al_fastRemove_24 : decode prog_30_method_39_code 24 = .ok (.iconst 1, 1) := by decide +kernel
theorem d_Al_fastRemove_25 : decode prog_30_method_39_code 25 = .ok (.iadd, 1) := by decide +kernel
theorem d_Al_fastRemove_26 : decode prog_30_method_39_code 26 = .ok (.aload_n 1, 1) := by decide +kernel
theorem d_Al_fastRemove_27 : decode prog_30_method_39_code 27 = .ok (.iload_n 2, 1) := by decide +kernel
theorem d_Al_fastRemove_28 : decode prog_30_method_39_code 28 = .ok (.iload_n 3, 1) := by decide +kernel
theorem d_Al_fastRemove_29 : decode prog_30_method_39_code 29 = .ok (.iload_n 2, 1) := by decide +kernel
theorem d_Al_fastRemove_30 : decode prog_30_method_39_code 30 = .ok (.isub, 1) := by decide +kernel
theorem d_Al_fastRemove_31 : decode prog_30_method_39_code 31 = .ok (.invokestatic 112, 3) := by decide +kernel
theorem d_Al_fastRemove_34 : decode prog_30_method_39_code 34 = .ok (.aload_n 1, 1) := by decide +kernel
theorem d_Al_fastRemove_35 : decode prog_30_method_39_code 35 = .ok (.aload_n 0, 1) := by decide +kernel
theorem d_Al_fastRemove_36 : decode prog_30_method_39_code 36 = .ok (.iload_n 3, 1) := by decide +kernel
theorem d_Al_fastRemove_37 : decode prog_30_method_39_code 37 = .ok (.dup_x1, 1) := by decide +kernel
theorem d_Al_fastRemove_38 : decode prog_30_method_39_code 38 = .ok (.putfield 48, 3) := by decide +kernel
theorem d_Al_fastRemove_41 : decode prog_30_method_39_code 41 = .ok (.aconst_null, 1) := by decide +kernel
theorem d_Al_fastRemove_42 : decode prog_30_method_39_code 42 = .ok (.aastore, 1) := by decide +kernel
theorem d_Al_fastRemove_43 : decode prog_30_method_39_code 43 = .ok (.return_, 1) := by decide +kernel
def y_Al_fastRemove : MethodName := ⟨"java/util/ArrayList", "fastRemove", "([Ljava/lang/Object;I)V"⟩
abbrev rm_Al_fastRemove : Room := { frames := 1, cells := 0, slots := 0, locals := 40 }
def wp_Al_fastRemove_34 (G ca : Nat → Nat) (post : hM → Prop) (M : hM) (l0b34 : Nat) (l1b34 : Option Nat) (l3b34 : Int32) : Prop := pF M l0b34 4 1 (.int l3b34) fun M10 => nN l1b34 fun b11 => sR M10 b11 (ca 2) l3b34 none (fun z => z = 1 ∨ z = 2) fun M12 => post M12
def wp_Al_fastRemove (G ca : Nat → Nat) (post : hM → Prop) (M : hM) (a0 : Nat) (a1 : Option Nat) (x2 : Int32) : Prop := gI M a0 4 2 fun v13 => pF M a0 4 2 (.int (v13 + 1)) fun M14 => gI M14 a0 4 1 fun v15 => ((v15 - 1) ≤ x2 → wp_Al_fastRemove_34 G ca post M14 a0 a1 (v15 - 1)) ∧ (¬ (v15 - 1) ≤ x2 → nN a1 fun b17 => cQ M14 b17 b17 (ca 2) (x2 + 1) x2 ((v15 - 1) - x2) fun M18 => wp_Al_fastRemove_34 G ca post M18 a0 (some b17) (v15 - 1))
set_option maxHeartbeats 1000000 in
set_option maxRecDepth 20000 in
theorem l_Al_fastRemove_34 {p : Program} {l : Launch} {e : Env} {s : State} {m : MethodId} {args : Array Value} {below : List Frame} {meth : Method} {c : Code} {D : va_G} {ca G : Nat → Nat} {A : Nat → Prop} (C0 : hC p s m args meth c D ca G prog_30_method_39_code 4 (none) "java/util/ArrayList" A) {post : hM → Prop} {M : hM} {H : Heap} {locs : List Loc} {ls : Array Slot} (l0b34 : Nat) (l1b34 : Option Nat) (l3b34 : Int32) (h : wp_Al_fastRemove_34 G ca post M l0b34 l1b34 l3b34) (hW : hw D wCl A M H) (hS : va_S A s.heap H locs) (hl : lv_has ls 4 [(0, .ref l0b34), (1, va_rf l1b34), (3, .int l3b34)]) : W p l e rm_Al_fastRemove s m args below meth c H locs 0 0 (MQ below (va_Qv post (fun M' t => hw D wCl A M' t.heap) A) args s 0 0 A) (F0 m 34 ls []) := by
  obtain ⟨hx, hb, hr, hml, hown, hts, hlocks, hK, hA, hZ0⟩ := id C0
  refine lq_load_n hx hb d_Al_fastRemove_34 rfl (lv_at hl 1 rfl) ?_
  refine lv_aload_n hx hb d_Al_fastRemove_35 rfl (lv_at hl 0 rfl) ?_
  refine lv_iload_n hx hb d_Al_fastRemove_36 rfl (lv_at hl 2 rfl) ?_
  refine lv_dup_x1 hx hb d_Al_fastRemove_37 rfl rfl ?_
  obtain ⟨fs, h1, h2, h⟩ := h
  obtain ⟨ws, q0, hq, hP, hD, hback, -⟩ := hw_open hW h1
  refine va_put (D := D) (ci := 4) (v := .int l3b34) (ty := .int) (C := "java/util/ArrayList") (T := TAl) (N := 3) hx hb hts uAl tAl tAl_ok nAl hown hK hP hD hS q0 hq rfl 1 (by decide) (hts _ bw_237) (fun _ h9 => h9) rfl (by decide +kernel) rfl rfl h2 d_Al_fastRemove_38 (fun H locs hP hD hS => ?_)
  have hW := hback _ _ hP hD
  generalize (va_up M l0b34 (some (.inr (4, fs.set 1 (.int l3b34))))) = M10 at h hW
  refine lv_null hx hb d_Al_fastRemove_41 ?_
  obtain ⟨b11, rfl, h⟩ := h
  have h9 := h
  clear h
  refine hq_astO (r := none) hx hb hK hZ0 hW hS h9 d_Al_fastRemove_42 (fun M12 H locs h hW hS => ?_)
  clear h9
  exact W.vret hx hb hr (fun t ht hWm => ⟨⟨_, rfl, h, hw_t ht hW⟩, hS.F ht⟩) hS.2.2 d_Al_fastRemove_43
set_option maxHeartbeats 1000000 in
set_option maxRecDepth 20000 in
theorem l_Al_fastRemove_e {p : Program} {l : Launch} {e : Env} {s : State} {m : MethodId} {args : Array Value} {below : List Frame} {meth : Method} {c : Code} {D : va_G} {ca G : Nat → Nat} {A : Nat → Prop} (C0 : hC p s m args meth c D ca G prog_30_method_39_code 4 (none) "java/util/ArrayList" A) {post : hM → Prop} {M : hM} {H : Heap} {locs : List Loc} {ls : Array Slot} (a0 : Nat) (a1 : Option Nat) (x2 : Int32) (h : wp_Al_fastRemove G ca post M a0 a1 x2) (hW : hw D wCl A M H) (hS : va_S A s.heap H locs) (hl : lv_has ls 4 [(0, .ref a0), (1, va_rf a1), (2, .int x2)]) : W p l e rm_Al_fastRemove s m args below meth c H locs 0 0 (MQ below (va_Qv post (fun M' t => hw D wCl A M' t.heap) A) args s 0 0 A) (F0 m 0 ls []) := by
  obtain ⟨hx, hb, hr, hml, hown, hts, hlocks, hK, hA, hZ0⟩ := id C0
  refine lv_aload_n hx hb d_Al_fastRemove_0 rfl (lv_at hl 0 rfl) ?_
  refine lv_dup hx hb d_Al_fastRemove_1 rfl ?_
  obtain ⟨fs, v13, h1, h2, h⟩ := h
  refine va_get (D := D) (ci := 4) (v := .int v13) (C := "java/util/ArrayList") (T := TAl) (N := 3) hx hb hts uAl hown hK (hw_one hW h1) 0 rfl rfl 2 (by decide) (hts _ bw_239) (u_same (hts _ bw_240)) h2 d_Al_fastRemove_2 ?_
  refine lv_iconst (v := 1) hx hb d_Al_fastRemove_5 (by decide) ?_
  refine lv_iadd hx hb d_Al_fastRemove_6 ?_
  obtain ⟨fs, h1, h2, h⟩ := h
  obtain ⟨ws, q0, hq, hP, hD, hback, -⟩ := hw_open hW h1
  refine va_put (D := D) (ci := 4) (v := .int (v13 + 1)) (ty := .int) (C := "java/util/ArrayList") (T := TAl) (N := 3) hx hb hts uAl tAl tAl_ok nAl hown hK hP hD hS q0 hq rfl 2 (by decide) (hts _ bw_239) (u_same (hts _ bw_240)) rfl (by decide +kernel) rfl rfl h2 d_Al_fastRemove_7 (fun H locs hP hD hS => ?_)
  have hW := hback _ _ hP hD
  generalize (va_up M a0 (some (.inr (4, fs.set 2 (.int (v13 + 1)))))) = M14 at h hW
  refine lv_aload_n hx hb d_Al_fastRemove_10 rfl (lv_at hl 0 rfl) ?_
  obtain ⟨fs, v15, h1, h2, h⟩ := h
  refine va_get (D := D) (ci := 4) (v := .int v15) (C := "java/util/ArrayList") (T := TAl) (N := 3) hx hb hts uAl hown hK (hw_one hW h1) 0 rfl rfl 1 (by decide) (hts _ bw_237) (fun _ h9 => h9) h2 d_Al_fastRemove_11 ?_
  refine lv_iconst (v := 1) hx hb d_Al_fastRemove_14 (by decide) ?_
  refine lv_isub hx hb d_Al_fastRemove_15 ?_
  refine lv_dup hx hb d_Al_fastRemove_16 rfl ?_
  refine lv_istore_n (lv' := [(3, .int (v15 - 1)), (0, .ref a0), (1, va_rf a1), (2, .int x2)]) hx hb d_Al_fastRemove_17 rfl hl (by decide) rfl (fun ls hl => ?_)
  refine lv_iload_n hx hb d_Al_fastRemove_18 rfl (lv_at hl 3 rfl) ?_
  obtain ⟨h0, h1⟩ := h
  refine lv_icmp_le (tgt := 34) hx hb d_Al_fastRemove_19 (by decide) (fun c16 => ?_) (fun c16 => ?_)
  · have h := h0 c16
    exact l_Al_fastRemove_34 C0 a0 a1 (v15 - 1) h hW hS (lv_sub hl [1, 2, 0] rfl)
  · have h := h1 c16
    refine lq_load_n hx hb d_Al_fastRemove_22 rfl (lv_at hl 2 rfl) ?_
    refine lv_iload_n hx hb d_Al_fastRemove_23 rfl (lv_at hl 3 rfl) ?_
    refine lv_iconst (v := 1) hx hb d_Al_fastRemove_24 (by decide) ?_
    refine lv_iadd hx hb d_Al_fastRemove_25 ?_
    refine lq_load_n hx hb d_Al_fastRemove_26 rfl (lv_at hl 2 rfl) ?_
    refine lv_iload_n hx hb d_Al_fastRemove_27 rfl (lv_at hl 3 rfl) ?_
    refine lv_iload_n hx hb d_Al_fastRemove_28 rfl (lv_at hl 0 rfl) ?_
    refine lv_iload_n hx hb d_Al_fastRemove_29 rfl (lv_at hl 3 rfl) ?_
    refine lv_isub hx hb d_Al_fastRemove_30 ?_
    obtain ⟨b17, rfl, h⟩ := h
    have h9 := h
    clear h
    refine hq_copy (rest := []) hx hb (hml.trans hl.1.symm) hown (hts _ bw_766) (hts _ bw_465) (hts _ bw_464) (hts _ bw_22) hK hZ0 hW hS h9 (by decide) (Nat.le_of_ble_eq_true rfl) d_Al_fastRemove_31 (fun M18 H locs h hW hS => ?_)
    clear h9
    exact l_Al_fastRemove_34 C0 a0 (some b17) (v15 - 1) h hW hS (lv_sub hl [1, 2, 0] rfl)
set_option maxRecDepth 20000 in
theorem c_Al_fastRemove {l : Launch} {D : va_G} {ca G : Nat → Nat} (post : hM → Prop) {M : hM} {sz : Nat} {a0 : Nat} {a1 : Option Nat} {x2 : Int32} (h : wp_Al_fastRemove G ca post M a0 a1 x2) : Met l y_Al_fastRemove (wz y_Al_fastRemove prog_30_method_39_code 4 (none)) rm_Al_fastRemove (va_Pc [.ref a0, va_rf a1, .int x2] (hI D ca G sz M)) (va_Qv post (hB D M sz) (hp_A M sz)) 0 0 (hp_A M sz) := by
  refine Met.ofW (cc := prog_30_method_39_code) (maxL := 4) (ret := none) (by decide) rfl ?_
  intro p e s m args below meth c s₁ B hml hv
  obtain ⟨rfl, hsz, hW, hK, hZ0⟩ := hv
  have hts := fun w hw => atoms_spec (ws := wz y_Al_fastRemove prog_30_method_39_code 4 (none)) B.pre w (List.mem_cons_of_mem _ hw)
  have hown : s.vm.findClass "java/util/ArrayList" = some m.cls := findClass_of_methodNamed B.named
  subst hsz
  have hl : lv_has ((lg_sl [.ref a0, va_rf a1, .int x2] ++ List.replicate (4 - (lg_sl [.ref a0, va_rf a1, .int x2]).length) Slot.unset).toArray) 4 [(0, .ref a0), (1, va_rf a1), (2, .int x2)] := by cases a1 <;> exact lv_entry _ (Nat.le_of_ble_eq_true rfl)
  rw [lg_entry_eq]
  exact l_Al_fastRemove_e ⟨B.exec, B.bytes, B.returns, hml, hown, hts, B.notSynchronized, hK, fun q h => Or.inr h, hZ0⟩ a0 a1 x2 h hW va_S.rf hl

theorem d_Al_remove_0 : decode prog_30_method_29_code 0 = .ok (.iload_n 1, 1) := by decide +kernel
theorem d_Al_remove_1 : decode prog_30_method_29_code 1 = .ok (.aload_n 0, 1) := by decide +kernel
theorem d_Al_remove_2 : decode prog_30_method_29_code 2 = .ok (.getfield 48, 3) := by decide +kernel
theorem d_Al_remove_5 : decode prog_30_method_29_code 5 = .ok (.invokestatic 118, 3) := by decide +kernel
theorem d_Al_remove_8 : decode prog_30_method_29_code 8 = .ok (.pop, 1) := by decide +kernel
theorem d_Al_remove_9 : decode prog_30_method_29_code 9 = .ok (.aload_n 0, 1) := by decide +kernel
theorem d_Al_remove_10 : decode prog_30_method_29_code 10 = .ok (.getfield 9, 3) := by decide +kernel
theorem d_Al_remove_13 : decode prog_30_method_29_code 13 = .ok (.astore_n 2, 1) := by decide +kernel
theorem d_Al_remove_14 : decode prog_30_method_29_code 14 = .ok (.aload_n 2, 1) := by decide +kernel
theorem d_Al_remove_15 : decode prog_30_method_29_code 15 = .ok (.iload_n 1, 1) := by decide +kernel
theorem d_Al_remove_16 : decode prog_30_method_29_code 16 = .ok (.aaload, 1) := by decide +kernel
theorem d_Al_remove_17 : decode prog_30_method_29_code 17 = .ok (.astore_n 3, 1) := by decide +kernel
theorem d_Al_remove_18 : decode prog_30_method_29_code 18 = .ok (.aload_n 0, 1) := by decide +kernel
theorem d_Al_remove_19 : decode prog_30_method_29_code 19 = .ok (.aload_n 2, 1) := by decide +kernel
theorem d_Al_remove_20 : decode prog_30_method_29_code 20 = .ok (.iload_n 1, 1) := by decide +kernel
theorem d_Al_remove_21 : decode prog_30_method_29_code 21 = .ok (.invokevirtual 144, 3) := by decide +kernel
theorem d_Al_remove_24 : decode prog_30_method_29_code 24 = .ok (.aload_n 3, 1) := by decide +kernel
theorem d_Al_remove_25 : decode prog_30_method_29_code 25 = .ok (.areturn, 1) := by decide +kernel
def y_Al_remove : MethodName := ⟨"java/util/ArrayList", "remove", "(I)Ljava/lang/Object;"⟩
abbrev rm_Al_remove : Room := { frames := 2, cells := 0, slots := 0, locals := 63 }
def wp_Al_remove (G ca : Nat → Nat) (post : Option Nat → hM → Prop) (M : hM) (a0 : Nat) (x1 : Int32) : Prop := gI M a0 4 1 fun v8 => wp_Ob_checkIndex G ca (fun r9 M10 => gR M10 a0 4 0 fun v11 => nN v11 fun b12 => aR M10 b12 (ca 2) x1 fun v13 => rC M10 a0 4 (wp_Al_fastRemove G ca (fun M14 => post v13 M14) M10 a0 (some b12) x1)) M x1 v8
set_option maxHeartbeats 1000000 in
set_option maxRecDepth 20000 in
theorem l_Al_remove_e {p : Program} {l : Launch} {e : Env} {s : State} {m : MethodId} {args : Array Value} {below : List Frame} {meth : Method} {c : Code} {D : va_G} {ca G : Nat → Nat} {A : Nat → Prop} (C0 : hC p s m args meth c D ca G prog_30_method_29_code 4 (some (.object "java/lang/Object")) "java/util/ArrayList" A) {post : Option Nat → hM → Prop} {M : hM} {H : Heap} {locs : List Loc} {ls : Array Slot} (a0 : Nat) (x1 : Int32) (h : wp_Al_remove G ca post M a0 x1) (hW : hw D wCl A M H) (hS : va_S A s.heap H locs) (hl : lv_has ls 4 [(0, .ref a0), (1, .int x1)]) : W p l e rm_Al_remove s m args below meth c H locs 0 0 (MQ below (va_Qq post (fun M' t => hw D wCl A M' t.heap) A) args s 0 0 A) (F0 m 0 ls []) := by
  obtain ⟨hx, hb, hr, hml, hown, hts, hlocks, hK, hA, hZ0⟩ := id C0
  refine lv_iload_n hx hb d_Al_remove_0 rfl (lv_at hl 1 rfl) ?_
  refine lv_aload_n hx hb d_Al_remove_1 rfl (lv_at hl 0 rfl) ?_
  obtain ⟨fs, v8, h1, h2, h⟩ := h
  refine va_get (D := D) (ci := 4) (v := .int v8) (C := "java/util/ArrayList") (T := TAl) (N := 3) hx hb hts uAl hown hK (hw_one hW h1) 0 rfl rfl 1 (by decide) (hts _ bw_237) (fun _ h9 => h9) h2 d_Al_remove_2 ?_
  have h9 := h
  clear h
  have hF := hW.free hS hA
  refine va_calli (va_runS (As := [.int x1, .int v8]) (rest := []) ⟨hx, hb, hml, hown, hts⟩ (c_Ob_checkIndex _ h9) (va_cwS 2 hts (gi_S bw_384 bw_385 bw_17 bw_386) rfl rfl rfl (by decide +kernel) ⟨Nat.le_of_ble_eq_true rfl, Nat.le_of_ble_eq_true rfl⟩) ⟨hI.blind, hI.give hW hS hA hK hZ0⟩ rfl rfl hl.1 rfl (lv_room (Nat.le_of_ble_eq_true rfl)) d_Al_remove_5 ⟨(show _ ≤ 0 by omega), (show _ ≤ 0 by omega)⟩) hS (fun q _ z => hF q z) hF (fun r9 M10 t H locs ht _ h hB1 _ _ hS => ?_)
  have hW := hw_back hF ht hB1
  clear h9
  refine lv_pop hx hb d_Al_remove_8 rfl ?_
  refine lv_aload_n hx hb d_Al_remove_9 rfl (lv_at hl 0 rfl) ?_
  obtain ⟨fs, v11, h1, h2, h⟩ := h
  refine va_get (D := D) (ci := 4) (v := va_rf v11) (C := "java/util/ArrayList") (T := TAl) (N := 3) hx hb hts uAl hown hK (hw_one hW h1) 0 rfl rfl 0 (by decide) (hts _ bw_236) (fun _ h9 => h9) h2 d_Al_remove_10 ?_
  refine lq_store_n (lv' := [(2, va_rf v11), (0, .ref a0), (1, .int x1)]) hx hb d_Al_remove_13 rfl hl (by decide) rfl (fun ls hl => ?_)
  refine lq_load_n hx hb d_Al_remove_14 rfl (lv_at hl 0 rfl) ?_
  refine lv_iload_n hx hb d_Al_remove_15 rfl (lv_at hl 2 rfl) ?_
  obtain ⟨b12, rfl, h⟩ := h
  obtain ⟨n, f, h1, h2, h⟩ := h
  refine va_aldq hx hb hK (hw_one hW h1) 0 2 rfl rfl h2 d_Al_remove_16 ?_
  generalize f (x1).toNatClampNeg = v13 at h ⊢
  refine lq_store_n (lv' := [(3, va_rf v13), (2, .ref b12), (0, .ref a0), (1, .int x1)]) hx hb d_Al_remove_17 rfl hl (by decide) rfl (fun ls hl => ?_)
  refine lv_aload_n hx hb d_Al_remove_18 rfl (lv_at hl 2 rfl) ?_
  refine lv_aload_n hx hb d_Al_remove_19 rfl (lv_at hl 1 rfl) ?_
  refine lv_iload_n hx hb d_Al_remove_20 rfl (lv_at hl 3 rfl) ?_
  obtain ⟨⟨fs, h1⟩, h⟩ := h
  have h9 := h
  clear h
  have hF := hW.free hS hA
  refine va_callv (va_runV (As := [.ref b12, .int x1]) (rest := []) ⟨hx, hb, hml, hown, hts⟩ (c_Al_fastRemove _ h9) (cwV 2 hts (gi_V bw_787 bw_789 bs_12 bw_14 bw_790) rfl rfl rfl (by decide +kernel) ⟨Nat.le_of_ble_eq_true rfl, Nat.le_of_ble_eq_true rfl⟩) ⟨hI.blind, hw_recv hK hW h1 rfl, hI.give hW hS hA hK hZ0⟩ rfl rfl hl.1 rfl (lv_room (Nat.le_of_ble_eq_true rfl)) d_Al_remove_21 ⟨(show _ ≤ 0 by omega), (show _ ≤ 0 by omega)⟩) hS (fun q _ z => hF q z) hF (fun M14 t H locs ht _ h hB1 _ _ hS => ?_)
  have hW := hw_back hF ht hB1
  clear h9
  refine lq_load_n hx hb d_Al_remove_24 rfl (lv_at hl 0 rfl) ?_
  exact W.aret hx hb hr (Or.inl ⟨_, rfl⟩) (va_rf_or _) (fun t ht hWm => ⟨⟨v13, _, rfl, h, hw_t ht hW⟩, hS.F ht⟩) hS.2.2 d_Al_remove_25
set_option maxRecDepth 20000 in
theorem c_Al_remove {l : Launch} {D : va_G} {ca G : Nat → Nat} (post : Option Nat → hM → Prop) {M : hM} {sz : Nat} {a0 : Nat} {x1 : Int32} (h : wp_Al_remove G ca post M a0 x1) : Met l y_Al_remove (wz y_Al_remove prog_30_method_29_code 4 (some (.object "java/lang/Object"))) rm_Al_remove (va_Pc [.ref a0, .int x1] (hI D ca G sz M)) (va_Qq post (hB D M sz) (hp_A M sz)) 0 0 (hp_A M sz) := by
  refine Met.ofW (cc := prog_30_method_29_code) (maxL := 4) (ret := some (.object "java/lang/Object")) (by decide) rfl ?_
  intro p e s m args below meth c s₁ B hml hv
  obtain ⟨rfl, hsz, hW, hK, hZ0⟩ := hv
  have hts := fun w hw => atoms_spec (ws := wz y_Al_remove prog_30_method_29_code 4 (some (.object "java/lang/Object"))) B.pre w (List.mem_cons_of_mem _ hw)
  have hown : s.vm.findClass "java/util/ArrayList" = some m.cls := findClass_of_methodNamed B.named
  subst hsz
  have hl := lv_entry [.ref a0, .int x1] (n := 4) (Nat.le_of_ble_eq_true rfl)
  rw [lg_entry_eq]
  exact l_Al_remove_e ⟨B.exec, B.bytes, B.returns, hml, hown, hts, B.notSynchronized, hK, fun q h => Or.inr h, hZ0⟩ a0 x1 h hW va_S.rf hl

theorem d_Al_clear_0 : decode prog_30_method_40_code 0 = .ok (.aload_n 0, 1) := by decide +kernel
theorem d_Al_clear_1 : decode prog_30_method_40_code 1 = .ok (.dup, 1) := by decide +kernel
theorem d_Al_clear_2 : decode prog_30_method_40_code 2 = .ok (.getfield 63, 3) := by decide +kernel
theorem d_Al_clear_5 : decode prog_30_method_40_code 5 = .ok (.iconst 1, 1) := by decide +kernel
theorem d_Al_clear_6 : decode prog_30_method_40_code 6 = .ok (.iadd, 1) := by decide +kernel
theorem d_Al_clear_7 : decode prog_30_method_40_code 7 = .ok (.putfield 63, 3) := by decide +kernel
theorem d_Al_clear_10 : decode prog_30_method_40_code 10 = .ok (.aload_n 0, 1) := by decide +kernel
theorem d_Al_clear_11 : decode prog_30_method_40_code 11 = .ok (.getfield 9, 3) := by decide +kernel
theorem d_Al_clear_14 : decode prog_30_method_40_code 14 = .ok (.astore_n 1, 1) := by decide +kernel
theorem d_Al_clear_15 : decode prog_30_method_40_code 15 = .ok (.aload_n 0, 1) := by decide +kernel
theorem d_Al_clear_16 : decode prog_30_method_40_code 16 = .ok (.getfield 48, 3) := by decide +kernel
theorem d_Al_clear_19 : decode prog_30_method_40_code 19 = .ok (.istore_n 2, 1) := by decide +kernel
theorem d_Al_clear_20 : decode prog_30_method_40_code 20 = .ok (.aload_n 0, 1) := by decide +kernel
theorem d_Al_clear_21 : decode prog_30_method_40_code 21 = .ok (.iconst 0, 1) := by decide +kernel
theorem d_Al_clear_22 : decode prog_30_method_40_code 22 = .ok (.dup_x1, 1) := by decide +kernel
theorem d_Al_clear_23 : decode prog_30_method_40_code 23 = .ok (.putfield 48, 3) := by decide +kernel
theorem d_Al_clear_26 : decode prog_30_method_40_code 26 = .ok (.istore_n 3, 1) := by decide +kernel
theorem d_Al_clear_27 : decode prog_30_method_40_code 27 = .ok (.iload_n 3, 1) := by decide +kernel
theorem d_Al_clear_28 : decode prog_30_method_40_code 28 = .ok (.iload_n 2, 1) := by decide +kernel
theorem d_Al_clear_29 : decode prog_30_method_40_code 29 = .ok (.if_icmp .ge 13, 3) := by decide +kernel
theorem d_Al_clear_32 : decode prog_30_method_40_code 32 = .ok (.aload_n 1, 1) := by decide +kernel
theorem d_Al_clear_33 : decode prog_30_method_40_code 33 = .ok (.iload_n 3, 1) := by decide +kernel
theorem d_Al_clear_34 : decode prog_30_method_40_code 34 = .ok (.aconst_null, 1) := by decide +kernel
theorem d_Al_clear_35 : decode prog_30_method_40_code 35 = .ok (.aastore, 1) := by decide +kernel
theorem d_Al_clear_36 : decode prog_30_method_40_code 36 = .ok (.iinc 3 1, 3) := by decide +kernel
theorem d_Al_clear_39 : decode prog_30_method_40_code 39 = .ok (.goto (-12), 3) := by decide +kernel
theorem d_Al_clear_42 : decode prog_30_method_40_code 42 = .ok (.return_, 1) := by decide +kernel
def y_Al_clear : MethodName := ⟨"java/util/ArrayList", "clear", "()V"⟩
abbrev rm_Al_clear : Room := { frames := 0, cells := 0, slots := 0, locals := 0 }
def wp_Al_clear_27 (G ca : Nat → Nat) (post : hM → Prop) : Nat → hM → Option Nat → Int32 → Int32 → Prop
  | 0, _, _, _, _ => False
  | n + 1, M, l1b27, l2b27, l3b27 => (l2b27 ≤ l3b27 → post M) ∧ (¬ l2b27 ≤ l3b27 → nN l1b27 fun b10 => sR M b10 (ca 2) l3b27 none (fun z => z = 1 ∨ z = 2) fun M11 => (wp_Al_clear_27 G ca post n) M11 (some b10) l2b27 (l3b27 + 1))
def wp_Al_clear (G ca : Nat → Nat) (post : hM → Prop) (M : hM) (a0 : Nat) : Prop := gI M a0 4 2 fun v12 => pF M a0 4 2 (.int (v12 + 1)) fun M13 => gR M13 a0 4 0 fun v14 => gI M13 a0 4 1 fun v15 => pF M13 a0 4 1 (.int 0) fun M16 => ∃ n, wp_Al_clear_27 G ca post n M16 v14 v15 0
set_option maxHeartbeats 1000000 in
set_option maxRecDepth 20000 in
theorem l_Al_clear_27 {p : Program} {l : Launch} {e : Env} {s : State} {m : MethodId} {args : Array Value} {below : List Frame} {meth : Method} {c : Code} {D : va_G} {ca G : Nat → Nat} {A : Nat → Prop} (C0 : hC p s m args meth c D ca G prog_30_method_40_code 4 (none) "java/util/ArrayList" A) {post : hM → Prop} : ∀ (n : Nat) {M : hM} {H : Heap} {locs : List Loc} {ls : Array Slot} (l1b27 : Option Nat) (l2b27 : Int32) (l3b27 : Int32) (h : wp_Al_clear_27 G ca post n M l1b27 l2b27 l3b27) (hW : hw D wCl A M H) (hS : va_S A s.heap H locs) (hl : lv_has ls 4 [(1, va_rf l1b27), (2, .int l2b27), (3, .int l3b27)]), W p l e rm_Al_clear s m args below meth c H locs 0 0 (MQ below (va_Qv post (fun M' t => hw D wCl A M' t.heap) A) args s 0 0 A) (F0 m 27 ls []) := by
  obtain ⟨hx, hb, hr, hml, hown, hts, hlocks, hK, hA, hZ0⟩ := id C0
  intro n
  induction n with
  | zero =>
    intro M H locs ls l1b27 l2b27 l3b27 h
    exact False.elim h
  | succ n ih =>
    intro M H locs ls l1b27 l2b27 l3b27 h hW hS hl
    have hk_17 := fun M H locs ls l1b27 l2b27 l3b27 h hW hS hl => @ih M H locs ls l1b27 l2b27 l3b27 h hW hS hl
    refine lv_iload_n hx hb d_Al_clear_27 rfl (lv_at hl 2 rfl) ?_
    refine lv_iload_n hx hb d_Al_clear_28 rfl (lv_at hl 1 rfl) ?_
    obtain ⟨h0, h1⟩ := h
    refine lv_icmp_ge (tgt := 42) hx hb d_Al_clear_29 (by decide) (fun c9 => ?_) (fun c9 => ?_)
    · have h := h0 c9
      exact W.vret hx hb hr (fun t ht hWm => ⟨⟨_, rfl, h, hw_t ht hW⟩, hS.F ht⟩) hS.2.2 d_Al_clear_42
    · have h := h1 c9
      refine lq_load_n hx hb d_Al_clear_32 rfl (lv_at hl 0 rfl) ?_
      refine lv_iload_n hx hb d_Al_clear_33 rfl (lv_at hl 2 rfl) ?_
      refine lv_null hx hb d_Al_clear_34 ?_
      obtain ⟨b10, rfl, h⟩ := h
      have h9 := h
      clear h
      refine hq_astO (r := none) hx hb hK hZ0 hW hS h9 d_Al_clear_35 (fun M11 H locs h hW hS => ?_)
      clear h9
      refine lv_iinc (v := l3b27 + 1) (lv' := [(3, .int (l3b27 + 1)), (1, .ref b10), (2, .int l2b27)]) hx hb d_Al_clear_36 hl (k := 2) rfl rfl (by decide) rfl (fun ls hl => ?_)
      refine lv_goto (tgt := 27) hx hb d_Al_clear_39 (by decide) ?_
      exact hk_17 _ _ _ _ (some b10) l2b27 (l3b27 + 1) h hW hS (lv_sub hl [1, 2, 0] rfl)
set_option maxHeartbeats 1000000 in
set_option maxRecDepth 20000 in
theorem l_Al_clear_e {p : Program} {l : Launch} {e : Env} {s : State} {m : MethodId} {args : Array Value} {below : List Frame} {meth : Method} {c : Code} {D : va_G} {ca G : Nat → Nat} {A : Nat → Prop} (C0 : hC p s m args meth c D ca G prog_30_method_40_code 4 (none) "java/util/ArrayList" A) {post : hM → Prop} {M : hM} {H : Heap} {locs : List Loc} {ls : Array Slot} (a0 : Nat) (h : wp_Al_clear G ca post M a0) (hW : hw D wCl A M H) (hS : va_S A s.heap H locs) (hl : lv_has ls 4 [(0, .ref a0)]) : W p l e rm_Al_clear s m args below meth c H locs 0 0 (MQ below (va_Qv post (fun M' t => hw D wCl A M' t.heap) A) args s 0 0 A) (F0 m 0 ls []) := by
  obtain ⟨hx, hb, hr, hml, hown, hts, hlocks, hK, hA, hZ0⟩ := id C0
  refine lv_aload_n hx hb d_Al_clear_0 rfl (lv_at hl 0 rfl) ?_
  refine lv_dup hx hb d_Al_clear_1 rfl ?_
  obtain ⟨fs, v12, h1, h2, h⟩ := h
  refine va_get (D := D) (ci := 4) (v := .int v12) (C := "java/util/ArrayList") (T := TAl) (N := 3) hx hb hts uAl hown hK (hw_one hW h1) 0 rfl rfl 2 (by decide) (hts _ bw_239) (u_same (hts _ bw_240)) h2 d_Al_clear_2 ?_
  refine lv_iconst (v := 1) hx hb d_Al_clear_5 (by decide) ?_
  refine lv_iadd hx hb d_Al_clear_6 ?_
  obtain ⟨fs, h1, h2, h⟩ := h
  obtain ⟨ws, q0, hq, hP, hD, hback, -⟩ := hw_open hW h1
  refine va_put (D := D) (ci := 4) (v := .int (v12 + 1)) (ty := .int) (C := "java/util/ArrayList") (T := TAl) (N := 3) hx hb hts uAl tAl tAl_ok nAl hown hK hP hD hS q0 hq rfl 2 (by decide) (hts _ bw_239) (u_same (hts _ bw_240)) rfl (by decide +kernel) rfl rfl h2 d_Al_clear_7 (fun H locs hP hD hS => ?_)
  have hW := hback _ _ hP hD
  generalize (va_up M a0 (some (.inr (4, fs.set 2 (.int (v12 + 1)))))) = M13 at h hW
  refine lv_aload_n hx hb d_Al_clear_10 rfl (lv_at hl 0 rfl) ?_
  obtain ⟨fs, v14, h1, h2, h⟩ := h
  refine va_get (D := D) (ci := 4) (v := va_rf v14) (C := "java/util/ArrayList") (T := TAl) (N := 3) hx hb hts uAl hown hK (hw_one hW h1) 0 rfl rfl 0 (by decide) (hts _ bw_236) (fun _ h9 => h9) h2 d_Al_clear_11 ?_
  refine lq_store_n (lv' := [(1, va_rf v14), (0, .ref a0)]) hx hb d_Al_clear_14 rfl hl (by decide) rfl (fun ls hl => ?_)
  refine lv_aload_n hx hb d_Al_clear_15 rfl (lv_at hl 1 rfl) ?_
  obtain ⟨fs, v15, h1, h2, h⟩ := h
  refine va_get (D := D) (ci := 4) (v := .int v15) (C := "java/util/ArrayList") (T := TAl) (N := 3) hx hb hts uAl hown hK (hw_one hW h1) 0 rfl rfl 1 (by decide) (hts _ bw_237) (fun _ h9 => h9) h2 d_Al_clear_16 ?_
  refine lv_istore_n (lv' := [(2, .int v15), (1, va_rf v14), (0, .ref a0)]) hx hb d_Al_clear_19 rfl hl (by decide) (by cases v14 <;> rfl) (fun ls hl => ?_)
  refine lv_aload_n hx hb d_Al_clear_20 rfl (lv_at hl 2 rfl) ?_
  refine lv_iconst (v := 0) hx hb d_Al_clear_21 (by decide) ?_
  refine lv_dup_x1 hx hb d_Al_clear_22 rfl rfl ?_
  obtain ⟨fs, h1, h2, h⟩ := h
  obtain ⟨ws, q0, hq, hP, hD, hback, -⟩ := hw_open hW h1
  refine va_put (D := D) (ci := 4) (v := .int 0) (ty := .int) (C := "java/util/ArrayList") (T := TAl) (N := 3) hx hb hts uAl tAl tAl_ok nAl hown hK hP hD hS q0 hq rfl 1 (by decide) (hts _ bw_237) (fun _ h9 => h9) rfl (by decide +kernel) rfl rfl h2 d_Al_clear_23 (fun H locs hP hD hS => ?_)
  have hW := hback _ _ hP hD
  generalize (va_up M13 a0 (some (.inr (4, fs.set 1 (.int 0))))) = M16 at h hW
  refine lv_istore_n (lv' := [(3, .int 0), (2, .int v15), (1, va_rf v14), (0, .ref a0)]) hx hb d_Al_clear_26 rfl hl (by decide) rfl (fun ls hl => ?_)
  obtain ⟨n, h⟩ := h
  exact l_Al_clear_27 C0 n v14 v15 0 h hW hS (lv_sub hl [2, 1, 0] rfl)
set_option maxRecDepth 20000 in
theorem c_Al_clear {l : Launch} {D : va_G} {ca G : Nat → Nat} (post : hM → Prop) {M : hM} {sz : Nat} {a0 : Nat} (h : wp_Al_clear G ca post M a0) : Met l y_Al_clear (wz y_Al_clear prog_30_method_40_code 4 (none)) rm_Al_clear (va_Pc [.ref a0] (hI D ca G sz M)) (va_Qv post (hB D M sz) (hp_A M sz)) 0 0 (hp_A M sz) := by
  refine Met.ofW (cc := prog_30_method_40_code) (maxL := 4) (ret := none) (by decide) rfl ?_
  intro p e s m args below meth c s₁ B hml hv
  obtain ⟨rfl, hsz, hW, hK, hZ0⟩ := hv
  have hts := fun w hw => atoms_spec (ws := wz y_Al_clear prog_30_method_40_code 4 (none)) B.pre w (List.mem_cons_of_mem _ hw)
  have hown : s.vm.findClass "java/util/ArrayList" = some m.cls := findClass_of_methodNamed B.named
  subst hsz
  have hl := lv_entry [.ref a0] (n := 4) (Nat.le_of_ble_eq_true rfl)
  rw [lg_entry_eq]
  exact l_Al_clear_e ⟨B.exec, B.bytes, B.returns, hml, hown, hts, B.notSynchronized, hK, fun q h => Or.inr h, hZ0⟩ a0 h hW va_S.rf hl

theorem d_Al_rangeCheckForAdd_0 : decode prog_30_method_45_code 0 = .ok (.iload_n 1, 1) := by decide +kernel
theorem d_Al_rangeCheckForAdd_1 : decode prog_30_method_45_code 1 = .ok (.aload_n 0, 1) := by decide +kernel
theorem d_Al_rangeCheckForAdd_2 : decode prog_30_method_45_code 2 = .ok (.getfield 48, 3) := by decide +kernel
theorem d_Al_rangeCheckForAdd_5 : decode prog_30_method_45_code 5 = .ok (.if_icmp .gt 7, 3) := by decide +kernel
theorem d_Al_rangeCheckForAdd_8 : decode prog_30_method_45_code 8 = .ok (.iload_n 1, 1) := by decide +kernel
theorem d_Al_rangeCheckForAdd_9 : decode prog_30_method_45_code 9 = .ok (.ifCond .ge 16, 3) := by decide +kernel
theorem d_Al_rangeCheckForAdd_12 : decode prog_30_method_45_code 12 = .ok (.new 187, 3) := by decide +kernel
theorem d_Al_rangeCheckForAdd_25 : decode prog_30_method_45_code 25 = .ok (.return_, 1) := by decide +kernel
def y_Al_rangeCheckForAdd : MethodName := ⟨"java/util/ArrayList", "rangeCheckForAdd", "(I)V"⟩
abbrev rm_Al_rangeCheckForAdd : Room := { frames := 0, cells := 0, slots := 0, locals := 0 }
def wp_Al_rangeCheckForAdd_12 (G ca : Nat → Nat) (post : hM → Prop) (M : hM)  : Prop := False
def wp_Al_rangeCheckForAdd (G ca : Nat → Nat) (post : hM → Prop) (M : hM) (a0 : Nat) (x1 : Int32) : Prop := gI M a0 4 1 fun v4 => (v4 < x1 → wp_Al_rangeCheckForAdd_12 G ca post M) ∧ (¬ v4 < x1 → (0 ≤ x1 → post M) ∧ (¬ 0 ≤ x1 → wp_Al_rangeCheckForAdd_12 G ca post M))
set_option maxHeartbeats 1000000 in
set_option maxRecDepth 20000 in
theorem l_Al_rangeCheckForAdd_12 {p : Program} {l : Launch} {e : Env} {s : State} {m : MethodId} {args : Array Value} {below : List Frame} {meth : Method} {c : Code} {D : va_G} {ca G : Nat → Nat} {A : Nat → Prop} (C0 : hC p s m args meth c D ca G prog_30_method_45_code 2 (none) "java/util/ArrayList" A) {post : hM → Prop} {M : hM} {H : Heap} {locs : List Loc} {ls : Array Slot}  (h : wp_Al_rangeCheckForAdd_12 G ca post M) (hW : hw D wCl A M H) (hS : va_S A s.heap H locs) (hl : lv_has ls 2 []) : W p l e rm_Al_rangeCheckForAdd s m args below meth c H locs 0 0 (MQ below (va_Qv post (fun M' t => hw D wCl A M' t.heap) A) args s 0 0 A) (F0 m 12 ls []) := by
  obtain ⟨hx, hb, hr, hml, hown, hts, hlocks, hK, hA, hZ0⟩ := id C0
  exact h.elim
set_option maxHeartbeats 1000000 in
set_option maxRecDepth 20000 in
theorem l_Al_rangeCheckForAdd_e {p : Program} {l : Launch} {e : Env} {s : State} {m : MethodId} {args : Array Value} {below : List Frame} {meth : Method} {c : Code} {D : va_G} {ca G : Nat → Nat} {A : Nat → Prop} (C0 : hC p s m args meth c D ca G prog_30_method_45_code 2 (none) "java/util/ArrayList" A) {post : hM → Prop} {M : hM} {H : Heap} {locs : List Loc} {ls : Array Slot} (a0 : Nat) (x1 : Int32) (h : wp_Al_rangeCheckForAdd G ca post M a0 x1) (hW : hw D wCl A M H) (hS : va_S A s.heap H locs) (hl : lv_has ls 2 [(0, .ref a0), (1, .int x1)]) : W p l e rm_Al_rangeCheckForAdd s m args below meth c H locs 0 0 (MQ below (va_Qv post (fun M' t => hw D wCl A M' t.heap) A) args s 0 0 A) (F0 m 0 ls []) := by
  obtain ⟨hx, hb, hr, hml, hown, hts, hlocks, hK, hA, hZ0⟩ := id C0
  refine lv_iload_n hx hb d_Al_rangeCheckForAdd_0 rfl (lv_at hl 1 rfl) ?_
  refine lv_aload_n hx hb d_Al_rangeCheckForAdd_1 rfl (lv_at hl 0 rfl) ?_
  obtain ⟨fs, v4, h1, h2, h⟩ := h
  refine va_get (D := D) (ci := 4) (v := .int v4) (C := "java/util/ArrayList") (T := TAl) (N := 3) hx hb hts uAl hown hK (hw_one hW h1) 0 rfl rfl 1 (by decide) (hts _ bw_237) (fun _ h9 => h9) h2 d_Al_rangeCheckForAdd_2 ?_
  obtain ⟨h0, h1⟩ := h
  refine lv_icmp_gt (tgt := 12) hx hb d_Al_rangeCheckForAdd_5 (by decide) (fun c5 => ?_) (fun c5 => ?_)
  · have h := h0 c5
    exact l_Al_rangeCheckForAdd_12 C0  h hW hS (lv_sub hl [] rfl)
  · have h := h1 c5
    refine lv_iload_n hx hb d_Al_rangeCheckForAdd_8 rfl (lv_at hl 1 rfl) ?_
    obtain ⟨h0, h1⟩ := h
    refine lv_if_ge (tgt := 25) hx hb d_Al_rangeCheckForAdd_9 (by decide) (fun c6 => ?_) (fun c6 => ?_)
    · have h := h0 c6
      exact W.vret hx hb hr (fun t ht hWm => ⟨⟨_, rfl, h, hw_t ht hW⟩, hS.F ht⟩) hS.2.2 d_Al_rangeCheckForAdd_25
    · have h := h1 c6
      exact l_Al_rangeCheckForAdd_12 C0  h hW hS (lv_sub hl [] rfl)
set_option maxRecDepth 20000 in
theorem c_Al_rangeCheckForAdd {l : Launch} {D : va_G} {ca G : Nat → Nat} (post : hM → Prop) {M : hM} {sz : Nat} {a0 : Nat} {x1 : Int32} (h : wp_Al_rangeCheckForAdd G ca post M a0 x1) : Met l y_Al_rangeCheckForAdd (wz y_Al_rangeCheckForAdd prog_30_method_45_code 2 (none)) rm_Al_rangeCheckForAdd (va_Pc [.ref a0, .int x1] (hI D ca G sz M)) (va_Qv post (hB D M sz) (hp_A M sz)) 0 0 (hp_A M sz) := by
  refine Met.ofW (cc := prog_30_method_45_code) (maxL := 2) (ret := none) (by decide) rfl ?_
  intro p e s m args below meth c s₁ B hml hv
  obtain ⟨rfl, hsz, hW, hK, hZ0⟩ := hv
  have hts := fun w hw => atoms_spec (ws := wz y_Al_rangeCheckForAdd prog_30_method_45_code 2 (none)) B.pre w (List.mem_cons_of_mem _ hw)
  have hown : s.vm.findClass "java/util/ArrayList" = some m.cls := findClass_of_methodNamed B.named
  subst hsz
  have hl := lv_entry [.ref a0, .int x1] (n := 2) (Nat.le_of_ble_eq_true rfl)
  rw [lg_entry_eq]
  exact l_Al_rangeCheckForAdd_e ⟨B.exec, B.bytes, B.returns, hml, hown, hts, B.notSynchronized, hK, fun q h => Or.inr h, hZ0⟩ a0 x1 h hW va_S.rf hl

theorem d_Ar_copyOf_ObjectIClass_0 : decode prog_31_method_120_code 0 = .ok (.aload_n 2, 1) := by decide +kernel
theorem d_Ar_copyOf_ObjectIClass_1 : decode prog_31_method_120_code 1 = .ok (.ldc 110, 2) := by decide +kernel
theorem d_Ar_copyOf_ObjectIClass_3 : decode prog_31_method_120_code 3 = .ok (.if_acmp .ne 10, 3) := by decide +kernel
theorem d_Ar_copyOf_ObjectIClass_6 : decode prog_31_method_120_code 6 = .ok (.iload_n 1, 1) := by decide +kernel
theorem d_Ar_copyOf_ObjectIClass_7 : decode prog_31_method_120_code 7 = .ok (.anewarray 2, 3) := by decide +kernel
theorem d_Ar_copyOf_ObjectIClass_10 : decode prog_31_method_120_code 10 = .ok (.goto 14, 3) := by decide +kernel
theorem d_Ar_copyOf_ObjectIClass_13 : decode prog_31_method_120_code 13 = .ok (.aload_n 2, 1) := by decide +kernel
theorem d_Ar_copyOf_ObjectIClass_24 : decode prog_31_method_120_code 24 = .ok (.astore_n 3, 1) := by decide +kernel
theorem d_Ar_copyOf_ObjectIClass_25 : decode prog_31_method_120_code 25 = .ok (.aload_n 0, 1) := by decide +kernel
theorem d_Ar_copyOf_ObjectIClass_26 : decode prog_31_method_120_code 26 = .ok (.iconst 0, 1) := by decide +kernel
theorem d_Ar_copyOf_ObjectIClass_27 : decode prog_31_method_120_code 27 = .ok (.aload_n 3, 1) := by decide +kernel
theorem d_Ar_copyOf_ObjectIClass_28 : decode prog_31_method_120_code 28 = .ok (.iconst 0, 1) := by decide +kernel
theorem d_Ar_copyOf_ObjectIClass_29 : decode prog_31_method_120_code 29 = .ok (.aload_n 0, 1) := by decide +kernel
theorem d_Ar_copyOf_ObjectIClass_30 : decode prog_31_method_120_code 30 = .ok (.arraylength, 1) := by decide +kernel
theorem d_Ar_copyOf_ObjectIClass_31 : decode prog_31_method_120_code 31 = .ok (.iload_n 1, 1) := by decide +kernel
theorem d_Ar_copyOf_ObjectIClass_32 : decode prog_31_method_120_code 32 = .ok (.invokestatic 304, 3) := by decide +kernel
theorem d_Ar_copyOf_ObjectIClass_35 : decode prog_31_method_120_code 35 = .ok (.invokestatic 150, 3) := by decide +kernel
theorem d_Ar_copyOf_ObjectIClass_38 : decode prog_31_method_120_code 38 = .ok (.aload_n 3, 1) := by decide +kernel
theorem d_Ar_copyOf_ObjectIClass_39 : decode prog_31_method_120_code 39 = .ok (.areturn, 1) := by decide +kernel
def y_Ar_copyOf_ObjectIClass : MethodName := ⟨"java/util/Arrays", "copyOf", "([Ljava/lang/Object;ILjava/lang/Class;)[Ljava/lang/Object;"⟩
abbrev rm_Ar_copyOf_ObjectIClass : Room := { frames := 1, cells := 1, slots := 22, locals := 40 }
def wp_Ar_copyOf_ObjectIClass (G ca : Nat → Nat) (post : Option Nat → hM → Prop) (M : hM) (a0 : Option Nat) (x1 : Int32) (a2 : Option Nat) : Prop := (¬ a2 = (some (G 4)) → False) ∧ (a2 = (some (G 4)) → nA M x1 22 (fun N => .inl (ca 2, N, .inr (.inr (.inr (.inr (fun _ => none)))))) fun q8 M9 => nN a0 fun b10 => aZ G M9 b10 (ca 2) fun v11 => cQ M9 b10 q8 (ca 2) 0 0 (if x1 < v11 then x1 else v11) fun M12 => post (some q8) M12)
set_option maxHeartbeats 1000000 in
set_option maxRecDepth 20000 in
theorem l_Ar_copyOf_ObjectIClass_e {p : Program} {l : Launch} {e : Env} {s : State} {m : MethodId} {args : Array Value} {below : List Frame} {meth : Method} {c : Code} {D : va_G} {ca G : Nat → Nat} {A : Nat → Prop} (C0 : hC p s m args meth c D ca G prog_31_method_120_code 4 (some (.array (.object "java/lang/Object"))) "java/util/Arrays" A) {post : Option Nat → hM → Prop} {M : hM} {H : Heap} {locs : List Loc} {ls : Array Slot} {cells slots : Nat} (a0 : Option Nat) (x1 : Int32) (a2 : Option Nat) (hc : cells ≤ 0) (hs : slots ≤ 0) (h : wp_Ar_copyOf_ObjectIClass G ca post M a0 x1 a2) (hW : hw D wCl A M H) (hS : va_S A s.heap H locs) (hl : lv_has ls 4 [(0, va_rf a0), (1, .int x1), (2, va_rf a2)]) : W p l e rm_Ar_copyOf_ObjectIClass s m args below meth c H locs cells slots (MQ below (va_Qq post (fun M' t => hw D wCl A M' t.heap) A) args s 1 22 A) (F0 m 0 ls []) := by
  obtain ⟨hx, hb, hr, hml, hown, hts, hlocks, hK, hA, hZ0⟩ := id C0
  refine lq_load_n hx hb d_Ar_copyOf_ObjectIClass_0 rfl (lv_at hl 2 rfl) ?_
  refine va_ldcM hx hb hown (hts _ bw_457) hZ0.2.2.2.2.2.2.2.2.1 d_Ar_copyOf_ObjectIClass_1 ?_
  obtain ⟨h0, h1⟩ := h
  refine lv_acmp_ne (rx := a2) (ry := (some (G 4))) (tgt := 13) hx hb d_Ar_copyOf_ObjectIClass_3 (by decide) (fun c7 => ?_) (fun c7 => ?_)
  · have h := h0 c7
    exact h.elim
  · have h := h1 c7
    refine lv_iload_n hx hb d_Ar_copyOf_ObjectIClass_6 rfl (lv_at hl 1 rfl) ?_
    have h9 := h
    clear h
    refine hq_newq 2 22 (C := "java/lang/Object") hx hb hown (hts _ bw_459) (hZ0.2.2.2.2.2.2.1 _ (by decide)) hK hW hS hA h9 rfl (by decide) (show _ ≤ 1 by omega) (show _ ≤ 22 by omega) d_Ar_copyOf_ObjectIClass_7 (fun q8 M9 H h hW hS => ?_)
    clear h9
    refine lv_goto (tgt := 24) hx hb d_Ar_copyOf_ObjectIClass_10 (by decide) ?_
    refine lv_astore_n (lv' := [(3, .ref q8), (0, va_rf a0), (1, .int x1), (2, va_rf a2)]) hx hb d_Ar_copyOf_ObjectIClass_24 rfl hl (by decide) (by cases a2 <;> rfl) (fun ls hl => ?_)
    refine lq_load_n hx hb d_Ar_copyOf_ObjectIClass_25 rfl (lv_at hl 1 rfl) ?_
    refine lv_iconst (v := 0) hx hb d_Ar_copyOf_ObjectIClass_26 (by decide) ?_
    refine lv_aload_n hx hb d_Ar_copyOf_ObjectIClass_27 rfl (lv_at hl 0 rfl) ?_
    refine lv_iconst (v := 0) hx hb d_Ar_copyOf_ObjectIClass_28 (by decide) ?_
    refine lq_load_n hx hb d_Ar_copyOf_ObjectIClass_29 rfl (lv_at hl 1 rfl) ?_
    obtain ⟨b10, rfl, h⟩ := h
    have h9 := h
    clear h
    refine hq_alen hx hb hK hZ0 hW hS h9 d_Ar_copyOf_ObjectIClass_30 (fun v11 h => ?_)
    clear h9
    refine lv_iload_n hx hb d_Ar_copyOf_ObjectIClass_31 rfl (lv_at hl 2 rfl) ?_
    refine va_mmin (rest := [.int 0, .ref q8, .int 0, .ref b10]) hx hb (hml.trans hl.1.symm) hown (hts _ bw_460) (hts _ bw_461) (hts _ bw_20) (hts _ bw_462) (by decide) (Nat.le_of_ble_eq_true rfl) (show _ ≤ 1 by omega) (show _ ≤ 22 by omega) d_Ar_copyOf_ObjectIClass_32 ?_
    have h9 := h
    clear h
    refine hq_copy (rest := []) hx hb (hml.trans hl.1.symm) hown (hts _ bw_463) (hts _ bw_465) (hts _ bw_464) (hts _ bw_22) hK hZ0 hW hS h9 (by decide) (Nat.le_of_ble_eq_true rfl) d_Ar_copyOf_ObjectIClass_35 (fun M12 H locs h hW hS => ?_)
    clear h9
    refine lv_aload_n hx hb d_Ar_copyOf_ObjectIClass_38 rfl (lv_at hl 0 rfl) ?_
    refine W.widen (k := 1) (n := 22) (by omega) (by omega) ?_
    exact W.aret hx hb hr (Or.inr ⟨_, rfl⟩) (Or.inr ⟨_, rfl⟩) (fun t ht hWm => ⟨⟨(some q8), _, rfl, h, hw_t ht hW⟩, hS.F ht⟩) hS.2.2 d_Ar_copyOf_ObjectIClass_39
set_option maxRecDepth 20000 in
theorem c_Ar_copyOf_ObjectIClass {l : Launch} {D : va_G} {ca G : Nat → Nat} (post : Option Nat → hM → Prop) {M : hM} {sz : Nat} {a0 : Option Nat} {x1 : Int32} {a2 : Option Nat} (h : wp_Ar_copyOf_ObjectIClass G ca post M a0 x1 a2) : Met l y_Ar_copyOf_ObjectIClass (wz y_Ar_copyOf_ObjectIClass prog_31_method_120_code 4 (some (.array (.object "java/lang/Object")))) rm_Ar_copyOf_ObjectIClass (va_Pc [va_rf a0, .int x1, va_rf a2] (hI D ca G sz M)) (va_Qq post (hB D M sz) (hp_A M sz)) 1 22 (hp_A M sz) := by
  refine Met.ofW (cc := prog_31_method_120_code) (maxL := 4) (ret := some (.array (.object "java/lang/Object"))) (by decide) rfl ?_
  intro p e s m args below meth c s₁ B hml hv
  obtain ⟨rfl, hsz, hW, hK, hZ0⟩ := hv
  have hts := fun w hw => atoms_spec (ws := wz y_Ar_copyOf_ObjectIClass prog_31_method_120_code 4 (some (.array (.object "java/lang/Object")))) B.pre w (List.mem_cons_of_mem _ hw)
  have hown : s.vm.findClass "java/util/Arrays" = some m.cls := findClass_of_methodNamed B.named
  subst hsz
  have hl : lv_has ((lg_sl [va_rf a0, .int x1, va_rf a2] ++ List.replicate (4 - (lg_sl [va_rf a0, .int x1, va_rf a2]).length) Slot.unset).toArray) 4 [(0, va_rf a0), (1, .int x1), (2, va_rf a2)] := by cases a0 <;> cases a2 <;> exact lv_entry _ (Nat.le_of_ble_eq_true rfl)
  rw [lg_entry_eq]
  exact l_Ar_copyOf_ObjectIClass_e ⟨B.exec, B.bytes, B.returns, hml, hown, hts, B.notSynchronized, hK, fun q h => Or.inr h, hZ0⟩ a0 x1 a2 (Nat.zero_le _) (Nat.zero_le _) h hW va_S.rf hl

theorem d_Ar_copyOf_ObjectI_0 : decode prog_31_method_119_code 0 = .ok (.aload_n 0, 1) := by decide +kernel
theorem d_Ar_copyOf_ObjectI_1 : decode prog_31_method_119_code 1 = .ok (.iload_n 1, 1) := by decide +kernel
theorem d_Ar_copyOf_ObjectI_2 : decode prog_31_method_119_code 2 = .ok (.aload_n 0, 1) := by decide +kernel
theorem d_Ar_copyOf_ObjectI_3 : decode prog_31_method_119_code 3 = .ok (.invokevirtual 86, 3) := by decide +kernel
theorem d_Ar_copyOf_ObjectI_6 : decode prog_31_method_119_code 6 = .ok (.invokestatic 300, 3) := by decide +kernel
theorem d_Ar_copyOf_ObjectI_9 : decode prog_31_method_119_code 9 = .ok (.areturn, 1) := by decide +kernel
def y_Ar_copyOf_ObjectI : MethodName := ⟨"java/util/Arrays", "copyOf", "([Ljava/lang/Object;I)[Ljava/lang/Object;"⟩
abbrev rm_Ar_copyOf_ObjectI : Room := { frames := 2, cells := 1, slots := 22, locals := 63 }
def wp_Ar_copyOf_ObjectI (G ca : Nat → Nat) (post : Option Nat → hM → Prop) (M : hM) (a0 : Option Nat) (x1 : Int32) : Prop := nN a0 fun b4 => (∃ x : vp_A, M b4 = some (.inl (ca 2, x))) ∧ wp_Ar_copyOf_ObjectIClass G ca (fun r5 M6 => post r5 M6) M (some b4) x1 (some (G 4))
set_option maxHeartbeats 1000000 in
set_option maxRecDepth 20000 in
theorem l_Ar_copyOf_ObjectI_e {p : Program} {l : Launch} {e : Env} {s : State} {m : MethodId} {args : Array Value} {below : List Frame} {meth : Method} {c : Code} {D : va_G} {ca G : Nat → Nat} {A : Nat → Prop} (C0 : hC p s m args meth c D ca G prog_31_method_119_code 2 (some (.array (.object "java/lang/Object"))) "java/util/Arrays" A) {post : Option Nat → hM → Prop} {M : hM} {H : Heap} {locs : List Loc} {ls : Array Slot} {cells slots : Nat} (a0 : Option Nat) (x1 : Int32) (hc : cells ≤ 0) (hs : slots ≤ 0) (h : wp_Ar_copyOf_ObjectI G ca post M a0 x1) (hW : hw D wCl A M H) (hS : va_S A s.heap H locs) (hl : lv_has ls 2 [(0, va_rf a0), (1, .int x1)]) : W p l e rm_Ar_copyOf_ObjectI s m args below meth c H locs cells slots (MQ below (va_Qq post (fun M' t => hw D wCl A M' t.heap) A) args s 1 22 A) (F0 m 0 ls []) := by
  obtain ⟨hx, hb, hr, hml, hown, hts, hlocks, hK, hA, hZ0⟩ := id C0
  refine lq_load_n hx hb d_Ar_copyOf_ObjectI_0 rfl (lv_at hl 0 rfl) ?_
  refine lv_iload_n hx hb d_Ar_copyOf_ObjectI_1 rfl (lv_at hl 1 rfl) ?_
  refine lq_load_n hx hb d_Ar_copyOf_ObjectI_2 rfl (lv_at hl 0 rfl) ?_
  obtain ⟨b4, rfl, h⟩ := h
  obtain ⟨⟨x, h1⟩, h⟩ := h
  refine va_getC (C := "[Ljava/lang/Object;") (rest := [.int x1, .ref b4]) hx hb (hml.trans hl.1.symm) hown (hts _ bw_435) (va_Dc.use hZ0.2.2.2.2.2.2.2.2.2) (hts _ bw_1204) (hts _ bw_436) (hts _ bw_453) hZ0.2.2.2.2.2.2.2.2.1 (hw_arr hK hW h1) (by decide) (Nat.le_of_ble_eq_true rfl) d_Ar_copyOf_ObjectI_3 ?_
  have h9 := h
  clear h
  have hF := hW.free hS hA
  refine va_callq (va_runS (As := [.ref b4, .int x1, .ref (G 4)]) (rest := []) ⟨hx, hb, hml, hown, hts⟩ (c_Ar_copyOf_ObjectIClass _ h9) (va_cwS 3 hts (gi_S bw_454 bw_455 bw_21 bw_456) rfl rfl rfl (by decide +kernel) ⟨Nat.le_of_ble_eq_true rfl, Nat.le_of_ble_eq_true rfl⟩) ⟨hI.blind, hI.give hW hS hA hK hZ0⟩ rfl rfl hl.1 rfl (lv_room (Nat.le_of_ble_eq_true rfl)) d_Ar_copyOf_ObjectI_6 ⟨(show _ ≤ 1 by omega), (show _ ≤ 22 by omega)⟩) hS (fun q _ z => hF q z) hF (fun r5 M6 t H locs ht _ h hB1 _ _ hS => ?_)
  have hW := hw_back hF ht hB1
  clear h9
  refine W.widen (k := 1) (n := 22) (by omega) (by omega) ?_
  exact W.aret hx hb hr (Or.inr ⟨_, rfl⟩) (va_rf_or _) (fun t ht hWm => ⟨⟨r5, _, rfl, h, hw_t ht hW⟩, hS.F ht⟩) hS.2.2 d_Ar_copyOf_ObjectI_9
set_option maxRecDepth 20000 in
theorem c_Ar_copyOf_ObjectI {l : Launch} {D : va_G} {ca G : Nat → Nat} (post : Option Nat → hM → Prop) {M : hM} {sz : Nat} {a0 : Option Nat} {x1 : Int32} (h : wp_Ar_copyOf_ObjectI G ca post M a0 x1) : Met l y_Ar_copyOf_ObjectI (wz y_Ar_copyOf_ObjectI prog_31_method_119_code 2 (some (.array (.object "java/lang/Object")))) rm_Ar_copyOf_ObjectI (va_Pc [va_rf a0, .int x1] (hI D ca G sz M)) (va_Qq post (hB D M sz) (hp_A M sz)) 1 22 (hp_A M sz) := by
  refine Met.ofW (cc := prog_31_method_119_code) (maxL := 2) (ret := some (.array (.object "java/lang/Object"))) (by decide) rfl ?_
  intro p e s m args below meth c s₁ B hml hv
  obtain ⟨rfl, hsz, hW, hK, hZ0⟩ := hv
  have hts := fun w hw => atoms_spec (ws := wz y_Ar_copyOf_ObjectI prog_31_method_119_code 2 (some (.array (.object "java/lang/Object")))) B.pre w (List.mem_cons_of_mem _ hw)
  have hown : s.vm.findClass "java/util/Arrays" = some m.cls := findClass_of_methodNamed B.named
  subst hsz
  have hl : lv_has ((lg_sl [va_rf a0, .int x1] ++ List.replicate (2 - (lg_sl [va_rf a0, .int x1]).length) Slot.unset).toArray) 2 [(0, va_rf a0), (1, .int x1)] := by cases a0 <;> exact lv_entry _ (Nat.le_of_ble_eq_true rfl)
  rw [lg_entry_eq]
  exact l_Ar_copyOf_ObjectI_e ⟨B.exec, B.bytes, B.returns, hml, hown, hts, B.notSynchronized, hK, fun q h => Or.inr h, hZ0⟩ a0 x1 (Nat.zero_le _) (Nat.zero_le _) h hW va_S.rf hl

theorem d_Al_grow_I_0 : decode prog_30_method_6_code 0 = .ok (.aload_n 0, 1) := by decide +kernel
theorem d_Al_grow_I_1 : decode prog_30_method_6_code 1 = .ok (.getfield 9, 3) := by decide +kernel
theorem d_Al_grow_I_4 : decode prog_30_method_6_code 4 = .ok (.arraylength, 1) := by decide +kernel
theorem d_Al_grow_I_5 : decode prog_30_method_6_code 5 = .ok (.istore_n 2, 1) := by decide +kernel
theorem d_Al_grow_I_6 : decode prog_30_method_6_code 6 = .ok (.iload_n 2, 1) := by decide +kernel
theorem d_Al_grow_I_7 : decode prog_30_method_6_code 7 = .ok (.ifCond .gt 13, 3) := by decide +kernel
theorem d_Al_grow_I_10 : decode prog_30_method_6_code 10 = .ok (.aload_n 0, 1) := by decide +kernel
theorem d_Al_grow_I_11 : decode prog_30_method_6_code 11 = .ok (.getfield 9, 3) := by decide +kernel
theorem d_Al_grow_I_14 : decode prog_30_method_6_code 14 = .ok (.getstatic 39, 3) := by decide +kernel
theorem d_Al_grow_I_17 : decode prog_30_method_6_code 17 = .ok (.if_acmp .eq 28, 3) := by decide +kernel
theorem d_Al_grow_I_20 : decode prog_30_method_6_code 20 = .ok (.iload_n 2, 1) := by decide +kernel
theorem d_Al_grow_I_21 : decode prog_30_method_6_code 21 = .ok (.iload_n 1, 1) := by decide +kernel
theorem d_Al_grow_I_22 : decode prog_30_method_6_code 22 = .ok (.iload_n 2, 1) := by decide +kernel
theorem d_Al_grow_I_23 : decode prog_30_method_6_code 23 = .ok (.isub, 1) := by decide +kernel
theorem d_Al_grow_I_24 : decode prog_30_method_6_code 24 = .ok (.iload_n 2, 1) := by decide +kernel
theorem d_Al_grow_I_25 : decode prog_30_method_6_code 25 = .ok (.iconst 1, 1) := by decide +kernel
theorem d_Al_grow_I_26 : decode prog_30_method_6_code 26 = .ok (.ishr, 1) := by decide +kernel
theorem d_Al_grow_I_27 : decode prog_30_method_6_code 27 = .ok (.invokestatic 73, 3) := by decide +kernel
theorem d_Al_grow_I_30 : decode prog_30_method_6_code 30 = .ok (.istore_n 3, 1) := by decide +kernel
theorem d_Al_grow_I_31 : decode prog_30_method_6_code 31 = .ok (.aload_n 0, 1) := by decide +kernel
theorem d_Al_grow_I_32 : decode prog_30_method_6_code 32 = .ok (.aload_n 0, 1) := by decide +kernel
theorem d_Al_grow_I_33 : decode prog_30_method_6_code 33 = .ok (.getfield 9, 3) := by decide +kernel
theorem d_Al_grow_I_36 : decode prog_30_method_6_code 36 = .ok (.iload_n 3, 1) := by decide +kernel
theorem d_Al_grow_I_37 : decode prog_30_method_6_code 37 = .ok (.invokestatic 66, 3) := by decide +kernel
theorem d_Al_grow_I_40 : decode prog_30_method_6_code 40 = .ok (.dup_x1, 1) := by decide +kernel
theorem d_Al_grow_I_41 : decode prog_30_method_6_code 41 = .ok (.putfield 9, 3) := by decide +kernel
theorem d_Al_grow_I_44 : decode prog_30_method_6_code 44 = .ok (.areturn, 1) := by decide +kernel
theorem d_Al_grow_I_45 : decode prog_30_method_6_code 45 = .ok (.aload_n 0, 1) := by decide +kernel
theorem d_Al_grow_I_46 : decode prog_30_method_6_code 46 = .ok (.bipush 10, 2) := by decide +kernel
theorem d_Al_grow_I_48 : decode prog_30_method_6_code 48 = .ok (.iload_n 1, 1) := by decide +kernel
theorem d_Al_grow_I_49 : decode prog_30_method_6_code 49 = .ok (.invokestatic 79, 3) := by decide +kernel
theorem d_Al_grow_I_52 : decode prog_30_method_6_code 52 = .ok (.anewarray 7, 3) := by decide +kernel
theorem d_Al_grow_I_55 : decode prog_30_method_6_code 55 = .ok (.dup_x1, 1) := by decide +kernel
theorem d_Al_grow_I_56 : decode prog_30_method_6_code 56 = .ok (.putfield 9, 3) := by decide +kernel
theorem d_Al_grow_I_59 : decode prog_30_method_6_code 59 = .ok (.areturn, 1) := by decide +kernel
def y_Al_grow_I : MethodName := ⟨"java/util/ArrayList", "grow", "(I)[Ljava/lang/Object;"⟩
abbrev rm_Al_grow_I : Room := { frames := 3, cells := 1, slots := 22, locals := 84 }
def wp_Al_grow_I_20 (G ca : Nat → Nat) (post : Option Nat → hM → Prop) (M : hM) (l0b20 : Nat) (l1b20 : Int32) (l2b20 : Int32) : Prop := wp_As_newLength G ca (fun r16 M17 => gR M17 l0b20 4 0 fun v18 => wp_Ar_copyOf_ObjectI G ca (fun r19 M20 => pF M20 l0b20 4 0 (va_rf r19) fun M21 => post r19 M21) M17 v18 r16) M l2b20 (l1b20 - l2b20) (l2b20 >>> (1 &&& 31))
def wp_Al_grow_I (G ca : Nat → Nat) (post : Option Nat → hM → Prop) (M : hM) (a0 : Nat) (x1 : Int32) : Prop := gR M a0 4 0 fun v22 => nN v22 fun b23 => aZ G M b23 (ca 2) fun v24 => (0 < v24 → wp_Al_grow_I_20 G ca post M a0 x1 v24) ∧ (¬ 0 < v24 → gR M a0 4 0 fun v26 => (v26 = (some (G 3)) → nA M (if 10 < x1 then x1 else 10) 22 (fun N => .inl (ca 2, N, .inr (.inr (.inr (.inr (fun _ => none)))))) fun q28 M29 => pF M29 a0 4 0 (.ref q28) fun M30 => post (some q28) M30) ∧ (¬ v26 = (some (G 3)) → wp_Al_grow_I_20 G ca post M a0 x1 v24))
set_option maxHeartbeats 1000000 in
set_option maxRecDepth 20000 in
theorem l_Al_grow_I_20 {p : Program} {l : Launch} {e : Env} {s : State} {m : MethodId} {args : Array Value} {below : List Frame} {meth : Method} {c : Code} {D : va_G} {ca G : Nat → Nat} {A : Nat → Prop} (C0 : hC p s m args meth c D ca G prog_30_method_6_code 4 (some (.array (.object "java/lang/Object"))) "java/util/ArrayList" A) {post : Option Nat → hM → Prop} {M : hM} {H : Heap} {locs : List Loc} {ls : Array Slot} {cells slots : Nat} (l0b20 : Nat) (l1b20 : Int32) (l2b20 : Int32) (hc : cells ≤ 0) (hs : slots ≤ 0) (h : wp_Al_grow_I_20 G ca post M l0b20 l1b20 l2b20) (hW : hw D wCl A M H) (hS : va_S A s.heap H locs) (hl : lv_has ls 4 [(0, .ref l0b20), (1, .int l1b20), (2, .int l2b20)]) : W p l e rm_Al_grow_I s m args below meth c H locs cells slots (MQ below (va_Qq post (fun M' t => hw D wCl A M' t.heap) A) args s 1 22 A) (F0 m 20 ls []) := by
  obtain ⟨hx, hb, hr, hml, hown, hts, hlocks, hK, hA, hZ0⟩ := id C0
  refine lv_iload_n hx hb d_Al_grow_I_20 rfl (lv_at hl 2 rfl) ?_
  refine lv_iload_n hx hb d_Al_grow_I_21 rfl (lv_at hl 1 rfl) ?_
  refine lv_iload_n hx hb d_Al_grow_I_22 rfl (lv_at hl 2 rfl) ?_
  refine lv_isub hx hb d_Al_grow_I_23 ?_
  refine lv_iload_n hx hb d_Al_grow_I_24 rfl (lv_at hl 2 rfl) ?_
  refine lv_iconst (v := 1) hx hb d_Al_grow_I_25 (by decide) ?_
  refine lv_ishr hx hb d_Al_grow_I_26 ?_
  have h9 := h
  clear h
  have hF := hW.free hS hA
  refine va_calli (va_runS (As := [.int l2b20, .int (l1b20 - l2b20), .int (l2b20 >>> (1 &&& 31))]) (rest := []) ⟨hx, hb, hml, hown, hts⟩ (c_As_newLength _ h9) (va_cwS 3 hts (gi_S bw_422 bw_423 bw_19 bw_424) rfl rfl rfl (by decide +kernel) ⟨Nat.le_of_ble_eq_true rfl, Nat.le_of_ble_eq_true rfl⟩) ⟨hI.blind, hI.give hW hS hA hK hZ0⟩ rfl rfl hl.1 rfl (lv_room (Nat.le_of_ble_eq_true rfl)) d_Al_grow_I_27 ⟨(show _ ≤ 1 by omega), (show _ ≤ 22 by omega)⟩) hS (fun q _ z => hF q z) hF (fun r16 M17 t H locs ht _ h hB1 _ _ hS => ?_)
  have hW := hw_back hF ht hB1
  clear h9
  refine lv_istore_n (lv' := [(3, .int r16), (0, .ref l0b20), (1, .int l1b20), (2, .int l2b20)]) hx hb d_Al_grow_I_30 rfl hl (by decide) rfl (fun ls hl => ?_)
  refine lv_aload_n hx hb d_Al_grow_I_31 rfl (lv_at hl 1 rfl) ?_
  refine lv_aload_n hx hb d_Al_grow_I_32 rfl (lv_at hl 1 rfl) ?_
  obtain ⟨fs, v18, h1, h2, h⟩ := h
  refine va_get (D := D) (ci := 4) (v := va_rf v18) (C := "java/util/ArrayList") (T := TAl) (N := 3) hx hb hts uAl hown hK (hw_one hW h1) 0 rfl rfl 0 (by decide) (hts _ bw_236) (fun _ h9 => h9) h2 d_Al_grow_I_33 ?_
  refine lv_iload_n hx hb d_Al_grow_I_36 rfl (lv_at hl 0 rfl) ?_
  have h9 := h
  clear h
  have hF := hW.free hS hA
  refine va_callq (va_runS (As := [va_rf v18, .int r16]) (rest := [.ref l0b20]) ⟨hx, hb, hml, hown, hts⟩ (c_Ar_copyOf_ObjectI _ h9) (va_cwS 2 hts (gi_S bw_432 bw_433 bw_21 bw_434) rfl rfl rfl (by decide +kernel) ⟨Nat.le_of_ble_eq_true rfl, Nat.le_of_ble_eq_true rfl⟩) ⟨hI.blind, hI.give hW hS hA hK hZ0⟩ rfl rfl hl.1 rfl (lv_room (Nat.le_of_ble_eq_true rfl)) d_Al_grow_I_37 ⟨(show _ ≤ 1 by omega), (show _ ≤ 22 by omega)⟩) hS (fun q _ z => hF q z) hF (fun r19 M20 t H locs ht _ h hB1 _ _ hS => ?_)
  have hW := hw_back hF ht hB1
  clear h9
  refine lv_dup_x1 hx hb d_Al_grow_I_40 (by cases r19 <;> rfl) rfl ?_
  obtain ⟨fs, h1, h2, h⟩ := h
  obtain ⟨ws, q0, hq, hP, hD, hback, -⟩ := hw_open hW h1
  refine va_put (D := D) (ci := 4) (v := va_rf r19) (ty := .array (.object "java/lang/Object")) (C := "java/util/ArrayList") (T := TAl) (N := 3) hx hb hts uAl tAl tAl_ok nAl hown hK hP hD hS q0 hq rfl 0 (by decide) (hts _ bw_236) (fun _ h9 => h9) rfl (by decide +kernel) (ra_n _ _) (ra_f _ _) h2 d_Al_grow_I_41 (fun H locs hP hD hS => ?_)
  have hW := hback _ _ hP hD
  generalize (va_up M20 l0b20 (some (.inr (4, fs.set 0 (va_rf r19))))) = M21 at h hW
  refine W.widen (k := 1) (n := 22) (by omega) (by omega) ?_
  exact W.aret hx hb hr (Or.inr ⟨_, rfl⟩) (va_rf_or _) (fun t ht hWm => ⟨⟨r19, _, rfl, h, hw_t ht hW⟩, hS.F ht⟩) hS.2.2 d_Al_grow_I_44
set_option maxHeartbeats 1000000 in
set_option maxRecDepth 20000 in
theorem l_Al_grow_I_e {p : Program} {l : Launch} {e : Env} {s : State} {m : MethodId} {args : Array Value} {below : List Frame} {meth : Method} {c : Code} {D : va_G} {ca G : Nat → Nat} {A : Nat → Prop} (C0 : hC p s m args meth c D ca G prog_30_method_6_code 4 (some (.array (.object "java/lang/Object"))) "java/util/ArrayList" A) {post : Option Nat → hM → Prop} {M : hM} {H : Heap} {locs : List Loc} {ls : Array Slot} {cells slots : Nat} (a0 : Nat) (x1 : Int32) (hc : cells ≤ 0) (hs : slots ≤ 0) (h : wp_Al_grow_I G ca post M a0 x1) (hW : hw D wCl A M H) (hS : va_S A s.heap H locs) (hl : lv_has ls 4 [(0, .ref a0), (1, .int x1)]) : W p l e rm_Al_grow_I s m args below meth c H locs cells slots (MQ below (va_Qq post (fun M' t => hw D wCl A M' t.heap) A) args s 1 22 A) (F0 m 0 ls []) := by
  obtain ⟨hx, hb, hr, hml, hown, hts, hlocks, hK, hA, hZ0⟩ := id C0
  refine lv_aload_n hx hb d_Al_grow_I_0 rfl (lv_at hl 0 rfl) ?_
  obtain ⟨fs, v22, h1, h2, h⟩ := h
  refine va_get (D := D) (ci := 4) (v := va_rf v22) (C := "java/util/ArrayList") (T := TAl) (N := 3) hx hb hts uAl hown hK (hw_one hW h1) 0 rfl rfl 0 (by decide) (hts _ bw_236) (fun _ h9 => h9) h2 d_Al_grow_I_1 ?_
  obtain ⟨b23, rfl, h⟩ := h
  have h9 := h
  clear h
  refine hq_alen hx hb hK hZ0 hW hS h9 d_Al_grow_I_4 (fun v24 h => ?_)
  clear h9
  refine lv_istore_n (lv' := [(2, .int v24), (0, .ref a0), (1, .int x1)]) hx hb d_Al_grow_I_5 rfl hl (by decide) rfl (fun ls hl => ?_)
  refine lv_iload_n hx hb d_Al_grow_I_6 rfl (lv_at hl 0 rfl) ?_
  obtain ⟨h0, h1⟩ := h
  refine lv_if_gt (tgt := 20) hx hb d_Al_grow_I_7 (by decide) (fun c25 => ?_) (fun c25 => ?_)
  · have h := h0 c25
    exact l_Al_grow_I_20 C0 a0 x1 v24 (by omega) (by omega) h hW hS (lv_sub hl [1, 2, 0] rfl)
  · have h := h1 c25
    refine lv_aload_n hx hb d_Al_grow_I_10 rfl (lv_at hl 1 rfl) ?_
    obtain ⟨fs, v26, h1, h2, h⟩ := h
    refine va_get (D := D) (ci := 4) (v := va_rf v26) (C := "java/util/ArrayList") (T := TAl) (N := 3) hx hb hts uAl hown hK (hw_one hW h1) 0 rfl rfl 0 (by decide) (hts _ bw_236) (fun _ h9 => h9) h2 d_Al_grow_I_11 ?_
    refine va_gets (v := .ref (G 3)) hx hb (hZ0.2.2.2.1) hS hown (hts _ bw_234) (fun _ h9 => h9) d_Al_grow_I_14 ?_
    obtain ⟨h0, h1⟩ := h
    refine lv_acmp_eq (rx := v26) (ry := (some (G 3))) (tgt := 45) hx hb d_Al_grow_I_17 (by decide) (fun c27 => ?_) (fun c27 => ?_)
    · have h := h0 c27
      refine lv_aload_n hx hb d_Al_grow_I_45 rfl (lv_at hl 1 rfl) ?_
      refine lv_bipush (v := 10) hx hb d_Al_grow_I_46 (by decide) ?_
      refine lv_iload_n hx hb d_Al_grow_I_48 rfl (lv_at hl 2 rfl) ?_
      refine va_mmax (rest := [.ref a0]) hx hb (hml.trans hl.1.symm) hown (hts _ bw_466) (hts _ bw_426) (hts _ bw_20) (hts _ bw_427) (by decide) (Nat.le_of_ble_eq_true rfl) (show _ ≤ 1 by omega) (show _ ≤ 22 by omega) d_Al_grow_I_49 ?_
      have h9 := h
      clear h
      refine hq_newq 2 22 (C := "java/lang/Object") hx hb hown (hts _ bw_467) (hZ0.2.2.2.2.2.2.1 _ (by decide)) hK hW hS hA h9 rfl (by decide) (show _ ≤ 1 by omega) (show _ ≤ 22 by omega) d_Al_grow_I_52 (fun q28 M29 H h hW hS => ?_)
      clear h9
      refine lv_dup_x1 hx hb d_Al_grow_I_55 rfl rfl ?_
      obtain ⟨fs, h1, h2, h⟩ := h
      obtain ⟨ws, q0, hq, hP, hD, hback, -⟩ := hw_open hW h1
      refine va_put (D := D) (ci := 4) (v := .ref q28) (ty := .array (.object "java/lang/Object")) (C := "java/util/ArrayList") (T := TAl) (N := 3) hx hb hts uAl tAl tAl_ok nAl hown hK hP hD hS q0 hq rfl 0 (by decide) (hts _ bw_236) (fun _ h9 => h9) rfl (by decide +kernel) rfl rfl h2 d_Al_grow_I_56 (fun H locs hP hD hS => ?_)
      have hW := hback _ _ hP hD
      generalize (va_up M29 a0 (some (.inr (4, fs.set 0 (.ref q28))))) = M30 at h hW
      refine W.widen (k := 1) (n := 22) (by omega) (by omega) ?_
      exact W.aret hx hb hr (Or.inr ⟨_, rfl⟩) (Or.inr ⟨_, rfl⟩) (fun t ht hWm => ⟨⟨(some q28), _, rfl, h, hw_t ht hW⟩, hS.F ht⟩) hS.2.2 d_Al_grow_I_59
    · have h := h1 c27
      exact l_Al_grow_I_20 C0 a0 x1 v24 (by omega) (by omega) h hW hS (lv_sub hl [1, 2, 0] rfl)
set_option maxRecDepth 20000 in
theorem c_Al_grow_I {l : Launch} {D : va_G} {ca G : Nat → Nat} (post : Option Nat → hM → Prop) {M : hM} {sz : Nat} {a0 : Nat} {x1 : Int32} (h : wp_Al_grow_I G ca post M a0 x1) : Met l y_Al_grow_I (wz y_Al_grow_I prog_30_method_6_code 4 (some (.array (.object "java/lang/Object")))) rm_Al_grow_I (va_Pc [.ref a0, .int x1] (hI D ca G sz M)) (va_Qq post (hB D M sz) (hp_A M sz)) 1 22 (hp_A M sz) := by
  refine Met.ofW (cc := prog_30_method_6_code) (maxL := 4) (ret := some (.array (.object "java/lang/Object"))) (by decide) rfl ?_
  intro p e s m args below meth c s₁ B hml hv
  obtain ⟨rfl, hsz, hW, hK, hZ0⟩ := hv
  have hts := fun w hw => atoms_spec (ws := wz y_Al_grow_I prog_30_method_6_code 4 (some (.array (.object "java/lang/Object")))) B.pre w (List.mem_cons_of_mem _ hw)
  have hown : s.vm.findClass "java/util/ArrayList" = some m.cls := findClass_of_methodNamed B.named
  subst hsz
  have hl := lv_entry [.ref a0, .int x1] (n := 4) (Nat.le_of_ble_eq_true rfl)
  rw [lg_entry_eq]
  exact l_Al_grow_I_e ⟨B.exec, B.bytes, B.returns, hml, hown, hts, B.notSynchronized, hK, fun q h => Or.inr h, hZ0⟩ a0 x1 (Nat.zero_le _) (Nat.zero_le _) h hW va_S.rf hl

theorem d_Al_grow__0 : decode prog_30_method_7_code 0 = .ok (.aload_n 0, 1) := by decide +kernel
theorem d_Al_grow__1 : decode prog_30_method_7_code 1 = .ok (.aload_n 0, 1) := by decide +kernel
theorem d_Al_grow__2 : decode prog_30_method_7_code 2 = .ok (.getfield 48, 3) := by decide +kernel
theorem d_Al_grow__5 : decode prog_30_method_7_code 5 = .ok (.iconst 1, 1) := by decide +kernel
theorem d_Al_grow__6 : decode prog_30_method_7_code 6 = .ok (.iadd, 1) := by decide +kernel
theorem d_Al_grow__7 : decode prog_30_method_7_code 7 = .ok (.invokevirtual 69, 3) := by decide +kernel
theorem d_Al_grow__10 : decode prog_30_method_7_code 10 = .ok (.areturn, 1) := by decide +kernel
def y_Al_grow_ : MethodName := ⟨"java/util/ArrayList", "grow", "()[Ljava/lang/Object;"⟩
abbrev rm_Al_grow_ : Room := { frames := 4, cells := 1, slots := 22, locals := 107 }
def wp_Al_grow_ (G ca : Nat → Nat) (post : Option Nat → hM → Prop) (M : hM) (a0 : Nat) : Prop := gI M a0 4 1 fun v4 => rC M a0 4 (wp_Al_grow_I G ca (fun r5 M6 => post r5 M6) M a0 (v4 + 1))
set_option maxHeartbeats 1000000 in
set_option maxRecDepth 20000 in
theorem l_Al_grow__e {p : Program} {l : Launch} {e : Env} {s : State} {m : MethodId} {args : Array Value} {below : List Frame} {meth : Method} {c : Code} {D : va_G} {ca G : Nat → Nat} {A : Nat → Prop} (C0 : hC p s m args meth c D ca G prog_30_method_7_code 1 (some (.array (.object "java/lang/Object"))) "java/util/ArrayList" A) {post : Option Nat → hM → Prop} {M : hM} {H : Heap} {locs : List Loc} {ls : Array Slot} {cells slots : Nat} (a0 : Nat) (hc : cells ≤ 0) (hs : slots ≤ 0) (h : wp_Al_grow_ G ca post M a0) (hW : hw D wCl A M H) (hS : va_S A s.heap H locs) (hl : lv_has ls 1 [(0, .ref a0)]) : W p l e rm_Al_grow_ s m args below meth c H locs cells slots (MQ below (va_Qq post (fun M' t => hw D wCl A M' t.heap) A) args s 1 22 A) (F0 m 0 ls []) := by
  obtain ⟨hx, hb, hr, hml, hown, hts, hlocks, hK, hA, hZ0⟩ := id C0
  refine lv_aload_n hx hb d_Al_grow__0 rfl (lv_at hl 0 rfl) ?_
  refine lv_aload_n hx hb d_Al_grow__1 rfl (lv_at hl 0 rfl) ?_
  obtain ⟨fs, v4, h1, h2, h⟩ := h
  refine va_get (D := D) (ci := 4) (v := .int v4) (C := "java/util/ArrayList") (T := TAl) (N := 3) hx hb hts uAl hown hK (hw_one hW h1) 0 rfl rfl 1 (by decide) (hts _ bw_237) (fun _ h9 => h9) h2 d_Al_grow__2 ?_
  refine lv_iconst (v := 1) hx hb d_Al_grow__5 (by decide) ?_
  refine lv_iadd hx hb d_Al_grow__6 ?_
  obtain ⟨⟨fs, h1⟩, h⟩ := h
  have h9 := h
  clear h
  have hF := hW.free hS hA
  refine va_callq (va_runV (As := [.int (v4 + 1)]) (rest := []) ⟨hx, hb, hml, hown, hts⟩ (c_Al_grow_I _ h9) (cwV 1 hts (gi_V bw_418 bw_420 bs_6 bw_14 bw_421) rfl rfl rfl (by decide +kernel) ⟨Nat.le_of_ble_eq_true rfl, Nat.le_of_ble_eq_true rfl⟩) ⟨hI.blind, hw_recv hK hW h1 rfl, hI.give hW hS hA hK hZ0⟩ rfl rfl hl.1 rfl (lv_room (Nat.le_of_ble_eq_true rfl)) d_Al_grow__7 ⟨(show _ ≤ 1 by omega), (show _ ≤ 22 by omega)⟩) hS (fun q _ z => hF q z) hF (fun r5 M6 t H locs ht _ h hB1 _ _ hS => ?_)
  have hW := hw_back hF ht hB1
  clear h9
  refine W.widen (k := 1) (n := 22) (by omega) (by omega) ?_
  exact W.aret hx hb hr (Or.inr ⟨_, rfl⟩) (va_rf_or _) (fun t ht hWm => ⟨⟨r5, _, rfl, h, hw_t ht hW⟩, hS.F ht⟩) hS.2.2 d_Al_grow__10
set_option maxRecDepth 20000 in
theorem c_Al_grow_ {l : Launch} {D : va_G} {ca G : Nat → Nat} (post : Option Nat → hM → Prop) {M : hM} {sz : Nat} {a0 : Nat} (h : wp_Al_grow_ G ca post M a0) : Met l y_Al_grow_ (wz y_Al_grow_ prog_30_method_7_code 1 (some (.array (.object "java/lang/Object")))) rm_Al_grow_ (va_Pc [.ref a0] (hI D ca G sz M)) (va_Qq post (hB D M sz) (hp_A M sz)) 1 22 (hp_A M sz) := by
  refine Met.ofW (cc := prog_30_method_7_code) (maxL := 1) (ret := some (.array (.object "java/lang/Object"))) (by decide) rfl ?_
  intro p e s m args below meth c s₁ B hml hv
  obtain ⟨rfl, hsz, hW, hK, hZ0⟩ := hv
  have hts := fun w hw => atoms_spec (ws := wz y_Al_grow_ prog_30_method_7_code 1 (some (.array (.object "java/lang/Object")))) B.pre w (List.mem_cons_of_mem _ hw)
  have hown : s.vm.findClass "java/util/ArrayList" = some m.cls := findClass_of_methodNamed B.named
  subst hsz
  have hl := lv_entry [.ref a0] (n := 1) (Nat.le_of_ble_eq_true rfl)
  rw [lg_entry_eq]
  exact l_Al_grow__e ⟨B.exec, B.bytes, B.returns, hml, hown, hts, B.notSynchronized, hK, fun q h => Or.inr h, hZ0⟩ a0 (Nat.zero_le _) (Nat.zero_le _) h hW va_S.rf hl

theorem d_Al_add_ObjectObjectI_0 : decode prog_30_method_24_code 0 = .ok (.iload_n 3, 1) := by decide +kernel
theorem d_Al_add_ObjectObjectI_1 : decode prog_30_method_24_code 1 = .ok (.aload_n 2, 1) := by decide +kernel
theorem d_Al_add_ObjectObjectI_2 : decode prog_30_method_24_code 2 = .ok (.arraylength, 1) := by decide +kernel
theorem d_Al_add_ObjectObjectI_3 : decode prog_30_method_24_code 3 = .ok (.if_icmp .ne 8, 3) := by decide +kernel
theorem d_Al_add_ObjectObjectI_6 : decode prog_30_method_24_code 6 = .ok (.aload_n 0, 1) := by decide +kernel
theorem d_Al_add_ObjectObjectI_7 : decode prog_30_method_24_code 7 = .ok (.invokevirtual 129, 3) := by decide +kernel
theorem d_Al_add_ObjectObjectI_10 : decode prog_30_method_24_code 10 = .ok (.astore_n 2, 1) := by decide +kernel
theorem d_Al_add_ObjectObjectI_11 : decode prog_30_method_24_code 11 = .ok (.aload_n 2, 1) := by decide +kernel
theorem d_Al_add_ObjectObjectI_12 : decode prog_30_method_24_code 12 = .ok (.iload_n 3, 1) := by decide +kernel
theorem d_Al_add_ObjectObjectI_13 : decode prog_30_method_24_code 13 = .ok (.aload_n 1, 1) := by decide +kernel
theorem d_Al_add_ObjectObjectI_14 : decode prog_30_method_24_code 14 = .ok (.aastore, 1) := by decide +kernel
theorem d_Al_add_ObjectObjectI_15 : decode prog_30_method_24_code 15 = .ok (.aload_n 0, 1) := by decide +kernel
theorem d_Al_add_ObjectObjectI_16 : decode prog_30_method_24_code 16 = .ok (.iload_n 3, 1) := by decide +kernel
theorem d_Al_add_ObjectObjectI_17 : decode prog_30_method_24_code 17 = .ok (.iconst 1, 1) := by decide +kernel
theorem d_Al_add_ObjectObjectI_18 : decode prog_30_method_24_code 18 = .ok (.iadd, 1) := by decide +kernel
theorem d_Al_add_ObjectObjectI_19 : decode prog_30_method_24_code 19 = .ok (.putfield 48, 3) := by decide +kernel
theorem d_Al_add_ObjectObjectI_22 : decode prog_30_method_24_code 22 = .ok (.return_, 1) := by decide +kernel
def y_Al_add_ObjectObjectI : MethodName := ⟨"java/util/ArrayList", "add", "(Ljava/lang/Object;[Ljava/lang/Object;I)V"⟩
abbrev rm_Al_add_ObjectObjectI : Room := { frames := 5, cells := 1, slots := 22, locals := 127 }
def wp_Al_add_ObjectObjectI_11 (G ca : Nat → Nat) (post : hM → Prop) (M : hM) (l0b11 : Nat) (l1b11 : Option Nat) (l2b11 : Option Nat) (l3b11 : Int32) : Prop := nN l2b11 fun b15 => sR M b15 (ca 2) l3b11 l1b11 (fun z => z = 1 ∨ z = 2) fun M16 => pF M16 l0b11 4 1 (.int (l3b11 + 1)) fun M17 => post M17
def wp_Al_add_ObjectObjectI (G ca : Nat → Nat) (post : hM → Prop) (M : hM) (a0 : Nat) (a1 : Option Nat) (a2 : Option Nat) (x3 : Int32) : Prop := nN a2 fun b18 => aZ G M b18 (ca 2) fun v19 => (¬ x3 = v19 → wp_Al_add_ObjectObjectI_11 G ca post M a0 a1 (some b18) x3) ∧ (x3 = v19 → rC M a0 4 (wp_Al_grow_ G ca (fun r21 M22 => wp_Al_add_ObjectObjectI_11 G ca post M22 a0 a1 r21 x3) M a0))
set_option maxHeartbeats 1000000 in
set_option maxRecDepth 20000 in
theorem l_Al_add_ObjectObjectI_11 {p : Program} {l : Launch} {e : Env} {s : State} {m : MethodId} {args : Array Value} {below : List Frame} {meth : Method} {c : Code} {D : va_G} {ca G : Nat → Nat} {A : Nat → Prop} (C0 : hC p s m args meth c D ca G prog_30_method_24_code 4 (none) "java/util/ArrayList" A) {post : hM → Prop} {M : hM} {H : Heap} {locs : List Loc} {ls : Array Slot} {cells slots : Nat} (l0b11 : Nat) (l1b11 : Option Nat) (l2b11 : Option Nat) (l3b11 : Int32) (hc : cells ≤ 1) (hs : slots ≤ 22) (h : wp_Al_add_ObjectObjectI_11 G ca post M l0b11 l1b11 l2b11 l3b11) (hW : hw D wCl A M H) (hS : va_S A s.heap H locs) (hl : lv_has ls 4 [(0, .ref l0b11), (1, va_rf l1b11), (2, va_rf l2b11), (3, .int l3b11)]) : W p l e rm_Al_add_ObjectObjectI s m args below meth c H locs cells slots (MQ below (va_Qv post (fun M' t => hw D wCl A M' t.heap) A) args s 1 22 A) (F0 m 11 ls []) := by
  obtain ⟨hx, hb, hr, hml, hown, hts, hlocks, hK, hA, hZ0⟩ := id C0
  refine lq_load_n hx hb d_Al_add_ObjectObjectI_11 rfl (lv_at hl 2 rfl) ?_
  refine lv_iload_n hx hb d_Al_add_ObjectObjectI_12 rfl (lv_at hl 3 rfl) ?_
  refine lq_load_n hx hb d_Al_add_ObjectObjectI_13 rfl (lv_at hl 1 rfl) ?_
  obtain ⟨b15, rfl, h⟩ := h
  have h9 := h
  clear h
  refine hq_astO (r := l1b11) hx hb hK hZ0 hW hS h9 d_Al_add_ObjectObjectI_14 (fun M16 H locs h hW hS => ?_)
  clear h9
  refine lv_aload_n hx hb d_Al_add_ObjectObjectI_15 rfl (lv_at hl 0 rfl) ?_
  refine lv_iload_n hx hb d_Al_add_ObjectObjectI_16 rfl (lv_at hl 3 rfl) ?_
  refine lv_iconst (v := 1) hx hb d_Al_add_ObjectObjectI_17 (by decide) ?_
  refine lv_iadd hx hb d_Al_add_ObjectObjectI_18 ?_
  obtain ⟨fs, h1, h2, h⟩ := h
  obtain ⟨ws, q0, hq, hP, hD, hback, -⟩ := hw_open hW h1
  refine va_put (D := D) (ci := 4) (v := .int (l3b11 + 1)) (ty := .int) (C := "java/util/ArrayList") (T := TAl) (N := 3) hx hb hts uAl tAl tAl_ok nAl hown hK hP hD hS q0 hq rfl 1 (by decide) (hts _ bw_237) (fun _ h9 => h9) rfl (by decide +kernel) rfl rfl h2 d_Al_add_ObjectObjectI_19 (fun H locs hP hD hS => ?_)
  have hW := hback _ _ hP hD
  generalize (va_up M16 l0b11 (some (.inr (4, fs.set 1 (.int (l3b11 + 1)))))) = M17 at h hW
  refine W.widen (k := 1) (n := 22) (by omega) (by omega) ?_
  exact W.vret hx hb hr (fun t ht hWm => ⟨⟨_, rfl, h, hw_t ht hW⟩, hS.F ht⟩) hS.2.2 d_Al_add_ObjectObjectI_22
set_option maxHeartbeats 1000000 in
set_option maxRecDepth 20000 in
theorem l_Al_add_ObjectObjectI_e {p : Program} {l : Launch} {e : Env} {s : State} {m : MethodId} {args : Array Value} {below : List Frame} {meth : Method} {c : Code} {D : va_G} {ca G : Nat → Nat} {A : Nat → Prop} (C0 : hC p s m args meth c D ca G prog_30_method_24_code 4 (none) "java/util/ArrayList" A) {post : hM → Prop} {M : hM} {H : Heap} {locs : List Loc} {ls : Array Slot} {cells slots : Nat} (a0 : Nat) (a1 : Option Nat) (a2 : Option Nat) (x3 : Int32) (hc : cells ≤ 0) (hs : slots ≤ 0) (h : wp_Al_add_ObjectObjectI G ca post M a0 a1 a2 x3) (hW : hw D wCl A M H) (hS : va_S A s.heap H locs) (hl : lv_has ls 4 [(0, .ref a0), (1, va_rf a1), (2, va_rf a2), (3, .int x3)]) : W p l e rm_Al_add_ObjectObjectI s m args below meth c H locs cells slots (MQ below (va_Qv post (fun M' t => hw D wCl A M' t.heap) A) args s 1 22 A) (F0 m 0 ls []) := by
  obtain ⟨hx, hb, hr, hml, hown, hts, hlocks, hK, hA, hZ0⟩ := id C0
  refine lv_iload_n hx hb d_Al_add_ObjectObjectI_0 rfl (lv_at hl 3 rfl) ?_
  refine lq_load_n hx hb d_Al_add_ObjectObjectI_1 rfl (lv_at hl 2 rfl) ?_
  obtain ⟨b18, rfl, h⟩ := h
  have h9 := h
  clear h
  refine hq_alen hx hb hK hZ0 hW hS h9 d_Al_add_ObjectObjectI_2 (fun v19 h => ?_)
  clear h9
  obtain ⟨h0, h1⟩ := h
  refine lv_icmp_ne (tgt := 11) hx hb d_Al_add_ObjectObjectI_3 (by decide) (fun c20 => ?_) (fun c20 => ?_)
  · have h := h0 c20
    exact l_Al_add_ObjectObjectI_11 C0 a0 a1 (some b18) x3 (by omega) (by omega) h hW hS (lv_sub hl [0, 1, 2, 3] rfl)
  · have h := h1 c20
    refine lv_aload_n hx hb d_Al_add_ObjectObjectI_6 rfl (lv_at hl 0 rfl) ?_
    obtain ⟨⟨fs, h1⟩, h⟩ := h
    have h9 := h
    clear h
    have hF := hW.free hS hA
    refine va_callq (va_runV (As := []) (rest := []) ⟨hx, hb, hml, hown, hts⟩ (c_Al_grow_ _ h9) (cwV 0 hts (gi_V bw_414 bw_416 bs_5 bw_14 bw_417) rfl rfl rfl (by decide +kernel) ⟨Nat.le_of_ble_eq_true rfl, Nat.le_of_ble_eq_true rfl⟩) ⟨hI.blind, hw_recv hK hW h1 rfl, hI.give hW hS hA hK hZ0⟩ rfl rfl hl.1 rfl (lv_room (Nat.le_of_ble_eq_true rfl)) d_Al_add_ObjectObjectI_7 ⟨(show _ ≤ 1 by omega), (show _ ≤ 22 by omega)⟩) hS (fun q _ z => hF q z) hF (fun r21 M22 t H locs ht _ h hB1 _ _ hS => ?_)
    have hW := hw_back hF ht hB1
    clear h9
    refine lq_store_n (lv' := [(2, va_rf r21), (0, .ref a0), (1, va_rf a1), (3, .int x3)]) hx hb d_Al_add_ObjectObjectI_10 rfl hl (by decide) (by cases a1 <;> rfl) (fun ls hl => ?_)
    exact l_Al_add_ObjectObjectI_11 C0 a0 a1 r21 x3 (by omega) (by omega) h hW hS (lv_sub hl [1, 2, 0, 3] rfl)
set_option maxRecDepth 20000 in
theorem c_Al_add_ObjectObjectI {l : Launch} {D : va_G} {ca G : Nat → Nat} (post : hM → Prop) {M : hM} {sz : Nat} {a0 : Nat} {a1 : Option Nat} {a2 : Option Nat} {x3 : Int32} (h : wp_Al_add_ObjectObjectI G ca post M a0 a1 a2 x3) : Met l y_Al_add_ObjectObjectI (wz y_Al_add_ObjectObjectI prog_30_method_24_code 4 (none)) rm_Al_add_ObjectObjectI (va_Pc [.ref a0, va_rf a1, va_rf a2, .int x3] (hI D ca G sz M)) (va_Qv post (hB D M sz) (hp_A M sz)) 1 22 (hp_A M sz) := by
  refine Met.ofW (cc := prog_30_method_24_code) (maxL := 4) (ret := none) (by decide) rfl ?_
  intro p e s m args below meth c s₁ B hml hv
  obtain ⟨rfl, hsz, hW, hK, hZ0⟩ := hv
  have hts := fun w hw => atoms_spec (ws := wz y_Al_add_ObjectObjectI prog_30_method_24_code 4 (none)) B.pre w (List.mem_cons_of_mem _ hw)
  have hown : s.vm.findClass "java/util/ArrayList" = some m.cls := findClass_of_methodNamed B.named
  subst hsz
  have hl : lv_has ((lg_sl [.ref a0, va_rf a1, va_rf a2, .int x3] ++ List.replicate (4 - (lg_sl [.ref a0, va_rf a1, va_rf a2, .int x3]).length) Slot.unset).toArray) 4 [(0, .ref a0), (1, va_rf a1), (2, va_rf a2), (3, .int x3)] := by cases a1 <;> cases a2 <;> exact lv_entry _ (Nat.le_of_ble_eq_true rfl)
  rw [lg_entry_eq]
  exact l_Al_add_ObjectObjectI_e ⟨B.exec, B.bytes, B.returns, hml, hown, hts, B.notSynchronized, hK, fun q h => Or.inr h, hZ0⟩ a0 a1 a2 x3 (Nat.zero_le _) (Nat.zero_le _) h hW va_S.rf hl

theorem d_Al_add_Object_0 : decode prog_30_method_25_code 0 = .ok (.aload_n 0, 1) := by decide +kernel
theorem d_Al_add_Object_1 : decode prog_30_method_25_code 1 = .ok (.dup, 1) := by decide +kernel
theorem d_Al_add_Object_2 : decode prog_30_method_25_code 2 = .ok (.getfield 63, 3) := by decide +kernel
theorem d_Al_add_Object_5 : decode prog_30_method_25_code 5 = .ok (.iconst 1, 1) := by decide +kernel
theorem d_Al_add_Object_6 : decode prog_30_method_25_code 6 = .ok (.iadd, 1) := by decide +kernel
theorem d_Al_add_Object_7 : decode prog_30_method_25_code 7 = .ok (.putfield 63, 3) := by decide +kernel
theorem d_Al_add_Object_10 : decode prog_30_method_25_code 10 = .ok (.aload_n 0, 1) := by decide +kernel
theorem d_Al_add_Object_11 : decode prog_30_method_25_code 11 = .ok (.aload_n 1, 1) := by decide +kernel
theorem d_Al_add_Object_12 : decode prog_30_method_25_code 12 = .ok (.aload_n 0, 1) := by decide +kernel
theorem d_Al_add_Object_13 : decode prog_30_method_25_code 13 = .ok (.getfield 9, 3) := by decide +kernel
theorem d_Al_add_Object_16 : decode prog_30_method_25_code 16 = .ok (.aload_n 0, 1) := by decide +kernel
theorem d_Al_add_Object_17 : decode prog_30_method_25_code 17 = .ok (.getfield 48, 3) := by decide +kernel
theorem d_Al_add_Object_20 : decode prog_30_method_25_code 20 = .ok (.invokevirtual 131, 3) := by decide +kernel
theorem d_Al_add_Object_23 : decode prog_30_method_25_code 23 = .ok (.iconst 1, 1) := by decide +kernel
theorem d_Al_add_Object_24 : decode prog_30_method_25_code 24 = .ok (.ireturn, 1) := by decide +kernel
def y_Al_add_Object : MethodName := ⟨"java/util/ArrayList", "add", "(Ljava/lang/Object;)Z"⟩
abbrev rm_Al_add_Object : Room := { frames := 6, cells := 1, slots := 22, locals := 150 }
def wp_Al_add_Object (G ca : Nat → Nat) (post : Int32 → hM → Prop) (M : hM) (a0 : Nat) (a1 : Option Nat) : Prop := gI M a0 4 2 fun v6 => pF M a0 4 2 (.int (v6 + 1)) fun M7 => gR M7 a0 4 0 fun v8 => gI M7 a0 4 1 fun v9 => rC M7 a0 4 (wp_Al_add_ObjectObjectI G ca (fun M10 => post 1 M10) M7 a0 a1 v8 v9)
set_option maxHeartbeats 1000000 in
set_option maxRecDepth 20000 in
theorem l_Al_add_Object_e {p : Program} {l : Launch} {e : Env} {s : State} {m : MethodId} {args : Array Value} {below : List Frame} {meth : Method} {c : Code} {D : va_G} {ca G : Nat → Nat} {A : Nat → Prop} (C0 : hC p s m args meth c D ca G prog_30_method_25_code 2 (some .boolean) "java/util/ArrayList" A) {post : Int32 → hM → Prop} {M : hM} {H : Heap} {locs : List Loc} {ls : Array Slot} {cells slots : Nat} (a0 : Nat) (a1 : Option Nat) (hc : cells ≤ 0) (hs : slots ≤ 0) (h : wp_Al_add_Object G ca post M a0 a1) (hW : hw D wCl A M H) (hS : va_S A s.heap H locs) (hl : lv_has ls 2 [(0, .ref a0), (1, va_rf a1)]) : W p l e rm_Al_add_Object s m args below meth c H locs cells slots (MQ below (va_Qi post (fun M' t => hw D wCl A M' t.heap) A) args s 1 22 A) (F0 m 0 ls []) := by
  obtain ⟨hx, hb, hr, hml, hown, hts, hlocks, hK, hA, hZ0⟩ := id C0
  refine lv_aload_n hx hb d_Al_add_Object_0 rfl (lv_at hl 0 rfl) ?_
  refine lv_dup hx hb d_Al_add_Object_1 rfl ?_
  obtain ⟨fs, v6, h1, h2, h⟩ := h
  refine va_get (D := D) (ci := 4) (v := .int v6) (C := "java/util/ArrayList") (T := TAl) (N := 3) hx hb hts uAl hown hK (hw_one hW h1) 0 rfl rfl 2 (by decide) (hts _ bw_239) (u_same (hts _ bw_240)) h2 d_Al_add_Object_2 ?_
  refine lv_iconst (v := 1) hx hb d_Al_add_Object_5 (by decide) ?_
  refine lv_iadd hx hb d_Al_add_Object_6 ?_
  obtain ⟨fs, h1, h2, h⟩ := h
  obtain ⟨ws, q0, hq, hP, hD, hback, -⟩ := hw_open hW h1
  refine va_put (D := D) (ci := 4) (v := .int (v6 + 1)) (ty := .int) (C := "java/util/ArrayList") (T := TAl) (N := 3) hx hb hts uAl tAl tAl_ok nAl hown hK hP hD hS q0 hq rfl 2 (by decide) (hts _ bw_239) (u_same (hts _ bw_240)) rfl (by decide +kernel) rfl rfl h2 d_Al_add_Object_7 (fun H locs hP hD hS => ?_)
  have hW := hback _ _ hP hD
  generalize (va_up M a0 (some (.inr (4, fs.set 2 (.int (v6 + 1)))))) = M7 at h hW
  refine lv_aload_n hx hb d_Al_add_Object_10 rfl (lv_at hl 0 rfl) ?_
  refine lq_load_n hx hb d_Al_add_Object_11 rfl (lv_at hl 1 rfl) ?_
  refine lv_aload_n hx hb d_Al_add_Object_12 rfl (lv_at hl 0 rfl) ?_
  obtain ⟨fs, v8, h1, h2, h⟩ := h
  refine va_get (D := D) (ci := 4) (v := va_rf v8) (C := "java/util/ArrayList") (T := TAl) (N := 3) hx hb hts uAl hown hK (hw_one hW h1) 0 rfl rfl 0 (by decide) (hts _ bw_236) (fun _ h9 => h9) h2 d_Al_add_Object_13 ?_
  refine lv_aload_n hx hb d_Al_add_Object_16 rfl (lv_at hl 0 rfl) ?_
  obtain ⟨fs, v9, h1, h2, h⟩ := h
  refine va_get (D := D) (ci := 4) (v := .int v9) (C := "java/util/ArrayList") (T := TAl) (N := 3) hx hb hts uAl hown hK (hw_one hW h1) 0 rfl rfl 1 (by decide) (hts _ bw_237) (fun _ h9 => h9) h2 d_Al_add_Object_17 ?_
  obtain ⟨⟨fs, h1⟩, h⟩ := h
  have h9 := h
  clear h
  have hF := hW.free hS hA
  refine va_callv (va_runV (As := [va_rf a1, va_rf v8, .int v9]) (rest := []) ⟨hx, hb, hml, hown, hts⟩ (c_Al_add_ObjectObjectI _ h9) (cwV 3 hts (gi_V bw_410 bw_412 bs_4 bw_14 bw_413) rfl rfl rfl (by decide +kernel) ⟨Nat.le_of_ble_eq_true rfl, Nat.le_of_ble_eq_true rfl⟩) ⟨hI.blind, hw_recv hK hW h1 rfl, hI.give hW hS hA hK hZ0⟩ rfl rfl hl.1 rfl (lv_room (Nat.le_of_ble_eq_true rfl)) d_Al_add_Object_20 ⟨(show _ ≤ 1 by omega), (show _ ≤ 22 by omega)⟩) hS (fun q _ z => hF q z) hF (fun M10 t H locs ht _ h hB1 _ _ hS => ?_)
  have hW := hw_back hF ht hB1
  clear h9
  refine lv_iconst (v := 1) hx hb d_Al_add_Object_23 (by decide) ?_
  refine W.widen (k := 1) (n := 22) (by omega) (by omega) ?_
  exact W.zret hx hb hr (by decide) (fun t ht hWm => ⟨⟨_, _, rfl, h, hw_t ht hW⟩, hS.F ht⟩) hS.2.2 d_Al_add_Object_24
set_option maxRecDepth 20000 in
theorem c_Al_add_Object {l : Launch} {D : va_G} {ca G : Nat → Nat} (post : Int32 → hM → Prop) {M : hM} {sz : Nat} {a0 : Nat} {a1 : Option Nat} (h : wp_Al_add_Object G ca post M a0 a1) : Met l y_Al_add_Object (wz y_Al_add_Object prog_30_method_25_code 2 (some .boolean)) rm_Al_add_Object (va_Pc [.ref a0, va_rf a1] (hI D ca G sz M)) (va_Qi post (hB D M sz) (hp_A M sz)) 1 22 (hp_A M sz) := by
  refine Met.ofW (cc := prog_30_method_25_code) (maxL := 2) (ret := some .boolean) (by decide) rfl ?_
  intro p e s m args below meth c s₁ B hml hv
  obtain ⟨rfl, hsz, hW, hK, hZ0⟩ := hv
  have hts := fun w hw => atoms_spec (ws := wz y_Al_add_Object prog_30_method_25_code 2 (some .boolean)) B.pre w (List.mem_cons_of_mem _ hw)
  have hown : s.vm.findClass "java/util/ArrayList" = some m.cls := findClass_of_methodNamed B.named
  subst hsz
  have hl : lv_has ((lg_sl [.ref a0, va_rf a1] ++ List.replicate (2 - (lg_sl [.ref a0, va_rf a1]).length) Slot.unset).toArray) 2 [(0, .ref a0), (1, va_rf a1)] := by cases a1 <;> exact lv_entry _ (Nat.le_of_ble_eq_true rfl)
  rw [lg_entry_eq]
  exact l_Al_add_Object_e ⟨B.exec, B.bytes, B.returns, hml, hown, hts, B.notSynchronized, hK, fun q h => Or.inr h, hZ0⟩ a0 a1 (Nat.zero_le _) (Nat.zero_le _) h hW va_S.rf hl

theorem d_Al_add_IObject_0 : decode prog_30_method_26_code 0 = .ok (.aload_n 0, 1) := by decide +kernel
theorem d_Al_add_IObject_1 : decode prog_30_method_26_code 1 = .ok (.iload_n 1, 1) := by decide +kernel
theorem d_Al_add_IObject_2 : decode prog_30_method_26_code 2 = .ok (.invokevirtual 135, 3) := by decide +kernel
theorem d_Al_add_IObject_5 : decode prog_30_method_26_code 5 = .ok (.aload_n 0, 1) := by decide +kernel
theorem d_Al_add_IObject_6 : decode prog_30_method_26_code 6 = .ok (.dup, 1) := by decide +kernel
theorem d_Al_add_IObject_7 : decode prog_30_method_26_code 7 = .ok (.getfield 63, 3) := by decide +kernel
theorem d_Al_add_IObject_10 : decode prog_30_method_26_code 10 = .ok (.iconst 1, 1) := by decide +kernel
theorem d_Al_add_IObject_11 : decode prog_30_method_26_code 11 = .ok (.iadd, 1) := by decide +kernel
theorem d_Al_add_IObject_12 : decode prog_30_method_26_code 12 = .ok (.putfield 63, 3) := by decide +kernel
theorem d_Al_add_IObject_15 : decode prog_30_method_26_code 15 = .ok (.aload_n 0, 1) := by decide +kernel
theorem d_Al_add_IObject_16 : decode prog_30_method_26_code 16 = .ok (.getfield 48, 3) := by decide +kernel
theorem d_Al_add_IObject_19 : decode prog_30_method_26_code 19 = .ok (.dup, 1) := by decide +kernel
theorem d_Al_add_IObject_20 : decode prog_30_method_26_code 20 = .ok (.istore_n 3, 1) := by decide +kernel
theorem d_Al_add_IObject_21 : decode prog_30_method_26_code 21 = .ok (.aload_n 0, 1) := by decide +kernel
theorem d_Al_add_IObject_22 : decode prog_30_method_26_code 22 = .ok (.getfield 9, 3) := by decide +kernel
theorem d_Al_add_IObject_25 : decode prog_30_method_26_code 25 = .ok (.dup, 1) := by decide +kernel
theorem d_Al_add_IObject_26 : decode prog_30_method_26_code 26 = .ok (.astore 4, 2) := by decide +kernel
theorem d_Al_add_IObject_28 : decode prog_30_method_26_code 28 = .ok (.arraylength, 1) := by decide +kernel
theorem d_Al_add_IObject_29 : decode prog_30_method_26_code 29 = .ok (.if_icmp .ne 9, 3) := by decide +kernel
theorem d_Al_add_IObject_32 : decode prog_30_method_26_code 32 = .ok (.aload_n 0, 1) := by decide +kernel
theorem d_Al_add_IObject_33 : decode prog_30_method_26_code 33 = .ok (.invokevirtual 129, 3) := by decide +kernel
theorem d_Al_add_IObject_36 : decode prog_30_method_26_code 36 = .ok (.astore 4, 2) := by decide +kernel
theorem d_Al_add_IObject_38 : decode prog_30_method_26_code 38 = .ok (.aload 4, 2) := by decide +kernel
theorem d_Al_add_IObject_40 : decode prog_30_method_26_code 40 = .ok (.iload_n 1, 1) := by decide +kernel
theorem d_Al_add_IObject_41 : decode prog_30_method_26_code 41 = .ok (.aload 4, 2) := by decide +kernel
theorem d_Al_add_IObject_43 : decode prog_30_method_26_code 43 = .ok (.iload_n 1, 1) := by decide +kernel
theorem d_Al_add_IObject_44 : decode prog_30_method_26_code 44 = .ok (.iconst 1, 1) := by decide +kernel
theorem d_Al_add_IObject_45 : decode prog_30_method_26_code 45 = .ok (.iadd, 1) := by decide +kernel
theorem d_Al_add_IObject_46 : decode prog_30_method_26_code 46 = .ok (.iload_n 3, 1) := by decide +kernel
theorem d_Al_add_IObject_47 : decode prog_30_method_26_code 47 = .ok (.iload_n 1, 1) := by decide +kernel
theorem d_Al_add_IObject_48 : decode prog_30_method_26_code 48 = .ok (.isub, 1) := by decide +kernel
theorem d_Al_add_IObject_49 : decode prog_30_method_26_code 49 = .ok (.invokestatic 112, 3) := by decide +kernel
theorem d_Al_add_IObject_52 : decode prog_30_method_26_code 52 = .ok (.aload 4, 2) := by decide +kernel
theorem d_Al_add_IObject_54 : decode prog_30_method_26_code 54 = .ok (.iload_n 1, 1) := by decide +kernel
theorem d_Al_add_IObject_55 : decode prog_30_method_26_code 55 = .ok (.aload_n 2, 1) := by decide +kernel
theorem d_Al_add_IObject_56 : decode prog_30_method_26_code 56 = .ok (.aastore, 1) := by decide +kernel
theorem d_Al_add_IObject_57 : decode prog_30_method_26_code 57 = .ok (.aload_n 0, 1) := by decide +kernel
theorem d_Al_add_IObject_58 : decode prog_30_method_26_code 58 = .ok (.iload_n 3, 1) := by decide +kernel
theorem d_Al_add_IObject_59 : decode prog_30_method_26_code 59 = .ok (.iconst 1, 1) := by decide +kernel
theorem d_Al_add_IObject_60 : decode prog_30_method_26_code 60 = .ok (.iadd, 1) := by decide +kernel
theorem d_Al_add_IObject_61 : decode prog_30_method_26_code 61 = .ok (.putfield 48, 3) := by decide +kernel
theorem d_Al_add_IObject_64 : decode prog_30_method_26_code 64 = .ok (.return_, 1) := by decide +kernel
def y_Al_add_IObject : MethodName := ⟨"java/util/ArrayList", "add", "(ILjava/lang/Object;)V"⟩
abbrev rm_Al_add_IObject : Room := { frames := 5, cells := 1, slots := 22, locals := 127 }
def wp_Al_add_IObject_38 (G ca : Nat → Nat) (post : hM → Prop) (M : hM) (l0b38 : Nat) (l1b38 : Int32) (l2b38 : Option Nat) (l3b38 : Int32) (l4b38 : Option Nat) : Prop := nN l4b38 fun b23 => cQ M b23 b23 (ca 2) l1b38 (l1b38 + 1) (l3b38 - l1b38) fun M24 => sR M24 b23 (ca 2) l1b38 l2b38 (fun z => z = 1 ∨ z = 2) fun M25 => pF M25 l0b38 4 1 (.int (l3b38 + 1)) fun M26 => post M26
def wp_Al_add_IObject (G ca : Nat → Nat) (post : hM → Prop) (M : hM) (a0 : Nat) (x1 : Int32) (a2 : Option Nat) : Prop := rC M a0 4 (wp_Al_rangeCheckForAdd G ca (fun M27 => gI M27 a0 4 2 fun v28 => pF M27 a0 4 2 (.int (v28 + 1)) fun M29 => gI M29 a0 4 1 fun v30 => gR M29 a0 4 0 fun v31 => nN v31 fun b32 => aZ G M29 b32 (ca 2) fun v33 => (¬ v30 = v33 → wp_Al_add_IObject_38 G ca post M29 a0 x1 a2 v30 (some b32)) ∧ (v30 = v33 → rC M29 a0 4 (wp_Al_grow_ G ca (fun r35 M36 => wp_Al_add_IObject_38 G ca post M36 a0 x1 a2 v30 r35) M29 a0))) M a0 x1)
set_option maxHeartbeats 1000000 in
set_option maxRecDepth 20000 in
theorem l_Al_add_IObject_38 {p : Program} {l : Launch} {e : Env} {s : State} {m : MethodId} {args : Array Value} {below : List Frame} {meth : Method} {c : Code} {D : va_G} {ca G : Nat → Nat} {A : Nat → Prop} (C0 : hC p s m args meth c D ca G prog_30_method_26_code 5 (none) "java/util/ArrayList" A) {post : hM → Prop} {M : hM} {H : Heap} {locs : List Loc} {ls : Array Slot} {cells slots : Nat} (l0b38 : Nat) (l1b38 : Int32) (l2b38 : Option Nat) (l3b38 : Int32) (l4b38 : Option Nat) (hc : cells ≤ 1) (hs : slots ≤ 22) (h : wp_Al_add_IObject_38 G ca post M l0b38 l1b38 l2b38 l3b38 l4b38) (hW : hw D wCl A M H) (hS : va_S A s.heap H locs) (hl : lv_has ls 5 [(0, .ref l0b38), (1, .int l1b38), (2, va_rf l2b38), (3, .int l3b38), (4, va_rf l4b38)]) : W p l e rm_Al_add_IObject s m args below meth c H locs cells slots (MQ below (va_Qv post (fun M' t => hw D wCl A M' t.heap) A) args s 1 22 A) (F0 m 38 ls []) := by
  obtain ⟨hx, hb, hr, hml, hown, hts, hlocks, hK, hA, hZ0⟩ := id C0
  refine lq_load hx hb d_Al_add_IObject_38 (lv_at hl 4 rfl) ?_
  refine lv_iload_n hx hb d_Al_add_IObject_40 rfl (lv_at hl 1 rfl) ?_
  refine lq_load hx hb d_Al_add_IObject_41 (lv_at hl 4 rfl) ?_
  refine lv_iload_n hx hb d_Al_add_IObject_43 rfl (lv_at hl 1 rfl) ?_
  refine lv_iconst (v := 1) hx hb d_Al_add_IObject_44 (by decide) ?_
  refine lv_iadd hx hb d_Al_add_IObject_45 ?_
  refine lv_iload_n hx hb d_Al_add_IObject_46 rfl (lv_at hl 3 rfl) ?_
  refine lv_iload_n hx hb d_Al_add_IObject_47 rfl (lv_at hl 1 rfl) ?_
  refine lv_isub hx hb d_Al_add_IObject_48 ?_
  obtain ⟨b23, rfl, h⟩ := h
  have h9 := h
  clear h
  refine hq_copy (rest := []) hx hb (hml.trans hl.1.symm) hown (hts _ bw_766) (hts _ bw_465) (hts _ bw_464) (hts _ bw_22) hK hZ0 hW hS h9 (by decide) (Nat.le_of_ble_eq_true rfl) d_Al_add_IObject_49 (fun M24 H locs h hW hS => ?_)
  clear h9
  refine lv_aload hx hb d_Al_add_IObject_52 (lv_at hl 4 rfl) ?_
  refine lv_iload_n hx hb d_Al_add_IObject_54 rfl (lv_at hl 1 rfl) ?_
  refine lq_load_n hx hb d_Al_add_IObject_55 rfl (lv_at hl 2 rfl) ?_
  have h9 := h
  clear h
  refine hq_astO (r := l2b38) hx hb hK hZ0 hW hS h9 d_Al_add_IObject_56 (fun M25 H locs h hW hS => ?_)
  clear h9
  refine lv_aload_n hx hb d_Al_add_IObject_57 rfl (lv_at hl 0 rfl) ?_
  refine lv_iload_n hx hb d_Al_add_IObject_58 rfl (lv_at hl 3 rfl) ?_
  refine lv_iconst (v := 1) hx hb d_Al_add_IObject_59 (by decide) ?_
  refine lv_iadd hx hb d_Al_add_IObject_60 ?_
  obtain ⟨fs, h1, h2, h⟩ := h
  obtain ⟨ws, q0, hq, hP, hD, hback, -⟩ := hw_open hW h1
  refine va_put (D := D) (ci := 4) (v := .int (l3b38 + 1)) (ty := .int) (C := "java/util/ArrayList") (T := TAl) (N := 3) hx hb hts uAl tAl tAl_ok nAl hown hK hP hD hS q0 hq rfl 1 (by decide) (hts _ bw_237) (fun _ h9 => h9) rfl (by decide +kernel) rfl rfl h2 d_Al_add_IObject_61 (fun H locs hP hD hS => ?_)
  have hW := hback _ _ hP hD
  generalize (va_up M25 l0b38 (some (.inr (4, fs.set 1 (.int (l3b38 + 1)))))) = M26 at h hW
  refine W.widen (k := 1) (n := 22) (by omega) (by omega) ?_
  exact W.vret hx hb hr (fun t ht hWm => ⟨⟨_, rfl, h, hw_t ht hW⟩, hS.F ht⟩) hS.2.2 d_Al_add_IObject_64
set_option maxHeartbeats 1000000 in
set_option maxRecDepth 20000 in
theorem l_Al_add_IObject_e {p : Program} {l : Launch} {e : Env} {s : State} {m : MethodId} {args : Array Value} {below : List Frame} {meth : Method} {c : Code} {D : va_G} {ca G : Nat → Nat} {A : Nat → Prop} (C0 : hC p s m args meth c D ca G prog_30_method_26_code 5 (none) "java/util/ArrayList" A) {post : hM → Prop} {M : hM} {H : Heap} {locs : List Loc} {ls : Array Slot} {cells slots : Nat} (a0 : Nat) (x1 : Int32) (a2 : Option Nat) (hc : cells ≤ 0) (hs : slots ≤ 0) (h : wp_Al_add_IObject G ca post M a0 x1 a2) (hW : hw D wCl A M H) (hS : va_S A s.heap H locs) (hl : lv_has ls 5 [(0, .ref a0), (1, .int x1), (2, va_rf a2)]) : W p l e rm_Al_add_IObject s m args below meth c H locs cells slots (MQ below (va_Qv post (fun M' t => hw D wCl A M' t.heap) A) args s 1 22 A) (F0 m 0 ls []) := by
  obtain ⟨hx, hb, hr, hml, hown, hts, hlocks, hK, hA, hZ0⟩ := id C0
  refine lv_aload_n hx hb d_Al_add_IObject_0 rfl (lv_at hl 0 rfl) ?_
  refine lv_iload_n hx hb d_Al_add_IObject_1 rfl (lv_at hl 1 rfl) ?_
  obtain ⟨⟨fs, h1⟩, h⟩ := h
  have h9 := h
  clear h
  have hF := hW.free hS hA
  refine va_callv (va_runV (As := [.int x1]) (rest := []) ⟨hx, hb, hml, hown, hts⟩ (c_Al_rangeCheckForAdd _ h9) (cwV 1 hts (gi_V bw_500 bw_502 bs_8 bw_14 bw_503) rfl rfl rfl (by decide +kernel) ⟨Nat.le_of_ble_eq_true rfl, Nat.le_of_ble_eq_true rfl⟩) ⟨hI.blind, hw_recv hK hW h1 rfl, hI.give hW hS hA hK hZ0⟩ rfl rfl hl.1 rfl (lv_room (Nat.le_of_ble_eq_true rfl)) d_Al_add_IObject_2 ⟨(show _ ≤ 1 by omega), (show _ ≤ 22 by omega)⟩) hS (fun q _ z => hF q z) hF (fun M27 t H locs ht _ h hB1 _ _ hS => ?_)
  have hW := hw_back hF ht hB1
  clear h9
  refine lv_aload_n hx hb d_Al_add_IObject_5 rfl (lv_at hl 0 rfl) ?_
  refine lv_dup hx hb d_Al_add_IObject_6 rfl ?_
  obtain ⟨fs, v28, h1, h2, h⟩ := h
  refine va_get (D := D) (ci := 4) (v := .int v28) (C := "java/util/ArrayList") (T := TAl) (N := 3) hx hb hts uAl hown hK (hw_one hW h1) 0 rfl rfl 2 (by decide) (hts _ bw_239) (u_same (hts _ bw_240)) h2 d_Al_add_IObject_7 ?_
  refine lv_iconst (v := 1) hx hb d_Al_add_IObject_10 (by decide) ?_
  refine lv_iadd hx hb d_Al_add_IObject_11 ?_
  obtain ⟨fs, h1, h2, h⟩ := h
  obtain ⟨ws, q0, hq, hP, hD, hback, -⟩ := hw_open hW h1
  refine va_put (D := D) (ci := 4) (v := .int (v28 + 1)) (ty := .int) (C := "java/util/ArrayList") (T := TAl) (N := 3) hx hb hts uAl tAl tAl_ok nAl hown hK hP hD hS q0 hq rfl 2 (by decide) (hts _ bw_239) (u_same (hts _ bw_240)) rfl (by decide +kernel) rfl rfl h2 d_Al_add_IObject_12 (fun H locs hP hD hS => ?_)
  have hW := hback _ _ hP hD
  generalize (va_up M27 a0 (some (.inr (4, fs.set 2 (.int (v28 + 1)))))) = M29 at h hW
  refine lv_aload_n hx hb d_Al_add_IObject_15 rfl (lv_at hl 0 rfl) ?_
  obtain ⟨fs, v30, h1, h2, h⟩ := h
  refine va_get (D := D) (ci := 4) (v := .int v30) (C := "java/util/ArrayList") (T := TAl) (N := 3) hx hb hts uAl hown hK (hw_one hW h1) 0 rfl rfl 1 (by decide) (hts _ bw_237) (fun _ h9 => h9) h2 d_Al_add_IObject_16 ?_
  refine lv_dup hx hb d_Al_add_IObject_19 rfl ?_
  refine lv_istore_n (lv' := [(3, .int v30), (0, .ref a0), (1, .int x1), (2, va_rf a2)]) hx hb d_Al_add_IObject_20 rfl hl (by decide) (by cases a2 <;> rfl) (fun ls hl => ?_)
  refine lv_aload_n hx hb d_Al_add_IObject_21 rfl (lv_at hl 1 rfl) ?_
  obtain ⟨fs, v31, h1, h2, h⟩ := h
  refine va_get (D := D) (ci := 4) (v := va_rf v31) (C := "java/util/ArrayList") (T := TAl) (N := 3) hx hb hts uAl hown hK (hw_one hW h1) 0 rfl rfl 0 (by decide) (hts _ bw_236) (fun _ h9 => h9) h2 d_Al_add_IObject_22 ?_
  refine lv_dup hx hb d_Al_add_IObject_25 (by cases v31 <;> rfl) ?_
  refine lq_store (lv' := [(4, va_rf v31), (3, .int v30), (0, .ref a0), (1, .int x1), (2, va_rf a2)]) hx hb d_Al_add_IObject_26 hl (by decide) rfl (fun ls hl => ?_)
  obtain ⟨b32, rfl, h⟩ := h
  have h9 := h
  clear h
  refine hq_alen hx hb hK hZ0 hW hS h9 d_Al_add_IObject_28 (fun v33 h => ?_)
  clear h9
  obtain ⟨h0, h1⟩ := h
  refine lv_icmp_ne (tgt := 38) hx hb d_Al_add_IObject_29 (by decide) (fun c34 => ?_) (fun c34 => ?_)
  · have h := h0 c34
    exact l_Al_add_IObject_38 C0 a0 x1 a2 v30 (some b32) (by omega) (by omega) h hW hS (lv_sub hl [2, 3, 4, 1, 0] rfl)
  · have h := h1 c34
    refine lv_aload_n hx hb d_Al_add_IObject_32 rfl (lv_at hl 2 rfl) ?_
    obtain ⟨⟨fs, h1⟩, h⟩ := h
    have h9 := h
    clear h
    have hF := hW.free hS hA
    refine va_callq (va_runV (As := []) (rest := []) ⟨hx, hb, hml, hown, hts⟩ (c_Al_grow_ _ h9) (cwV 0 hts (gi_V bw_414 bw_416 bs_5 bw_14 bw_417) rfl rfl rfl (by decide +kernel) ⟨Nat.le_of_ble_eq_true rfl, Nat.le_of_ble_eq_true rfl⟩) ⟨hI.blind, hw_recv hK hW h1 rfl, hI.give hW hS hA hK hZ0⟩ rfl rfl hl.1 rfl (lv_room (Nat.le_of_ble_eq_true rfl)) d_Al_add_IObject_33 ⟨(show _ ≤ 1 by omega), (show _ ≤ 22 by omega)⟩) hS (fun q _ z => hF q z) hF (fun r35 M36 t H locs ht _ h hB1 _ _ hS => ?_)
    have hW := hw_back hF ht hB1
    clear h9
    refine lq_store (lv' := [(4, va_rf r35), (3, .int v30), (0, .ref a0), (1, .int x1), (2, va_rf a2)]) hx hb d_Al_add_IObject_36 hl (by decide) rfl (fun ls hl => ?_)
    exact l_Al_add_IObject_38 C0 a0 x1 a2 v30 r35 (by omega) (by omega) h hW hS (lv_sub hl [2, 3, 4, 1, 0] rfl)
set_option maxRecDepth 20000 in
theorem c_Al_add_IObject {l : Launch} {D : va_G} {ca G : Nat → Nat} (post : hM → Prop) {M : hM} {sz : Nat} {a0 : Nat} {x1 : Int32} {a2 : Option Nat} (h : wp_Al_add_IObject G ca post M a0 x1 a2) : Met l y_Al_add_IObject (wz y_Al_add_IObject prog_30_method_26_code 5 (none)) rm_Al_add_IObject (va_Pc [.ref a0, .int x1, va_rf a2] (hI D ca G sz M)) (va_Qv post (hB D M sz) (hp_A M sz)) 1 22 (hp_A M sz) := by
  refine Met.ofW (cc := prog_30_method_26_code) (maxL := 5) (ret := none) (by decide) rfl ?_
  intro p e s m args below meth c s₁ B hml hv
  obtain ⟨rfl, hsz, hW, hK, hZ0⟩ := hv
  have hts := fun w hw => atoms_spec (ws := wz y_Al_add_IObject prog_30_method_26_code 5 (none)) B.pre w (List.mem_cons_of_mem _ hw)
  have hown : s.vm.findClass "java/util/ArrayList" = some m.cls := findClass_of_methodNamed B.named
  subst hsz
  have hl : lv_has ((lg_sl [.ref a0, .int x1, va_rf a2] ++ List.replicate (5 - (lg_sl [.ref a0, .int x1, va_rf a2]).length) Slot.unset).toArray) 5 [(0, .ref a0), (1, .int x1), (2, va_rf a2)] := by cases a2 <;> exact lv_entry _ (Nat.le_of_ble_eq_true rfl)
  rw [lg_entry_eq]
  exact l_Al_add_IObject_e ⟨B.exec, B.bytes, B.returns, hml, hown, hts, B.notSynchronized, hK, fun q h => Or.inr h, hZ0⟩ a0 x1 a2 (Nat.zero_le _) (Nat.zero_le _) h hW va_S.rf hl

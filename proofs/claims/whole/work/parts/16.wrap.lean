theorem d_La_make_0 : decode method_3_code 0 = .ok (.aload 4, 2) := by decide +kernel
theorem d_La_make_2 : decode method_3_code 2 = .ok (.iconst 0, 1) := by decide +kernel
theorem d_La_make_3 : decode method_3_code 3 = .ok (.aload_n 0, 1) := by decide +kernel
theorem d_La_make_4 : decode method_3_code 4 = .ok (.iload_n 1, 1) := by decide +kernel
theorem d_La_make_5 : decode method_3_code 5 = .ok (.iload_n 2, 1) := by decide +kernel
theorem d_La_make_6 : decode method_3_code 6 = .ok (.iload_n 3, 1) := by decide +kernel
theorem d_La_make_7 : decode method_3_code 7 = .ok (.invokevirtual 7, 3) := by decide +kernel
theorem d_La_make_10 : decode method_3_code 10 = .ok (.i2l, 1) := by decide +kernel
theorem d_La_make_11 : decode method_3_code 11 = .ok (.lastore, 1) := by decide +kernel
theorem d_La_make_12 : decode method_3_code 12 = .ok (.goto 11, 3) := by decide +kernel
theorem d_La_make_15 : decode method_3_code 15 = .ok (.astore 5, 2) := by decide +kernel
theorem d_La_make_17 : decode method_3_code 17 = .ok (.iconst 1, 1) := by decide +kernel
theorem d_La_make_18 : decode method_3_code 18 = .ok (.ireturn, 1) := by decide +kernel
theorem d_La_make_19 : decode method_3_code 19 = .ok (.astore 5, 2) := by decide +kernel
theorem d_La_make_21 : decode method_3_code 21 = .ok (.iconst 2, 1) := by decide +kernel
theorem d_La_make_22 : decode method_3_code 22 = .ok (.ireturn, 1) := by decide +kernel
theorem d_La_make_23 : decode method_3_code 23 = .ok (.iconst 0, 1) := by decide +kernel
theorem d_La_make_24 : decode method_3_code 24 = .ok (.ireturn, 1) := by decide +kernel
def y_La_make : MethodName := ⟨"ChannelHallLaw", "make", "(LChannelHall;III[J)I"⟩
abbrev rm_La_make : Room := { frames := 8, cells := 4, slots := 22, locals := 124 }
def wp_La_make (G ca : Nat → Nat) (post : Int32 → hM → Prop) (M : hM) (a0 : Option Nat) (x1 : Int32) (x2 : Int32) (x3 : Int32) (a4 : Option Nat) : Prop := nN a0 fun b9 => spl M fun Ma12 Mb13 => rC Ma12 b9 3 (wp_Ha_make G ca (fun r10 Mc14 => dis Mc14 Mb13 → ∀ M11 : hM, M11 = uni Mc14 Mb13 → nN a4 fun b15 => sJ M11 b15 (ca 3) 0 r10.toInt64 fun M16 => post 0 M16) (fun E Mc14 => dis Mc14 Mb13 → ∀ M11 : hM, M11 = uni Mc14 Mb13 → (E = "java/lang/IllegalArgumentException" ∧ post 1 M11) ∨ (E = "java/lang/IllegalStateException" ∧ post 2 M11)) Ma12 b9 x1 x2 x3)
set_option maxHeartbeats 1000000 in
set_option maxRecDepth 20000 in
theorem l_La_make_e {p : Program} {l : Launch} {e : Env} {s : State} {m : MethodId} {args : Array Value} {below : List Frame} {meth : Method} {c : Code} {D : va_G} {ca G : Nat → Nat} {A : Nat → Prop} (C0 : hC p s m args meth c D ca G method_3_code 6 (some .int) "ChannelHallLaw" A) (hl0 : l.stackTraces = false) (hq : hQ s) (htab : c.exceptionTable.toList = tableOf [(0, 12, 15, 13), (0, 12, 19, 15)]) {post : Int32 → hM → Prop} {M : hM} {H : Heap} {locs : List Loc} {ls : Array Slot} {cells slots : Nat} (a0 : Option Nat) (x1 : Int32) (x2 : Int32) (x3 : Int32) (a4 : Option Nat) (hc : cells ≤ 0) (hs : slots ≤ 0) (h : wp_La_make G ca post M a0 x1 x2 x3 a4) (hW : hw D wCl A M H) (hS : va_S A s.heap H locs) (hl : lv_has ls 6 [(0, va_rf a0), (1, .int x1), (2, .int x2), (3, .int x3), (4, va_rf a4)]) : W p l e rm_La_make s m args below meth c H locs cells slots (MQ below (va_Qi post (fun M' t => hw D wCl A M' t.heap) A) args s 4 22 A) (F0 m 0 ls []) := by
  obtain ⟨hx, hb, hr, hml, hown, hts, hlocks, hK, hA, hZ0⟩ := id C0
  refine lq_load hx hb d_La_make_0 (lv_at hl 4 rfl) ?_
  refine lv_iconst (v := 0) hx hb d_La_make_2 (by decide) ?_
  refine lq_load_n hx hb d_La_make_3 rfl (lv_at hl 0 rfl) ?_
  refine lv_iload_n hx hb d_La_make_4 rfl (lv_at hl 1 rfl) ?_
  refine lv_iload_n hx hb d_La_make_5 rfl (lv_at hl 2 rfl) ?_
  refine lv_iload_n hx hb d_La_make_6 rfl (lv_at hl 3 rfl) ?_
  obtain ⟨b9, rfl, h⟩ := h
  obtain ⟨Ma12, Mb13, hd, he, h7⟩ := h
  subst he
  have h := h7
  clear h7
  obtain ⟨⟨fs, h1⟩, h⟩ := h
  have h9 := h
  clear h
  have hW1 := hw_left hW
  have hF := hW1.free hS hA
  refine vx_calli (vx_runV (As := [.int x1, .int x2, .int x3]) (rest := [.int 0, va_rf a4]) ⟨hx, hb, hml, hown, hts⟩ (c_Ha_make hl0 _ _ h9) (cwV 3 hts (gi_V bw_122 bw_123 bw_124 bw_1 bw_125) rfl rfl rfl (by decide +kernel) ⟨Nat.le_of_ble_eq_true rfl, Nat.le_of_ble_eq_true rfl⟩) ⟨hI.blind, hw_recv hK hW1 h1 rfl, hI.give hW1 hS hA hK hZ0⟩ rfl rfl hl.1 rfl (lv_room (by cases a4 <;> exact Nat.le_of_ble_eq_true rfl)) d_La_make_7 ⟨(show _ ≤ 4 by omega), (show _ ≤ 22 by omega)⟩) hS (fun q _ z => hF q z) hF (fun q _ z => hF q z) (fun E ce q9 Mc14 t H locs ht _ _ h8 _ hk hS hce hcv hcl => ?_) (fun r10 Mc14 t H locs ht _ h hB1 _ hk hS => ?_)
  · obtain ⟨hd, hW⟩ := hw_join hd hW hF hk ht h8.2
    have h := h8.1 hd _ rfl
    generalize uni Mc14 Mb13 = M11 at h hW
    clear h8 h9
    rcases h with ⟨rfl, h⟩ | ⟨rfl, h⟩
    · refine hq_catch hts hZ0 hq hown [] (0, 12, 15, 13) [(0, 12, 19, 15)] htab (fun _ h => absurd h List.not_mem_nil) (by decide) (by decide) (by decide) bw_120 (by decide) hce hcv hcl ?_
      refine lv_astore (lv' := [(5, .ref q9), (0, .ref b9), (1, .int x1), (2, .int x2), (3, .int x3), (4, va_rf a4)]) hx hb d_La_make_15 hl (by decide) (by cases a4 <;> rfl) (fun ls hl => ?_)
      refine lv_iconst (v := 1) hx hb d_La_make_17 (by decide) ?_
      refine W.widen (k := 4) (n := 22) (by omega) (by omega) ?_
      exact W.iret hx hb hr (fun t ht hWm => ⟨⟨_, _, rfl, h, hw_t ht hW⟩, hS.F ht⟩) hS.2.2 d_La_make_18
    · refine hq_catch hts hZ0 hq hown [(0, 12, 15, 13, "java/lang/IllegalArgumentException")] (0, 12, 19, 15) [] htab (List.forall_mem_cons.mpr ⟨⟨by decide, bw_120, by decide, by decide⟩, fun _ h => absurd h List.not_mem_nil⟩) (by decide) (by decide) (by decide) bw_121 (by decide) hce hcv hcl ?_
      refine lv_astore (lv' := [(5, .ref q9), (0, .ref b9), (1, .int x1), (2, .int x2), (3, .int x3), (4, va_rf a4)]) hx hb d_La_make_19 hl (by decide) (by cases a4 <;> rfl) (fun ls hl => ?_)
      refine lv_iconst (v := 2) hx hb d_La_make_21 (by decide) ?_
      refine W.widen (k := 4) (n := 22) (by omega) (by omega) ?_
      exact W.iret hx hb hr (fun t ht hWm => ⟨⟨_, _, rfl, h, hw_t ht hW⟩, hS.F ht⟩) hS.2.2 d_La_make_22
  · obtain ⟨hd, hW⟩ := hw_join hd hW hF hk ht hB1
    replace h := h hd _ rfl
    generalize uni Mc14 Mb13 = M11 at h hW
    clear h9
    refine lv_i2l hx hb d_La_make_10 rfl ?_
    obtain ⟨b15, rfl, h⟩ := h
    obtain ⟨n, f, h1, h2, h⟩ := h
    obtain ⟨ws, q0, hq, hP, hD, hback, -⟩ := hw_open hW h1
    refine va_last hx hb hK hP hD hS q0 3 hq rfl h2 d_La_make_11 (fun H locs hP hD hS => ?_)
    have hW := hback _ _ hP hD
    generalize hM2 : va_up M11 b15 _ = M16 at h hW
    refine lv_goto (tgt := 23) hx hb d_La_make_12 (by decide) ?_
    refine lv_iconst (v := 0) hx hb d_La_make_23 (by decide) ?_
    refine W.widen (k := 4) (n := 22) (by omega) (by omega) ?_
    exact W.iret hx hb hr (fun t ht hWm => ⟨⟨_, _, rfl, h, hw_t ht hW⟩, hS.F ht⟩) hS.2.2 d_La_make_24
set_option maxRecDepth 20000 in
theorem c_La_make {l : Launch} (hl0 : l.stackTraces = false) {D : va_G} {ca G : Nat → Nat} (post : Int32 → hM → Prop) {M : hM} {sz : Nat} {a0 : Option Nat} {x1 : Int32} {x2 : Int32} {x3 : Int32} {a4 : Option Nat} (h : wp_La_make G ca post M a0 x1 x2 x3 a4) : Met l y_La_make (wzH y_La_make method_3_code 6 (some .int) [(0, 12, 15, 13), (0, 12, 19, 15)]) rm_La_make (va_Pc [va_rf a0, .int x1, .int x2, .int x3, va_rf a4] (hJ D ca G sz M)) (va_Qi post (hB D M sz) (hp_A M sz)) 4 22 (hp_A M sz) := by
  refine va_MetW (cc := method_3_code) (maxL := 6) (ret := some .int) (hh := [(0, 12, 15, 13), (0, 12, 19, 15)]) (by decide) rfl ?_
  intro p e s m args below meth c s₁ B hml hv
  obtain ⟨rfl, ⟨hsz, hW, hK, hZ0⟩, hq⟩ := hv
  have hta := atoms_spec (ws := wzH y_La_make method_3_code 6 (some .int) [(0, 12, 15, 13), (0, 12, 19, 15)]) B.pre
  have hts := fun w hw => hta w (List.mem_cons_of_mem _ hw)
  have hown : s.vm.findClass "ChannelHallLaw" = some m.cls := findClass_of_methodNamed B.named
  subst hsz
  have hl : lv_has ((lg_sl [va_rf a0, .int x1, .int x2, .int x3, va_rf a4] ++ List.replicate (6 - (lg_sl [va_rf a0, .int x1, .int x2, .int x3, va_rf a4]).length) Slot.unset).toArray) 6 [(0, va_rf a0), (1, .int x1), (2, .int x2), (3, .int x3), (4, va_rf a4)] := by cases a0 <;> cases a4 <;> exact lv_entry _ (Nat.le_of_ble_eq_true rfl)
  rw [lg_entry_eq]
  exact l_La_make_e ⟨B.exec, B.bytes, B.returns, hml, hown, hts, B.notSynchronized, hK, fun q h => Or.inr h, hZ0⟩ hl0 hq (vx_table (x := y_La_make) B (hta _ List.mem_cons_self)) a0 x1 x2 x3 a4 (Nat.zero_le _) (Nat.zero_le _) h hW va_S.rf hl

theorem d_La_give_0 : decode method_4_code 0 = .ok (.aload 8, 2) := by decide +kernel
theorem d_La_give_2 : decode method_4_code 2 = .ok (.iconst 0, 1) := by decide +kernel
theorem d_La_give_3 : decode method_4_code 3 = .ok (.aload_n 0, 1) := by decide +kernel
theorem d_La_give_4 : decode method_4_code 4 = .ok (.iload_n 1, 1) := by decide +kernel
theorem d_La_give_5 : decode method_4_code 5 = .ok (.iload_n 2, 1) := by decide +kernel
theorem d_La_give_6 : decode method_4_code 6 = .ok (.iload_n 3, 1) := by decide +kernel
theorem d_La_give_7 : decode method_4_code 7 = .ok (.dload 4, 2) := by decide +kernel
theorem d_La_give_9 : decode method_4_code 9 = .ok (.dload 6, 2) := by decide +kernel
theorem d_La_give_11 : decode method_4_code 11 = .ok (.invokevirtual 17, 3) := by decide +kernel
theorem d_La_give_14 : decode method_4_code 14 = .ok (.i2l, 1) := by decide +kernel
theorem d_La_give_15 : decode method_4_code 15 = .ok (.lastore, 1) := by decide +kernel
theorem d_La_give_16 : decode method_4_code 16 = .ok (.goto 19, 3) := by decide +kernel
theorem d_La_give_19 : decode method_4_code 19 = .ok (.astore 9, 2) := by decide +kernel
theorem d_La_give_21 : decode method_4_code 21 = .ok (.iconst 1, 1) := by decide +kernel
theorem d_La_give_22 : decode method_4_code 22 = .ok (.ireturn, 1) := by decide +kernel
theorem d_La_give_23 : decode method_4_code 23 = .ok (.astore 9, 2) := by decide +kernel
theorem d_La_give_25 : decode method_4_code 25 = .ok (.iconst 2, 1) := by decide +kernel
theorem d_La_give_26 : decode method_4_code 26 = .ok (.ireturn, 1) := by decide +kernel
theorem d_La_give_27 : decode method_4_code 27 = .ok (.astore 9, 2) := by decide +kernel
theorem d_La_give_29 : decode method_4_code 29 = .ok (.iconst 3, 1) := by decide +kernel
theorem d_La_give_30 : decode method_4_code 30 = .ok (.ireturn, 1) := by decide +kernel
theorem d_La_give_31 : decode method_4_code 31 = .ok (.astore 9, 2) := by decide +kernel
theorem d_La_give_33 : decode method_4_code 33 = .ok (.iconst 4, 1) := by decide +kernel
theorem d_La_give_34 : decode method_4_code 34 = .ok (.ireturn, 1) := by decide +kernel
theorem d_La_give_35 : decode method_4_code 35 = .ok (.iconst 0, 1) := by decide +kernel
theorem d_La_give_36 : decode method_4_code 36 = .ok (.ireturn, 1) := by decide +kernel
def y_La_give : MethodName := ⟨"ChannelHallLaw", "give", "(LChannelHall;IIIDD[J)I"⟩
abbrev rm_La_give : Room := { frames := 10, cells := 18, slots := 199, locals := 255 }
def wp_La_give (G ca : Nat → Nat) (post : Int32 → hM → Prop) (M : hM) (a0 : Option Nat) (x1 : Int32) (x2 : Int32) (x3 : Int32) (x4 : UInt64) (x6 : UInt64) (a8 : Option Nat) : Prop := nN a0 fun b9 => spl M fun Ma12 Mb13 => rC Ma12 b9 3 (wp_Ha_give G ca (fun r10 Mc14 => dis Mc14 Mb13 → ∀ M11 : hM, M11 = uni Mc14 Mb13 → nN a8 fun b15 => sJ M11 b15 (ca 3) 0 r10.toInt64 fun M16 => post 0 M16) (fun E Mc14 => dis Mc14 Mb13 → ∀ M11 : hM, M11 = uni Mc14 Mb13 → (E = "java/lang/IllegalArgumentException" ∧ post 1 M11) ∨ (E = "java/util/NoSuchElementException" ∧ post 2 M11) ∨ (E = "java/lang/IllegalStateException" ∧ post 3 M11) ∨ (E = "java/lang/UnsupportedOperationException" ∧ post 4 M11)) Ma12 b9 x1 x2 x3 x4 x6)
set_option maxHeartbeats 1000000 in
set_option maxRecDepth 20000 in
theorem l_La_give_e {p : Program} {l : Launch} {e : Env} {s : State} {m : MethodId} {args : Array Value} {below : List Frame} {meth : Method} {c : Code} {D : va_G} {ca G : Nat → Nat} {A : Nat → Prop} (C0 : hC p s m args meth c D ca G method_4_code 10 (some .int) "ChannelHallLaw" A) (hl0 : l.stackTraces = false) (hq : hQ s) (htab : c.exceptionTable.toList = tableOf [(0, 16, 19, 13), (0, 16, 23, 21), (0, 16, 27, 15), (0, 16, 31, 23)]) {post : Int32 → hM → Prop} {M : hM} {H : Heap} {locs : List Loc} {ls : Array Slot} {cells slots : Nat} (a0 : Option Nat) (x1 : Int32) (x2 : Int32) (x3 : Int32) (x4 : UInt64) (x6 : UInt64) (a8 : Option Nat) (hc : cells ≤ 0) (hs : slots ≤ 0) (h : wp_La_give G ca post M a0 x1 x2 x3 x4 x6 a8) (hW : hw D wCl A M H) (hS : va_S A s.heap H locs) (hl : lv_has ls 10 [(0, va_rf a0), (1, .int x1), (2, .int x2), (3, .int x3), (4, .double x4), (6, .double x6), (8, va_rf a8)]) : W p l e rm_La_give s m args below meth c H locs cells slots (MQ below (va_Qi post (fun M' t => hw D wCl A M' t.heap) A) args s 18 199 A) (F0 m 0 ls []) := by
  obtain ⟨hx, hb, hr, hml, hown, hts, hlocks, hK, hA, hZ0⟩ := id C0
  refine lq_load hx hb d_La_give_0 (lv_at hl 6 rfl) ?_
  refine lv_iconst (v := 0) hx hb d_La_give_2 (by decide) ?_
  refine lq_load_n hx hb d_La_give_3 rfl (lv_at hl 0 rfl) ?_
  refine lv_iload_n hx hb d_La_give_4 rfl (lv_at hl 1 rfl) ?_
  refine lv_iload_n hx hb d_La_give_5 rfl (lv_at hl 2 rfl) ?_
  refine lv_iload_n hx hb d_La_give_6 rfl (lv_at hl 3 rfl) ?_
  refine lv_dload hx hb d_La_give_7 (lv_at hl 4 rfl) ?_
  refine lv_dload hx hb d_La_give_9 (lv_at hl 5 rfl) ?_
  obtain ⟨b9, rfl, h⟩ := h
  obtain ⟨Ma12, Mb13, hd, he, h7⟩ := h
  subst he
  have h := h7
  clear h7
  obtain ⟨⟨fs, h1⟩, h⟩ := h
  have h9 := h
  clear h
  have hW1 := hw_left hW
  have hF := hW1.free hS hA
  refine vx_calli (vx_runV (As := [.int x1, .int x2, .int x3, .double x4, .double x6]) (rest := [.int 0, va_rf a8]) ⟨hx, hb, hml, hown, hts⟩ (c_Ha_give hl0 _ _ h9) (cwV 5 hts (gi_V bw_296 bw_297 bw_298 bw_1 bw_299) rfl rfl rfl (by decide +kernel) ⟨Nat.le_of_ble_eq_true rfl, Nat.le_of_ble_eq_true rfl⟩) ⟨hI.blind, hw_recv hK hW1 h1 rfl, hI.give hW1 hS hA hK hZ0⟩ rfl rfl hl.1 rfl (lv_room (by cases a8 <;> exact Nat.le_of_ble_eq_true rfl)) d_La_give_11 ⟨(show _ ≤ 18 by omega), (show _ ≤ 199 by omega)⟩) hS (fun q _ z => hF q z) hF (fun q _ z => hF q z) (fun E ce q9 Mc14 t H locs ht _ _ h8 _ hk hS hce hcv hcl => ?_) (fun r10 Mc14 t H locs ht _ h hB1 _ hk hS => ?_)
  · obtain ⟨hd, hW⟩ := hw_join hd hW hF hk ht h8.2
    have h := h8.1 hd _ rfl
    generalize uni Mc14 Mb13 = M11 at h hW
    clear h8 h9
    rcases h with ⟨rfl, h⟩ | ⟨rfl, h⟩ | ⟨rfl, h⟩ | ⟨rfl, h⟩
    · refine hq_catch hts hZ0 hq hown [] (0, 16, 19, 13) [(0, 16, 23, 21), (0, 16, 27, 15), (0, 16, 31, 23)] htab (fun _ h => absurd h List.not_mem_nil) (by decide) (by decide) (by decide) bw_120 (by decide) hce hcv hcl ?_
      refine lv_astore (lv' := [(9, .ref q9), (0, .ref b9), (1, .int x1), (2, .int x2), (3, .int x3), (4, .double x4), (6, .double x6), (8, va_rf a8)]) hx hb d_La_give_19 hl (by decide) (by cases a8 <;> rfl) (fun ls hl => ?_)
      refine lv_iconst (v := 1) hx hb d_La_give_21 (by decide) ?_
      refine W.widen (k := 18) (n := 199) (by omega) (by omega) ?_
      exact W.iret hx hb hr (fun t ht hWm => ⟨⟨_, _, rfl, h, hw_t ht hW⟩, hS.F ht⟩) hS.2.2 d_La_give_22
    · refine hq_catch hts hZ0 hq hown [(0, 16, 19, 13, "java/lang/IllegalArgumentException")] (0, 16, 23, 21) [(0, 16, 27, 15), (0, 16, 31, 23)] htab (List.forall_mem_cons.mpr ⟨⟨by decide, bw_120, by decide, by decide⟩, fun _ h => absurd h List.not_mem_nil⟩) (by decide) (by decide) (by decide) bw_294 (by decide) hce hcv hcl ?_
      refine lv_astore (lv' := [(9, .ref q9), (0, .ref b9), (1, .int x1), (2, .int x2), (3, .int x3), (4, .double x4), (6, .double x6), (8, va_rf a8)]) hx hb d_La_give_23 hl (by decide) (by cases a8 <;> rfl) (fun ls hl => ?_)
      refine lv_iconst (v := 2) hx hb d_La_give_25 (by decide) ?_
      refine W.widen (k := 18) (n := 199) (by omega) (by omega) ?_
      exact W.iret hx hb hr (fun t ht hWm => ⟨⟨_, _, rfl, h, hw_t ht hW⟩, hS.F ht⟩) hS.2.2 d_La_give_26
    · refine hq_catch hts hZ0 hq hown [(0, 16, 19, 13, "java/lang/IllegalArgumentException"), (0, 16, 23, 21, "java/util/NoSuchElementException")] (0, 16, 27, 15) [(0, 16, 31, 23)] htab (List.forall_mem_cons.mpr ⟨⟨by decide, bw_120, by decide, by decide⟩, List.forall_mem_cons.mpr ⟨⟨by decide, bw_294, by decide, by decide⟩, fun _ h => absurd h List.not_mem_nil⟩⟩) (by decide) (by decide) (by decide) bw_121 (by decide) hce hcv hcl ?_
      refine lv_astore (lv' := [(9, .ref q9), (0, .ref b9), (1, .int x1), (2, .int x2), (3, .int x3), (4, .double x4), (6, .double x6), (8, va_rf a8)]) hx hb d_La_give_27 hl (by decide) (by cases a8 <;> rfl) (fun ls hl => ?_)
      refine lv_iconst (v := 3) hx hb d_La_give_29 (by decide) ?_
      refine W.widen (k := 18) (n := 199) (by omega) (by omega) ?_
      exact W.iret hx hb hr (fun t ht hWm => ⟨⟨_, _, rfl, h, hw_t ht hW⟩, hS.F ht⟩) hS.2.2 d_La_give_30
    · refine hq_catch hts hZ0 hq hown [(0, 16, 19, 13, "java/lang/IllegalArgumentException"), (0, 16, 23, 21, "java/util/NoSuchElementException"), (0, 16, 27, 15, "java/lang/IllegalStateException")] (0, 16, 31, 23) [] htab (List.forall_mem_cons.mpr ⟨⟨by decide, bw_120, by decide, by decide⟩, List.forall_mem_cons.mpr ⟨⟨by decide, bw_294, by decide, by decide⟩, List.forall_mem_cons.mpr ⟨⟨by decide, bw_121, by decide, by decide⟩, fun _ h => absurd h List.not_mem_nil⟩⟩⟩) (by decide) (by decide) (by decide) bw_295 (by decide) hce hcv hcl ?_
      refine lv_astore (lv' := [(9, .ref q9), (0, .ref b9), (1, .int x1), (2, .int x2), (3, .int x3), (4, .double x4), (6, .double x6), (8, va_rf a8)]) hx hb d_La_give_31 hl (by decide) (by cases a8 <;> rfl) (fun ls hl => ?_)
      refine lv_iconst (v := 4) hx hb d_La_give_33 (by decide) ?_
      refine W.widen (k := 18) (n := 199) (by omega) (by omega) ?_
      exact W.iret hx hb hr (fun t ht hWm => ⟨⟨_, _, rfl, h, hw_t ht hW⟩, hS.F ht⟩) hS.2.2 d_La_give_34
  · obtain ⟨hd, hW⟩ := hw_join hd hW hF hk ht hB1
    replace h := h hd _ rfl
    generalize uni Mc14 Mb13 = M11 at h hW
    clear h9
    refine lv_i2l hx hb d_La_give_14 rfl ?_
    obtain ⟨b15, rfl, h⟩ := h
    obtain ⟨n, f, h1, h2, h⟩ := h
    obtain ⟨ws, q0, hq, hP, hD, hback, -⟩ := hw_open hW h1
    refine va_last hx hb hK hP hD hS q0 3 hq rfl h2 d_La_give_15 (fun H locs hP hD hS => ?_)
    have hW := hback _ _ hP hD
    generalize hM2 : va_up M11 b15 _ = M16 at h hW
    refine lv_goto (tgt := 35) hx hb d_La_give_16 (by decide) ?_
    refine lv_iconst (v := 0) hx hb d_La_give_35 (by decide) ?_
    refine W.widen (k := 18) (n := 199) (by omega) (by omega) ?_
    exact W.iret hx hb hr (fun t ht hWm => ⟨⟨_, _, rfl, h, hw_t ht hW⟩, hS.F ht⟩) hS.2.2 d_La_give_36
set_option maxRecDepth 20000 in
theorem c_La_give {l : Launch} (hl0 : l.stackTraces = false) {D : va_G} {ca G : Nat → Nat} (post : Int32 → hM → Prop) {M : hM} {sz : Nat} {a0 : Option Nat} {x1 : Int32} {x2 : Int32} {x3 : Int32} {x4 : UInt64} {x6 : UInt64} {a8 : Option Nat} (h : wp_La_give G ca post M a0 x1 x2 x3 x4 x6 a8) : Met l y_La_give (wzH y_La_give method_4_code 10 (some .int) [(0, 16, 19, 13), (0, 16, 23, 21), (0, 16, 27, 15), (0, 16, 31, 23)]) rm_La_give (va_Pc [va_rf a0, .int x1, .int x2, .int x3, .double x4, .double x6, va_rf a8] (hJ D ca G sz M)) (va_Qi post (hB D M sz) (hp_A M sz)) 18 199 (hp_A M sz) := by
  refine va_MetW (cc := method_4_code) (maxL := 10) (ret := some .int) (hh := [(0, 16, 19, 13), (0, 16, 23, 21), (0, 16, 27, 15), (0, 16, 31, 23)]) (by decide) rfl ?_
  intro p e s m args below meth c s₁ B hml hv
  obtain ⟨rfl, ⟨hsz, hW, hK, hZ0⟩, hq⟩ := hv
  have hta := atoms_spec (ws := wzH y_La_give method_4_code 10 (some .int) [(0, 16, 19, 13), (0, 16, 23, 21), (0, 16, 27, 15), (0, 16, 31, 23)]) B.pre
  have hts := fun w hw => hta w (List.mem_cons_of_mem _ hw)
  have hown : s.vm.findClass "ChannelHallLaw" = some m.cls := findClass_of_methodNamed B.named
  subst hsz
  have hl : lv_has ((lg_sl [va_rf a0, .int x1, .int x2, .int x3, .double x4, .double x6, va_rf a8] ++ List.replicate (10 - (lg_sl [va_rf a0, .int x1, .int x2, .int x3, .double x4, .double x6, va_rf a8]).length) Slot.unset).toArray) 10 [(0, va_rf a0), (1, .int x1), (2, .int x2), (3, .int x3), (4, .double x4), (6, .double x6), (8, va_rf a8)] := by cases a0 <;> cases a8 <;> exact lv_entry _ (Nat.le_of_ble_eq_true rfl)
  rw [lg_entry_eq]
  exact l_La_give_e ⟨B.exec, B.bytes, B.returns, hml, hown, hts, B.notSynchronized, hK, fun q h => Or.inr h, hZ0⟩ hl0 hq (vx_table (x := y_La_give) B (hta _ List.mem_cons_self)) a0 x1 x2 x3 x4 x6 a8 (Nat.zero_le _) (Nat.zero_le _) h hW va_S.rf hl

theorem d_La_take_0 : decode method_5_code 0 = .ok (.aload 5, 2) := by decide +kernel
theorem d_La_take_2 : decode method_5_code 2 = .ok (.iconst 0, 1) := by decide +kernel
theorem d_La_take_3 : decode method_5_code 3 = .ok (.aload_n 0, 1) := by decide +kernel
theorem d_La_take_4 : decode method_5_code 4 = .ok (.iload_n 1, 1) := by decide +kernel
theorem d_La_take_5 : decode method_5_code 5 = .ok (.iload_n 2, 1) := by decide +kernel
theorem d_La_take_6 : decode method_5_code 6 = .ok (.dload_n 3, 1) := by decide +kernel
theorem d_La_take_7 : decode method_5_code 7 = .ok (.invokevirtual 25, 3) := by decide +kernel
theorem d_La_take_10 : decode method_5_code 10 = .ok (.i2l, 1) := by decide +kernel
theorem d_La_take_11 : decode method_5_code 11 = .ok (.lastore, 1) := by decide +kernel
theorem d_La_take_12 : decode method_5_code 12 = .ok (.goto 19, 3) := by decide +kernel
theorem d_La_take_15 : decode method_5_code 15 = .ok (.astore 6, 2) := by decide +kernel
theorem d_La_take_17 : decode method_5_code 17 = .ok (.iconst 1, 1) := by decide +kernel
theorem d_La_take_18 : decode method_5_code 18 = .ok (.ireturn, 1) := by decide +kernel
theorem d_La_take_19 : decode method_5_code 19 = .ok (.astore 6, 2) := by decide +kernel
theorem d_La_take_21 : decode method_5_code 21 = .ok (.iconst 2, 1) := by decide +kernel
theorem d_La_take_22 : decode method_5_code 22 = .ok (.ireturn, 1) := by decide +kernel
theorem d_La_take_23 : decode method_5_code 23 = .ok (.astore 6, 2) := by decide +kernel
theorem d_La_take_25 : decode method_5_code 25 = .ok (.iconst 3, 1) := by decide +kernel
theorem d_La_take_26 : decode method_5_code 26 = .ok (.ireturn, 1) := by decide +kernel
theorem d_La_take_27 : decode method_5_code 27 = .ok (.astore 6, 2) := by decide +kernel
theorem d_La_take_29 : decode method_5_code 29 = .ok (.iconst 4, 1) := by decide +kernel
theorem d_La_take_30 : decode method_5_code 30 = .ok (.ireturn, 1) := by decide +kernel
theorem d_La_take_31 : decode method_5_code 31 = .ok (.iconst 0, 1) := by decide +kernel
theorem d_La_take_32 : decode method_5_code 32 = .ok (.ireturn, 1) := by decide +kernel
def y_La_take : MethodName := ⟨"ChannelHallLaw", "take", "(LChannelHall;IID[J)I"⟩
abbrev rm_La_take : Room := { frames := 10, cells := 16, slots := 174, locals := 250 }
def wp_La_take (G ca : Nat → Nat) (post : Int32 → hM → Prop) (M : hM) (a0 : Option Nat) (x1 : Int32) (x2 : Int32) (x3 : UInt64) (a5 : Option Nat) : Prop := nN a0 fun b9 => spl M fun Ma12 Mb13 => rC Ma12 b9 3 (wp_Ha_take G ca (fun r10 Mc14 => dis Mc14 Mb13 → ∀ M11 : hM, M11 = uni Mc14 Mb13 → nN a5 fun b15 => sJ M11 b15 (ca 3) 0 r10.toInt64 fun M16 => post 0 M16) (fun E Mc14 => dis Mc14 Mb13 → ∀ M11 : hM, M11 = uni Mc14 Mb13 → (E = "java/lang/IllegalArgumentException" ∧ post 1 M11) ∨ (E = "java/util/NoSuchElementException" ∧ post 2 M11) ∨ (E = "java/lang/IllegalStateException" ∧ post 3 M11) ∨ (E = "java/lang/UnsupportedOperationException" ∧ post 4 M11)) Ma12 b9 x1 x2 x3)
set_option maxHeartbeats 1000000 in
set_option maxRecDepth 20000 in
theorem l_La_take_e {p : Program} {l : Launch} {e : Env} {s : State} {m : MethodId} {args : Array Value} {below : List Frame} {meth : Method} {c : Code} {D : va_G} {ca G : Nat → Nat} {A : Nat → Prop} (C0 : hC p s m args meth c D ca G method_5_code 7 (some .int) "ChannelHallLaw" A) (hl0 : l.stackTraces = false) (hq : hQ s) (htab : c.exceptionTable.toList = tableOf [(0, 12, 15, 13), (0, 12, 19, 21), (0, 12, 23, 15), (0, 12, 27, 23)]) {post : Int32 → hM → Prop} {M : hM} {H : Heap} {locs : List Loc} {ls : Array Slot} {cells slots : Nat} (a0 : Option Nat) (x1 : Int32) (x2 : Int32) (x3 : UInt64) (a5 : Option Nat) (hc : cells ≤ 0) (hs : slots ≤ 0) (h : wp_La_take G ca post M a0 x1 x2 x3 a5) (hW : hw D wCl A M H) (hS : va_S A s.heap H locs) (hl : lv_has ls 7 [(0, va_rf a0), (1, .int x1), (2, .int x2), (3, .double x3), (5, va_rf a5)]) : W p l e rm_La_take s m args below meth c H locs cells slots (MQ below (va_Qi post (fun M' t => hw D wCl A M' t.heap) A) args s 16 174 A) (F0 m 0 ls []) := by
  obtain ⟨hx, hb, hr, hml, hown, hts, hlocks, hK, hA, hZ0⟩ := id C0
  refine lq_load hx hb d_La_take_0 (lv_at hl 4 rfl) ?_
  refine lv_iconst (v := 0) hx hb d_La_take_2 (by decide) ?_
  refine lq_load_n hx hb d_La_take_3 rfl (lv_at hl 0 rfl) ?_
  refine lv_iload_n hx hb d_La_take_4 rfl (lv_at hl 1 rfl) ?_
  refine lv_iload_n hx hb d_La_take_5 rfl (lv_at hl 2 rfl) ?_
  refine lv_dload_n hx hb d_La_take_6 rfl (lv_at hl 3 rfl) ?_
  obtain ⟨b9, rfl, h⟩ := h
  obtain ⟨Ma12, Mb13, hd, he, h7⟩ := h
  subst he
  have h := h7
  clear h7
  obtain ⟨⟨fs, h1⟩, h⟩ := h
  have h9 := h
  clear h
  have hW1 := hw_left hW
  have hF := hW1.free hS hA
  refine vx_calli (vx_runV (As := [.int x1, .int x2, .double x3]) (rest := [.int 0, va_rf a5]) ⟨hx, hb, hml, hown, hts⟩ (c_Ha_take hl0 _ _ h9) (cwV 3 hts (gi_V bw_814 bw_815 bw_816 bw_1 bw_817) rfl rfl rfl (by decide +kernel) ⟨Nat.le_of_ble_eq_true rfl, Nat.le_of_ble_eq_true rfl⟩) ⟨hI.blind, hw_recv hK hW1 h1 rfl, hI.give hW1 hS hA hK hZ0⟩ rfl rfl hl.1 rfl (lv_room (by cases a5 <;> exact Nat.le_of_ble_eq_true rfl)) d_La_take_7 ⟨(show _ ≤ 16 by omega), (show _ ≤ 174 by omega)⟩) hS (fun q _ z => hF q z) hF (fun q _ z => hF q z) (fun E ce q9 Mc14 t H locs ht _ _ h8 _ hk hS hce hcv hcl => ?_) (fun r10 Mc14 t H locs ht _ h hB1 _ hk hS => ?_)
  · obtain ⟨hd, hW⟩ := hw_join hd hW hF hk ht h8.2
    have h := h8.1 hd _ rfl
    generalize uni Mc14 Mb13 = M11 at h hW
    clear h8 h9
    rcases h with ⟨rfl, h⟩ | ⟨rfl, h⟩ | ⟨rfl, h⟩ | ⟨rfl, h⟩
    · refine hq_catch hts hZ0 hq hown [] (0, 12, 15, 13) [(0, 12, 19, 21), (0, 12, 23, 15), (0, 12, 27, 23)] htab (fun _ h => absurd h List.not_mem_nil) (by decide) (by decide) (by decide) bw_120 (by decide) hce hcv hcl ?_
      refine lv_astore (lv' := [(6, .ref q9), (0, .ref b9), (1, .int x1), (2, .int x2), (3, .double x3), (5, va_rf a5)]) hx hb d_La_take_15 hl (by decide) (by cases a5 <;> rfl) (fun ls hl => ?_)
      refine lv_iconst (v := 1) hx hb d_La_take_17 (by decide) ?_
      refine W.widen (k := 16) (n := 174) (by omega) (by omega) ?_
      exact W.iret hx hb hr (fun t ht hWm => ⟨⟨_, _, rfl, h, hw_t ht hW⟩, hS.F ht⟩) hS.2.2 d_La_take_18
    · refine hq_catch hts hZ0 hq hown [(0, 12, 15, 13, "java/lang/IllegalArgumentException")] (0, 12, 19, 21) [(0, 12, 23, 15), (0, 12, 27, 23)] htab (List.forall_mem_cons.mpr ⟨⟨by decide, bw_120, by decide, by decide⟩, fun _ h => absurd h List.not_mem_nil⟩) (by decide) (by decide) (by decide) bw_294 (by decide) hce hcv hcl ?_
      refine lv_astore (lv' := [(6, .ref q9), (0, .ref b9), (1, .int x1), (2, .int x2), (3, .double x3), (5, va_rf a5)]) hx hb d_La_take_19 hl (by decide) (by cases a5 <;> rfl) (fun ls hl => ?_)
      refine lv_iconst (v := 2) hx hb d_La_take_21 (by decide) ?_
      refine W.widen (k := 16) (n := 174) (by omega) (by omega) ?_
      exact W.iret hx hb hr (fun t ht hWm => ⟨⟨_, _, rfl, h, hw_t ht hW⟩, hS.F ht⟩) hS.2.2 d_La_take_22
    · refine hq_catch hts hZ0 hq hown [(0, 12, 15, 13, "java/lang/IllegalArgumentException"), (0, 12, 19, 21, "java/util/NoSuchElementException")] (0, 12, 23, 15) [(0, 12, 27, 23)] htab (List.forall_mem_cons.mpr ⟨⟨by decide, bw_120, by decide, by decide⟩, List.forall_mem_cons.mpr ⟨⟨by decide, bw_294, by decide, by decide⟩, fun _ h => absurd h List.not_mem_nil⟩⟩) (by decide) (by decide) (by decide) bw_121 (by decide) hce hcv hcl ?_
      refine lv_astore (lv' := [(6, .ref q9), (0, .ref b9), (1, .int x1), (2, .int x2), (3, .double x3), (5, va_rf a5)]) hx hb d_La_take_23 hl (by decide) (by cases a5 <;> rfl) (fun ls hl => ?_)
      refine lv_iconst (v := 3) hx hb d_La_take_25 (by decide) ?_
      refine W.widen (k := 16) (n := 174) (by omega) (by omega) ?_
      exact W.iret hx hb hr (fun t ht hWm => ⟨⟨_, _, rfl, h, hw_t ht hW⟩, hS.F ht⟩) hS.2.2 d_La_take_26
    · refine hq_catch hts hZ0 hq hown [(0, 12, 15, 13, "java/lang/IllegalArgumentException"), (0, 12, 19, 21, "java/util/NoSuchElementException"), (0, 12, 23, 15, "java/lang/IllegalStateException")] (0, 12, 27, 23) [] htab (List.forall_mem_cons.mpr ⟨⟨by decide, bw_120, by decide, by decide⟩, List.forall_mem_cons.mpr ⟨⟨by decide, bw_294, by decide, by decide⟩, List.forall_mem_cons.mpr ⟨⟨by decide, bw_121, by decide, by decide⟩, fun _ h => absurd h List.not_mem_nil⟩⟩⟩) (by decide) (by decide) (by decide) bw_295 (by decide) hce hcv hcl ?_
      refine lv_astore (lv' := [(6, .ref q9), (0, .ref b9), (1, .int x1), (2, .int x2), (3, .double x3), (5, va_rf a5)]) hx hb d_La_take_27 hl (by decide) (by cases a5 <;> rfl) (fun ls hl => ?_)
      refine lv_iconst (v := 4) hx hb d_La_take_29 (by decide) ?_
      refine W.widen (k := 16) (n := 174) (by omega) (by omega) ?_
      exact W.iret hx hb hr (fun t ht hWm => ⟨⟨_, _, rfl, h, hw_t ht hW⟩, hS.F ht⟩) hS.2.2 d_La_take_30
  · obtain ⟨hd, hW⟩ := hw_join hd hW hF hk ht hB1
    replace h := h hd _ rfl
    generalize uni Mc14 Mb13 = M11 at h hW
    clear h9
    refine lv_i2l hx hb d_La_take_10 rfl ?_
    obtain ⟨b15, rfl, h⟩ := h
    obtain ⟨n, f, h1, h2, h⟩ := h
    obtain ⟨ws, q0, hq, hP, hD, hback, -⟩ := hw_open hW h1
    refine va_last hx hb hK hP hD hS q0 3 hq rfl h2 d_La_take_11 (fun H locs hP hD hS => ?_)
    have hW := hback _ _ hP hD
    generalize hM2 : va_up M11 b15 _ = M16 at h hW
    refine lv_goto (tgt := 31) hx hb d_La_take_12 (by decide) ?_
    refine lv_iconst (v := 0) hx hb d_La_take_31 (by decide) ?_
    refine W.widen (k := 16) (n := 174) (by omega) (by omega) ?_
    exact W.iret hx hb hr (fun t ht hWm => ⟨⟨_, _, rfl, h, hw_t ht hW⟩, hS.F ht⟩) hS.2.2 d_La_take_32
set_option maxRecDepth 20000 in
theorem c_La_take {l : Launch} (hl0 : l.stackTraces = false) {D : va_G} {ca G : Nat → Nat} (post : Int32 → hM → Prop) {M : hM} {sz : Nat} {a0 : Option Nat} {x1 : Int32} {x2 : Int32} {x3 : UInt64} {a5 : Option Nat} (h : wp_La_take G ca post M a0 x1 x2 x3 a5) : Met l y_La_take (wzH y_La_take method_5_code 7 (some .int) [(0, 12, 15, 13), (0, 12, 19, 21), (0, 12, 23, 15), (0, 12, 27, 23)]) rm_La_take (va_Pc [va_rf a0, .int x1, .int x2, .double x3, va_rf a5] (hJ D ca G sz M)) (va_Qi post (hB D M sz) (hp_A M sz)) 16 174 (hp_A M sz) := by
  refine va_MetW (cc := method_5_code) (maxL := 7) (ret := some .int) (hh := [(0, 12, 15, 13), (0, 12, 19, 21), (0, 12, 23, 15), (0, 12, 27, 23)]) (by decide) rfl ?_
  intro p e s m args below meth c s₁ B hml hv
  obtain ⟨rfl, ⟨hsz, hW, hK, hZ0⟩, hq⟩ := hv
  have hta := atoms_spec (ws := wzH y_La_take method_5_code 7 (some .int) [(0, 12, 15, 13), (0, 12, 19, 21), (0, 12, 23, 15), (0, 12, 27, 23)]) B.pre
  have hts := fun w hw => hta w (List.mem_cons_of_mem _ hw)
  have hown : s.vm.findClass "ChannelHallLaw" = some m.cls := findClass_of_methodNamed B.named
  subst hsz
  have hl : lv_has ((lg_sl [va_rf a0, .int x1, .int x2, .double x3, va_rf a5] ++ List.replicate (7 - (lg_sl [va_rf a0, .int x1, .int x2, .double x3, va_rf a5]).length) Slot.unset).toArray) 7 [(0, va_rf a0), (1, .int x1), (2, .int x2), (3, .double x3), (5, va_rf a5)] := by cases a0 <;> cases a5 <;> exact lv_entry _ (Nat.le_of_ble_eq_true rfl)
  rw [lg_entry_eq]
  exact l_La_take_e ⟨B.exec, B.bytes, B.returns, hml, hown, hts, B.notSynchronized, hK, fun q h => Or.inr h, hZ0⟩ hl0 hq (vx_table (x := y_La_take) B (hta _ List.mem_cons_self)) a0 x1 x2 x3 a5 (Nat.zero_le _) (Nat.zero_le _) h hW va_S.rf hl

theorem d_La_swap_0 : decode method_6_code 0 = .ok (.aload 6, 2) := by decide +kernel
theorem d_La_swap_2 : decode method_6_code 2 = .ok (.iconst 0, 1) := by decide +kernel
theorem d_La_swap_3 : decode method_6_code 3 = .ok (.aload_n 0, 1) := by decide +kernel
theorem d_La_swap_4 : decode method_6_code 4 = .ok (.iload_n 1, 1) := by decide +kernel
theorem d_La_swap_5 : decode method_6_code 5 = .ok (.iload_n 2, 1) := by decide +kernel
theorem d_La_swap_6 : decode method_6_code 6 = .ok (.iload_n 3, 1) := by decide +kernel
theorem d_La_swap_7 : decode method_6_code 7 = .ok (.dload 4, 2) := by decide +kernel
theorem d_La_swap_9 : decode method_6_code 9 = .ok (.invokevirtual 29, 3) := by decide +kernel
theorem d_La_swap_12 : decode method_6_code 12 = .ok (.i2l, 1) := by decide +kernel
theorem d_La_swap_13 : decode method_6_code 13 = .ok (.lastore, 1) := by decide +kernel
theorem d_La_swap_14 : decode method_6_code 14 = .ok (.goto 19, 3) := by decide +kernel
theorem d_La_swap_17 : decode method_6_code 17 = .ok (.astore 7, 2) := by decide +kernel
theorem d_La_swap_19 : decode method_6_code 19 = .ok (.iconst 1, 1) := by decide +kernel
theorem d_La_swap_20 : decode method_6_code 20 = .ok (.ireturn, 1) := by decide +kernel
theorem d_La_swap_21 : decode method_6_code 21 = .ok (.astore 7, 2) := by decide +kernel
theorem d_La_swap_23 : decode method_6_code 23 = .ok (.iconst 2, 1) := by decide +kernel
theorem d_La_swap_24 : decode method_6_code 24 = .ok (.ireturn, 1) := by decide +kernel
theorem d_La_swap_25 : decode method_6_code 25 = .ok (.astore 7, 2) := by decide +kernel
theorem d_La_swap_27 : decode method_6_code 27 = .ok (.iconst 3, 1) := by decide +kernel
theorem d_La_swap_28 : decode method_6_code 28 = .ok (.ireturn, 1) := by decide +kernel
theorem d_La_swap_29 : decode method_6_code 29 = .ok (.astore 7, 2) := by decide +kernel
theorem d_La_swap_31 : decode method_6_code 31 = .ok (.iconst 4, 1) := by decide +kernel
theorem d_La_swap_32 : decode method_6_code 32 = .ok (.ireturn, 1) := by decide +kernel
theorem d_La_swap_33 : decode method_6_code 33 = .ok (.iconst 0, 1) := by decide +kernel
theorem d_La_swap_34 : decode method_6_code 34 = .ok (.ireturn, 1) := by decide +kernel
def y_La_swap : MethodName := ⟨"ChannelHallLaw", "swap", "(LChannelHall;IIID[J)I"⟩
abbrev rm_La_swap : Room := { frames := 9, cells := 5, slots := 46, locals := 224 }
def wp_La_swap (G ca : Nat → Nat) (post : Int32 → hM → Prop) (M : hM) (a0 : Option Nat) (x1 : Int32) (x2 : Int32) (x3 : Int32) (x4 : UInt64) (a6 : Option Nat) : Prop := nN a0 fun b9 => spl M fun Ma12 Mb13 => rC Ma12 b9 3 (wp_Ha_swap G ca (fun r10 Mc14 => dis Mc14 Mb13 → ∀ M11 : hM, M11 = uni Mc14 Mb13 → nN a6 fun b15 => sJ M11 b15 (ca 3) 0 r10.toInt64 fun M16 => post 0 M16) (fun E Mc14 => dis Mc14 Mb13 → ∀ M11 : hM, M11 = uni Mc14 Mb13 → (E = "java/lang/IllegalArgumentException" ∧ post 1 M11) ∨ (E = "java/util/NoSuchElementException" ∧ post 2 M11) ∨ (E = "java/lang/IllegalStateException" ∧ post 3 M11) ∨ (E = "java/lang/UnsupportedOperationException" ∧ post 4 M11)) Ma12 b9 x1 x2 x3 x4)
set_option maxHeartbeats 1000000 in
set_option maxRecDepth 20000 in
theorem l_La_swap_e {p : Program} {l : Launch} {e : Env} {s : State} {m : MethodId} {args : Array Value} {below : List Frame} {meth : Method} {c : Code} {D : va_G} {ca G : Nat → Nat} {A : Nat → Prop} (C0 : hC p s m args meth c D ca G method_6_code 8 (some .int) "ChannelHallLaw" A) (hl0 : l.stackTraces = false) (hq : hQ s) (htab : c.exceptionTable.toList = tableOf [(0, 14, 17, 13), (0, 14, 21, 21), (0, 14, 25, 15), (0, 14, 29, 23)]) {post : Int32 → hM → Prop} {M : hM} {H : Heap} {locs : List Loc} {ls : Array Slot} {cells slots : Nat} (a0 : Option Nat) (x1 : Int32) (x2 : Int32) (x3 : Int32) (x4 : UInt64) (a6 : Option Nat) (hc : cells ≤ 0) (hs : slots ≤ 0) (h : wp_La_swap G ca post M a0 x1 x2 x3 x4 a6) (hW : hw D wCl A M H) (hS : va_S A s.heap H locs) (hl : lv_has ls 8 [(0, va_rf a0), (1, .int x1), (2, .int x2), (3, .int x3), (4, .double x4), (6, va_rf a6)]) : W p l e rm_La_swap s m args below meth c H locs cells slots (MQ below (va_Qi post (fun M' t => hw D wCl A M' t.heap) A) args s 5 46 A) (F0 m 0 ls []) := by
  obtain ⟨hx, hb, hr, hml, hown, hts, hlocks, hK, hA, hZ0⟩ := id C0
  refine lq_load hx hb d_La_swap_0 (lv_at hl 5 rfl) ?_
  refine lv_iconst (v := 0) hx hb d_La_swap_2 (by decide) ?_
  refine lq_load_n hx hb d_La_swap_3 rfl (lv_at hl 0 rfl) ?_
  refine lv_iload_n hx hb d_La_swap_4 rfl (lv_at hl 1 rfl) ?_
  refine lv_iload_n hx hb d_La_swap_5 rfl (lv_at hl 2 rfl) ?_
  refine lv_iload_n hx hb d_La_swap_6 rfl (lv_at hl 3 rfl) ?_
  refine lv_dload hx hb d_La_swap_7 (lv_at hl 4 rfl) ?_
  obtain ⟨b9, rfl, h⟩ := h
  obtain ⟨Ma12, Mb13, hd, he, h7⟩ := h
  subst he
  have h := h7
  clear h7
  obtain ⟨⟨fs, h1⟩, h⟩ := h
  have h9 := h
  clear h
  have hW1 := hw_left hW
  have hF := hW1.free hS hA
  refine vx_calli (vx_runV (As := [.int x1, .int x2, .int x3, .double x4]) (rest := [.int 0, va_rf a6]) ⟨hx, hb, hml, hown, hts⟩ (c_Ha_swap hl0 _ _ h9) (cwV 4 hts (gi_V bw_830 bw_831 bw_832 bw_1 bw_833) rfl rfl rfl (by decide +kernel) ⟨Nat.le_of_ble_eq_true rfl, Nat.le_of_ble_eq_true rfl⟩) ⟨hI.blind, hw_recv hK hW1 h1 rfl, hI.give hW1 hS hA hK hZ0⟩ rfl rfl hl.1 rfl (lv_room (by cases a6 <;> exact Nat.le_of_ble_eq_true rfl)) d_La_swap_9 ⟨(show _ ≤ 5 by omega), (show _ ≤ 46 by omega)⟩) hS (fun q _ z => hF q z) hF (fun q _ z => hF q z) (fun E ce q9 Mc14 t H locs ht _ _ h8 _ hk hS hce hcv hcl => ?_) (fun r10 Mc14 t H locs ht _ h hB1 _ hk hS => ?_)
  · obtain ⟨hd, hW⟩ := hw_join hd hW hF hk ht h8.2
    have h := h8.1 hd _ rfl
    generalize uni Mc14 Mb13 = M11 at h hW
    clear h8 h9
    rcases h with ⟨rfl, h⟩ | ⟨rfl, h⟩ | ⟨rfl, h⟩ | ⟨rfl, h⟩
    · refine hq_catch hts hZ0 hq hown [] (0, 14, 17, 13) [(0, 14, 21, 21), (0, 14, 25, 15), (0, 14, 29, 23)] htab (fun _ h => absurd h List.not_mem_nil) (by decide) (by decide) (by decide) bw_120 (by decide) hce hcv hcl ?_
      refine lv_astore (lv' := [(7, .ref q9), (0, .ref b9), (1, .int x1), (2, .int x2), (3, .int x3), (4, .double x4), (6, va_rf a6)]) hx hb d_La_swap_17 hl (by decide) (by cases a6 <;> rfl) (fun ls hl => ?_)
      refine lv_iconst (v := 1) hx hb d_La_swap_19 (by decide) ?_
      refine W.widen (k := 5) (n := 46) (by omega) (by omega) ?_
      exact W.iret hx hb hr (fun t ht hWm => ⟨⟨_, _, rfl, h, hw_t ht hW⟩, hS.F ht⟩) hS.2.2 d_La_swap_20
    · refine hq_catch hts hZ0 hq hown [(0, 14, 17, 13, "java/lang/IllegalArgumentException")] (0, 14, 21, 21) [(0, 14, 25, 15), (0, 14, 29, 23)] htab (List.forall_mem_cons.mpr ⟨⟨by decide, bw_120, by decide, by decide⟩, fun _ h => absurd h List.not_mem_nil⟩) (by decide) (by decide) (by decide) bw_294 (by decide) hce hcv hcl ?_
      refine lv_astore (lv' := [(7, .ref q9), (0, .ref b9), (1, .int x1), (2, .int x2), (3, .int x3), (4, .double x4), (6, va_rf a6)]) hx hb d_La_swap_21 hl (by decide) (by cases a6 <;> rfl) (fun ls hl => ?_)
      refine lv_iconst (v := 2) hx hb d_La_swap_23 (by decide) ?_
      refine W.widen (k := 5) (n := 46) (by omega) (by omega) ?_
      exact W.iret hx hb hr (fun t ht hWm => ⟨⟨_, _, rfl, h, hw_t ht hW⟩, hS.F ht⟩) hS.2.2 d_La_swap_24
    · refine hq_catch hts hZ0 hq hown [(0, 14, 17, 13, "java/lang/IllegalArgumentException"), (0, 14, 21, 21, "java/util/NoSuchElementException")] (0, 14, 25, 15) [(0, 14, 29, 23)] htab (List.forall_mem_cons.mpr ⟨⟨by decide, bw_120, by decide, by decide⟩, List.forall_mem_cons.mpr ⟨⟨by decide, bw_294, by decide, by decide⟩, fun _ h => absurd h List.not_mem_nil⟩⟩) (by decide) (by decide) (by decide) bw_121 (by decide) hce hcv hcl ?_
      refine lv_astore (lv' := [(7, .ref q9), (0, .ref b9), (1, .int x1), (2, .int x2), (3, .int x3), (4, .double x4), (6, va_rf a6)]) hx hb d_La_swap_25 hl (by decide) (by cases a6 <;> rfl) (fun ls hl => ?_)
      refine lv_iconst (v := 3) hx hb d_La_swap_27 (by decide) ?_
      refine W.widen (k := 5) (n := 46) (by omega) (by omega) ?_
      exact W.iret hx hb hr (fun t ht hWm => ⟨⟨_, _, rfl, h, hw_t ht hW⟩, hS.F ht⟩) hS.2.2 d_La_swap_28
    · refine hq_catch hts hZ0 hq hown [(0, 14, 17, 13, "java/lang/IllegalArgumentException"), (0, 14, 21, 21, "java/util/NoSuchElementException"), (0, 14, 25, 15, "java/lang/IllegalStateException")] (0, 14, 29, 23) [] htab (List.forall_mem_cons.mpr ⟨⟨by decide, bw_120, by decide, by decide⟩, List.forall_mem_cons.mpr ⟨⟨by decide, bw_294, by decide, by decide⟩, List.forall_mem_cons.mpr ⟨⟨by decide, bw_121, by decide, by decide⟩, fun _ h => absurd h List.not_mem_nil⟩⟩⟩) (by decide) (by decide) (by decide) bw_295 (by decide) hce hcv hcl ?_
      refine lv_astore (lv' := [(7, .ref q9), (0, .ref b9), (1, .int x1), (2, .int x2), (3, .int x3), (4, .double x4), (6, va_rf a6)]) hx hb d_La_swap_29 hl (by decide) (by cases a6 <;> rfl) (fun ls hl => ?_)
      refine lv_iconst (v := 4) hx hb d_La_swap_31 (by decide) ?_
      refine W.widen (k := 5) (n := 46) (by omega) (by omega) ?_
      exact W.iret hx hb hr (fun t ht hWm => ⟨⟨_, _, rfl, h, hw_t ht hW⟩, hS.F ht⟩) hS.2.2 d_La_swap_32
  · obtain ⟨hd, hW⟩ := hw_join hd hW hF hk ht hB1
    replace h := h hd _ rfl
    generalize uni Mc14 Mb13 = M11 at h hW
    clear h9
    refine lv_i2l hx hb d_La_swap_12 rfl ?_
    obtain ⟨b15, rfl, h⟩ := h
    obtain ⟨n, f, h1, h2, h⟩ := h
    obtain ⟨ws, q0, hq, hP, hD, hback, -⟩ := hw_open hW h1
    refine va_last hx hb hK hP hD hS q0 3 hq rfl h2 d_La_swap_13 (fun H locs hP hD hS => ?_)
    have hW := hback _ _ hP hD
    generalize hM2 : va_up M11 b15 _ = M16 at h hW
    refine lv_goto (tgt := 33) hx hb d_La_swap_14 (by decide) ?_
    refine lv_iconst (v := 0) hx hb d_La_swap_33 (by decide) ?_
    refine W.widen (k := 5) (n := 46) (by omega) (by omega) ?_
    exact W.iret hx hb hr (fun t ht hWm => ⟨⟨_, _, rfl, h, hw_t ht hW⟩, hS.F ht⟩) hS.2.2 d_La_swap_34
set_option maxRecDepth 20000 in
theorem c_La_swap {l : Launch} (hl0 : l.stackTraces = false) {D : va_G} {ca G : Nat → Nat} (post : Int32 → hM → Prop) {M : hM} {sz : Nat} {a0 : Option Nat} {x1 : Int32} {x2 : Int32} {x3 : Int32} {x4 : UInt64} {a6 : Option Nat} (h : wp_La_swap G ca post M a0 x1 x2 x3 x4 a6) : Met l y_La_swap (wzH y_La_swap method_6_code 8 (some .int) [(0, 14, 17, 13), (0, 14, 21, 21), (0, 14, 25, 15), (0, 14, 29, 23)]) rm_La_swap (va_Pc [va_rf a0, .int x1, .int x2, .int x3, .double x4, va_rf a6] (hJ D ca G sz M)) (va_Qi post (hB D M sz) (hp_A M sz)) 5 46 (hp_A M sz) := by
  refine va_MetW (cc := method_6_code) (maxL := 8) (ret := some .int) (hh := [(0, 14, 17, 13), (0, 14, 21, 21), (0, 14, 25, 15), (0, 14, 29, 23)]) (by decide) rfl ?_
  intro p e s m args below meth c s₁ B hml hv
  obtain ⟨rfl, ⟨hsz, hW, hK, hZ0⟩, hq⟩ := hv
  have hta := atoms_spec (ws := wzH y_La_swap method_6_code 8 (some .int) [(0, 14, 17, 13), (0, 14, 21, 21), (0, 14, 25, 15), (0, 14, 29, 23)]) B.pre
  have hts := fun w hw => hta w (List.mem_cons_of_mem _ hw)
  have hown : s.vm.findClass "ChannelHallLaw" = some m.cls := findClass_of_methodNamed B.named
  subst hsz
  have hl : lv_has ((lg_sl [va_rf a0, .int x1, .int x2, .int x3, .double x4, va_rf a6] ++ List.replicate (8 - (lg_sl [va_rf a0, .int x1, .int x2, .int x3, .double x4, va_rf a6]).length) Slot.unset).toArray) 8 [(0, va_rf a0), (1, .int x1), (2, .int x2), (3, .int x3), (4, .double x4), (6, va_rf a6)] := by cases a0 <;> cases a6 <;> exact lv_entry _ (Nat.le_of_ble_eq_true rfl)
  rw [lg_entry_eq]
  exact l_La_swap_e ⟨B.exec, B.bytes, B.returns, hml, hown, hts, B.notSynchronized, hK, fun q h => Or.inr h, hZ0⟩ hl0 hq (vx_table (x := y_La_swap) B (hta _ List.mem_cons_self)) a0 x1 x2 x3 x4 a6 (Nat.zero_le _) (Nat.zero_le _) h hW va_S.rf hl

theorem d_La_arrive_0 : decode method_7_code 0 = .ok (.aload 5, 2) := by decide +kernel
theorem d_La_arrive_2 : decode method_7_code 2 = .ok (.iconst 0, 1) := by decide +kernel
theorem d_La_arrive_3 : decode method_7_code 3 = .ok (.aload_n 0, 1) := by decide +kernel
theorem d_La_arrive_4 : decode method_7_code 4 = .ok (.iload_n 1, 1) := by decide +kernel
theorem d_La_arrive_5 : decode method_7_code 5 = .ok (.iload_n 2, 1) := by decide +kernel
theorem d_La_arrive_6 : decode method_7_code 6 = .ok (.dload_n 3, 1) := by decide +kernel
theorem d_La_arrive_7 : decode method_7_code 7 = .ok (.invokevirtual 33, 3) := by decide +kernel
theorem d_La_arrive_10 : decode method_7_code 10 = .ok (.i2l, 1) := by decide +kernel
theorem d_La_arrive_11 : decode method_7_code 11 = .ok (.lastore, 1) := by decide +kernel
theorem d_La_arrive_12 : decode method_7_code 12 = .ok (.goto 23, 3) := by decide +kernel
theorem d_La_arrive_15 : decode method_7_code 15 = .ok (.astore 6, 2) := by decide +kernel
theorem d_La_arrive_17 : decode method_7_code 17 = .ok (.iconst 1, 1) := by decide +kernel
theorem d_La_arrive_18 : decode method_7_code 18 = .ok (.ireturn, 1) := by decide +kernel
theorem d_La_arrive_19 : decode method_7_code 19 = .ok (.astore 6, 2) := by decide +kernel
theorem d_La_arrive_21 : decode method_7_code 21 = .ok (.iconst 2, 1) := by decide +kernel
theorem d_La_arrive_22 : decode method_7_code 22 = .ok (.ireturn, 1) := by decide +kernel
theorem d_La_arrive_23 : decode method_7_code 23 = .ok (.astore 6, 2) := by decide +kernel
theorem d_La_arrive_25 : decode method_7_code 25 = .ok (.iconst 3, 1) := by decide +kernel
theorem d_La_arrive_26 : decode method_7_code 26 = .ok (.ireturn, 1) := by decide +kernel
theorem d_La_arrive_27 : decode method_7_code 27 = .ok (.astore 6, 2) := by decide +kernel
theorem d_La_arrive_29 : decode method_7_code 29 = .ok (.iconst 4, 1) := by decide +kernel
theorem d_La_arrive_30 : decode method_7_code 30 = .ok (.ireturn, 1) := by decide +kernel
theorem d_La_arrive_31 : decode method_7_code 31 = .ok (.astore 6, 2) := by decide +kernel
theorem d_La_arrive_33 : decode method_7_code 33 = .ok (.iconst 5, 1) := by decide +kernel
theorem d_La_arrive_34 : decode method_7_code 34 = .ok (.ireturn, 1) := by decide +kernel
theorem d_La_arrive_35 : decode method_7_code 35 = .ok (.iconst 0, 1) := by decide +kernel
theorem d_La_arrive_36 : decode method_7_code 36 = .ok (.ireturn, 1) := by decide +kernel
def y_La_arrive : MethodName := ⟨"ChannelHallLaw", "arrive", "(LChannelHall;IID[J)I"⟩
abbrev rm_La_arrive : Room := { frames := 9, cells := 5, slots := 46, locals := 224 }
def wp_La_arrive (G ca : Nat → Nat) (post : Int32 → hM → Prop) (M : hM) (a0 : Option Nat) (x1 : Int32) (x2 : Int32) (x3 : UInt64) (a5 : Option Nat) : Prop := nN a0 fun b9 => spl M fun Ma12 Mb13 => rC Ma12 b9 3 (wp_Ha_arrive G ca (fun r10 Mc14 => dis Mc14 Mb13 → ∀ M11 : hM, M11 = uni Mc14 Mb13 → nN a5 fun b15 => sJ M11 b15 (ca 3) 0 r10.toInt64 fun M16 => post 0 M16) (fun E Mc14 => dis Mc14 Mb13 → ∀ M11 : hM, M11 = uni Mc14 Mb13 → (E = "java/lang/IllegalArgumentException" ∧ post 1 M11) ∨ (E = "java/util/NoSuchElementException" ∧ post 2 M11) ∨ (E = "java/lang/IllegalStateException" ∧ post 3 M11) ∨ (E = "java/lang/UnsupportedOperationException" ∧ post 4 M11) ∨ (E = "java/lang/ArithmeticException" ∧ post 5 M11)) Ma12 b9 x1 x2 x3)
set_option maxHeartbeats 1000000 in
set_option maxRecDepth 20000 in
theorem l_La_arrive_e {p : Program} {l : Launch} {e : Env} {s : State} {m : MethodId} {args : Array Value} {below : List Frame} {meth : Method} {c : Code} {D : va_G} {ca G : Nat → Nat} {A : Nat → Prop} (C0 : hC p s m args meth c D ca G method_7_code 7 (some .int) "ChannelHallLaw" A) (hl0 : l.stackTraces = false) (hq : hQ s) (htab : c.exceptionTable.toList = tableOf [(0, 12, 15, 13), (0, 12, 19, 21), (0, 12, 23, 15), (0, 12, 27, 23), (0, 12, 31, 36)]) {post : Int32 → hM → Prop} {M : hM} {H : Heap} {locs : List Loc} {ls : Array Slot} {cells slots : Nat} (a0 : Option Nat) (x1 : Int32) (x2 : Int32) (x3 : UInt64) (a5 : Option Nat) (hc : cells ≤ 0) (hs : slots ≤ 0) (h : wp_La_arrive G ca post M a0 x1 x2 x3 a5) (hW : hw D wCl A M H) (hS : va_S A s.heap H locs) (hl : lv_has ls 7 [(0, va_rf a0), (1, .int x1), (2, .int x2), (3, .double x3), (5, va_rf a5)]) : W p l e rm_La_arrive s m args below meth c H locs cells slots (MQ below (va_Qi post (fun M' t => hw D wCl A M' t.heap) A) args s 5 46 A) (F0 m 0 ls []) := by
  obtain ⟨hx, hb, hr, hml, hown, hts, hlocks, hK, hA, hZ0⟩ := id C0
  refine lq_load hx hb d_La_arrive_0 (lv_at hl 4 rfl) ?_
  refine lv_iconst (v := 0) hx hb d_La_arrive_2 (by decide) ?_
  refine lq_load_n hx hb d_La_arrive_3 rfl (lv_at hl 0 rfl) ?_
  refine lv_iload_n hx hb d_La_arrive_4 rfl (lv_at hl 1 rfl) ?_
  refine lv_iload_n hx hb d_La_arrive_5 rfl (lv_at hl 2 rfl) ?_
  refine lv_dload_n hx hb d_La_arrive_6 rfl (lv_at hl 3 rfl) ?_
  obtain ⟨b9, rfl, h⟩ := h
  obtain ⟨Ma12, Mb13, hd, he, h7⟩ := h
  subst he
  have h := h7
  clear h7
  obtain ⟨⟨fs, h1⟩, h⟩ := h
  have h9 := h
  clear h
  have hW1 := hw_left hW
  have hF := hW1.free hS hA
  refine vx_calli (vx_runV (As := [.int x1, .int x2, .double x3]) (rest := [.int 0, va_rf a5]) ⟨hx, hb, hml, hown, hts⟩ (c_Ha_arrive hl0 _ _ h9) (cwV 3 hts (gi_V bw_842 bw_843 bw_844 bw_1 bw_845) rfl rfl rfl (by decide +kernel) ⟨Nat.le_of_ble_eq_true rfl, Nat.le_of_ble_eq_true rfl⟩) ⟨hI.blind, hw_recv hK hW1 h1 rfl, hI.give hW1 hS hA hK hZ0⟩ rfl rfl hl.1 rfl (lv_room (by cases a5 <;> exact Nat.le_of_ble_eq_true rfl)) d_La_arrive_7 ⟨(show _ ≤ 5 by omega), (show _ ≤ 46 by omega)⟩) hS (fun q _ z => hF q z) hF (fun q _ z => hF q z) (fun E ce q9 Mc14 t H locs ht _ _ h8 _ hk hS hce hcv hcl => ?_) (fun r10 Mc14 t H locs ht _ h hB1 _ hk hS => ?_)
  · obtain ⟨hd, hW⟩ := hw_join hd hW hF hk ht h8.2
    have h := h8.1 hd _ rfl
    generalize uni Mc14 Mb13 = M11 at h hW
    clear h8 h9
    rcases h with ⟨rfl, h⟩ | ⟨rfl, h⟩ | ⟨rfl, h⟩ | ⟨rfl, h⟩ | ⟨rfl, h⟩
    · refine hq_catch hts hZ0 hq hown [] (0, 12, 15, 13) [(0, 12, 19, 21), (0, 12, 23, 15), (0, 12, 27, 23), (0, 12, 31, 36)] htab (fun _ h => absurd h List.not_mem_nil) (by decide) (by decide) (by decide) bw_120 (by decide) hce hcv hcl ?_
      refine lv_astore (lv' := [(6, .ref q9), (0, .ref b9), (1, .int x1), (2, .int x2), (3, .double x3), (5, va_rf a5)]) hx hb d_La_arrive_15 hl (by decide) (by cases a5 <;> rfl) (fun ls hl => ?_)
      refine lv_iconst (v := 1) hx hb d_La_arrive_17 (by decide) ?_
      refine W.widen (k := 5) (n := 46) (by omega) (by omega) ?_
      exact W.iret hx hb hr (fun t ht hWm => ⟨⟨_, _, rfl, h, hw_t ht hW⟩, hS.F ht⟩) hS.2.2 d_La_arrive_18
    · refine hq_catch hts hZ0 hq hown [(0, 12, 15, 13, "java/lang/IllegalArgumentException")] (0, 12, 19, 21) [(0, 12, 23, 15), (0, 12, 27, 23), (0, 12, 31, 36)] htab (List.forall_mem_cons.mpr ⟨⟨by decide, bw_120, by decide, by decide⟩, fun _ h => absurd h List.not_mem_nil⟩) (by decide) (by decide) (by decide) bw_294 (by decide) hce hcv hcl ?_
      refine lv_astore (lv' := [(6, .ref q9), (0, .ref b9), (1, .int x1), (2, .int x2), (3, .double x3), (5, va_rf a5)]) hx hb d_La_arrive_19 hl (by decide) (by cases a5 <;> rfl) (fun ls hl => ?_)
      refine lv_iconst (v := 2) hx hb d_La_arrive_21 (by decide) ?_
      refine W.widen (k := 5) (n := 46) (by omega) (by omega) ?_
      exact W.iret hx hb hr (fun t ht hWm => ⟨⟨_, _, rfl, h, hw_t ht hW⟩, hS.F ht⟩) hS.2.2 d_La_arrive_22
    · refine hq_catch hts hZ0 hq hown [(0, 12, 15, 13, "java/lang/IllegalArgumentException"), (0, 12, 19, 21, "java/util/NoSuchElementException")] (0, 12, 23, 15) [(0, 12, 27, 23), (0, 12, 31, 36)] htab (List.forall_mem_cons.mpr ⟨⟨by decide, bw_120, by decide, by decide⟩, List.forall_mem_cons.mpr ⟨⟨by decide, bw_294, by decide, by decide⟩, fun _ h => absurd h List.not_mem_nil⟩⟩) (by decide) (by decide) (by decide) bw_121 (by decide) hce hcv hcl ?_
      refine lv_astore (lv' := [(6, .ref q9), (0, .ref b9), (1, .int x1), (2, .int x2), (3, .double x3), (5, va_rf a5)]) hx hb d_La_arrive_23 hl (by decide) (by cases a5 <;> rfl) (fun ls hl => ?_)
      refine lv_iconst (v := 3) hx hb d_La_arrive_25 (by decide) ?_
      refine W.widen (k := 5) (n := 46) (by omega) (by omega) ?_
      exact W.iret hx hb hr (fun t ht hWm => ⟨⟨_, _, rfl, h, hw_t ht hW⟩, hS.F ht⟩) hS.2.2 d_La_arrive_26
    · refine hq_catch hts hZ0 hq hown [(0, 12, 15, 13, "java/lang/IllegalArgumentException"), (0, 12, 19, 21, "java/util/NoSuchElementException"), (0, 12, 23, 15, "java/lang/IllegalStateException")] (0, 12, 27, 23) [(0, 12, 31, 36)] htab (List.forall_mem_cons.mpr ⟨⟨by decide, bw_120, by decide, by decide⟩, List.forall_mem_cons.mpr ⟨⟨by decide, bw_294, by decide, by decide⟩, List.forall_mem_cons.mpr ⟨⟨by decide, bw_121, by decide, by decide⟩, fun _ h => absurd h List.not_mem_nil⟩⟩⟩) (by decide) (by decide) (by decide) bw_295 (by decide) hce hcv hcl ?_
      refine lv_astore (lv' := [(6, .ref q9), (0, .ref b9), (1, .int x1), (2, .int x2), (3, .double x3), (5, va_rf a5)]) hx hb d_La_arrive_27 hl (by decide) (by cases a5 <;> rfl) (fun ls hl => ?_)
      refine lv_iconst (v := 4) hx hb d_La_arrive_29 (by decide) ?_
      refine W.widen (k := 5) (n := 46) (by omega) (by omega) ?_
      exact W.iret hx hb hr (fun t ht hWm => ⟨⟨_, _, rfl, h, hw_t ht hW⟩, hS.F ht⟩) hS.2.2 d_La_arrive_30
    · refine hq_catch hts hZ0 hq hown [(0, 12, 15, 13, "java/lang/IllegalArgumentException"), (0, 12, 19, 21, "java/util/NoSuchElementException"), (0, 12, 23, 15, "java/lang/IllegalStateException"), (0, 12, 27, 23, "java/lang/UnsupportedOperationException")] (0, 12, 31, 36) [] htab (List.forall_mem_cons.mpr ⟨⟨by decide, bw_120, by decide, by decide⟩, List.forall_mem_cons.mpr ⟨⟨by decide, bw_294, by decide, by decide⟩, List.forall_mem_cons.mpr ⟨⟨by decide, bw_121, by decide, by decide⟩, List.forall_mem_cons.mpr ⟨⟨by decide, bw_295, by decide, by decide⟩, fun _ h => absurd h List.not_mem_nil⟩⟩⟩⟩) (by decide) (by decide) (by decide) bw_841 (by decide) hce hcv hcl ?_
      refine lv_astore (lv' := [(6, .ref q9), (0, .ref b9), (1, .int x1), (2, .int x2), (3, .double x3), (5, va_rf a5)]) hx hb d_La_arrive_31 hl (by decide) (by cases a5 <;> rfl) (fun ls hl => ?_)
      refine lv_iconst (v := 5) hx hb d_La_arrive_33 (by decide) ?_
      refine W.widen (k := 5) (n := 46) (by omega) (by omega) ?_
      exact W.iret hx hb hr (fun t ht hWm => ⟨⟨_, _, rfl, h, hw_t ht hW⟩, hS.F ht⟩) hS.2.2 d_La_arrive_34
  · obtain ⟨hd, hW⟩ := hw_join hd hW hF hk ht hB1
    replace h := h hd _ rfl
    generalize uni Mc14 Mb13 = M11 at h hW
    clear h9
    refine lv_i2l hx hb d_La_arrive_10 rfl ?_
    obtain ⟨b15, rfl, h⟩ := h
    obtain ⟨n, f, h1, h2, h⟩ := h
    obtain ⟨ws, q0, hq, hP, hD, hback, -⟩ := hw_open hW h1
    refine va_last hx hb hK hP hD hS q0 3 hq rfl h2 d_La_arrive_11 (fun H locs hP hD hS => ?_)
    have hW := hback _ _ hP hD
    generalize hM2 : va_up M11 b15 _ = M16 at h hW
    refine lv_goto (tgt := 35) hx hb d_La_arrive_12 (by decide) ?_
    refine lv_iconst (v := 0) hx hb d_La_arrive_35 (by decide) ?_
    refine W.widen (k := 5) (n := 46) (by omega) (by omega) ?_
    exact W.iret hx hb hr (fun t ht hWm => ⟨⟨_, _, rfl, h, hw_t ht hW⟩, hS.F ht⟩) hS.2.2 d_La_arrive_36
set_option maxRecDepth 20000 in
theorem c_La_arrive {l : Launch} (hl0 : l.stackTraces = false) {D : va_G} {ca G : Nat → Nat} (post : Int32 → hM → Prop) {M : hM} {sz : Nat} {a0 : Option Nat} {x1 : Int32} {x2 : Int32} {x3 : UInt64} {a5 : Option Nat} (h : wp_La_arrive G ca post M a0 x1 x2 x3 a5) : Met l y_La_arrive (wzH y_La_arrive method_7_code 7 (some .int) [(0, 12, 15, 13), (0, 12, 19, 21), (0, 12, 23, 15), (0, 12, 27, 23), (0, 12, 31, 36)]) rm_La_arrive (va_Pc [va_rf a0, .int x1, .int x2, .double x3, va_rf a5] (hJ D ca G sz M)) (va_Qi post (hB D M sz) (hp_A M sz)) 5 46 (hp_A M sz) := by
  refine va_MetW (cc := method_7_code) (maxL := 7) (ret := some .int) (hh := [(0, 12, 15, 13), (0, 12, 19, 21), (0, 12, 23, 15), (0, 12, 27, 23), (0, 12, 31, 36)]) (by decide) rfl ?_
  intro p e s m args below meth c s₁ B hml hv
  obtain ⟨rfl, ⟨hsz, hW, hK, hZ0⟩, hq⟩ := hv
  have hta := atoms_spec (ws := wzH y_La_arrive method_7_code 7 (some .int) [(0, 12, 15, 13), (0, 12, 19, 21), (0, 12, 23, 15), (0, 12, 27, 23), (0, 12, 31, 36)]) B.pre
  have hts := fun w hw => hta w (List.mem_cons_of_mem _ hw)
  have hown : s.vm.findClass "ChannelHallLaw" = some m.cls := findClass_of_methodNamed B.named
  subst hsz
  have hl : lv_has ((lg_sl [va_rf a0, .int x1, .int x2, .double x3, va_rf a5] ++ List.replicate (7 - (lg_sl [va_rf a0, .int x1, .int x2, .double x3, va_rf a5]).length) Slot.unset).toArray) 7 [(0, va_rf a0), (1, .int x1), (2, .int x2), (3, .double x3), (5, va_rf a5)] := by cases a0 <;> cases a5 <;> exact lv_entry _ (Nat.le_of_ble_eq_true rfl)
  rw [lg_entry_eq]
  exact l_La_arrive_e ⟨B.exec, B.bytes, B.returns, hml, hown, hts, B.notSynchronized, hK, fun q h => Or.inr h, hZ0⟩ hl0 hq (vx_table (x := y_La_arrive) B (hta _ List.mem_cons_self)) a0 x1 x2 x3 a5 (Nat.zero_le _) (Nat.zero_le _) h hW va_S.rf hl

theorem d_La_reset_0 : decode method_8_code 0 = .ok (.aload_n 2, 1) := by decide +kernel
theorem d_La_reset_1 : decode method_8_code 1 = .ok (.iconst 0, 1) := by decide +kernel
theorem d_La_reset_2 : decode method_8_code 2 = .ok (.aload_n 0, 1) := by decide +kernel
theorem d_La_reset_3 : decode method_8_code 3 = .ok (.iload_n 1, 1) := by decide +kernel
theorem d_La_reset_4 : decode method_8_code 4 = .ok (.invokevirtual 38, 3) := by decide +kernel
theorem d_La_reset_7 : decode method_8_code 7 = .ok (.i2l, 1) := by decide +kernel
theorem d_La_reset_8 : decode method_8_code 8 = .ok (.lastore, 1) := by decide +kernel
theorem d_La_reset_9 : decode method_8_code 9 = .ok (.goto 12, 3) := by decide +kernel
theorem d_La_reset_12 : decode method_8_code 12 = .ok (.astore_n 3, 1) := by decide +kernel
theorem d_La_reset_13 : decode method_8_code 13 = .ok (.iconst 1, 1) := by decide +kernel
theorem d_La_reset_14 : decode method_8_code 14 = .ok (.ireturn, 1) := by decide +kernel
theorem d_La_reset_15 : decode method_8_code 15 = .ok (.astore_n 3, 1) := by decide +kernel
theorem d_La_reset_16 : decode method_8_code 16 = .ok (.iconst 2, 1) := by decide +kernel
theorem d_La_reset_17 : decode method_8_code 17 = .ok (.ireturn, 1) := by decide +kernel
theorem d_La_reset_18 : decode method_8_code 18 = .ok (.astore_n 3, 1) := by decide +kernel
theorem d_La_reset_19 : decode method_8_code 19 = .ok (.iconst 3, 1) := by decide +kernel
theorem d_La_reset_20 : decode method_8_code 20 = .ok (.ireturn, 1) := by decide +kernel
theorem d_La_reset_21 : decode method_8_code 21 = .ok (.iconst 0, 1) := by decide +kernel
theorem d_La_reset_22 : decode method_8_code 22 = .ok (.ireturn, 1) := by decide +kernel
def y_La_reset : MethodName := ⟨"ChannelHallLaw", "reset", "(LChannelHall;I[J)I"⟩
abbrev rm_La_reset : Room := { frames := 8, cells := 3, slots := 18, locals := 126 }
def wp_La_reset (G ca : Nat → Nat) (post : Int32 → hM → Prop) (M : hM) (a0 : Option Nat) (x1 : Int32) (a2 : Option Nat) : Prop := nN a0 fun b9 => spl M fun Ma12 Mb13 => rC Ma12 b9 3 (wp_Ha_reset G ca (fun r10 Mc14 => dis Mc14 Mb13 → ∀ M11 : hM, M11 = uni Mc14 Mb13 → nN a2 fun b15 => sJ M11 b15 (ca 3) 0 r10.toInt64 fun M16 => post 0 M16) (fun E Mc14 => dis Mc14 Mb13 → ∀ M11 : hM, M11 = uni Mc14 Mb13 → (E = "java/lang/IllegalArgumentException" ∧ post 1 M11) ∨ (E = "java/util/NoSuchElementException" ∧ post 2 M11) ∨ (E = "java/lang/UnsupportedOperationException" ∧ post 3 M11)) Ma12 b9 x1)
set_option maxHeartbeats 1000000 in
set_option maxRecDepth 20000 in
theorem l_La_reset_e {p : Program} {l : Launch} {e : Env} {s : State} {m : MethodId} {args : Array Value} {below : List Frame} {meth : Method} {c : Code} {D : va_G} {ca G : Nat → Nat} {A : Nat → Prop} (C0 : hC p s m args meth c D ca G method_8_code 4 (some .int) "ChannelHallLaw" A) (hl0 : l.stackTraces = false) (hq : hQ s) (htab : c.exceptionTable.toList = tableOf [(0, 9, 12, 13), (0, 9, 15, 21), (0, 9, 18, 23)]) {post : Int32 → hM → Prop} {M : hM} {H : Heap} {locs : List Loc} {ls : Array Slot} {cells slots : Nat} (a0 : Option Nat) (x1 : Int32) (a2 : Option Nat) (hc : cells ≤ 0) (hs : slots ≤ 0) (h : wp_La_reset G ca post M a0 x1 a2) (hW : hw D wCl A M H) (hS : va_S A s.heap H locs) (hl : lv_has ls 4 [(0, va_rf a0), (1, .int x1), (2, va_rf a2)]) : W p l e rm_La_reset s m args below meth c H locs cells slots (MQ below (va_Qi post (fun M' t => hw D wCl A M' t.heap) A) args s 3 18 A) (F0 m 0 ls []) := by
  obtain ⟨hx, hb, hr, hml, hown, hts, hlocks, hK, hA, hZ0⟩ := id C0
  refine lq_load_n hx hb d_La_reset_0 rfl (lv_at hl 2 rfl) ?_
  refine lv_iconst (v := 0) hx hb d_La_reset_1 (by decide) ?_
  refine lq_load_n hx hb d_La_reset_2 rfl (lv_at hl 0 rfl) ?_
  refine lv_iload_n hx hb d_La_reset_3 rfl (lv_at hl 1 rfl) ?_
  obtain ⟨b9, rfl, h⟩ := h
  obtain ⟨Ma12, Mb13, hd, he, h7⟩ := h
  subst he
  have h := h7
  clear h7
  obtain ⟨⟨fs, h1⟩, h⟩ := h
  have h9 := h
  clear h
  have hW1 := hw_left hW
  have hF := hW1.free hS hA
  refine vx_calli (vx_runV (As := [.int x1]) (rest := [.int 0, va_rf a2]) ⟨hx, hb, hml, hown, hts⟩ (c_Ha_reset hl0 _ _ h9) (cwV 1 hts (gi_V bw_878 bw_879 bw_880 bw_1 bw_881) rfl rfl rfl (by decide +kernel) ⟨Nat.le_of_ble_eq_true rfl, Nat.le_of_ble_eq_true rfl⟩) ⟨hI.blind, hw_recv hK hW1 h1 rfl, hI.give hW1 hS hA hK hZ0⟩ rfl rfl hl.1 rfl (lv_room (by cases a2 <;> exact Nat.le_of_ble_eq_true rfl)) d_La_reset_4 ⟨(show _ ≤ 3 by omega), (show _ ≤ 18 by omega)⟩) hS (fun q _ z => hF q z) hF (fun q _ z => hF q z) (fun E ce q9 Mc14 t H locs ht _ _ h8 _ hk hS hce hcv hcl => ?_) (fun r10 Mc14 t H locs ht _ h hB1 _ hk hS => ?_)
  · obtain ⟨hd, hW⟩ := hw_join hd hW hF hk ht h8.2
    have h := h8.1 hd _ rfl
    generalize uni Mc14 Mb13 = M11 at h hW
    clear h8 h9
    rcases h with ⟨rfl, h⟩ | ⟨rfl, h⟩ | ⟨rfl, h⟩
    · refine hq_catch hts hZ0 hq hown [] (0, 9, 12, 13) [(0, 9, 15, 21), (0, 9, 18, 23)] htab (fun _ h => absurd h List.not_mem_nil) (by decide) (by decide) (by decide) bw_120 (by decide) hce hcv hcl ?_
      refine lv_astore_n (lv' := [(3, .ref q9), (0, .ref b9), (1, .int x1), (2, va_rf a2)]) hx hb d_La_reset_12 rfl hl (by decide) (by cases a2 <;> rfl) (fun ls hl => ?_)
      refine lv_iconst (v := 1) hx hb d_La_reset_13 (by decide) ?_
      refine W.widen (k := 3) (n := 18) (by omega) (by omega) ?_
      exact W.iret hx hb hr (fun t ht hWm => ⟨⟨_, _, rfl, h, hw_t ht hW⟩, hS.F ht⟩) hS.2.2 d_La_reset_14
    · refine hq_catch hts hZ0 hq hown [(0, 9, 12, 13, "java/lang/IllegalArgumentException")] (0, 9, 15, 21) [(0, 9, 18, 23)] htab (List.forall_mem_cons.mpr ⟨⟨by decide, bw_120, by decide, by decide⟩, fun _ h => absurd h List.not_mem_nil⟩) (by decide) (by decide) (by decide) bw_294 (by decide) hce hcv hcl ?_
      refine lv_astore_n (lv' := [(3, .ref q9), (0, .ref b9), (1, .int x1), (2, va_rf a2)]) hx hb d_La_reset_15 rfl hl (by decide) (by cases a2 <;> rfl) (fun ls hl => ?_)
      refine lv_iconst (v := 2) hx hb d_La_reset_16 (by decide) ?_
      refine W.widen (k := 3) (n := 18) (by omega) (by omega) ?_
      exact W.iret hx hb hr (fun t ht hWm => ⟨⟨_, _, rfl, h, hw_t ht hW⟩, hS.F ht⟩) hS.2.2 d_La_reset_17
    · refine hq_catch hts hZ0 hq hown [(0, 9, 12, 13, "java/lang/IllegalArgumentException"), (0, 9, 15, 21, "java/util/NoSuchElementException")] (0, 9, 18, 23) [] htab (List.forall_mem_cons.mpr ⟨⟨by decide, bw_120, by decide, by decide⟩, List.forall_mem_cons.mpr ⟨⟨by decide, bw_294, by decide, by decide⟩, fun _ h => absurd h List.not_mem_nil⟩⟩) (by decide) (by decide) (by decide) bw_295 (by decide) hce hcv hcl ?_
      refine lv_astore_n (lv' := [(3, .ref q9), (0, .ref b9), (1, .int x1), (2, va_rf a2)]) hx hb d_La_reset_18 rfl hl (by decide) (by cases a2 <;> rfl) (fun ls hl => ?_)
      refine lv_iconst (v := 3) hx hb d_La_reset_19 (by decide) ?_
      refine W.widen (k := 3) (n := 18) (by omega) (by omega) ?_
      exact W.iret hx hb hr (fun t ht hWm => ⟨⟨_, _, rfl, h, hw_t ht hW⟩, hS.F ht⟩) hS.2.2 d_La_reset_20
  · obtain ⟨hd, hW⟩ := hw_join hd hW hF hk ht hB1
    replace h := h hd _ rfl
    generalize uni Mc14 Mb13 = M11 at h hW
    clear h9
    refine lv_i2l hx hb d_La_reset_7 rfl ?_
    obtain ⟨b15, rfl, h⟩ := h
    obtain ⟨n, f, h1, h2, h⟩ := h
    obtain ⟨ws, q0, hq, hP, hD, hback, -⟩ := hw_open hW h1
    refine va_last hx hb hK hP hD hS q0 3 hq rfl h2 d_La_reset_8 (fun H locs hP hD hS => ?_)
    have hW := hback _ _ hP hD
    generalize hM2 : va_up M11 b15 _ = M16 at h hW
    refine lv_goto (tgt := 21) hx hb d_La_reset_9 (by decide) ?_
    refine lv_iconst (v := 0) hx hb d_La_reset_21 (by decide) ?_
    refine W.widen (k := 3) (n := 18) (by omega) (by omega) ?_
    exact W.iret hx hb hr (fun t ht hWm => ⟨⟨_, _, rfl, h, hw_t ht hW⟩, hS.F ht⟩) hS.2.2 d_La_reset_22
set_option maxRecDepth 20000 in
theorem c_La_reset {l : Launch} (hl0 : l.stackTraces = false) {D : va_G} {ca G : Nat → Nat} (post : Int32 → hM → Prop) {M : hM} {sz : Nat} {a0 : Option Nat} {x1 : Int32} {a2 : Option Nat} (h : wp_La_reset G ca post M a0 x1 a2) : Met l y_La_reset (wzH y_La_reset method_8_code 4 (some .int) [(0, 9, 12, 13), (0, 9, 15, 21), (0, 9, 18, 23)]) rm_La_reset (va_Pc [va_rf a0, .int x1, va_rf a2] (hJ D ca G sz M)) (va_Qi post (hB D M sz) (hp_A M sz)) 3 18 (hp_A M sz) := by
  refine va_MetW (cc := method_8_code) (maxL := 4) (ret := some .int) (hh := [(0, 9, 12, 13), (0, 9, 15, 21), (0, 9, 18, 23)]) (by decide) rfl ?_
  intro p e s m args below meth c s₁ B hml hv
  obtain ⟨rfl, ⟨hsz, hW, hK, hZ0⟩, hq⟩ := hv
  have hta := atoms_spec (ws := wzH y_La_reset method_8_code 4 (some .int) [(0, 9, 12, 13), (0, 9, 15, 21), (0, 9, 18, 23)]) B.pre
  have hts := fun w hw => hta w (List.mem_cons_of_mem _ hw)
  have hown : s.vm.findClass "ChannelHallLaw" = some m.cls := findClass_of_methodNamed B.named
  subst hsz
  have hl : lv_has ((lg_sl [va_rf a0, .int x1, va_rf a2] ++ List.replicate (4 - (lg_sl [va_rf a0, .int x1, va_rf a2]).length) Slot.unset).toArray) 4 [(0, va_rf a0), (1, .int x1), (2, va_rf a2)] := by cases a0 <;> cases a2 <;> exact lv_entry _ (Nat.le_of_ble_eq_true rfl)
  rw [lg_entry_eq]
  exact l_La_reset_e ⟨B.exec, B.bytes, B.returns, hml, hown, hts, B.notSynchronized, hK, fun q h => Or.inr h, hZ0⟩ hl0 hq (vx_table (x := y_La_reset) B (hta _ List.mem_cons_self)) a0 x1 a2 (Nat.zero_le _) (Nat.zero_le _) h hW va_S.rf hl

theorem d_La_interrupt_0 : decode method_9_code 0 = .ok (.aload_n 2, 1) := by decide +kernel
theorem d_La_interrupt_1 : decode method_9_code 1 = .ok (.iconst 0, 1) := by decide +kernel
theorem d_La_interrupt_2 : decode method_9_code 2 = .ok (.aload_n 0, 1) := by decide +kernel
theorem d_La_interrupt_3 : decode method_9_code 3 = .ok (.iload_n 1, 1) := by decide +kernel
theorem d_La_interrupt_4 : decode method_9_code 4 = .ok (.invokevirtual 42, 3) := by decide +kernel
theorem d_La_interrupt_7 : decode method_9_code 7 = .ok (.i2l, 1) := by decide +kernel
theorem d_La_interrupt_8 : decode method_9_code 8 = .ok (.lastore, 1) := by decide +kernel
theorem d_La_interrupt_9 : decode method_9_code 9 = .ok (.goto 6, 3) := by decide +kernel
theorem d_La_interrupt_12 : decode method_9_code 12 = .ok (.astore_n 3, 1) := by decide +kernel
theorem d_La_interrupt_13 : decode method_9_code 13 = .ok (.iconst 1, 1) := by decide +kernel
theorem d_La_interrupt_14 : decode method_9_code 14 = .ok (.ireturn, 1) := by decide +kernel
theorem d_La_interrupt_15 : decode method_9_code 15 = .ok (.iconst 0, 1) := by decide +kernel
theorem d_La_interrupt_16 : decode method_9_code 16 = .ok (.ireturn, 1) := by decide +kernel
def y_La_interrupt : MethodName := ⟨"ChannelHallLaw", "interrupt", "(LChannelHall;I[J)I"⟩
abbrev rm_La_interrupt : Room := { frames := 11, cells := 13, slots := 156, locals := 269 }
def wp_La_interrupt (G ca : Nat → Nat) (post : Int32 → hM → Prop) (M : hM) (a0 : Option Nat) (x1 : Int32) (a2 : Option Nat) : Prop := nN a0 fun b9 => spl M fun Ma12 Mb13 => rC Ma12 b9 3 (wp_Ha_interrupt G ca (fun r10 Mc14 => dis Mc14 Mb13 → ∀ M11 : hM, M11 = uni Mc14 Mb13 → nN a2 fun b15 => sJ M11 b15 (ca 3) 0 r10.toInt64 fun M16 => post 0 M16) (fun E Mc14 => dis Mc14 Mb13 → ∀ M11 : hM, M11 = uni Mc14 Mb13 → (E = "java/lang/IllegalArgumentException" ∧ post 1 M11)) Ma12 b9 x1)
set_option maxHeartbeats 1000000 in
set_option maxRecDepth 20000 in
theorem l_La_interrupt_e {p : Program} {l : Launch} {e : Env} {s : State} {m : MethodId} {args : Array Value} {below : List Frame} {meth : Method} {c : Code} {D : va_G} {ca G : Nat → Nat} {A : Nat → Prop} (C0 : hC p s m args meth c D ca G method_9_code 4 (some .int) "ChannelHallLaw" A) (hl0 : l.stackTraces = false) (hq : hQ s) (htab : c.exceptionTable.toList = tableOf [(0, 9, 12, 13)]) {post : Int32 → hM → Prop} {M : hM} {H : Heap} {locs : List Loc} {ls : Array Slot} {cells slots : Nat} (a0 : Option Nat) (x1 : Int32) (a2 : Option Nat) (hc : cells ≤ 0) (hs : slots ≤ 0) (h : wp_La_interrupt G ca post M a0 x1 a2) (hW : hw D wCl A M H) (hS : va_S A s.heap H locs) (hl : lv_has ls 4 [(0, va_rf a0), (1, .int x1), (2, va_rf a2)]) : W p l e rm_La_interrupt s m args below meth c H locs cells slots (MQ below (va_Qi post (fun M' t => hw D wCl A M' t.heap) A) args s 13 156 A) (F0 m 0 ls []) := by
  obtain ⟨hx, hb, hr, hml, hown, hts, hlocks, hK, hA, hZ0⟩ := id C0
  refine lq_load_n hx hb d_La_interrupt_0 rfl (lv_at hl 2 rfl) ?_
  refine lv_iconst (v := 0) hx hb d_La_interrupt_1 (by decide) ?_
  refine lq_load_n hx hb d_La_interrupt_2 rfl (lv_at hl 0 rfl) ?_
  refine lv_iload_n hx hb d_La_interrupt_3 rfl (lv_at hl 1 rfl) ?_
  obtain ⟨b9, rfl, h⟩ := h
  obtain ⟨Ma12, Mb13, hd, he, h7⟩ := h
  subst he
  have h := h7
  clear h7
  obtain ⟨⟨fs, h1⟩, h⟩ := h
  have h9 := h
  clear h
  have hW1 := hw_left hW
  have hF := hW1.free hS hA
  refine vx_calli (vx_runV (As := [.int x1]) (rest := [.int 0, va_rf a2]) ⟨hx, hb, hml, hown, hts⟩ (c_Ha_interrupt hl0 _ _ h9) (cwV 1 hts (gi_V bw_885 bw_886 bw_887 bw_1 bw_888) rfl rfl rfl (by decide +kernel) ⟨Nat.le_of_ble_eq_true rfl, Nat.le_of_ble_eq_true rfl⟩) ⟨hI.blind, hw_recv hK hW1 h1 rfl, hI.give hW1 hS hA hK hZ0⟩ rfl rfl hl.1 rfl (lv_room (by cases a2 <;> exact Nat.le_of_ble_eq_true rfl)) d_La_interrupt_4 ⟨(show _ ≤ 13 by omega), (show _ ≤ 156 by omega)⟩) hS (fun q _ z => hF q z) hF (fun q _ z => hF q z) (fun E ce q9 Mc14 t H locs ht _ _ h8 _ hk hS hce hcv hcl => ?_) (fun r10 Mc14 t H locs ht _ h hB1 _ hk hS => ?_)
  · obtain ⟨hd, hW⟩ := hw_join hd hW hF hk ht h8.2
    have h := h8.1 hd _ rfl
    generalize uni Mc14 Mb13 = M11 at h hW
    clear h8 h9
    obtain ⟨rfl, h⟩ := h
    refine hq_catch hts hZ0 hq hown [] (0, 9, 12, 13) [] htab (fun _ h => absurd h List.not_mem_nil) (by decide) (by decide) (by decide) bw_120 (by decide) hce hcv hcl ?_
    refine lv_astore_n (lv' := [(3, .ref q9), (0, .ref b9), (1, .int x1), (2, va_rf a2)]) hx hb d_La_interrupt_12 rfl hl (by decide) (by cases a2 <;> rfl) (fun ls hl => ?_)
    refine lv_iconst (v := 1) hx hb d_La_interrupt_13 (by decide) ?_
    refine W.widen (k := 13) (n := 156) (by omega) (by omega) ?_
    exact W.iret hx hb hr (fun t ht hWm => ⟨⟨_, _, rfl, h, hw_t ht hW⟩, hS.F ht⟩) hS.2.2 d_La_interrupt_14
  · obtain ⟨hd, hW⟩ := hw_join hd hW hF hk ht hB1
    replace h := h hd _ rfl
    generalize uni Mc14 Mb13 = M11 at h hW
    clear h9
    refine lv_i2l hx hb d_La_interrupt_7 rfl ?_
    obtain ⟨b15, rfl, h⟩ := h
    obtain ⟨n, f, h1, h2, h⟩ := h
    obtain ⟨ws, q0, hq, hP, hD, hback, -⟩ := hw_open hW h1
    refine va_last hx hb hK hP hD hS q0 3 hq rfl h2 d_La_interrupt_8 (fun H locs hP hD hS => ?_)
    have hW := hback _ _ hP hD
    generalize hM2 : va_up M11 b15 _ = M16 at h hW
    refine lv_goto (tgt := 15) hx hb d_La_interrupt_9 (by decide) ?_
    refine lv_iconst (v := 0) hx hb d_La_interrupt_15 (by decide) ?_
    refine W.widen (k := 13) (n := 156) (by omega) (by omega) ?_
    exact W.iret hx hb hr (fun t ht hWm => ⟨⟨_, _, rfl, h, hw_t ht hW⟩, hS.F ht⟩) hS.2.2 d_La_interrupt_16
set_option maxRecDepth 20000 in
theorem c_La_interrupt {l : Launch} (hl0 : l.stackTraces = false) {D : va_G} {ca G : Nat → Nat} (post : Int32 → hM → Prop) {M : hM} {sz : Nat} {a0 : Option Nat} {x1 : Int32} {a2 : Option Nat} (h : wp_La_interrupt G ca post M a0 x1 a2) : Met l y_La_interrupt (wzH y_La_interrupt method_9_code 4 (some .int) [(0, 9, 12, 13)]) rm_La_interrupt (va_Pc [va_rf a0, .int x1, va_rf a2] (hJ D ca G sz M)) (va_Qi post (hB D M sz) (hp_A M sz)) 13 156 (hp_A M sz) := by
  refine va_MetW (cc := method_9_code) (maxL := 4) (ret := some .int) (hh := [(0, 9, 12, 13)]) (by decide) rfl ?_
  intro p e s m args below meth c s₁ B hml hv
  obtain ⟨rfl, ⟨hsz, hW, hK, hZ0⟩, hq⟩ := hv
  have hta := atoms_spec (ws := wzH y_La_interrupt method_9_code 4 (some .int) [(0, 9, 12, 13)]) B.pre
  have hts := fun w hw => hta w (List.mem_cons_of_mem _ hw)
  have hown : s.vm.findClass "ChannelHallLaw" = some m.cls := findClass_of_methodNamed B.named
  subst hsz
  have hl : lv_has ((lg_sl [va_rf a0, .int x1, va_rf a2] ++ List.replicate (4 - (lg_sl [va_rf a0, .int x1, va_rf a2]).length) Slot.unset).toArray) 4 [(0, va_rf a0), (1, .int x1), (2, va_rf a2)] := by cases a0 <;> cases a2 <;> exact lv_entry _ (Nat.le_of_ble_eq_true rfl)
  rw [lg_entry_eq]
  exact l_La_interrupt_e ⟨B.exec, B.bytes, B.returns, hml, hown, hts, B.notSynchronized, hK, fun q h => Or.inr h, hZ0⟩ hl0 hq (vx_table (x := y_La_interrupt) B (hta _ List.mem_cons_self)) a0 x1 a2 (Nat.zero_le _) (Nat.zero_le _) h hW va_S.rf hl

theorem d_La_tick_0 : decode method_10_code 0 = .ok (.aload_n 3, 1) := by decide +kernel
theorem d_La_tick_1 : decode method_10_code 1 = .ok (.iconst 0, 1) := by decide +kernel
theorem d_La_tick_2 : decode method_10_code 2 = .ok (.aload_n 0, 1) := by decide +kernel
theorem d_La_tick_3 : decode method_10_code 3 = .ok (.dload_n 1, 1) := by decide +kernel
theorem d_La_tick_4 : decode method_10_code 4 = .ok (.invokevirtual 45, 3) := by decide +kernel
theorem d_La_tick_7 : decode method_10_code 7 = .ok (.i2l, 1) := by decide +kernel
theorem d_La_tick_8 : decode method_10_code 8 = .ok (.lastore, 1) := by decide +kernel
theorem d_La_tick_9 : decode method_10_code 9 = .ok (.goto 7, 3) := by decide +kernel
theorem d_La_tick_12 : decode method_10_code 12 = .ok (.astore 4, 2) := by decide +kernel
theorem d_La_tick_14 : decode method_10_code 14 = .ok (.iconst 1, 1) := by decide +kernel
theorem d_La_tick_15 : decode method_10_code 15 = .ok (.ireturn, 1) := by decide +kernel
theorem d_La_tick_16 : decode method_10_code 16 = .ok (.iconst 0, 1) := by decide +kernel
theorem d_La_tick_17 : decode method_10_code 17 = .ok (.ireturn, 1) := by decide +kernel
def y_La_tick : MethodName := ⟨"ChannelHallLaw", "tick", "(LChannelHall;D[J)I"⟩
abbrev rm_La_tick : Room := { frames := 12, cells := 1009, slots := 12606, locals := 300 }
def wp_La_tick (G ca : Nat → Nat) (post : Int32 → hM → Prop) (M : hM) (a0 : Option Nat) (x1 : UInt64) (a3 : Option Nat) : Prop := nN a0 fun b9 => spl M fun Ma12 Mb13 => rC Ma12 b9 3 (wp_Ha_tick G ca (fun r10 Mc14 => dis Mc14 Mb13 → ∀ M11 : hM, M11 = uni Mc14 Mb13 → nN a3 fun b15 => sJ M11 b15 (ca 3) 0 r10.toInt64 fun M16 => post 0 M16) (fun E Mc14 => dis Mc14 Mb13 → ∀ M11 : hM, M11 = uni Mc14 Mb13 → (E = "java/lang/IllegalArgumentException" ∧ post 1 M11)) Ma12 b9 x1)
set_option maxHeartbeats 1000000 in
set_option maxRecDepth 20000 in
theorem l_La_tick_e {p : Program} {l : Launch} {e : Env} {s : State} {m : MethodId} {args : Array Value} {below : List Frame} {meth : Method} {c : Code} {D : va_G} {ca G : Nat → Nat} {A : Nat → Prop} (C0 : hC p s m args meth c D ca G method_10_code 5 (some .int) "ChannelHallLaw" A) (hl0 : l.stackTraces = false) (hq : hQ s) (htab : c.exceptionTable.toList = tableOf [(0, 9, 12, 13)]) {post : Int32 → hM → Prop} {M : hM} {H : Heap} {locs : List Loc} {ls : Array Slot} {cells slots : Nat} (a0 : Option Nat) (x1 : UInt64) (a3 : Option Nat) (hc : cells ≤ 0) (hs : slots ≤ 0) (h : wp_La_tick G ca post M a0 x1 a3) (hW : hw D wCl A M H) (hS : va_S A s.heap H locs) (hl : lv_has ls 5 [(0, va_rf a0), (1, .double x1), (3, va_rf a3)]) : W p l e rm_La_tick s m args below meth c H locs cells slots (MQ below (va_Qi post (fun M' t => hw D wCl A M' t.heap) A) args s 1009 12606 A) (F0 m 0 ls []) := by
  obtain ⟨hx, hb, hr, hml, hown, hts, hlocks, hK, hA, hZ0⟩ := id C0
  refine lq_load_n hx hb d_La_tick_0 rfl (lv_at hl 2 rfl) ?_
  refine lv_iconst (v := 0) hx hb d_La_tick_1 (by decide) ?_
  refine lq_load_n hx hb d_La_tick_2 rfl (lv_at hl 0 rfl) ?_
  refine lv_dload_n hx hb d_La_tick_3 rfl (lv_at hl 1 rfl) ?_
  obtain ⟨b9, rfl, h⟩ := h
  obtain ⟨Ma12, Mb13, hd, he, h7⟩ := h
  subst he
  have h := h7
  clear h7
  obtain ⟨⟨fs, h1⟩, h⟩ := h
  have h9 := h
  clear h
  have hW1 := hw_left hW
  have hF := hW1.free hS hA
  refine vx_calli (vx_runV (As := [.double x1]) (rest := [.int 0, va_rf a3]) ⟨hx, hb, hml, hown, hts⟩ (c_Ha_tick hl0 _ _ h9) (cwV 1 hts (gi_V bw_896 bw_897 bw_898 bw_1 bw_899) rfl rfl rfl (by decide +kernel) ⟨Nat.le_of_ble_eq_true rfl, Nat.le_of_ble_eq_true rfl⟩) ⟨hI.blind, hw_recv hK hW1 h1 rfl, hI.give hW1 hS hA hK hZ0⟩ rfl rfl hl.1 rfl (lv_room (by cases a3 <;> exact Nat.le_of_ble_eq_true rfl)) d_La_tick_4 ⟨(show _ ≤ 1009 by omega), (show _ ≤ 12606 by omega)⟩) hS (fun q _ z => hF q z) hF (fun q _ z => hF q z) (fun E ce q9 Mc14 t H locs ht _ _ h8 _ hk hS hce hcv hcl => ?_) (fun r10 Mc14 t H locs ht _ h hB1 _ hk hS => ?_)
  · obtain ⟨hd, hW⟩ := hw_join hd hW hF hk ht h8.2
    have h := h8.1 hd _ rfl
    generalize uni Mc14 Mb13 = M11 at h hW
    clear h8 h9
    obtain ⟨rfl, h⟩ := h
    refine hq_catch hts hZ0 hq hown [] (0, 9, 12, 13) [] htab (fun _ h => absurd h List.not_mem_nil) (by decide) (by decide) (by decide) bw_120 (by decide) hce hcv hcl ?_
    refine lv_astore (lv' := [(4, .ref q9), (0, .ref b9), (1, .double x1), (3, va_rf a3)]) hx hb d_La_tick_12 hl (by decide) (by cases a3 <;> rfl) (fun ls hl => ?_)
    refine lv_iconst (v := 1) hx hb d_La_tick_14 (by decide) ?_
    refine W.widen (k := 1009) (n := 12606) (by omega) (by omega) ?_
    exact W.iret hx hb hr (fun t ht hWm => ⟨⟨_, _, rfl, h, hw_t ht hW⟩, hS.F ht⟩) hS.2.2 d_La_tick_15
  · obtain ⟨hd, hW⟩ := hw_join hd hW hF hk ht hB1
    replace h := h hd _ rfl
    generalize uni Mc14 Mb13 = M11 at h hW
    clear h9
    refine lv_i2l hx hb d_La_tick_7 rfl ?_
    obtain ⟨b15, rfl, h⟩ := h
    obtain ⟨n, f, h1, h2, h⟩ := h
    obtain ⟨ws, q0, hq, hP, hD, hback, -⟩ := hw_open hW h1
    refine va_last hx hb hK hP hD hS q0 3 hq rfl h2 d_La_tick_8 (fun H locs hP hD hS => ?_)
    have hW := hback _ _ hP hD
    generalize hM2 : va_up M11 b15 _ = M16 at h hW
    refine lv_goto (tgt := 16) hx hb d_La_tick_9 (by decide) ?_
    refine lv_iconst (v := 0) hx hb d_La_tick_16 (by decide) ?_
    refine W.widen (k := 1009) (n := 12606) (by omega) (by omega) ?_
    exact W.iret hx hb hr (fun t ht hWm => ⟨⟨_, _, rfl, h, hw_t ht hW⟩, hS.F ht⟩) hS.2.2 d_La_tick_17
set_option maxRecDepth 20000 in
theorem c_La_tick {l : Launch} (hl0 : l.stackTraces = false) {D : va_G} {ca G : Nat → Nat} (post : Int32 → hM → Prop) {M : hM} {sz : Nat} {a0 : Option Nat} {x1 : UInt64} {a3 : Option Nat} (h : wp_La_tick G ca post M a0 x1 a3) : Met l y_La_tick (wzH y_La_tick method_10_code 5 (some .int) [(0, 9, 12, 13)]) rm_La_tick (va_Pc [va_rf a0, .double x1, va_rf a3] (hJ D ca G sz M)) (va_Qi post (hB D M sz) (hp_A M sz)) 1009 12606 (hp_A M sz) := by
  refine va_MetW (cc := method_10_code) (maxL := 5) (ret := some .int) (hh := [(0, 9, 12, 13)]) (by decide) rfl ?_
  intro p e s m args below meth c s₁ B hml hv
  obtain ⟨rfl, ⟨hsz, hW, hK, hZ0⟩, hq⟩ := hv
  have hta := atoms_spec (ws := wzH y_La_tick method_10_code 5 (some .int) [(0, 9, 12, 13)]) B.pre
  have hts := fun w hw => hta w (List.mem_cons_of_mem _ hw)
  have hown : s.vm.findClass "ChannelHallLaw" = some m.cls := findClass_of_methodNamed B.named
  subst hsz
  have hl : lv_has ((lg_sl [va_rf a0, .double x1, va_rf a3] ++ List.replicate (5 - (lg_sl [va_rf a0, .double x1, va_rf a3]).length) Slot.unset).toArray) 5 [(0, va_rf a0), (1, .double x1), (3, va_rf a3)] := by cases a0 <;> cases a3 <;> exact lv_entry _ (Nat.le_of_ble_eq_true rfl)
  rw [lg_entry_eq]
  exact l_La_tick_e ⟨B.exec, B.bytes, B.returns, hml, hown, hts, B.notSynchronized, hK, fun q h => Or.inr h, hZ0⟩ hl0 hq (vx_table (x := y_La_tick) B (hta _ List.mem_cons_self)) a0 x1 a3 (Nat.zero_le _) (Nat.zero_le _) h hW va_S.rf hl

theorem d_La_got_0 : decode method_11_code 0 = .ok (.aload_n 2, 1) := by decide +kernel
theorem d_La_got_1 : decode method_11_code 1 = .ok (.iconst 0, 1) := by decide +kernel
theorem d_La_got_2 : decode method_11_code 2 = .ok (.aload_n 0, 1) := by decide +kernel
theorem d_La_got_3 : decode method_11_code 3 = .ok (.iload_n 1, 1) := by decide +kernel
theorem d_La_got_4 : decode method_11_code 4 = .ok (.invokevirtual 49, 3) := by decide +kernel
theorem d_La_got_7 : decode method_11_code 7 = .ok (.i2l, 1) := by decide +kernel
theorem d_La_got_8 : decode method_11_code 8 = .ok (.lastore, 1) := by decide +kernel
theorem d_La_got_9 : decode method_11_code 9 = .ok (.goto 9, 3) := by decide +kernel
theorem d_La_got_12 : decode method_11_code 12 = .ok (.astore_n 3, 1) := by decide +kernel
theorem d_La_got_13 : decode method_11_code 13 = .ok (.iconst 1, 1) := by decide +kernel
theorem d_La_got_14 : decode method_11_code 14 = .ok (.ireturn, 1) := by decide +kernel
theorem d_La_got_15 : decode method_11_code 15 = .ok (.astore_n 3, 1) := by decide +kernel
theorem d_La_got_16 : decode method_11_code 16 = .ok (.iconst 2, 1) := by decide +kernel
theorem d_La_got_17 : decode method_11_code 17 = .ok (.ireturn, 1) := by decide +kernel
theorem d_La_got_18 : decode method_11_code 18 = .ok (.iconst 0, 1) := by decide +kernel
theorem d_La_got_19 : decode method_11_code 19 = .ok (.ireturn, 1) := by decide +kernel
def y_La_got : MethodName := ⟨"ChannelHallLaw", "got", "(LChannelHall;I[J)I"⟩
abbrev rm_La_got : Room := { frames := 8, cells := 2, slots := 12, locals := 123 }
def wp_La_got (G ca : Nat → Nat) (post : Int32 → hM → Prop) (M : hM) (a0 : Option Nat) (x1 : Int32) (a2 : Option Nat) : Prop := nN a0 fun b9 => spl M fun Ma12 Mb13 => rC Ma12 b9 3 (wp_Ha_got G ca (fun r10 Mc14 => dis Mc14 Mb13 → ∀ M11 : hM, M11 = uni Mc14 Mb13 → nN a2 fun b15 => sJ M11 b15 (ca 3) 0 r10.toInt64 fun M16 => post 0 M16) (fun E Mc14 => dis Mc14 Mb13 → ∀ M11 : hM, M11 = uni Mc14 Mb13 → (E = "java/lang/IllegalArgumentException" ∧ post 1 M11) ∨ (E = "java/util/NoSuchElementException" ∧ post 2 M11)) Ma12 b9 x1)
set_option maxHeartbeats 1000000 in
set_option maxRecDepth 20000 in
theorem l_La_got_e {p : Program} {l : Launch} {e : Env} {s : State} {m : MethodId} {args : Array Value} {below : List Frame} {meth : Method} {c : Code} {D : va_G} {ca G : Nat → Nat} {A : Nat → Prop} (C0 : hC p s m args meth c D ca G method_11_code 4 (some .int) "ChannelHallLaw" A) (hl0 : l.stackTraces = false) (hq : hQ s) (htab : c.exceptionTable.toList = tableOf [(0, 9, 12, 13), (0, 9, 15, 21)]) {post : Int32 → hM → Prop} {M : hM} {H : Heap} {locs : List Loc} {ls : Array Slot} {cells slots : Nat} (a0 : Option Nat) (x1 : Int32) (a2 : Option Nat) (hc : cells ≤ 0) (hs : slots ≤ 0) (h : wp_La_got G ca post M a0 x1 a2) (hW : hw D wCl A M H) (hS : va_S A s.heap H locs) (hl : lv_has ls 4 [(0, va_rf a0), (1, .int x1), (2, va_rf a2)]) : W p l e rm_La_got s m args below meth c H locs cells slots (MQ below (va_Qi post (fun M' t => hw D wCl A M' t.heap) A) args s 2 12 A) (F0 m 0 ls []) := by
  obtain ⟨hx, hb, hr, hml, hown, hts, hlocks, hK, hA, hZ0⟩ := id C0
  refine lq_load_n hx hb d_La_got_0 rfl (lv_at hl 2 rfl) ?_
  refine lv_iconst (v := 0) hx hb d_La_got_1 (by decide) ?_
  refine lq_load_n hx hb d_La_got_2 rfl (lv_at hl 0 rfl) ?_
  refine lv_iload_n hx hb d_La_got_3 rfl (lv_at hl 1 rfl) ?_
  obtain ⟨b9, rfl, h⟩ := h
  obtain ⟨Ma12, Mb13, hd, he, h7⟩ := h
  subst he
  have h := h7
  clear h7
  obtain ⟨⟨fs, h1⟩, h⟩ := h
  have h9 := h
  clear h
  have hW1 := hw_left hW
  have hF := hW1.free hS hA
  refine vx_calli (vx_runV (As := [.int x1]) (rest := [.int 0, va_rf a2]) ⟨hx, hb, hml, hown, hts⟩ (c_Ha_got hl0 _ _ h9) (cwV 1 hts (gi_V bw_919 bw_920 bw_921 bw_1 bw_922) rfl rfl rfl (by decide +kernel) ⟨Nat.le_of_ble_eq_true rfl, Nat.le_of_ble_eq_true rfl⟩) ⟨hI.blind, hw_recv hK hW1 h1 rfl, hI.give hW1 hS hA hK hZ0⟩ rfl rfl hl.1 rfl (lv_room (by cases a2 <;> exact Nat.le_of_ble_eq_true rfl)) d_La_got_4 ⟨(show _ ≤ 2 by omega), (show _ ≤ 12 by omega)⟩) hS (fun q _ z => hF q z) hF (fun q _ z => hF q z) (fun E ce q9 Mc14 t H locs ht _ _ h8 _ hk hS hce hcv hcl => ?_) (fun r10 Mc14 t H locs ht _ h hB1 _ hk hS => ?_)
  · obtain ⟨hd, hW⟩ := hw_join hd hW hF hk ht h8.2
    have h := h8.1 hd _ rfl
    generalize uni Mc14 Mb13 = M11 at h hW
    clear h8 h9
    rcases h with ⟨rfl, h⟩ | ⟨rfl, h⟩
    · refine hq_catch hts hZ0 hq hown [] (0, 9, 12, 13) [(0, 9, 15, 21)] htab (fun _ h => absurd h List.not_mem_nil) (by decide) (by decide) (by decide) bw_120 (by decide) hce hcv hcl ?_
      refine lv_astore_n (lv' := [(3, .ref q9), (0, .ref b9), (1, .int x1), (2, va_rf a2)]) hx hb d_La_got_12 rfl hl (by decide) (by cases a2 <;> rfl) (fun ls hl => ?_)
      refine lv_iconst (v := 1) hx hb d_La_got_13 (by decide) ?_
      refine W.widen (k := 2) (n := 12) (by omega) (by omega) ?_
      exact W.iret hx hb hr (fun t ht hWm => ⟨⟨_, _, rfl, h, hw_t ht hW⟩, hS.F ht⟩) hS.2.2 d_La_got_14
    · refine hq_catch hts hZ0 hq hown [(0, 9, 12, 13, "java/lang/IllegalArgumentException")] (0, 9, 15, 21) [] htab (List.forall_mem_cons.mpr ⟨⟨by decide, bw_120, by decide, by decide⟩, fun _ h => absurd h List.not_mem_nil⟩) (by decide) (by decide) (by decide) bw_294 (by decide) hce hcv hcl ?_
      refine lv_astore_n (lv' := [(3, .ref q9), (0, .ref b9), (1, .int x1), (2, va_rf a2)]) hx hb d_La_got_15 rfl hl (by decide) (by cases a2 <;> rfl) (fun ls hl => ?_)
      refine lv_iconst (v := 2) hx hb d_La_got_16 (by decide) ?_
      refine W.widen (k := 2) (n := 12) (by omega) (by omega) ?_
      exact W.iret hx hb hr (fun t ht hWm => ⟨⟨_, _, rfl, h, hw_t ht hW⟩, hS.F ht⟩) hS.2.2 d_La_got_17
  · obtain ⟨hd, hW⟩ := hw_join hd hW hF hk ht hB1
    replace h := h hd _ rfl
    generalize uni Mc14 Mb13 = M11 at h hW
    clear h9
    refine lv_i2l hx hb d_La_got_7 rfl ?_
    obtain ⟨b15, rfl, h⟩ := h
    obtain ⟨n, f, h1, h2, h⟩ := h
    obtain ⟨ws, q0, hq, hP, hD, hback, -⟩ := hw_open hW h1
    refine va_last hx hb hK hP hD hS q0 3 hq rfl h2 d_La_got_8 (fun H locs hP hD hS => ?_)
    have hW := hback _ _ hP hD
    generalize hM2 : va_up M11 b15 _ = M16 at h hW
    refine lv_goto (tgt := 18) hx hb d_La_got_9 (by decide) ?_
    refine lv_iconst (v := 0) hx hb d_La_got_18 (by decide) ?_
    refine W.widen (k := 2) (n := 12) (by omega) (by omega) ?_
    exact W.iret hx hb hr (fun t ht hWm => ⟨⟨_, _, rfl, h, hw_t ht hW⟩, hS.F ht⟩) hS.2.2 d_La_got_19
set_option maxRecDepth 20000 in
theorem c_La_got {l : Launch} (hl0 : l.stackTraces = false) {D : va_G} {ca G : Nat → Nat} (post : Int32 → hM → Prop) {M : hM} {sz : Nat} {a0 : Option Nat} {x1 : Int32} {a2 : Option Nat} (h : wp_La_got G ca post M a0 x1 a2) : Met l y_La_got (wzH y_La_got method_11_code 4 (some .int) [(0, 9, 12, 13), (0, 9, 15, 21)]) rm_La_got (va_Pc [va_rf a0, .int x1, va_rf a2] (hJ D ca G sz M)) (va_Qi post (hB D M sz) (hp_A M sz)) 2 12 (hp_A M sz) := by
  refine va_MetW (cc := method_11_code) (maxL := 4) (ret := some .int) (hh := [(0, 9, 12, 13), (0, 9, 15, 21)]) (by decide) rfl ?_
  intro p e s m args below meth c s₁ B hml hv
  obtain ⟨rfl, ⟨hsz, hW, hK, hZ0⟩, hq⟩ := hv
  have hta := atoms_spec (ws := wzH y_La_got method_11_code 4 (some .int) [(0, 9, 12, 13), (0, 9, 15, 21)]) B.pre
  have hts := fun w hw => hta w (List.mem_cons_of_mem _ hw)
  have hown : s.vm.findClass "ChannelHallLaw" = some m.cls := findClass_of_methodNamed B.named
  subst hsz
  have hl : lv_has ((lg_sl [va_rf a0, .int x1, va_rf a2] ++ List.replicate (4 - (lg_sl [va_rf a0, .int x1, va_rf a2]).length) Slot.unset).toArray) 4 [(0, va_rf a0), (1, .int x1), (2, va_rf a2)] := by cases a0 <;> cases a2 <;> exact lv_entry _ (Nat.le_of_ble_eq_true rfl)
  rw [lg_entry_eq]
  exact l_La_got_e ⟨B.exec, B.bytes, B.returns, hml, hown, hts, B.notSynchronized, hK, fun q h => Or.inr h, hZ0⟩ hl0 hq (vx_table (x := y_La_got) B (hta _ List.mem_cons_self)) a0 x1 a2 (Nat.zero_le _) (Nat.zero_le _) h hW va_S.rf hl

theorem d_La_thread_0 : decode method_12_code 0 = .ok (.aload_n 3, 1) := by decide +kernel
theorem d_La_thread_1 : decode method_12_code 1 = .ok (.iconst 0, 1) := by decide +kernel
theorem d_La_thread_2 : decode method_12_code 2 = .ok (.aload_n 0, 1) := by decide +kernel
theorem d_La_thread_3 : decode method_12_code 3 = .ok (.iload_n 1, 1) := by decide +kernel
theorem d_La_thread_4 : decode method_12_code 4 = .ok (.iload_n 2, 1) := by decide +kernel
theorem d_La_thread_5 : decode method_12_code 5 = .ok (.invokevirtual 52, 3) := by decide +kernel
theorem d_La_thread_8 : decode method_12_code 8 = .ok (.i2l, 1) := by decide +kernel
theorem d_La_thread_9 : decode method_12_code 9 = .ok (.lastore, 1) := by decide +kernel
theorem d_La_thread_10 : decode method_12_code 10 = .ok (.goto 7, 3) := by decide +kernel
theorem d_La_thread_13 : decode method_12_code 13 = .ok (.astore 4, 2) := by decide +kernel
theorem d_La_thread_15 : decode method_12_code 15 = .ok (.iconst 1, 1) := by decide +kernel
theorem d_La_thread_16 : decode method_12_code 16 = .ok (.ireturn, 1) := by decide +kernel
theorem d_La_thread_17 : decode method_12_code 17 = .ok (.iconst 0, 1) := by decide +kernel
theorem d_La_thread_18 : decode method_12_code 18 = .ok (.ireturn, 1) := by decide +kernel
def y_La_thread : MethodName := ⟨"ChannelHallLaw", "thread", "(LChannelHall;II[J)I"⟩
abbrev rm_La_thread : Room := { frames := 8, cells := 1, slots := 6, locals := 124 }
def wp_La_thread (G ca : Nat → Nat) (post : Int32 → hM → Prop) (M : hM) (a0 : Option Nat) (x1 : Int32) (x2 : Int32) (a3 : Option Nat) : Prop := nN a0 fun b9 => spl M fun Ma12 Mb13 => rC Ma12 b9 3 (wp_Ha_thread G ca (fun r10 Mc14 => dis Mc14 Mb13 → ∀ M11 : hM, M11 = uni Mc14 Mb13 → nN a3 fun b15 => sJ M11 b15 (ca 3) 0 r10.toInt64 fun M16 => post 0 M16) (fun E Mc14 => dis Mc14 Mb13 → ∀ M11 : hM, M11 = uni Mc14 Mb13 → (E = "java/lang/IllegalArgumentException" ∧ post 1 M11)) Ma12 b9 x1 x2)
set_option maxHeartbeats 1000000 in
set_option maxRecDepth 20000 in
theorem l_La_thread_e {p : Program} {l : Launch} {e : Env} {s : State} {m : MethodId} {args : Array Value} {below : List Frame} {meth : Method} {c : Code} {D : va_G} {ca G : Nat → Nat} {A : Nat → Prop} (C0 : hC p s m args meth c D ca G method_12_code 5 (some .int) "ChannelHallLaw" A) (hl0 : l.stackTraces = false) (hq : hQ s) (htab : c.exceptionTable.toList = tableOf [(0, 10, 13, 13)]) {post : Int32 → hM → Prop} {M : hM} {H : Heap} {locs : List Loc} {ls : Array Slot} {cells slots : Nat} (a0 : Option Nat) (x1 : Int32) (x2 : Int32) (a3 : Option Nat) (hc : cells ≤ 0) (hs : slots ≤ 0) (h : wp_La_thread G ca post M a0 x1 x2 a3) (hW : hw D wCl A M H) (hS : va_S A s.heap H locs) (hl : lv_has ls 5 [(0, va_rf a0), (1, .int x1), (2, .int x2), (3, va_rf a3)]) : W p l e rm_La_thread s m args below meth c H locs cells slots (MQ below (va_Qi post (fun M' t => hw D wCl A M' t.heap) A) args s 1 6 A) (F0 m 0 ls []) := by
  obtain ⟨hx, hb, hr, hml, hown, hts, hlocks, hK, hA, hZ0⟩ := id C0
  refine lq_load_n hx hb d_La_thread_0 rfl (lv_at hl 3 rfl) ?_
  refine lv_iconst (v := 0) hx hb d_La_thread_1 (by decide) ?_
  refine lq_load_n hx hb d_La_thread_2 rfl (lv_at hl 0 rfl) ?_
  refine lv_iload_n hx hb d_La_thread_3 rfl (lv_at hl 1 rfl) ?_
  refine lv_iload_n hx hb d_La_thread_4 rfl (lv_at hl 2 rfl) ?_
  obtain ⟨b9, rfl, h⟩ := h
  obtain ⟨Ma12, Mb13, hd, he, h7⟩ := h
  subst he
  have h := h7
  clear h7
  obtain ⟨⟨fs, h1⟩, h⟩ := h
  have h9 := h
  clear h
  have hW1 := hw_left hW
  have hF := hW1.free hS hA
  refine vx_calli (vx_runV (As := [.int x1, .int x2]) (rest := [.int 0, va_rf a3]) ⟨hx, hb, hml, hown, hts⟩ (c_Ha_thread hl0 _ _ h9) (cwV 2 hts (gi_V bw_926 bw_927 bw_928 bw_1 bw_929) rfl rfl rfl (by decide +kernel) ⟨Nat.le_of_ble_eq_true rfl, Nat.le_of_ble_eq_true rfl⟩) ⟨hI.blind, hw_recv hK hW1 h1 rfl, hI.give hW1 hS hA hK hZ0⟩ rfl rfl hl.1 rfl (lv_room (by cases a3 <;> exact Nat.le_of_ble_eq_true rfl)) d_La_thread_5 ⟨(show _ ≤ 1 by omega), (show _ ≤ 6 by omega)⟩) hS (fun q _ z => hF q z) hF (fun q _ z => hF q z) (fun E ce q9 Mc14 t H locs ht _ _ h8 _ hk hS hce hcv hcl => ?_) (fun r10 Mc14 t H locs ht _ h hB1 _ hk hS => ?_)
  · obtain ⟨hd, hW⟩ := hw_join hd hW hF hk ht h8.2
    have h := h8.1 hd _ rfl
    generalize uni Mc14 Mb13 = M11 at h hW
    clear h8 h9
    obtain ⟨rfl, h⟩ := h
    refine hq_catch hts hZ0 hq hown [] (0, 10, 13, 13) [] htab (fun _ h => absurd h List.not_mem_nil) (by decide) (by decide) (by decide) bw_120 (by decide) hce hcv hcl ?_
    refine lv_astore (lv' := [(4, .ref q9), (0, .ref b9), (1, .int x1), (2, .int x2), (3, va_rf a3)]) hx hb d_La_thread_13 hl (by decide) (by cases a3 <;> rfl) (fun ls hl => ?_)
    refine lv_iconst (v := 1) hx hb d_La_thread_15 (by decide) ?_
    refine W.widen (k := 1) (n := 6) (by omega) (by omega) ?_
    exact W.iret hx hb hr (fun t ht hWm => ⟨⟨_, _, rfl, h, hw_t ht hW⟩, hS.F ht⟩) hS.2.2 d_La_thread_16
  · obtain ⟨hd, hW⟩ := hw_join hd hW hF hk ht hB1
    replace h := h hd _ rfl
    generalize uni Mc14 Mb13 = M11 at h hW
    clear h9
    refine lv_i2l hx hb d_La_thread_8 rfl ?_
    obtain ⟨b15, rfl, h⟩ := h
    obtain ⟨n, f, h1, h2, h⟩ := h
    obtain ⟨ws, q0, hq, hP, hD, hback, -⟩ := hw_open hW h1
    refine va_last hx hb hK hP hD hS q0 3 hq rfl h2 d_La_thread_9 (fun H locs hP hD hS => ?_)
    have hW := hback _ _ hP hD
    generalize hM2 : va_up M11 b15 _ = M16 at h hW
    refine lv_goto (tgt := 17) hx hb d_La_thread_10 (by decide) ?_
    refine lv_iconst (v := 0) hx hb d_La_thread_17 (by decide) ?_
    refine W.widen (k := 1) (n := 6) (by omega) (by omega) ?_
    exact W.iret hx hb hr (fun t ht hWm => ⟨⟨_, _, rfl, h, hw_t ht hW⟩, hS.F ht⟩) hS.2.2 d_La_thread_18
set_option maxRecDepth 20000 in
theorem c_La_thread {l : Launch} (hl0 : l.stackTraces = false) {D : va_G} {ca G : Nat → Nat} (post : Int32 → hM → Prop) {M : hM} {sz : Nat} {a0 : Option Nat} {x1 : Int32} {x2 : Int32} {a3 : Option Nat} (h : wp_La_thread G ca post M a0 x1 x2 a3) : Met l y_La_thread (wzH y_La_thread method_12_code 5 (some .int) [(0, 10, 13, 13)]) rm_La_thread (va_Pc [va_rf a0, .int x1, .int x2, va_rf a3] (hJ D ca G sz M)) (va_Qi post (hB D M sz) (hp_A M sz)) 1 6 (hp_A M sz) := by
  refine va_MetW (cc := method_12_code) (maxL := 5) (ret := some .int) (hh := [(0, 10, 13, 13)]) (by decide) rfl ?_
  intro p e s m args below meth c s₁ B hml hv
  obtain ⟨rfl, ⟨hsz, hW, hK, hZ0⟩, hq⟩ := hv
  have hta := atoms_spec (ws := wzH y_La_thread method_12_code 5 (some .int) [(0, 10, 13, 13)]) B.pre
  have hts := fun w hw => hta w (List.mem_cons_of_mem _ hw)
  have hown : s.vm.findClass "ChannelHallLaw" = some m.cls := findClass_of_methodNamed B.named
  subst hsz
  have hl : lv_has ((lg_sl [va_rf a0, .int x1, .int x2, va_rf a3] ++ List.replicate (5 - (lg_sl [va_rf a0, .int x1, .int x2, va_rf a3]).length) Slot.unset).toArray) 5 [(0, va_rf a0), (1, .int x1), (2, .int x2), (3, va_rf a3)] := by cases a0 <;> cases a3 <;> exact lv_entry _ (Nat.le_of_ble_eq_true rfl)
  rw [lg_entry_eq]
  exact l_La_thread_e ⟨B.exec, B.bytes, B.returns, hml, hown, hts, B.notSynchronized, hK, fun q h => Or.inr h, hZ0⟩ hl0 hq (vx_table (x := y_La_thread) B (hta _ List.mem_cons_self)) a0 x1 x2 a3 (Nat.zero_le _) (Nat.zero_le _) h hW va_S.rf hl

theorem d_La_channel_0 : decode method_13_code 0 = .ok (.aload_n 3, 1) := by decide +kernel
theorem d_La_channel_1 : decode method_13_code 1 = .ok (.iconst 0, 1) := by decide +kernel
theorem d_La_channel_2 : decode method_13_code 2 = .ok (.aload_n 0, 1) := by decide +kernel
theorem d_La_channel_3 : decode method_13_code 3 = .ok (.iload_n 1, 1) := by decide +kernel
theorem d_La_channel_4 : decode method_13_code 4 = .ok (.iload_n 2, 1) := by decide +kernel
theorem d_La_channel_5 : decode method_13_code 5 = .ok (.invokevirtual 56, 3) := by decide +kernel
theorem d_La_channel_8 : decode method_13_code 8 = .ok (.i2l, 1) := by decide +kernel
theorem d_La_channel_9 : decode method_13_code 9 = .ok (.lastore, 1) := by decide +kernel
theorem d_La_channel_10 : decode method_13_code 10 = .ok (.goto 11, 3) := by decide +kernel
theorem d_La_channel_13 : decode method_13_code 13 = .ok (.astore 4, 2) := by decide +kernel
theorem d_La_channel_15 : decode method_13_code 15 = .ok (.iconst 1, 1) := by decide +kernel
theorem d_La_channel_16 : decode method_13_code 16 = .ok (.ireturn, 1) := by decide +kernel
theorem d_La_channel_17 : decode method_13_code 17 = .ok (.astore 4, 2) := by decide +kernel
theorem d_La_channel_19 : decode method_13_code 19 = .ok (.iconst 2, 1) := by decide +kernel
theorem d_La_channel_20 : decode method_13_code 20 = .ok (.ireturn, 1) := by decide +kernel
theorem d_La_channel_21 : decode method_13_code 21 = .ok (.iconst 0, 1) := by decide +kernel
theorem d_La_channel_22 : decode method_13_code 22 = .ok (.ireturn, 1) := by decide +kernel
def y_La_channel : MethodName := ⟨"ChannelHallLaw", "channel", "(LChannelHall;II[J)I"⟩
abbrev rm_La_channel : Room := { frames := 8, cells := 2, slots := 12, locals := 131 }
def wp_La_channel (G ca : Nat → Nat) (post : Int32 → hM → Prop) (M : hM) (a0 : Option Nat) (x1 : Int32) (x2 : Int32) (a3 : Option Nat) : Prop := nN a0 fun b9 => spl M fun Ma12 Mb13 => rC Ma12 b9 3 (wp_Ha_channel G ca (fun r10 Mc14 => dis Mc14 Mb13 → ∀ M11 : hM, M11 = uni Mc14 Mb13 → nN a3 fun b15 => sJ M11 b15 (ca 3) 0 r10.toInt64 fun M16 => post 0 M16) (fun E Mc14 => dis Mc14 Mb13 → ∀ M11 : hM, M11 = uni Mc14 Mb13 → (E = "java/lang/IllegalArgumentException" ∧ post 1 M11) ∨ (E = "java/util/NoSuchElementException" ∧ post 2 M11)) Ma12 b9 x1 x2)
set_option maxHeartbeats 1000000 in
set_option maxRecDepth 20000 in
theorem l_La_channel_e {p : Program} {l : Launch} {e : Env} {s : State} {m : MethodId} {args : Array Value} {below : List Frame} {meth : Method} {c : Code} {D : va_G} {ca G : Nat → Nat} {A : Nat → Prop} (C0 : hC p s m args meth c D ca G method_13_code 5 (some .int) "ChannelHallLaw" A) (hl0 : l.stackTraces = false) (hq : hQ s) (htab : c.exceptionTable.toList = tableOf [(0, 10, 13, 13), (0, 10, 17, 21)]) {post : Int32 → hM → Prop} {M : hM} {H : Heap} {locs : List Loc} {ls : Array Slot} {cells slots : Nat} (a0 : Option Nat) (x1 : Int32) (x2 : Int32) (a3 : Option Nat) (hc : cells ≤ 0) (hs : slots ≤ 0) (h : wp_La_channel G ca post M a0 x1 x2 a3) (hW : hw D wCl A M H) (hS : va_S A s.heap H locs) (hl : lv_has ls 5 [(0, va_rf a0), (1, .int x1), (2, .int x2), (3, va_rf a3)]) : W p l e rm_La_channel s m args below meth c H locs cells slots (MQ below (va_Qi post (fun M' t => hw D wCl A M' t.heap) A) args s 2 12 A) (F0 m 0 ls []) := by
  obtain ⟨hx, hb, hr, hml, hown, hts, hlocks, hK, hA, hZ0⟩ := id C0
  refine lq_load_n hx hb d_La_channel_0 rfl (lv_at hl 3 rfl) ?_
  refine lv_iconst (v := 0) hx hb d_La_channel_1 (by decide) ?_
  refine lq_load_n hx hb d_La_channel_2 rfl (lv_at hl 0 rfl) ?_
  refine lv_iload_n hx hb d_La_channel_3 rfl (lv_at hl 1 rfl) ?_
  refine lv_iload_n hx hb d_La_channel_4 rfl (lv_at hl 2 rfl) ?_
  obtain ⟨b9, rfl, h⟩ := h
  obtain ⟨Ma12, Mb13, hd, he, h7⟩ := h
  subst he
  have h := h7
  clear h7
  obtain ⟨⟨fs, h1⟩, h⟩ := h
  have h9 := h
  clear h
  have hW1 := hw_left hW
  have hF := hW1.free hS hA
  refine vx_calli (vx_runV (As := [.int x1, .int x2]) (rest := [.int 0, va_rf a3]) ⟨hx, hb, hml, hown, hts⟩ (c_Ha_channel hl0 _ _ h9) (cwV 2 hts (gi_V bw_933 bw_934 bw_935 bw_1 bw_936) rfl rfl rfl (by decide +kernel) ⟨Nat.le_of_ble_eq_true rfl, Nat.le_of_ble_eq_true rfl⟩) ⟨hI.blind, hw_recv hK hW1 h1 rfl, hI.give hW1 hS hA hK hZ0⟩ rfl rfl hl.1 rfl (lv_room (by cases a3 <;> exact Nat.le_of_ble_eq_true rfl)) d_La_channel_5 ⟨(show _ ≤ 2 by omega), (show _ ≤ 12 by omega)⟩) hS (fun q _ z => hF q z) hF (fun q _ z => hF q z) (fun E ce q9 Mc14 t H locs ht _ _ h8 _ hk hS hce hcv hcl => ?_) (fun r10 Mc14 t H locs ht _ h hB1 _ hk hS => ?_)
  · obtain ⟨hd, hW⟩ := hw_join hd hW hF hk ht h8.2
    have h := h8.1 hd _ rfl
    generalize uni Mc14 Mb13 = M11 at h hW
    clear h8 h9
    rcases h with ⟨rfl, h⟩ | ⟨rfl, h⟩
    · refine hq_catch hts hZ0 hq hown [] (0, 10, 13, 13) [(0, 10, 17, 21)] htab (fun _ h => absurd h List.not_mem_nil) (by decide) (by decide) (by decide) bw_120 (by decide) hce hcv hcl ?_
      refine lv_astore (lv' := [(4, .ref q9), (0, .ref b9), (1, .int x1), (2, .int x2), (3, va_rf a3)]) hx hb d_La_channel_13 hl (by decide) (by cases a3 <;> rfl) (fun ls hl => ?_)
      refine lv_iconst (v := 1) hx hb d_La_channel_15 (by decide) ?_
      refine W.widen (k := 2) (n := 12) (by omega) (by omega) ?_
      exact W.iret hx hb hr (fun t ht hWm => ⟨⟨_, _, rfl, h, hw_t ht hW⟩, hS.F ht⟩) hS.2.2 d_La_channel_16
    · refine hq_catch hts hZ0 hq hown [(0, 10, 13, 13, "java/lang/IllegalArgumentException")] (0, 10, 17, 21) [] htab (List.forall_mem_cons.mpr ⟨⟨by decide, bw_120, by decide, by decide⟩, fun _ h => absurd h List.not_mem_nil⟩) (by decide) (by decide) (by decide) bw_294 (by decide) hce hcv hcl ?_
      refine lv_astore (lv' := [(4, .ref q9), (0, .ref b9), (1, .int x1), (2, .int x2), (3, va_rf a3)]) hx hb d_La_channel_17 hl (by decide) (by cases a3 <;> rfl) (fun ls hl => ?_)
      refine lv_iconst (v := 2) hx hb d_La_channel_19 (by decide) ?_
      refine W.widen (k := 2) (n := 12) (by omega) (by omega) ?_
      exact W.iret hx hb hr (fun t ht hWm => ⟨⟨_, _, rfl, h, hw_t ht hW⟩, hS.F ht⟩) hS.2.2 d_La_channel_20
  · obtain ⟨hd, hW⟩ := hw_join hd hW hF hk ht hB1
    replace h := h hd _ rfl
    generalize uni Mc14 Mb13 = M11 at h hW
    clear h9
    refine lv_i2l hx hb d_La_channel_8 rfl ?_
    obtain ⟨b15, rfl, h⟩ := h
    obtain ⟨n, f, h1, h2, h⟩ := h
    obtain ⟨ws, q0, hq, hP, hD, hback, -⟩ := hw_open hW h1
    refine va_last hx hb hK hP hD hS q0 3 hq rfl h2 d_La_channel_9 (fun H locs hP hD hS => ?_)
    have hW := hback _ _ hP hD
    generalize hM2 : va_up M11 b15 _ = M16 at h hW
    refine lv_goto (tgt := 21) hx hb d_La_channel_10 (by decide) ?_
    refine lv_iconst (v := 0) hx hb d_La_channel_21 (by decide) ?_
    refine W.widen (k := 2) (n := 12) (by omega) (by omega) ?_
    exact W.iret hx hb hr (fun t ht hWm => ⟨⟨_, _, rfl, h, hw_t ht hW⟩, hS.F ht⟩) hS.2.2 d_La_channel_22
set_option maxRecDepth 20000 in
theorem c_La_channel {l : Launch} (hl0 : l.stackTraces = false) {D : va_G} {ca G : Nat → Nat} (post : Int32 → hM → Prop) {M : hM} {sz : Nat} {a0 : Option Nat} {x1 : Int32} {x2 : Int32} {a3 : Option Nat} (h : wp_La_channel G ca post M a0 x1 x2 a3) : Met l y_La_channel (wzH y_La_channel method_13_code 5 (some .int) [(0, 10, 13, 13), (0, 10, 17, 21)]) rm_La_channel (va_Pc [va_rf a0, .int x1, .int x2, va_rf a3] (hJ D ca G sz M)) (va_Qi post (hB D M sz) (hp_A M sz)) 2 12 (hp_A M sz) := by
  refine va_MetW (cc := method_13_code) (maxL := 5) (ret := some .int) (hh := [(0, 10, 13, 13), (0, 10, 17, 21)]) (by decide) rfl ?_
  intro p e s m args below meth c s₁ B hml hv
  obtain ⟨rfl, ⟨hsz, hW, hK, hZ0⟩, hq⟩ := hv
  have hta := atoms_spec (ws := wzH y_La_channel method_13_code 5 (some .int) [(0, 10, 13, 13), (0, 10, 17, 21)]) B.pre
  have hts := fun w hw => hta w (List.mem_cons_of_mem _ hw)
  have hown : s.vm.findClass "ChannelHallLaw" = some m.cls := findClass_of_methodNamed B.named
  subst hsz
  have hl : lv_has ((lg_sl [va_rf a0, .int x1, .int x2, va_rf a3] ++ List.replicate (5 - (lg_sl [va_rf a0, .int x1, .int x2, va_rf a3]).length) Slot.unset).toArray) 5 [(0, va_rf a0), (1, .int x1), (2, .int x2), (3, va_rf a3)] := by cases a0 <;> cases a3 <;> exact lv_entry _ (Nat.le_of_ble_eq_true rfl)
  rw [lg_entry_eq]
  exact l_La_channel_e ⟨B.exec, B.bytes, B.returns, hml, hown, hts, B.notSynchronized, hK, fun q h => Or.inr h, hZ0⟩ hl0 hq (vx_table (x := y_La_channel) B (hta _ List.mem_cons_self)) a0 x1 x2 a3 (Nat.zero_le _) (Nat.zero_le _) h hW va_S.rf hl

theorem d_La_item_0 : decode method_14_code 0 = .ok (.aload_n 3, 1) := by decide +kernel
theorem d_La_item_1 : decode method_14_code 1 = .ok (.iconst 0, 1) := by decide +kernel
theorem d_La_item_2 : decode method_14_code 2 = .ok (.aload_n 0, 1) := by decide +kernel
theorem d_La_item_3 : decode method_14_code 3 = .ok (.iload_n 1, 1) := by decide +kernel
theorem d_La_item_4 : decode method_14_code 4 = .ok (.iload_n 2, 1) := by decide +kernel
theorem d_La_item_5 : decode method_14_code 5 = .ok (.invokevirtual 59, 3) := by decide +kernel
theorem d_La_item_8 : decode method_14_code 8 = .ok (.i2l, 1) := by decide +kernel
theorem d_La_item_9 : decode method_14_code 9 = .ok (.lastore, 1) := by decide +kernel
theorem d_La_item_10 : decode method_14_code 10 = .ok (.goto 15, 3) := by decide +kernel
theorem d_La_item_13 : decode method_14_code 13 = .ok (.astore 4, 2) := by decide +kernel
theorem d_La_item_15 : decode method_14_code 15 = .ok (.iconst 1, 1) := by decide +kernel
theorem d_La_item_16 : decode method_14_code 16 = .ok (.ireturn, 1) := by decide +kernel
theorem d_La_item_17 : decode method_14_code 17 = .ok (.astore 4, 2) := by decide +kernel
theorem d_La_item_19 : decode method_14_code 19 = .ok (.iconst 2, 1) := by decide +kernel
theorem d_La_item_20 : decode method_14_code 20 = .ok (.ireturn, 1) := by decide +kernel
theorem d_La_item_21 : decode method_14_code 21 = .ok (.astore 4, 2) := by decide +kernel
theorem d_La_item_23 : decode method_14_code 23 = .ok (.iconst 3, 1) := by decide +kernel
theorem d_La_item_24 : decode method_14_code 24 = .ok (.ireturn, 1) := by decide +kernel
theorem d_La_item_25 : decode method_14_code 25 = .ok (.iconst 0, 1) := by decide +kernel
theorem d_La_item_26 : decode method_14_code 26 = .ok (.ireturn, 1) := by decide +kernel
def y_La_item : MethodName := ⟨"ChannelHallLaw", "item", "(LChannelHall;II[J)I"⟩
abbrev rm_La_item : Room := { frames := 8, cells := 3, slots := 18, locals := 126 }
def wp_La_item (G ca : Nat → Nat) (post : Int32 → hM → Prop) (M : hM) (a0 : Option Nat) (x1 : Int32) (x2 : Int32) (a3 : Option Nat) : Prop := nN a0 fun b9 => spl M fun Ma12 Mb13 => rC Ma12 b9 3 (wp_Ha_item G ca (fun r10 Mc14 => dis Mc14 Mb13 → ∀ M11 : hM, M11 = uni Mc14 Mb13 → nN a3 fun b15 => sJ M11 b15 (ca 3) 0 r10.toInt64 fun M16 => post 0 M16) (fun E Mc14 => dis Mc14 Mb13 → ∀ M11 : hM, M11 = uni Mc14 Mb13 → (E = "java/lang/IllegalArgumentException" ∧ post 1 M11) ∨ (E = "java/util/NoSuchElementException" ∧ post 2 M11) ∨ (E = "java/lang/IndexOutOfBoundsException" ∧ post 3 M11)) Ma12 b9 x1 x2)
set_option maxHeartbeats 1000000 in
set_option maxRecDepth 20000 in
theorem l_La_item_e {p : Program} {l : Launch} {e : Env} {s : State} {m : MethodId} {args : Array Value} {below : List Frame} {meth : Method} {c : Code} {D : va_G} {ca G : Nat → Nat} {A : Nat → Prop} (C0 : hC p s m args meth c D ca G method_14_code 5 (some .int) "ChannelHallLaw" A) (hl0 : l.stackTraces = false) (hq : hQ s) (htab : c.exceptionTable.toList = tableOf [(0, 10, 13, 13), (0, 10, 17, 21), (0, 10, 21, 62)]) {post : Int32 → hM → Prop} {M : hM} {H : Heap} {locs : List Loc} {ls : Array Slot} {cells slots : Nat} (a0 : Option Nat) (x1 : Int32) (x2 : Int32) (a3 : Option Nat) (hc : cells ≤ 0) (hs : slots ≤ 0) (h : wp_La_item G ca post M a0 x1 x2 a3) (hW : hw D wCl A M H) (hS : va_S A s.heap H locs) (hl : lv_has ls 5 [(0, va_rf a0), (1, .int x1), (2, .int x2), (3, va_rf a3)]) : W p l e rm_La_item s m args below meth c H locs cells slots (MQ below (va_Qi post (fun M' t => hw D wCl A M' t.heap) A) args s 3 18 A) (F0 m 0 ls []) := by
  obtain ⟨hx, hb, hr, hml, hown, hts, hlocks, hK, hA, hZ0⟩ := id C0
  refine lq_load_n hx hb d_La_item_0 rfl (lv_at hl 3 rfl) ?_
  refine lv_iconst (v := 0) hx hb d_La_item_1 (by decide) ?_
  refine lq_load_n hx hb d_La_item_2 rfl (lv_at hl 0 rfl) ?_
  refine lv_iload_n hx hb d_La_item_3 rfl (lv_at hl 1 rfl) ?_
  refine lv_iload_n hx hb d_La_item_4 rfl (lv_at hl 2 rfl) ?_
  obtain ⟨b9, rfl, h⟩ := h
  obtain ⟨Ma12, Mb13, hd, he, h7⟩ := h
  subst he
  have h := h7
  clear h7
  obtain ⟨⟨fs, h1⟩, h⟩ := h
  have h9 := h
  clear h
  have hW1 := hw_left hW
  have hF := hW1.free hS hA
  refine vx_calli (vx_runV (As := [.int x1, .int x2]) (rest := [.int 0, va_rf a3]) ⟨hx, hb, hml, hown, hts⟩ (c_Ha_item hl0 _ _ h9) (cwV 2 hts (gi_V bw_949 bw_950 bw_951 bw_1 bw_952) rfl rfl rfl (by decide +kernel) ⟨Nat.le_of_ble_eq_true rfl, Nat.le_of_ble_eq_true rfl⟩) ⟨hI.blind, hw_recv hK hW1 h1 rfl, hI.give hW1 hS hA hK hZ0⟩ rfl rfl hl.1 rfl (lv_room (by cases a3 <;> exact Nat.le_of_ble_eq_true rfl)) d_La_item_5 ⟨(show _ ≤ 3 by omega), (show _ ≤ 18 by omega)⟩) hS (fun q _ z => hF q z) hF (fun q _ z => hF q z) (fun E ce q9 Mc14 t H locs ht _ _ h8 _ hk hS hce hcv hcl => ?_) (fun r10 Mc14 t H locs ht _ h hB1 _ hk hS => ?_)
  · obtain ⟨hd, hW⟩ := hw_join hd hW hF hk ht h8.2
    have h := h8.1 hd _ rfl
    generalize uni Mc14 Mb13 = M11 at h hW
    clear h8 h9
    rcases h with ⟨rfl, h⟩ | ⟨rfl, h⟩ | ⟨rfl, h⟩
    · refine hq_catch hts hZ0 hq hown [] (0, 10, 13, 13) [(0, 10, 17, 21), (0, 10, 21, 62)] htab (fun _ h => absurd h List.not_mem_nil) (by decide) (by decide) (by decide) bw_120 (by decide) hce hcv hcl ?_
      refine lv_astore (lv' := [(4, .ref q9), (0, .ref b9), (1, .int x1), (2, .int x2), (3, va_rf a3)]) hx hb d_La_item_13 hl (by decide) (by cases a3 <;> rfl) (fun ls hl => ?_)
      refine lv_iconst (v := 1) hx hb d_La_item_15 (by decide) ?_
      refine W.widen (k := 3) (n := 18) (by omega) (by omega) ?_
      exact W.iret hx hb hr (fun t ht hWm => ⟨⟨_, _, rfl, h, hw_t ht hW⟩, hS.F ht⟩) hS.2.2 d_La_item_16
    · refine hq_catch hts hZ0 hq hown [(0, 10, 13, 13, "java/lang/IllegalArgumentException")] (0, 10, 17, 21) [(0, 10, 21, 62)] htab (List.forall_mem_cons.mpr ⟨⟨by decide, bw_120, by decide, by decide⟩, fun _ h => absurd h List.not_mem_nil⟩) (by decide) (by decide) (by decide) bw_294 (by decide) hce hcv hcl ?_
      refine lv_astore (lv' := [(4, .ref q9), (0, .ref b9), (1, .int x1), (2, .int x2), (3, va_rf a3)]) hx hb d_La_item_17 hl (by decide) (by cases a3 <;> rfl) (fun ls hl => ?_)
      refine lv_iconst (v := 2) hx hb d_La_item_19 (by decide) ?_
      refine W.widen (k := 3) (n := 18) (by omega) (by omega) ?_
      exact W.iret hx hb hr (fun t ht hWm => ⟨⟨_, _, rfl, h, hw_t ht hW⟩, hS.F ht⟩) hS.2.2 d_La_item_20
    · refine hq_catch hts hZ0 hq hown [(0, 10, 13, 13, "java/lang/IllegalArgumentException"), (0, 10, 17, 21, "java/util/NoSuchElementException")] (0, 10, 21, 62) [] htab (List.forall_mem_cons.mpr ⟨⟨by decide, bw_120, by decide, by decide⟩, List.forall_mem_cons.mpr ⟨⟨by decide, bw_294, by decide, by decide⟩, fun _ h => absurd h List.not_mem_nil⟩⟩) (by decide) (by decide) (by decide) bw_948 (by decide) hce hcv hcl ?_
      refine lv_astore (lv' := [(4, .ref q9), (0, .ref b9), (1, .int x1), (2, .int x2), (3, va_rf a3)]) hx hb d_La_item_21 hl (by decide) (by cases a3 <;> rfl) (fun ls hl => ?_)
      refine lv_iconst (v := 3) hx hb d_La_item_23 (by decide) ?_
      refine W.widen (k := 3) (n := 18) (by omega) (by omega) ?_
      exact W.iret hx hb hr (fun t ht hWm => ⟨⟨_, _, rfl, h, hw_t ht hW⟩, hS.F ht⟩) hS.2.2 d_La_item_24
  · obtain ⟨hd, hW⟩ := hw_join hd hW hF hk ht hB1
    replace h := h hd _ rfl
    generalize uni Mc14 Mb13 = M11 at h hW
    clear h9
    refine lv_i2l hx hb d_La_item_8 rfl ?_
    obtain ⟨b15, rfl, h⟩ := h
    obtain ⟨n, f, h1, h2, h⟩ := h
    obtain ⟨ws, q0, hq, hP, hD, hback, -⟩ := hw_open hW h1
    refine va_last hx hb hK hP hD hS q0 3 hq rfl h2 d_La_item_9 (fun H locs hP hD hS => ?_)
    have hW := hback _ _ hP hD
    generalize hM2 : va_up M11 b15 _ = M16 at h hW
    refine lv_goto (tgt := 25) hx hb d_La_item_10 (by decide) ?_
    refine lv_iconst (v := 0) hx hb d_La_item_25 (by decide) ?_
    refine W.widen (k := 3) (n := 18) (by omega) (by omega) ?_
    exact W.iret hx hb hr (fun t ht hWm => ⟨⟨_, _, rfl, h, hw_t ht hW⟩, hS.F ht⟩) hS.2.2 d_La_item_26
set_option maxRecDepth 20000 in
theorem c_La_item {l : Launch} (hl0 : l.stackTraces = false) {D : va_G} {ca G : Nat → Nat} (post : Int32 → hM → Prop) {M : hM} {sz : Nat} {a0 : Option Nat} {x1 : Int32} {x2 : Int32} {a3 : Option Nat} (h : wp_La_item G ca post M a0 x1 x2 a3) : Met l y_La_item (wzH y_La_item method_14_code 5 (some .int) [(0, 10, 13, 13), (0, 10, 17, 21), (0, 10, 21, 62)]) rm_La_item (va_Pc [va_rf a0, .int x1, .int x2, va_rf a3] (hJ D ca G sz M)) (va_Qi post (hB D M sz) (hp_A M sz)) 3 18 (hp_A M sz) := by
  refine va_MetW (cc := method_14_code) (maxL := 5) (ret := some .int) (hh := [(0, 10, 13, 13), (0, 10, 17, 21), (0, 10, 21, 62)]) (by decide) rfl ?_
  intro p e s m args below meth c s₁ B hml hv
  obtain ⟨rfl, ⟨hsz, hW, hK, hZ0⟩, hq⟩ := hv
  have hta := atoms_spec (ws := wzH y_La_item method_14_code 5 (some .int) [(0, 10, 13, 13), (0, 10, 17, 21), (0, 10, 21, 62)]) B.pre
  have hts := fun w hw => hta w (List.mem_cons_of_mem _ hw)
  have hown : s.vm.findClass "ChannelHallLaw" = some m.cls := findClass_of_methodNamed B.named
  subst hsz
  have hl : lv_has ((lg_sl [va_rf a0, .int x1, .int x2, va_rf a3] ++ List.replicate (5 - (lg_sl [va_rf a0, .int x1, .int x2, va_rf a3]).length) Slot.unset).toArray) 5 [(0, va_rf a0), (1, .int x1), (2, .int x2), (3, va_rf a3)] := by cases a0 <;> cases a3 <;> exact lv_entry _ (Nat.le_of_ble_eq_true rfl)
  rw [lg_entry_eq]
  exact l_La_item_e ⟨B.exec, B.bytes, B.returns, hml, hown, hts, B.notSynchronized, hK, fun q h => Or.inr h, hZ0⟩ hl0 hq (vx_table (x := y_La_item) B (hta _ List.mem_cons_self)) a0 x1 x2 a3 (Nat.zero_le _) (Nat.zero_le _) h hW va_S.rf hl

theorem d_La_stay_0 : decode method_15_code 0 = .ok (.aload_n 2, 1) := by decide +kernel
theorem d_La_stay_1 : decode method_15_code 1 = .ok (.iconst 0, 1) := by decide +kernel
theorem d_La_stay_2 : decode method_15_code 2 = .ok (.aload_n 0, 1) := by decide +kernel
theorem d_La_stay_3 : decode method_15_code 3 = .ok (.iload_n 1, 1) := by decide +kernel
theorem d_La_stay_4 : decode method_15_code 4 = .ok (.invokevirtual 64, 3) := by decide +kernel
theorem d_La_stay_7 : decode method_15_code 7 = .ok (.dastore, 1) := by decide +kernel
theorem d_La_stay_8 : decode method_15_code 8 = .ok (.goto 12, 3) := by decide +kernel
theorem d_La_stay_11 : decode method_15_code 11 = .ok (.astore_n 3, 1) := by decide +kernel
theorem d_La_stay_12 : decode method_15_code 12 = .ok (.iconst 1, 1) := by decide +kernel
theorem d_La_stay_13 : decode method_15_code 13 = .ok (.ireturn, 1) := by decide +kernel
theorem d_La_stay_14 : decode method_15_code 14 = .ok (.astore_n 3, 1) := by decide +kernel
theorem d_La_stay_15 : decode method_15_code 15 = .ok (.iconst 2, 1) := by decide +kernel
theorem d_La_stay_16 : decode method_15_code 16 = .ok (.ireturn, 1) := by decide +kernel
theorem d_La_stay_17 : decode method_15_code 17 = .ok (.astore_n 3, 1) := by decide +kernel
theorem d_La_stay_18 : decode method_15_code 18 = .ok (.iconst 3, 1) := by decide +kernel
theorem d_La_stay_19 : decode method_15_code 19 = .ok (.ireturn, 1) := by decide +kernel
theorem d_La_stay_20 : decode method_15_code 20 = .ok (.iconst 0, 1) := by decide +kernel
theorem d_La_stay_21 : decode method_15_code 21 = .ok (.ireturn, 1) := by decide +kernel
def y_La_stay : MethodName := ⟨"ChannelHallLaw", "stay", "(LChannelHall;I[D)I"⟩
abbrev rm_La_stay : Room := { frames := 8, cells := 3, slots := 18, locals := 125 }
def wp_La_stay (G ca : Nat → Nat) (post : Int32 → hM → Prop) (M : hM) (a0 : Option Nat) (x1 : Int32) (a2 : Option Nat) : Prop := nN a0 fun b9 => spl M fun Ma12 Mb13 => rC Ma12 b9 3 (wp_Ha_stay G ca (fun r10 Mc14 => dis Mc14 Mb13 → ∀ M11 : hM, M11 = uni Mc14 Mb13 → nN a2 fun b15 => sD M11 b15 (ca 4) 0 r10 fun M16 => post 0 M16) (fun E Mc14 => dis Mc14 Mb13 → ∀ M11 : hM, M11 = uni Mc14 Mb13 → (E = "java/lang/IllegalArgumentException" ∧ post 1 M11) ∨ (E = "java/util/NoSuchElementException" ∧ post 2 M11) ∨ (E = "java/lang/ArithmeticException" ∧ post 3 M11)) Ma12 b9 x1)
set_option maxHeartbeats 1000000 in
set_option maxRecDepth 20000 in
theorem l_La_stay_e {p : Program} {l : Launch} {e : Env} {s : State} {m : MethodId} {args : Array Value} {below : List Frame} {meth : Method} {c : Code} {D : va_G} {ca G : Nat → Nat} {A : Nat → Prop} (C0 : hC p s m args meth c D ca G method_15_code 4 (some .int) "ChannelHallLaw" A) (hl0 : l.stackTraces = false) (hq : hQ s) (htab : c.exceptionTable.toList = tableOf [(0, 8, 11, 13), (0, 8, 14, 21), (0, 8, 17, 36)]) {post : Int32 → hM → Prop} {M : hM} {H : Heap} {locs : List Loc} {ls : Array Slot} {cells slots : Nat} (a0 : Option Nat) (x1 : Int32) (a2 : Option Nat) (hc : cells ≤ 0) (hs : slots ≤ 0) (h : wp_La_stay G ca post M a0 x1 a2) (hW : hw D wCl A M H) (hS : va_S A s.heap H locs) (hl : lv_has ls 4 [(0, va_rf a0), (1, .int x1), (2, va_rf a2)]) : W p l e rm_La_stay s m args below meth c H locs cells slots (MQ below (va_Qi post (fun M' t => hw D wCl A M' t.heap) A) args s 3 18 A) (F0 m 0 ls []) := by
  obtain ⟨hx, hb, hr, hml, hown, hts, hlocks, hK, hA, hZ0⟩ := id C0
  refine lq_load_n hx hb d_La_stay_0 rfl (lv_at hl 2 rfl) ?_
  refine lv_iconst (v := 0) hx hb d_La_stay_1 (by decide) ?_
  refine lq_load_n hx hb d_La_stay_2 rfl (lv_at hl 0 rfl) ?_
  refine lv_iload_n hx hb d_La_stay_3 rfl (lv_at hl 1 rfl) ?_
  obtain ⟨b9, rfl, h⟩ := h
  obtain ⟨Ma12, Mb13, hd, he, h7⟩ := h
  subst he
  have h := h7
  clear h7
  obtain ⟨⟨fs, h1⟩, h⟩ := h
  have h9 := h
  clear h
  have hW1 := hw_left hW
  have hF := hW1.free hS hA
  refine vx_calld (vx_runV (As := [.int x1]) (rest := [.int 0, va_rf a2]) ⟨hx, hb, hml, hown, hts⟩ (c_Ha_stay hl0 _ _ h9) (cwV 1 hts (gi_V bw_963 bw_964 bw_965 bw_1 bw_966) rfl rfl rfl (by decide +kernel) ⟨Nat.le_of_ble_eq_true rfl, Nat.le_of_ble_eq_true rfl⟩) ⟨hI.blind, hw_recv hK hW1 h1 rfl, hI.give hW1 hS hA hK hZ0⟩ rfl rfl hl.1 rfl (lv_room (by cases a2 <;> exact Nat.le_of_ble_eq_true rfl)) d_La_stay_4 ⟨(show _ ≤ 3 by omega), (show _ ≤ 18 by omega)⟩) hS (fun q _ z => hF q z) hF (fun q _ z => hF q z) (fun E ce q9 Mc14 t H locs ht _ _ h8 _ hk hS hce hcv hcl => ?_) (fun r10 Mc14 t H locs ht _ h hB1 _ hk hS => ?_)
  · obtain ⟨hd, hW⟩ := hw_join hd hW hF hk ht h8.2
    have h := h8.1 hd _ rfl
    generalize uni Mc14 Mb13 = M11 at h hW
    clear h8 h9
    rcases h with ⟨rfl, h⟩ | ⟨rfl, h⟩ | ⟨rfl, h⟩
    · refine hq_catch hts hZ0 hq hown [] (0, 8, 11, 13) [(0, 8, 14, 21), (0, 8, 17, 36)] htab (fun _ h => absurd h List.not_mem_nil) (by decide) (by decide) (by decide) bw_120 (by decide) hce hcv hcl ?_
      refine lv_astore_n (lv' := [(3, .ref q9), (0, .ref b9), (1, .int x1), (2, va_rf a2)]) hx hb d_La_stay_11 rfl hl (by decide) (by cases a2 <;> rfl) (fun ls hl => ?_)
      refine lv_iconst (v := 1) hx hb d_La_stay_12 (by decide) ?_
      refine W.widen (k := 3) (n := 18) (by omega) (by omega) ?_
      exact W.iret hx hb hr (fun t ht hWm => ⟨⟨_, _, rfl, h, hw_t ht hW⟩, hS.F ht⟩) hS.2.2 d_La_stay_13
    · refine hq_catch hts hZ0 hq hown [(0, 8, 11, 13, "java/lang/IllegalArgumentException")] (0, 8, 14, 21) [(0, 8, 17, 36)] htab (List.forall_mem_cons.mpr ⟨⟨by decide, bw_120, by decide, by decide⟩, fun _ h => absurd h List.not_mem_nil⟩) (by decide) (by decide) (by decide) bw_294 (by decide) hce hcv hcl ?_
      refine lv_astore_n (lv' := [(3, .ref q9), (0, .ref b9), (1, .int x1), (2, va_rf a2)]) hx hb d_La_stay_14 rfl hl (by decide) (by cases a2 <;> rfl) (fun ls hl => ?_)
      refine lv_iconst (v := 2) hx hb d_La_stay_15 (by decide) ?_
      refine W.widen (k := 3) (n := 18) (by omega) (by omega) ?_
      exact W.iret hx hb hr (fun t ht hWm => ⟨⟨_, _, rfl, h, hw_t ht hW⟩, hS.F ht⟩) hS.2.2 d_La_stay_16
    · refine hq_catch hts hZ0 hq hown [(0, 8, 11, 13, "java/lang/IllegalArgumentException"), (0, 8, 14, 21, "java/util/NoSuchElementException")] (0, 8, 17, 36) [] htab (List.forall_mem_cons.mpr ⟨⟨by decide, bw_120, by decide, by decide⟩, List.forall_mem_cons.mpr ⟨⟨by decide, bw_294, by decide, by decide⟩, fun _ h => absurd h List.not_mem_nil⟩⟩) (by decide) (by decide) (by decide) bw_841 (by decide) hce hcv hcl ?_
      refine lv_astore_n (lv' := [(3, .ref q9), (0, .ref b9), (1, .int x1), (2, va_rf a2)]) hx hb d_La_stay_17 rfl hl (by decide) (by cases a2 <;> rfl) (fun ls hl => ?_)
      refine lv_iconst (v := 3) hx hb d_La_stay_18 (by decide) ?_
      refine W.widen (k := 3) (n := 18) (by omega) (by omega) ?_
      exact W.iret hx hb hr (fun t ht hWm => ⟨⟨_, _, rfl, h, hw_t ht hW⟩, hS.F ht⟩) hS.2.2 d_La_stay_19
  · obtain ⟨hd, hW⟩ := hw_join hd hW hF hk ht hB1
    replace h := h hd _ rfl
    generalize uni Mc14 Mb13 = M11 at h hW
    clear h9
    obtain ⟨b15, rfl, h⟩ := h
    obtain ⟨n, f, h1, h2, h⟩ := h
    obtain ⟨ws, q0, hq, hP, hD, hback, -⟩ := hw_open hW h1
    refine va_dast hx hb hK hP hD hS q0 4 hq rfl h2 d_La_stay_7 (fun H locs hP hD hS => ?_)
    have hW := hback _ _ hP hD
    generalize hM2 : va_up M11 b15 _ = M16 at h hW
    refine lv_goto (tgt := 20) hx hb d_La_stay_8 (by decide) ?_
    refine lv_iconst (v := 0) hx hb d_La_stay_20 (by decide) ?_
    refine W.widen (k := 3) (n := 18) (by omega) (by omega) ?_
    exact W.iret hx hb hr (fun t ht hWm => ⟨⟨_, _, rfl, h, hw_t ht hW⟩, hS.F ht⟩) hS.2.2 d_La_stay_21
set_option maxRecDepth 20000 in
theorem c_La_stay {l : Launch} (hl0 : l.stackTraces = false) {D : va_G} {ca G : Nat → Nat} (post : Int32 → hM → Prop) {M : hM} {sz : Nat} {a0 : Option Nat} {x1 : Int32} {a2 : Option Nat} (h : wp_La_stay G ca post M a0 x1 a2) : Met l y_La_stay (wzH y_La_stay method_15_code 4 (some .int) [(0, 8, 11, 13), (0, 8, 14, 21), (0, 8, 17, 36)]) rm_La_stay (va_Pc [va_rf a0, .int x1, va_rf a2] (hJ D ca G sz M)) (va_Qi post (hB D M sz) (hp_A M sz)) 3 18 (hp_A M sz) := by
  refine va_MetW (cc := method_15_code) (maxL := 4) (ret := some .int) (hh := [(0, 8, 11, 13), (0, 8, 14, 21), (0, 8, 17, 36)]) (by decide) rfl ?_
  intro p e s m args below meth c s₁ B hml hv
  obtain ⟨rfl, ⟨hsz, hW, hK, hZ0⟩, hq⟩ := hv
  have hta := atoms_spec (ws := wzH y_La_stay method_15_code 4 (some .int) [(0, 8, 11, 13), (0, 8, 14, 21), (0, 8, 17, 36)]) B.pre
  have hts := fun w hw => hta w (List.mem_cons_of_mem _ hw)
  have hown : s.vm.findClass "ChannelHallLaw" = some m.cls := findClass_of_methodNamed B.named
  subst hsz
  have hl : lv_has ((lg_sl [va_rf a0, .int x1, va_rf a2] ++ List.replicate (4 - (lg_sl [va_rf a0, .int x1, va_rf a2]).length) Slot.unset).toArray) 4 [(0, va_rf a0), (1, .int x1), (2, va_rf a2)] := by cases a0 <;> cases a2 <;> exact lv_entry _ (Nat.le_of_ble_eq_true rfl)
  rw [lg_entry_eq]
  exact l_La_stay_e ⟨B.exec, B.bytes, B.returns, hml, hown, hts, B.notSynchronized, hK, fun q h => Or.inr h, hZ0⟩ hl0 hq (vx_table (x := y_La_stay) B (hta _ List.mem_cons_self)) a0 x1 a2 (Nat.zero_le _) (Nat.zero_le _) h hW va_S.rf hl

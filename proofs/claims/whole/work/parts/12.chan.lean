theorem d_Ch_firstWaiter_0 : decode prog_2_method_8_code 0 = .ok (.iconst 0, 1) := by decide +kernel
theorem d_Ch_firstWaiter_1 : decode prog_2_method_8_code 1 = .ok (.istore_n 2, 1) := by decide +kernel
theorem d_Ch_firstWaiter_2 : decode prog_2_method_8_code 2 = .ok (.iload_n 2, 1) := by decide +kernel
theorem d_Ch_firstWaiter_3 : decode prog_2_method_8_code 3 = .ok (.aload_n 0, 1) := by decide +kernel
theorem d_Ch_firstWaiter_4 : decode prog_2_method_8_code 4 = .ok (.getfield 18, 3) := by decide +kernel
theorem d_Ch_firstWaiter_7 : decode prog_2_method_8_code 7 = .ok (.invokevirtual 79, 3) := by decide +kernel
theorem d_Ch_firstWaiter_10 : decode prog_2_method_8_code 10 = .ok (.if_icmp .ge 39, 3) := by decide +kernel
theorem d_Ch_firstWaiter_13 : decode prog_2_method_8_code 13 = .ok (.aload_n 0, 1) := by decide +kernel
theorem d_Ch_firstWaiter_14 : decode prog_2_method_8_code 14 = .ok (.getfield 18, 3) := by decide +kernel
theorem d_Ch_firstWaiter_17 : decode prog_2_method_8_code 17 = .ok (.iload_n 2, 1) := by decide +kernel
theorem d_Ch_firstWaiter_18 : decode prog_2_method_8_code 18 = .ok (.invokevirtual 56, 3) := by decide +kernel
theorem d_Ch_firstWaiter_21 : decode prog_2_method_8_code 21 = .ok (.checkcast 83, 3) := by decide +kernel
theorem d_Ch_firstWaiter_24 : decode prog_2_method_8_code 24 = .ok (.getfield 85, 3) := by decide +kernel
theorem d_Ch_firstWaiter_27 : decode prog_2_method_8_code 27 = .ok (.aload_n 1, 1) := by decide +kernel
theorem d_Ch_firstWaiter_28 : decode prog_2_method_8_code 28 = .ok (.if_acmp .ne 15, 3) := by decide +kernel
theorem d_Ch_firstWaiter_31 : decode prog_2_method_8_code 31 = .ok (.aload_n 0, 1) := by decide +kernel
theorem d_Ch_firstWaiter_32 : decode prog_2_method_8_code 32 = .ok (.getfield 18, 3) := by decide +kernel
theorem d_Ch_firstWaiter_35 : decode prog_2_method_8_code 35 = .ok (.iload_n 2, 1) := by decide +kernel
theorem d_Ch_firstWaiter_36 : decode prog_2_method_8_code 36 = .ok (.invokevirtual 56, 3) := by decide +kernel
theorem d_Ch_firstWaiter_39 : decode prog_2_method_8_code 39 = .ok (.checkcast 83, 3) := by decide +kernel
theorem d_Ch_firstWaiter_42 : decode prog_2_method_8_code 42 = .ok (.areturn, 1) := by decide +kernel
theorem d_Ch_firstWaiter_43 : decode prog_2_method_8_code 43 = .ok (.iinc 2 1, 3) := by decide +kernel
theorem d_Ch_firstWaiter_46 : decode prog_2_method_8_code 46 = .ok (.goto (-44), 3) := by decide +kernel
theorem d_Ch_firstWaiter_49 : decode prog_2_method_8_code 49 = .ok (.aconst_null, 1) := by decide +kernel
theorem d_Ch_firstWaiter_50 : decode prog_2_method_8_code 50 = .ok (.areturn, 1) := by decide +kernel
def y_Ch_firstWaiter : MethodName := ⟨"ChannelHall$Channel", "firstWaiter", "(LChannelHall$Role;)LChannelHall$Worker;"⟩
abbrev rm_Ch_firstWaiter : Room := { frames := 3, cells := 0, slots := 0, locals := 64 }
def wp_Ch_firstWaiter_2 (G ca : Nat → Nat) (post : Option Nat → hM → Prop) : Nat → hM → Nat → Option Nat → Int32 → Prop
  | 0, _, _, _, _ => False
  | n + 1, M, l0b2, l1b2, l2b2 => gR M l0b2 0 5 fun v18 => nN v18 fun b19 => rC M b19 4 (wp_Al_size G ca (fun r20 M21 => (r20 ≤ l2b2 → post none M21) ∧ (¬ r20 ≤ l2b2 → gR M21 l0b2 0 5 fun v23 => nN v23 fun b24 => rC M21 b24 4 (wp_Al_get G ca (fun r25 M26 => cO M26 r25 2 fun b27 => gR M26 b27 2 6 fun v28 => (¬ v28 = l1b2 → (wp_Ch_firstWaiter_2 G ca post n) M26 l0b2 l1b2 (l2b2 + 1)) ∧ (v28 = l1b2 → gR M26 l0b2 0 5 fun v30 => nN v30 fun b31 => rC M26 b31 4 (wp_Al_get G ca (fun r32 M33 => cO M33 r32 2 fun b34 => post (some b34) M33) M26 b31 l2b2))) M21 b24 l2b2))) M b19)
def wp_Ch_firstWaiter (G ca : Nat → Nat) (post : Option Nat → hM → Prop) (M : hM) (a0 : Nat) (a1 : Option Nat) : Prop := ∃ n, wp_Ch_firstWaiter_2 G ca post n M a0 a1 0
set_option maxHeartbeats 1000000 in
set_option maxRecDepth 20000 in
theorem l_Ch_firstWaiter_2 {p : Program} {l : Launch} {e : Env} {s : State} {m : MethodId} {args : Array Value} {below : List Frame} {meth : Method} {c : Code} {D : va_G} {ca G : Nat → Nat} {A : Nat → Prop} (C0 : hC p s m args meth c D ca G prog_2_method_8_code 3 (some (.object "ChannelHall$Worker")) "ChannelHall$Channel" A) {post : Option Nat → hM → Prop} : ∀ (n : Nat) {M : hM} {H : Heap} {locs : List Loc} {ls : Array Slot} (l0b2 : Nat) (l1b2 : Option Nat) (l2b2 : Int32) (h : wp_Ch_firstWaiter_2 G ca post n M l0b2 l1b2 l2b2) (hW : hw D wCl A M H) (hS : va_S A s.heap H locs) (hl : lv_has ls 3 [(0, .ref l0b2), (1, va_rf l1b2), (2, .int l2b2)]), W p l e rm_Ch_firstWaiter s m args below meth c H locs 0 0 (MQ below (va_Qq post (fun M' t => hw D wCl A M' t.heap) A) args s 0 0 A) (F0 m 2 ls []) := by
  obtain ⟨hx, hb, hr, hml, hown, hts, hlocks, hK, hA, hZ0⟩ := id C0
  intro n
  induction n with
  | zero =>
    intro M H locs ls l0b2 l1b2 l2b2 h
    exact False.elim h
  | succ n ih =>
    intro M H locs ls l0b2 l1b2 l2b2 h hW hS hl
    have hk_2 := fun M H locs ls l0b2 l1b2 l2b2 h hW hS hl => @ih M H locs ls l0b2 l1b2 l2b2 h hW hS hl
    refine lv_iload_n hx hb d_Ch_firstWaiter_2 rfl (lv_at hl 2 rfl) ?_
    refine lv_aload_n hx hb d_Ch_firstWaiter_3 rfl (lv_at hl 0 rfl) ?_
    obtain ⟨fs, v18, h1, h2, h⟩ := h
    refine va_get (D := D) (ci := 0) (v := va_rf v18) (C := "ChannelHall$Channel") (T := TCh) (N := 10) hx hb hts uCh hown hK (hw_one hW h1) 0 rfl rfl 5 (by decide) (hts _ bw_260) (fun _ h9 => h9) h2 d_Ch_firstWaiter_4 ?_
    obtain ⟨b19, rfl, h⟩ := h
    obtain ⟨⟨fs, h1⟩, h⟩ := h
    have h9 := h
    clear h
    have hF := hW.free hS hA
    refine va_calli (va_runV (As := []) (rest := [.int l2b2]) ⟨hx, hb, hml, hown, hts⟩ (c_Al_size _ h9) (cwV 0 hts (gi_V bw_376 bw_377 bw_378 bw_14 bw_379) rfl rfl rfl (by decide +kernel) ⟨Nat.le_of_ble_eq_true rfl, Nat.le_of_ble_eq_true rfl⟩) ⟨hI.blind, hw_recv hK hW h1 rfl, hI.give hW hS hA hK hZ0⟩ rfl rfl hl.1 rfl (lv_room (Nat.le_of_ble_eq_true rfl)) d_Ch_firstWaiter_7 ⟨(show _ ≤ 0 by omega), (show _ ≤ 0 by omega)⟩) hS (fun q _ z => hF q z) hF (fun r20 M21 t H locs ht _ h hB1 _ _ hS => ?_)
    have hW := hw_back hF ht hB1
    clear h9
    obtain ⟨h0, h1⟩ := h
    refine lv_icmp_ge (tgt := 49) hx hb d_Ch_firstWaiter_10 (by decide) (fun c22 => ?_) (fun c22 => ?_)
    · have h := h0 c22
      refine lv_null hx hb d_Ch_firstWaiter_49 ?_
      exact W.aret hx hb hr (Or.inl ⟨_, rfl⟩) (Or.inl rfl) (fun t ht hWm => ⟨⟨none, _, rfl, h, hw_t ht hW⟩, hS.F ht⟩) hS.2.2 d_Ch_firstWaiter_50
    · have h := h1 c22
      refine lv_aload_n hx hb d_Ch_firstWaiter_13 rfl (lv_at hl 0 rfl) ?_
      obtain ⟨fs, v23, h1, h2, h⟩ := h
      refine va_get (D := D) (ci := 0) (v := va_rf v23) (C := "ChannelHall$Channel") (T := TCh) (N := 10) hx hb hts uCh hown hK (hw_one hW h1) 0 rfl rfl 5 (by decide) (hts _ bw_260) (fun _ h9 => h9) h2 d_Ch_firstWaiter_14 ?_
      refine lv_iload_n hx hb d_Ch_firstWaiter_17 rfl (lv_at hl 2 rfl) ?_
      obtain ⟨b24, rfl, h⟩ := h
      obtain ⟨⟨fs, h1⟩, h⟩ := h
      have h9 := h
      clear h
      have hF := hW.free hS hA
      refine va_callq (va_runV (As := [.int l2b2]) (rest := []) ⟨hx, hb, hml, hown, hts⟩ (c_Al_get _ h9) (cwV 1 hts (gi_V bw_380 bw_381 bw_382 bw_14 bw_383) rfl rfl rfl (by decide +kernel) ⟨Nat.le_of_ble_eq_true rfl, Nat.le_of_ble_eq_true rfl⟩) ⟨hI.blind, hw_recv hK hW h1 rfl, hI.give hW hS hA hK hZ0⟩ rfl rfl hl.1 rfl (lv_room (Nat.le_of_ble_eq_true rfl)) d_Ch_firstWaiter_18 ⟨(show _ ≤ 0 by omega), (show _ ≤ 0 by omega)⟩) hS (fun q _ z => hF q z) hF (fun r25 M26 t H locs ht _ h hB1 _ _ hS => ?_)
      have hW := hw_back hF ht hB1
      clear h9
      obtain ⟨b27, fs, rfl, h1, h⟩ := h
      refine va_castS (cC := D.1 2) hx hb hown (hts _ bw_394) (hK.1 2 _ rfl).2 (hw_recv hK hW h1 rfl) d_Ch_firstWaiter_21 ?_
      obtain ⟨fs, v28, h1, h2, h⟩ := h
      refine va_get (D := D) (ci := 2) (v := va_rf v28) (C := "ChannelHall$Worker") (T := TWo) (N := 11) hx hb hts uWo hown hK (hw_one hW h1) 0 rfl rfl 6 (by decide) (hts _ bw_66) (fun _ h9 => h9) h2 d_Ch_firstWaiter_24 ?_
      refine lq_load_n hx hb d_Ch_firstWaiter_27 rfl (lv_at hl 1 rfl) ?_
      obtain ⟨h0, h1⟩ := h
      refine lv_acmp_ne (rx := v28) (ry := l1b2) (tgt := 43) hx hb d_Ch_firstWaiter_28 (by decide) (fun c29 => ?_) (fun c29 => ?_)
      · have h := h0 c29
        refine lv_iinc (v := l2b2 + 1) (lv' := [(2, .int (l2b2 + 1)), (0, .ref l0b2), (1, va_rf l1b2)]) hx hb d_Ch_firstWaiter_43 hl (k := 2) rfl rfl (by decide) (by cases l1b2 <;> rfl) (fun ls hl => ?_)
        refine lv_goto (tgt := 2) hx hb d_Ch_firstWaiter_46 (by decide) ?_
        exact hk_2 _ _ _ _ l0b2 l1b2 (l2b2 + 1) h hW hS (lv_sub hl [1, 2, 0] rfl)
      · have h := h1 c29
        refine lv_aload_n hx hb d_Ch_firstWaiter_31 rfl (lv_at hl 0 rfl) ?_
        obtain ⟨fs, v30, h1, h2, h⟩ := h
        refine va_get (D := D) (ci := 0) (v := va_rf v30) (C := "ChannelHall$Channel") (T := TCh) (N := 10) hx hb hts uCh hown hK (hw_one hW h1) 0 rfl rfl 5 (by decide) (hts _ bw_260) (fun _ h9 => h9) h2 d_Ch_firstWaiter_32 ?_
        refine lv_iload_n hx hb d_Ch_firstWaiter_35 rfl (lv_at hl 2 rfl) ?_
        obtain ⟨b31, rfl, h⟩ := h
        obtain ⟨⟨fs, h1⟩, h⟩ := h
        have h9 := h
        clear h
        have hF := hW.free hS hA
        refine va_callq (va_runV (As := [.int l2b2]) (rest := []) ⟨hx, hb, hml, hown, hts⟩ (c_Al_get _ h9) (cwV 1 hts (gi_V bw_380 bw_381 bw_382 bw_14 bw_383) rfl rfl rfl (by decide +kernel) ⟨Nat.le_of_ble_eq_true rfl, Nat.le_of_ble_eq_true rfl⟩) ⟨hI.blind, hw_recv hK hW h1 rfl, hI.give hW hS hA hK hZ0⟩ rfl rfl hl.1 rfl (lv_room (Nat.le_of_ble_eq_true rfl)) d_Ch_firstWaiter_36 ⟨(show _ ≤ 0 by omega), (show _ ≤ 0 by omega)⟩) hS (fun q _ z => hF q z) hF (fun r32 M33 t H locs ht _ h hB1 _ _ hS => ?_)
        have hW := hw_back hF ht hB1
        clear h9
        obtain ⟨b34, fs, rfl, h1, h⟩ := h
        refine va_castS (cC := D.1 2) hx hb hown (hts _ bw_394) (hK.1 2 _ rfl).2 (hw_recv hK hW h1 rfl) d_Ch_firstWaiter_39 ?_
        exact W.aret hx hb hr (Or.inl ⟨_, rfl⟩) (Or.inr ⟨_, rfl⟩) (fun t ht hWm => ⟨⟨(some b34), _, rfl, h, hw_t ht hW⟩, hS.F ht⟩) hS.2.2 d_Ch_firstWaiter_42
set_option maxHeartbeats 1000000 in
set_option maxRecDepth 20000 in
theorem l_Ch_firstWaiter_e {p : Program} {l : Launch} {e : Env} {s : State} {m : MethodId} {args : Array Value} {below : List Frame} {meth : Method} {c : Code} {D : va_G} {ca G : Nat → Nat} {A : Nat → Prop} (C0 : hC p s m args meth c D ca G prog_2_method_8_code 3 (some (.object "ChannelHall$Worker")) "ChannelHall$Channel" A) {post : Option Nat → hM → Prop} {M : hM} {H : Heap} {locs : List Loc} {ls : Array Slot} (a0 : Nat) (a1 : Option Nat) (h : wp_Ch_firstWaiter G ca post M a0 a1) (hW : hw D wCl A M H) (hS : va_S A s.heap H locs) (hl : lv_has ls 3 [(0, .ref a0), (1, va_rf a1)]) : W p l e rm_Ch_firstWaiter s m args below meth c H locs 0 0 (MQ below (va_Qq post (fun M' t => hw D wCl A M' t.heap) A) args s 0 0 A) (F0 m 0 ls []) := by
  obtain ⟨hx, hb, hr, hml, hown, hts, hlocks, hK, hA, hZ0⟩ := id C0
  refine lv_iconst (v := 0) hx hb d_Ch_firstWaiter_0 (by decide) ?_
  refine lv_istore_n (lv' := [(2, .int 0), (0, .ref a0), (1, va_rf a1)]) hx hb d_Ch_firstWaiter_1 rfl hl (by decide) (by cases a1 <;> rfl) (fun ls hl => ?_)
  obtain ⟨n, h⟩ := h
  exact l_Ch_firstWaiter_2 C0 n a0 a1 0 h hW hS (lv_sub hl [1, 2, 0] rfl)
set_option maxRecDepth 20000 in
theorem c_Ch_firstWaiter {l : Launch} {D : va_G} {ca G : Nat → Nat} (post : Option Nat → hM → Prop) {M : hM} {sz : Nat} {a0 : Nat} {a1 : Option Nat} (h : wp_Ch_firstWaiter G ca post M a0 a1) : Met l y_Ch_firstWaiter (wz y_Ch_firstWaiter prog_2_method_8_code 3 (some (.object "ChannelHall$Worker"))) rm_Ch_firstWaiter (va_Pc [.ref a0, va_rf a1] (hI D ca G sz M)) (va_Qq post (hB D M sz) (hp_A M sz)) 0 0 (hp_A M sz) := by
  refine Met.ofW (cc := prog_2_method_8_code) (maxL := 3) (ret := some (.object "ChannelHall$Worker")) (by decide) rfl ?_
  intro p e s m args below meth c s₁ B hml hv
  obtain ⟨rfl, hsz, hW, hK, hZ0⟩ := hv
  have hts := fun w hw => atoms_spec (ws := wz y_Ch_firstWaiter prog_2_method_8_code 3 (some (.object "ChannelHall$Worker"))) B.pre w (List.mem_cons_of_mem _ hw)
  have hown : s.vm.findClass "ChannelHall$Channel" = some m.cls := findClass_of_methodNamed B.named
  subst hsz
  have hl : lv_has ((lg_sl [.ref a0, va_rf a1] ++ List.replicate (3 - (lg_sl [.ref a0, va_rf a1]).length) Slot.unset).toArray) 3 [(0, .ref a0), (1, va_rf a1)] := by cases a1 <;> exact lv_entry _ (Nat.le_of_ble_eq_true rfl)
  rw [lg_entry_eq]
  exact l_Ch_firstWaiter_e ⟨B.exec, B.bytes, B.returns, hml, hown, hts, B.notSynchronized, hK, fun q h => Or.inr h, hZ0⟩ a0 a1 h hW va_S.rf hl

theorem d_Ch_isReady_0 : decode prog_2_method_5_code 0 = .ok (.aload_n 0, 1) := by decide +kernel
theorem d_Ch_isReady_1 : decode prog_2_method_5_code 1 = .ok (.getfield 12, 3) := by decide +kernel
theorem d_Ch_isReady_4 : decode prog_2_method_5_code 4 = .ok (.invokevirtual 52, 3) := by decide +kernel
theorem d_Ch_isReady_7 : decode prog_2_method_5_code 7 = .ok (.ifCond .eq 5, 3) := by decide +kernel
theorem d_Ch_isReady_10 : decode prog_2_method_5_code 10 = .ok (.iconst 0, 1) := by decide +kernel
theorem d_Ch_isReady_11 : decode prog_2_method_5_code 11 = .ok (.ireturn, 1) := by decide +kernel
theorem d_Ch_isReady_12 : decode prog_2_method_5_code 12 = .ok (.aload_n 0, 1) := by decide +kernel
theorem d_Ch_isReady_13 : decode prog_2_method_5_code 13 = .ok (.getfield 39, 3) := by decide +kernel
theorem d_Ch_isReady_16 : decode prog_2_method_5_code 16 = .ok (.iconst 4, 1) := by decide +kernel
theorem d_Ch_isReady_17 : decode prog_2_method_5_code 17 = .ok (.if_icmp .ne 22, 3) := by decide +kernel
theorem d_Ch_isReady_20 : decode prog_2_method_5_code 20 = .ok (.aload_n 0, 1) := by decide +kernel
theorem d_Ch_isReady_21 : decode prog_2_method_5_code 21 = .ok (.getfield 12, 3) := by decide +kernel
theorem d_Ch_isReady_24 : decode prog_2_method_5_code 24 = .ok (.iconst 0, 1) := by decide +kernel
theorem d_Ch_isReady_25 : decode prog_2_method_5_code 25 = .ok (.invokevirtual 56, 3) := by decide +kernel
theorem d_Ch_isReady_28 : decode prog_2_method_5_code 28 = .ok (.checkcast 60, 3) := by decide +kernel
theorem d_Ch_isReady_31 : decode prog_2_method_5_code 31 = .ok (.getfield 62, 3) := by decide +kernel
theorem d_Ch_isReady_34 : decode prog_2_method_5_code 34 = .ok (.dload_n 1, 1) := by decide +kernel
theorem d_Ch_isReady_35 : decode prog_2_method_5_code 35 = .ok (.dcmp .g, 1) := by decide +kernel
theorem d_Ch_isReady_36 : decode prog_2_method_5_code 36 = .ok (.ifCond .gt 7, 3) := by decide +kernel
theorem d_Ch_isReady_39 : decode prog_2_method_5_code 39 = .ok (.iconst 1, 1) := by decide +kernel
theorem d_Ch_isReady_40 : decode prog_2_method_5_code 40 = .ok (.goto 4, 3) := by decide +kernel
theorem d_Ch_isReady_43 : decode prog_2_method_5_code 43 = .ok (.iconst 0, 1) := by decide +kernel
theorem d_Ch_isReady_44 : decode prog_2_method_5_code 44 = .ok (.ireturn, 1) := by decide +kernel
def y_Ch_isReady : MethodName := ⟨"ChannelHall$Channel", "isReady", "(D)Z"⟩
abbrev rm_Ch_isReady : Room := { frames := 3, cells := 0, slots := 0, locals := 64 }
def wp_Ch_isReady_44 (G ca : Nat → Nat) (post : Int32 → hM → Prop) (M : hM) (s0b44 : Int32) : Prop := bZ s0b44 (post s0b44 M)
def wp_Ch_isReady_39 (G ca : Nat → Nat) (post : Int32 → hM → Prop) (M : hM)  : Prop := wp_Ch_isReady_44 G ca post M 1
def wp_Ch_isReady (G ca : Nat → Nat) (post : Int32 → hM → Prop) (M : hM) (a0 : Nat) (x1 : UInt64) : Prop := gR M a0 0 4 fun v15 => nN v15 fun b16 => rC M b16 4 (wp_Al_isEmpty G ca (fun r17 M18 => (r17 = 0 → gI M18 a0 0 1 fun v20 => (¬ v20 = 4 → wp_Ch_isReady_39 G ca post M18) ∧ (v20 = 4 → gR M18 a0 0 4 fun v22 => nN v22 fun b23 => rC M18 b23 4 (wp_Al_get G ca (fun r24 M25 => cO M25 r24 1 fun b26 => gD M25 b26 1 1 fun v27 => (0 < (Op.cmpValue (FP.dcmp v27 x1) .g) → wp_Ch_isReady_44 G ca post M25 0) ∧ (¬ 0 < (Op.cmpValue (FP.dcmp v27 x1) .g) → wp_Ch_isReady_39 G ca post M25)) M18 b23 0))) ∧ (¬ r17 = 0 → post 0 M18)) M b16)
set_option maxHeartbeats 1000000 in
set_option maxRecDepth 20000 in
theorem l_Ch_isReady_44 {p : Program} {l : Launch} {e : Env} {s : State} {m : MethodId} {args : Array Value} {below : List Frame} {meth : Method} {c : Code} {D : va_G} {ca G : Nat → Nat} {A : Nat → Prop} (C0 : hC p s m args meth c D ca G prog_2_method_5_code 3 (some .boolean) "ChannelHall$Channel" A) {post : Int32 → hM → Prop} {M : hM} {H : Heap} {locs : List Loc} {ls : Array Slot} (s0b44 : Int32) (h : wp_Ch_isReady_44 G ca post M s0b44) (hW : hw D wCl A M H) (hS : va_S A s.heap H locs) (hl : lv_has ls 3 []) : W p l e rm_Ch_isReady s m args below meth c H locs 0 0 (MQ below (va_Qi post (fun M' t => hw D wCl A M' t.heap) A) args s 0 0 A) (F0 m 44 ls [.int s0b44]) := by
  obtain ⟨hx, hb, hr, hml, hown, hts, hlocks, hK, hA, hZ0⟩ := id C0
  obtain ⟨hz, h⟩ := h
  exact W.zret hx hb hr (nb_n hz) (fun t ht hWm => ⟨⟨_, _, rfl, h, hw_t ht hW⟩, hS.F ht⟩) hS.2.2 d_Ch_isReady_44
set_option maxHeartbeats 1000000 in
set_option maxRecDepth 20000 in
theorem l_Ch_isReady_39 {p : Program} {l : Launch} {e : Env} {s : State} {m : MethodId} {args : Array Value} {below : List Frame} {meth : Method} {c : Code} {D : va_G} {ca G : Nat → Nat} {A : Nat → Prop} (C0 : hC p s m args meth c D ca G prog_2_method_5_code 3 (some .boolean) "ChannelHall$Channel" A) {post : Int32 → hM → Prop} {M : hM} {H : Heap} {locs : List Loc} {ls : Array Slot}  (h : wp_Ch_isReady_39 G ca post M) (hW : hw D wCl A M H) (hS : va_S A s.heap H locs) (hl : lv_has ls 3 []) : W p l e rm_Ch_isReady s m args below meth c H locs 0 0 (MQ below (va_Qi post (fun M' t => hw D wCl A M' t.heap) A) args s 0 0 A) (F0 m 39 ls []) := by
  obtain ⟨hx, hb, hr, hml, hown, hts, hlocks, hK, hA, hZ0⟩ := id C0
  refine lv_iconst (v := 1) hx hb d_Ch_isReady_39 (by decide) ?_
  refine lv_goto (tgt := 44) hx hb d_Ch_isReady_40 (by decide) ?_
  exact l_Ch_isReady_44 C0 1 h hW hS (lv_sub hl [] rfl)
set_option maxHeartbeats 1000000 in
set_option maxRecDepth 20000 in
theorem l_Ch_isReady_e {p : Program} {l : Launch} {e : Env} {s : State} {m : MethodId} {args : Array Value} {below : List Frame} {meth : Method} {c : Code} {D : va_G} {ca G : Nat → Nat} {A : Nat → Prop} (C0 : hC p s m args meth c D ca G prog_2_method_5_code 3 (some .boolean) "ChannelHall$Channel" A) {post : Int32 → hM → Prop} {M : hM} {H : Heap} {locs : List Loc} {ls : Array Slot} (a0 : Nat) (x1 : UInt64) (h : wp_Ch_isReady G ca post M a0 x1) (hW : hw D wCl A M H) (hS : va_S A s.heap H locs) (hl : lv_has ls 3 [(0, .ref a0), (1, .double x1)]) : W p l e rm_Ch_isReady s m args below meth c H locs 0 0 (MQ below (va_Qi post (fun M' t => hw D wCl A M' t.heap) A) args s 0 0 A) (F0 m 0 ls []) := by
  obtain ⟨hx, hb, hr, hml, hown, hts, hlocks, hK, hA, hZ0⟩ := id C0
  refine lv_aload_n hx hb d_Ch_isReady_0 rfl (lv_at hl 0 rfl) ?_
  obtain ⟨fs, v15, h1, h2, h⟩ := h
  refine va_get (D := D) (ci := 0) (v := va_rf v15) (C := "ChannelHall$Channel") (T := TCh) (N := 10) hx hb hts uCh hown hK (hw_one hW h1) 0 rfl rfl 4 (by decide) (hts _ bw_258) (fun _ h9 => h9) h2 d_Ch_isReady_1 ?_
  obtain ⟨b16, rfl, h⟩ := h
  obtain ⟨⟨fs, h1⟩, h⟩ := h
  have h9 := h
  clear h
  have hF := hW.free hS hA
  refine va_calli (va_runV (As := []) (rest := []) ⟨hx, hb, hml, hown, hts⟩ (c_Al_isEmpty _ h9) (cwV 0 hts (gi_V bw_803 bw_804 bw_805 bw_14 bw_806) rfl rfl rfl (by decide +kernel) ⟨Nat.le_of_ble_eq_true rfl, Nat.le_of_ble_eq_true rfl⟩) ⟨hI.blind, hw_recv hK hW h1 rfl, hI.give hW hS hA hK hZ0⟩ rfl rfl hl.1 rfl (lv_room (Nat.le_of_ble_eq_true rfl)) d_Ch_isReady_4 ⟨(show _ ≤ 0 by omega), (show _ ≤ 0 by omega)⟩) hS (fun q _ z => hF q z) hF (fun r17 M18 t H locs ht _ h hB1 _ _ hS => ?_)
  have hW := hw_back hF ht hB1
  clear h9
  obtain ⟨h0, h1⟩ := h
  refine lv_if_eq (tgt := 12) hx hb d_Ch_isReady_7 (by decide) (fun c19 => ?_) (fun c19 => ?_)
  · have h := h0 c19
    refine lv_aload_n hx hb d_Ch_isReady_12 rfl (lv_at hl 0 rfl) ?_
    obtain ⟨fs, v20, h1, h2, h⟩ := h
    refine va_get (D := D) (ci := 0) (v := .int v20) (C := "ChannelHall$Channel") (T := TCh) (N := 10) hx hb hts uCh hown hK (hw_one hW h1) 0 rfl rfl 1 (by decide) (hts _ bw_253) (fun _ h9 => h9) h2 d_Ch_isReady_13 ?_
    refine lv_iconst (v := 4) hx hb d_Ch_isReady_16 (by decide) ?_
    obtain ⟨h0, h1⟩ := h
    refine lv_icmp_ne (tgt := 39) hx hb d_Ch_isReady_17 (by decide) (fun c21 => ?_) (fun c21 => ?_)
    · have h := h0 c21
      exact l_Ch_isReady_39 C0  h hW hS (lv_sub hl [] rfl)
    · have h := h1 c21
      refine lv_aload_n hx hb d_Ch_isReady_20 rfl (lv_at hl 0 rfl) ?_
      obtain ⟨fs, v22, h1, h2, h⟩ := h
      refine va_get (D := D) (ci := 0) (v := va_rf v22) (C := "ChannelHall$Channel") (T := TCh) (N := 10) hx hb hts uCh hown hK (hw_one hW h1) 0 rfl rfl 4 (by decide) (hts _ bw_258) (fun _ h9 => h9) h2 d_Ch_isReady_21 ?_
      refine lv_iconst (v := 0) hx hb d_Ch_isReady_24 (by decide) ?_
      obtain ⟨b23, rfl, h⟩ := h
      obtain ⟨⟨fs, h1⟩, h⟩ := h
      have h9 := h
      clear h
      have hF := hW.free hS hA
      refine va_callq (va_runV (As := [.int 0]) (rest := []) ⟨hx, hb, hml, hown, hts⟩ (c_Al_get _ h9) (cwV 1 hts (gi_V bw_380 bw_381 bw_382 bw_14 bw_383) rfl rfl rfl (by decide +kernel) ⟨Nat.le_of_ble_eq_true rfl, Nat.le_of_ble_eq_true rfl⟩) ⟨hI.blind, hw_recv hK hW h1 rfl, hI.give hW hS hA hK hZ0⟩ rfl rfl hl.1 rfl (lv_room (Nat.le_of_ble_eq_true rfl)) d_Ch_isReady_25 ⟨(show _ ≤ 0 by omega), (show _ ≤ 0 by omega)⟩) hS (fun q _ z => hF q z) hF (fun r24 M25 t H locs ht _ h hB1 _ _ hS => ?_)
      have hW := hw_back hF ht hB1
      clear h9
      obtain ⟨b26, fs, rfl, h1, h⟩ := h
      refine va_castS (cC := D.1 1) hx hb hown (hts _ bw_476) (hK.1 1 _ rfl).2 (hw_recv hK hW h1 rfl) d_Ch_isReady_28 ?_
      obtain ⟨fs, v27, h1, h2, h⟩ := h
      refine va_get (D := D) (ci := 1) (v := .double v27) (C := "ChannelHall$Item") (T := TIt) (N := 3) hx hb hts uIt hown hK (hw_one hW h1) 0 rfl rfl 1 (by decide) (hts _ bw_486) (fun _ h9 => h9) h2 d_Ch_isReady_31 ?_
      refine lv_dload_n hx hb d_Ch_isReady_34 rfl (lv_at hl 1 rfl) ?_
      refine lv_dcmp hx hb d_Ch_isReady_35 ?_
      obtain ⟨h0, h1⟩ := h
      refine lv_if_gt (tgt := 43) hx hb d_Ch_isReady_36 (by decide) (fun c28 => ?_) (fun c28 => ?_)
      · have h := h0 c28
        refine lv_iconst (v := 0) hx hb d_Ch_isReady_43 (by decide) ?_
        exact l_Ch_isReady_44 C0 0 h hW hS (lv_sub hl [] rfl)
      · have h := h1 c28
        exact l_Ch_isReady_39 C0  h hW hS (lv_sub hl [] rfl)
  · have h := h1 c19
    refine lv_iconst (v := 0) hx hb d_Ch_isReady_10 (by decide) ?_
    exact W.zret hx hb hr (by decide) (fun t ht hWm => ⟨⟨_, _, rfl, h, hw_t ht hW⟩, hS.F ht⟩) hS.2.2 d_Ch_isReady_11
set_option maxRecDepth 20000 in
theorem c_Ch_isReady {l : Launch} {D : va_G} {ca G : Nat → Nat} (post : Int32 → hM → Prop) {M : hM} {sz : Nat} {a0 : Nat} {x1 : UInt64} (h : wp_Ch_isReady G ca post M a0 x1) : Met l y_Ch_isReady (wz y_Ch_isReady prog_2_method_5_code 3 (some .boolean)) rm_Ch_isReady (va_Pc [.ref a0, .double x1] (hI D ca G sz M)) (va_Qi post (hB D M sz) (hp_A M sz)) 0 0 (hp_A M sz) := by
  refine Met.ofW (cc := prog_2_method_5_code) (maxL := 3) (ret := some .boolean) (by decide) rfl ?_
  intro p e s m args below meth c s₁ B hml hv
  obtain ⟨rfl, hsz, hW, hK, hZ0⟩ := hv
  have hts := fun w hw => atoms_spec (ws := wz y_Ch_isReady prog_2_method_5_code 3 (some .boolean)) B.pre w (List.mem_cons_of_mem _ hw)
  have hown : s.vm.findClass "ChannelHall$Channel" = some m.cls := findClass_of_methodNamed B.named
  subst hsz
  have hl := lv_entry [.ref a0, .double x1] (n := 3) (Nat.le_of_ble_eq_true rfl)
  rw [lg_entry_eq]
  exact l_Ch_isReady_e ⟨B.exec, B.bytes, B.returns, hml, hown, hts, B.notSynchronized, hK, fun q h => Or.inr h, hZ0⟩ a0 x1 h hW va_S.rf hl

theorem d_Ch_isOpen_0 : decode prog_2_method_6_code 0 = .ok (.aload_n 0, 1) := by decide +kernel
theorem d_Ch_isOpen_1 : decode prog_2_method_6_code 1 = .ok (.getfield 39, 3) := by decide +kernel
theorem d_Ch_isOpen_4 : decode prog_2_method_6_code 4 = .ok (.bipush 6, 2) := by decide +kernel
theorem d_Ch_isOpen_6 : decode prog_2_method_6_code 6 = .ok (.if_icmp .ne 18, 3) := by decide +kernel
theorem d_Ch_isOpen_9 : decode prog_2_method_6_code 9 = .ok (.aload_n 0, 1) := by decide +kernel
theorem d_Ch_isOpen_10 : decode prog_2_method_6_code 10 = .ok (.getfield 21, 3) := by decide +kernel
theorem d_Ch_isOpen_13 : decode prog_2_method_6_code 13 = .ok (.ifCond .ne 7, 3) := by decide +kernel
theorem d_Ch_isOpen_16 : decode prog_2_method_6_code 16 = .ok (.iconst 1, 1) := by decide +kernel
theorem d_Ch_isOpen_17 : decode prog_2_method_6_code 17 = .ok (.goto 12, 3) := by decide +kernel
theorem d_Ch_isOpen_20 : decode prog_2_method_6_code 20 = .ok (.iconst 0, 1) := by decide +kernel
theorem d_Ch_isOpen_21 : decode prog_2_method_6_code 21 = .ok (.goto 8, 3) := by decide +kernel
theorem d_Ch_isOpen_24 : decode prog_2_method_6_code 24 = .ok (.aload_n 0, 1) := by decide +kernel
theorem d_Ch_isOpen_25 : decode prog_2_method_6_code 25 = .ok (.dload_n 1, 1) := by decide +kernel
theorem d_Ch_isOpen_26 : decode prog_2_method_6_code 26 = .ok (.invokevirtual 65, 3) := by decide +kernel
theorem d_Ch_isOpen_29 : decode prog_2_method_6_code 29 = .ok (.ireturn, 1) := by decide +kernel
def y_Ch_isOpen : MethodName := ⟨"ChannelHall$Channel", "isOpen", "(D)Z"⟩
abbrev rm_Ch_isOpen : Room := { frames := 4, cells := 0, slots := 0, locals := 86 }
def wp_Ch_isOpen_29 (G ca : Nat → Nat) (post : Int32 → hM → Prop) (M : hM) (s0b29 : Int32) : Prop := bZ s0b29 (post s0b29 M)
def wp_Ch_isOpen (G ca : Nat → Nat) (post : Int32 → hM → Prop) (M : hM) (a0 : Nat) (x1 : UInt64) : Prop := gI M a0 0 1 fun v7 => (¬ v7 = 6 → rC M a0 0 (wp_Ch_isReady G ca (fun r9 M10 => wp_Ch_isOpen_29 G ca post M10 r9) M a0 x1)) ∧ (v7 = 6 → gI M a0 0 6 fun v11 => (¬ v11 = 0 → wp_Ch_isOpen_29 G ca post M 0) ∧ (v11 = 0 → wp_Ch_isOpen_29 G ca post M 1))
set_option maxHeartbeats 1000000 in
set_option maxRecDepth 20000 in
theorem l_Ch_isOpen_29 {p : Program} {l : Launch} {e : Env} {s : State} {m : MethodId} {args : Array Value} {below : List Frame} {meth : Method} {c : Code} {D : va_G} {ca G : Nat → Nat} {A : Nat → Prop} (C0 : hC p s m args meth c D ca G prog_2_method_6_code 3 (some .boolean) "ChannelHall$Channel" A) {post : Int32 → hM → Prop} {M : hM} {H : Heap} {locs : List Loc} {ls : Array Slot} (s0b29 : Int32) (h : wp_Ch_isOpen_29 G ca post M s0b29) (hW : hw D wCl A M H) (hS : va_S A s.heap H locs) (hl : lv_has ls 3 []) : W p l e rm_Ch_isOpen s m args below meth c H locs 0 0 (MQ below (va_Qi post (fun M' t => hw D wCl A M' t.heap) A) args s 0 0 A) (F0 m 29 ls [.int s0b29]) := by
  obtain ⟨hx, hb, hr, hml, hown, hts, hlocks, hK, hA, hZ0⟩ := id C0
  obtain ⟨hz, h⟩ := h
  exact W.zret hx hb hr (nb_n hz) (fun t ht hWm => ⟨⟨_, _, rfl, h, hw_t ht hW⟩, hS.F ht⟩) hS.2.2 d_Ch_isOpen_29
set_option maxHeartbeats 1000000 in
set_option maxRecDepth 20000 in
theorem l_Ch_isOpen_e {p : Program} {l : Launch} {e : Env} {s : State} {m : MethodId} {args : Array Value} {below : List Frame} {meth : Method} {c : Code} {D : va_G} {ca G : Nat → Nat} {A : Nat → Prop} (C0 : hC p s m args meth c D ca G prog_2_method_6_code 3 (some .boolean) "ChannelHall$Channel" A) {post : Int32 → hM → Prop} {M : hM} {H : Heap} {locs : List Loc} {ls : Array Slot} (a0 : Nat) (x1 : UInt64) (h : wp_Ch_isOpen G ca post M a0 x1) (hW : hw D wCl A M H) (hS : va_S A s.heap H locs) (hl : lv_has ls 3 [(0, .ref a0), (1, .double x1)]) : W p l e rm_Ch_isOpen s m args below meth c H locs 0 0 (MQ below (va_Qi post (fun M' t => hw D wCl A M' t.heap) A) args s 0 0 A) (F0 m 0 ls []) := by
  obtain ⟨hx, hb, hr, hml, hown, hts, hlocks, hK, hA, hZ0⟩ := id C0
  refine lv_aload_n hx hb d_Ch_isOpen_0 rfl (lv_at hl 0 rfl) ?_
  obtain ⟨fs, v7, h1, h2, h⟩ := h
  refine va_get (D := D) (ci := 0) (v := .int v7) (C := "ChannelHall$Channel") (T := TCh) (N := 10) hx hb hts uCh hown hK (hw_one hW h1) 0 rfl rfl 1 (by decide) (hts _ bw_253) (fun _ h9 => h9) h2 d_Ch_isOpen_1 ?_
  refine lv_bipush (v := 6) hx hb d_Ch_isOpen_4 (by decide) ?_
  obtain ⟨h0, h1⟩ := h
  refine lv_icmp_ne (tgt := 24) hx hb d_Ch_isOpen_6 (by decide) (fun c8 => ?_) (fun c8 => ?_)
  · have h := h0 c8
    refine lv_aload_n hx hb d_Ch_isOpen_24 rfl (lv_at hl 0 rfl) ?_
    refine lv_dload_n hx hb d_Ch_isOpen_25 rfl (lv_at hl 1 rfl) ?_
    obtain ⟨⟨fs, h1⟩, h⟩ := h
    have h9 := h
    clear h
    have hF := hW.free hS hA
    refine va_calli (va_runV (As := [.double x1]) (rest := []) ⟨hx, hb, hml, hown, hts⟩ (c_Ch_isReady _ h9) (cwV 1 hts (gi_V bw_799 bw_800 bw_801 bw_11 bw_802) rfl rfl rfl (by decide +kernel) ⟨Nat.le_of_ble_eq_true rfl, Nat.le_of_ble_eq_true rfl⟩) ⟨hI.blind, hw_recv hK hW h1 rfl, hI.give hW hS hA hK hZ0⟩ rfl rfl hl.1 rfl (lv_room (Nat.le_of_ble_eq_true rfl)) d_Ch_isOpen_26 ⟨(show _ ≤ 0 by omega), (show _ ≤ 0 by omega)⟩) hS (fun q _ z => hF q z) hF (fun r9 M10 t H locs ht _ h hB1 _ _ hS => ?_)
    have hW := hw_back hF ht hB1
    clear h9
    exact l_Ch_isOpen_29 C0 r9 h hW hS (lv_sub hl [] rfl)
  · have h := h1 c8
    refine lv_aload_n hx hb d_Ch_isOpen_9 rfl (lv_at hl 0 rfl) ?_
    obtain ⟨fs, v11, h1, h2, h⟩ := h
    refine va_get (D := D) (ci := 0) (v := .int v11) (C := "ChannelHall$Channel") (T := TCh) (N := 10) hx hb hts uCh hown hK (hw_one hW h1) 0 rfl rfl 6 (by decide) (hts _ bw_262) (fun _ h9 => h9) h2 d_Ch_isOpen_10 ?_
    obtain ⟨h0, h1⟩ := h
    refine lv_if_ne (tgt := 20) hx hb d_Ch_isOpen_13 (by decide) (fun c12 => ?_) (fun c12 => ?_)
    · have h := h0 c12
      refine lv_iconst (v := 0) hx hb d_Ch_isOpen_20 (by decide) ?_
      refine lv_goto (tgt := 29) hx hb d_Ch_isOpen_21 (by decide) ?_
      exact l_Ch_isOpen_29 C0 0 h hW hS (lv_sub hl [] rfl)
    · have h := h1 c12
      refine lv_iconst (v := 1) hx hb d_Ch_isOpen_16 (by decide) ?_
      refine lv_goto (tgt := 29) hx hb d_Ch_isOpen_17 (by decide) ?_
      exact l_Ch_isOpen_29 C0 1 h hW hS (lv_sub hl [] rfl)
set_option maxRecDepth 20000 in
theorem c_Ch_isOpen {l : Launch} {D : va_G} {ca G : Nat → Nat} (post : Int32 → hM → Prop) {M : hM} {sz : Nat} {a0 : Nat} {x1 : UInt64} (h : wp_Ch_isOpen G ca post M a0 x1) : Met l y_Ch_isOpen (wz y_Ch_isOpen prog_2_method_6_code 3 (some .boolean)) rm_Ch_isOpen (va_Pc [.ref a0, .double x1] (hI D ca G sz M)) (va_Qi post (hB D M sz) (hp_A M sz)) 0 0 (hp_A M sz) := by
  refine Met.ofW (cc := prog_2_method_6_code) (maxL := 3) (ret := some .boolean) (by decide) rfl ?_
  intro p e s m args below meth c s₁ B hml hv
  obtain ⟨rfl, hsz, hW, hK, hZ0⟩ := hv
  have hts := fun w hw => atoms_spec (ws := wz y_Ch_isOpen prog_2_method_6_code 3 (some .boolean)) B.pre w (List.mem_cons_of_mem _ hw)
  have hown : s.vm.findClass "ChannelHall$Channel" = some m.cls := findClass_of_methodNamed B.named
  subst hsz
  have hl := lv_entry [.ref a0, .double x1] (n := 3) (Nat.le_of_ble_eq_true rfl)
  rw [lg_entry_eq]
  exact l_Ch_isOpen_e ⟨B.exec, B.bytes, B.returns, hml, hown, hts, B.notSynchronized, hK, fun q h => Or.inr h, hZ0⟩ a0 x1 h hW va_S.rf hl

theorem d_Ch_earlierDue_0 : decode prog_2_method_7_code 0 = .ok (.aload_n 0, 1) := by decide +kernel
theorem d_Ch_earlierDue_1 : decode prog_2_method_7_code 1 = .ok (.getfield 39, 3) := by decide +kernel
theorem d_Ch_earlierDue_4 : decode prog_2_method_7_code 4 = .ok (.iconst 4, 1) := by decide +kernel
theorem d_Ch_earlierDue_5 : decode prog_2_method_7_code 5 = .ok (.if_icmp .ne 23, 3) := by decide +kernel
theorem d_Ch_earlierDue_8 : decode prog_2_method_7_code 8 = .ok (.aload_n 0, 1) := by decide +kernel
theorem d_Ch_earlierDue_9 : decode prog_2_method_7_code 9 = .ok (.getfield 12, 3) := by decide +kernel
theorem d_Ch_earlierDue_12 : decode prog_2_method_7_code 12 = .ok (.invokevirtual 52, 3) := by decide +kernel
theorem d_Ch_earlierDue_15 : decode prog_2_method_7_code 15 = .ok (.ifCond .ne 13, 3) := by decide +kernel
theorem d_Ch_earlierDue_18 : decode prog_2_method_7_code 18 = .ok (.aload_n 0, 1) := by decide +kernel
theorem d_Ch_earlierDue_19 : decode prog_2_method_7_code 19 = .ok (.getstatic 69, 3) := by decide +kernel
theorem d_Ch_earlierDue_22 : decode prog_2_method_7_code 22 = .ok (.invokevirtual 75, 3) := by decide +kernel
theorem d_Ch_earlierDue_25 : decode prog_2_method_7_code 25 = .ok (.ifnonnull 5, 3) := by decide +kernel
theorem d_Ch_earlierDue_28 : decode prog_2_method_7_code 28 = .ok (.dload_n 3, 1) := by decide +kernel
theorem d_Ch_earlierDue_29 : decode prog_2_method_7_code 29 = .ok (.dreturn, 1) := by decide +kernel
theorem d_Ch_earlierDue_30 : decode prog_2_method_7_code 30 = .ok (.aload_n 0, 1) := by decide +kernel
theorem d_Ch_earlierDue_31 : decode prog_2_method_7_code 31 = .ok (.getfield 12, 3) := by decide +kernel
theorem d_Ch_earlierDue_34 : decode prog_2_method_7_code 34 = .ok (.iconst 0, 1) := by decide +kernel
theorem d_Ch_earlierDue_35 : decode prog_2_method_7_code 35 = .ok (.invokevirtual 56, 3) := by decide +kernel
theorem d_Ch_earlierDue_38 : decode prog_2_method_7_code 38 = .ok (.checkcast 60, 3) := by decide +kernel
theorem d_Ch_earlierDue_41 : decode prog_2_method_7_code 41 = .ok (.getfield 62, 3) := by decide +kernel
theorem d_Ch_earlierDue_44 : decode prog_2_method_7_code 44 = .ok (.dstore 5, 2) := by decide +kernel
theorem d_Ch_earlierDue_46 : decode prog_2_method_7_code 46 = .ok (.dload 5, 2) := by decide +kernel
theorem d_Ch_earlierDue_48 : decode prog_2_method_7_code 48 = .ok (.dload_n 1, 1) := by decide +kernel
theorem d_Ch_earlierDue_49 : decode prog_2_method_7_code 49 = .ok (.dcmp .l, 1) := by decide +kernel
theorem d_Ch_earlierDue_50 : decode prog_2_method_7_code 50 = .ok (.ifCond .le 15, 3) := by decide +kernel
theorem d_Ch_earlierDue_53 : decode prog_2_method_7_code 53 = .ok (.dload 5, 2) := by decide +kernel
theorem d_Ch_earlierDue_55 : decode prog_2_method_7_code 55 = .ok (.dload_n 3, 1) := by decide +kernel
theorem d_Ch_earlierDue_56 : decode prog_2_method_7_code 56 = .ok (.dcmp .g, 1) := by decide +kernel
theorem d_Ch_earlierDue_57 : decode prog_2_method_7_code 57 = .ok (.ifCond .ge 8, 3) := by decide +kernel
theorem d_Ch_earlierDue_60 : decode prog_2_method_7_code 60 = .ok (.dload 5, 2) := by decide +kernel
theorem d_Ch_earlierDue_62 : decode prog_2_method_7_code 62 = .ok (.goto 4, 3) := by decide +kernel
theorem d_Ch_earlierDue_65 : decode prog_2_method_7_code 65 = .ok (.dload_n 3, 1) := by decide +kernel
theorem d_Ch_earlierDue_66 : decode prog_2_method_7_code 66 = .ok (.dreturn, 1) := by decide +kernel
def y_Ch_earlierDue : MethodName := ⟨"ChannelHall$Channel", "earlierDue", "(DD)D"⟩
abbrev rm_Ch_earlierDue : Room := { frames := 4, cells := 0, slots := 0, locals := 86 }
def wp_Ch_earlierDue_66 (G ca : Nat → Nat) (post : UInt64 → hM → Prop) (M : hM) (s0b66 : UInt64) : Prop := post s0b66 M
def wp_Ch_earlierDue_65 (G ca : Nat → Nat) (post : UInt64 → hM → Prop) (M : hM) (l3b65 : UInt64) : Prop := wp_Ch_earlierDue_66 G ca post M l3b65
def wp_Ch_earlierDue_28 (G ca : Nat → Nat) (post : UInt64 → hM → Prop) (M : hM) (l3b28 : UInt64) : Prop := post l3b28 M
def wp_Ch_earlierDue (G ca : Nat → Nat) (post : UInt64 → hM → Prop) (M : hM) (a0 : Nat) (x1 : UInt64) (x3 : UInt64) : Prop := gI M a0 0 1 fun v19 => (¬ v19 = 4 → wp_Ch_earlierDue_28 G ca post M x3) ∧ (v19 = 4 → gR M a0 0 4 fun v21 => nN v21 fun b22 => rC M b22 4 (wp_Al_isEmpty G ca (fun r23 M24 => (¬ r23 = 0 → wp_Ch_earlierDue_28 G ca post M24 x3) ∧ (r23 = 0 → rC M24 a0 0 (wp_Ch_firstWaiter G ca (fun r26 M27 => (r26 = none → wp_Ch_earlierDue_28 G ca post M27 x3) ∧ (∀ b28 : Nat, r26 = some b28 → gR M27 a0 0 4 fun v29 => nN v29 fun b30 => rC M27 b30 4 (wp_Al_get G ca (fun r31 M32 => cO M32 r31 1 fun b33 => gD M32 b33 1 1 fun v34 => ((Op.cmpValue (FP.dcmp v34 x1) .l) ≤ 0 → wp_Ch_earlierDue_65 G ca post M32 x3) ∧ (¬ (Op.cmpValue (FP.dcmp v34 x1) .l) ≤ 0 → (0 ≤ (Op.cmpValue (FP.dcmp v34 x3) .g) → wp_Ch_earlierDue_65 G ca post M32 x3) ∧ (¬ 0 ≤ (Op.cmpValue (FP.dcmp v34 x3) .g) → wp_Ch_earlierDue_66 G ca post M32 v34))) M27 b30 0))) M24 a0 (some (G 1))))) M b22))
set_option maxHeartbeats 1000000 in
set_option maxRecDepth 20000 in
theorem l_Ch_earlierDue_66 {p : Program} {l : Launch} {e : Env} {s : State} {m : MethodId} {args : Array Value} {below : List Frame} {meth : Method} {c : Code} {D : va_G} {ca G : Nat → Nat} {A : Nat → Prop} (C0 : hC p s m args meth c D ca G prog_2_method_7_code 7 (some .double) "ChannelHall$Channel" A) {post : UInt64 → hM → Prop} {M : hM} {H : Heap} {locs : List Loc} {ls : Array Slot} (s0b66 : UInt64) (h : wp_Ch_earlierDue_66 G ca post M s0b66) (hW : hw D wCl A M H) (hS : va_S A s.heap H locs) (hl : lv_has ls 7 []) : W p l e rm_Ch_earlierDue s m args below meth c H locs 0 0 (MQ below (va_Qd post (fun M' t => hw D wCl A M' t.heap) A) args s 0 0 A) (F0 m 66 ls [.double s0b66]) := by
  obtain ⟨hx, hb, hr, hml, hown, hts, hlocks, hK, hA, hZ0⟩ := id C0
  exact W.dret hx hb hr (fun t ht hWm => ⟨⟨_, _, rfl, h, hw_t ht hW⟩, hS.F ht⟩) hS.2.2 d_Ch_earlierDue_66
set_option maxHeartbeats 1000000 in
set_option maxRecDepth 20000 in
theorem l_Ch_earlierDue_65 {p : Program} {l : Launch} {e : Env} {s : State} {m : MethodId} {args : Array Value} {below : List Frame} {meth : Method} {c : Code} {D : va_G} {ca G : Nat → Nat} {A : Nat → Prop} (C0 : hC p s m args meth c D ca G prog_2_method_7_code 7 (some .double) "ChannelHall$Channel" A) {post : UInt64 → hM → Prop} {M : hM} {H : Heap} {locs : List Loc} {ls : Array Slot} (l3b65 : UInt64) (h : wp_Ch_earlierDue_65 G ca post M l3b65) (hW : hw D wCl A M H) (hS : va_S A s.heap H locs) (hl : lv_has ls 7 [(3, .double l3b65)]) : W p l e rm_Ch_earlierDue s m args below meth c H locs 0 0 (MQ below (va_Qd post (fun M' t => hw D wCl A M' t.heap) A) args s 0 0 A) (F0 m 65 ls []) := by
  obtain ⟨hx, hb, hr, hml, hown, hts, hlocks, hK, hA, hZ0⟩ := id C0
  refine lv_dload_n hx hb d_Ch_earlierDue_65 rfl (lv_at hl 0 rfl) ?_
  exact l_Ch_earlierDue_66 C0 l3b65 h hW hS (lv_sub hl [] rfl)
set_option maxHeartbeats 1000000 in
set_option maxRecDepth 20000 in
theorem l_Ch_earlierDue_28 {p : Program} {l : Launch} {e : Env} {s : State} {m : MethodId} {args : Array Value} {below : List Frame} {meth : Method} {c : Code} {D : va_G} {ca G : Nat → Nat} {A : Nat → Prop} (C0 : hC p s m args meth c D ca G prog_2_method_7_code 7 (some .double) "ChannelHall$Channel" A) {post : UInt64 → hM → Prop} {M : hM} {H : Heap} {locs : List Loc} {ls : Array Slot} (l3b28 : UInt64) (h : wp_Ch_earlierDue_28 G ca post M l3b28) (hW : hw D wCl A M H) (hS : va_S A s.heap H locs) (hl : lv_has ls 7 [(3, .double l3b28)]) : W p l e rm_Ch_earlierDue s m args below meth c H locs 0 0 (MQ below (va_Qd post (fun M' t => hw D wCl A M' t.heap) A) args s 0 0 A) (F0 m 28 ls []) := by
  obtain ⟨hx, hb, hr, hml, hown, hts, hlocks, hK, hA, hZ0⟩ := id C0
  refine lv_dload_n hx hb d_Ch_earlierDue_28 rfl (lv_at hl 0 rfl) ?_
  exact W.dret hx hb hr (fun t ht hWm => ⟨⟨_, _, rfl, h, hw_t ht hW⟩, hS.F ht⟩) hS.2.2 d_Ch_earlierDue_29
set_option maxHeartbeats 1000000 in
set_option maxRecDepth 20000 in
theorem l_Ch_earlierDue_e {p : Program} {l : Launch} {e : Env} {s : State} {m : MethodId} {args : Array Value} {below : List Frame} {meth : Method} {c : Code} {D : va_G} {ca G : Nat → Nat} {A : Nat → Prop} (C0 : hC p s m args meth c D ca G prog_2_method_7_code 7 (some .double) "ChannelHall$Channel" A) {post : UInt64 → hM → Prop} {M : hM} {H : Heap} {locs : List Loc} {ls : Array Slot} (a0 : Nat) (x1 : UInt64) (x3 : UInt64) (h : wp_Ch_earlierDue G ca post M a0 x1 x3) (hW : hw D wCl A M H) (hS : va_S A s.heap H locs) (hl : lv_has ls 7 [(0, .ref a0), (1, .double x1), (3, .double x3)]) : W p l e rm_Ch_earlierDue s m args below meth c H locs 0 0 (MQ below (va_Qd post (fun M' t => hw D wCl A M' t.heap) A) args s 0 0 A) (F0 m 0 ls []) := by
  obtain ⟨hx, hb, hr, hml, hown, hts, hlocks, hK, hA, hZ0⟩ := id C0
  refine lv_aload_n hx hb d_Ch_earlierDue_0 rfl (lv_at hl 0 rfl) ?_
  obtain ⟨fs, v19, h1, h2, h⟩ := h
  refine va_get (D := D) (ci := 0) (v := .int v19) (C := "ChannelHall$Channel") (T := TCh) (N := 10) hx hb hts uCh hown hK (hw_one hW h1) 0 rfl rfl 1 (by decide) (hts _ bw_253) (fun _ h9 => h9) h2 d_Ch_earlierDue_1 ?_
  refine lv_iconst (v := 4) hx hb d_Ch_earlierDue_4 (by decide) ?_
  obtain ⟨h0, h1⟩ := h
  refine lv_icmp_ne (tgt := 28) hx hb d_Ch_earlierDue_5 (by decide) (fun c20 => ?_) (fun c20 => ?_)
  · have h := h0 c20
    exact l_Ch_earlierDue_28 C0 x3 h hW hS (lv_sub hl [2] rfl)
  · have h := h1 c20
    refine lv_aload_n hx hb d_Ch_earlierDue_8 rfl (lv_at hl 0 rfl) ?_
    obtain ⟨fs, v21, h1, h2, h⟩ := h
    refine va_get (D := D) (ci := 0) (v := va_rf v21) (C := "ChannelHall$Channel") (T := TCh) (N := 10) hx hb hts uCh hown hK (hw_one hW h1) 0 rfl rfl 4 (by decide) (hts _ bw_258) (fun _ h9 => h9) h2 d_Ch_earlierDue_9 ?_
    obtain ⟨b22, rfl, h⟩ := h
    obtain ⟨⟨fs, h1⟩, h⟩ := h
    have h9 := h
    clear h
    have hF := hW.free hS hA
    refine va_calli (va_runV (As := []) (rest := []) ⟨hx, hb, hml, hown, hts⟩ (c_Al_isEmpty _ h9) (cwV 0 hts (gi_V bw_803 bw_804 bw_805 bw_14 bw_806) rfl rfl rfl (by decide +kernel) ⟨Nat.le_of_ble_eq_true rfl, Nat.le_of_ble_eq_true rfl⟩) ⟨hI.blind, hw_recv hK hW h1 rfl, hI.give hW hS hA hK hZ0⟩ rfl rfl hl.1 rfl (lv_room (Nat.le_of_ble_eq_true rfl)) d_Ch_earlierDue_12 ⟨(show _ ≤ 0 by omega), (show _ ≤ 0 by omega)⟩) hS (fun q _ z => hF q z) hF (fun r23 M24 t H locs ht _ h hB1 _ _ hS => ?_)
    have hW := hw_back hF ht hB1
    clear h9
    obtain ⟨h0, h1⟩ := h
    refine lv_if_ne (tgt := 28) hx hb d_Ch_earlierDue_15 (by decide) (fun c25 => ?_) (fun c25 => ?_)
    · have h := h0 c25
      exact l_Ch_earlierDue_28 C0 x3 h hW hS (lv_sub hl [2] rfl)
    · have h := h1 c25
      refine lv_aload_n hx hb d_Ch_earlierDue_18 rfl (lv_at hl 0 rfl) ?_
      refine va_gets (v := .ref (G 1)) hx hb (hZ0.2.1) hS hown (hts _ bw_395) (fun _ h9 => h9) d_Ch_earlierDue_19 ?_
      obtain ⟨⟨fs, h1⟩, h⟩ := h
      have h9 := h
      clear h
      have hF := hW.free hS hA
      refine va_callq (va_runV (As := [.ref (G 1)]) (rest := []) ⟨hx, hb, hml, hown, hts⟩ (c_Ch_firstWaiter _ h9) (cwV 1 hts (gi_V bw_372 bw_373 bw_374 bw_11 bw_375) rfl rfl rfl (by decide +kernel) ⟨Nat.le_of_ble_eq_true rfl, Nat.le_of_ble_eq_true rfl⟩) ⟨hI.blind, hw_recv hK hW h1 rfl, hI.give hW hS hA hK hZ0⟩ rfl rfl hl.1 rfl (lv_room (Nat.le_of_ble_eq_true rfl)) d_Ch_earlierDue_22 ⟨(show _ ≤ 0 by omega), (show _ ≤ 0 by omega)⟩) hS (fun q _ z => hF q z) hF (fun r26 M27 t H locs ht _ h hB1 _ _ hS => ?_)
      have hW := hw_back hF ht hB1
      clear h9
      obtain ⟨h0, h1⟩ := h
      cases r26 with
      | none =>
        have h := h0 rfl
        refine lv_ifnonnullN hx hb d_Ch_earlierDue_25 ?_
        exact l_Ch_earlierDue_28 C0 x3 h hW hS (lv_sub hl [2] rfl)
      | some b28 =>
        have h := h1 b28 rfl
        refine lv_ifnonnull (tgt := 30) hx hb d_Ch_earlierDue_25 (by decide) ?_
        refine lv_aload_n hx hb d_Ch_earlierDue_30 rfl (lv_at hl 0 rfl) ?_
        obtain ⟨fs, v29, h1, h2, h⟩ := h
        refine va_get (D := D) (ci := 0) (v := va_rf v29) (C := "ChannelHall$Channel") (T := TCh) (N := 10) hx hb hts uCh hown hK (hw_one hW h1) 0 rfl rfl 4 (by decide) (hts _ bw_258) (fun _ h9 => h9) h2 d_Ch_earlierDue_31 ?_
        refine lv_iconst (v := 0) hx hb d_Ch_earlierDue_34 (by decide) ?_
        obtain ⟨b30, rfl, h⟩ := h
        obtain ⟨⟨fs, h1⟩, h⟩ := h
        have h9 := h
        clear h
        have hF := hW.free hS hA
        refine va_callq (va_runV (As := [.int 0]) (rest := []) ⟨hx, hb, hml, hown, hts⟩ (c_Al_get _ h9) (cwV 1 hts (gi_V bw_380 bw_381 bw_382 bw_14 bw_383) rfl rfl rfl (by decide +kernel) ⟨Nat.le_of_ble_eq_true rfl, Nat.le_of_ble_eq_true rfl⟩) ⟨hI.blind, hw_recv hK hW h1 rfl, hI.give hW hS hA hK hZ0⟩ rfl rfl hl.1 rfl (lv_room (Nat.le_of_ble_eq_true rfl)) d_Ch_earlierDue_35 ⟨(show _ ≤ 0 by omega), (show _ ≤ 0 by omega)⟩) hS (fun q _ z => hF q z) hF (fun r31 M32 t H locs ht _ h hB1 _ _ hS => ?_)
        have hW := hw_back hF ht hB1
        clear h9
        obtain ⟨b33, fs, rfl, h1, h⟩ := h
        refine va_castS (cC := D.1 1) hx hb hown (hts _ bw_476) (hK.1 1 _ rfl).2 (hw_recv hK hW h1 rfl) d_Ch_earlierDue_38 ?_
        obtain ⟨fs, v34, h1, h2, h⟩ := h
        refine va_get (D := D) (ci := 1) (v := .double v34) (C := "ChannelHall$Item") (T := TIt) (N := 3) hx hb hts uIt hown hK (hw_one hW h1) 0 rfl rfl 1 (by decide) (hts _ bw_486) (fun _ h9 => h9) h2 d_Ch_earlierDue_41 ?_
        refine lv_dstore (lv' := [(5, .double v34), (0, .ref a0), (1, .double x1), (3, .double x3)]) hx hb d_Ch_earlierDue_44 hl (by decide) rfl (fun ls hl => ?_)
        refine lv_dload hx hb d_Ch_earlierDue_46 (lv_at hl 0 rfl) ?_
        refine lv_dload_n hx hb d_Ch_earlierDue_48 rfl (lv_at hl 2 rfl) ?_
        refine lv_dcmp hx hb d_Ch_earlierDue_49 ?_
        obtain ⟨h0, h1⟩ := h
        refine lv_if_le (tgt := 65) hx hb d_Ch_earlierDue_50 (by decide) (fun c35 => ?_) (fun c35 => ?_)
        · have h := h0 c35
          exact l_Ch_earlierDue_65 C0 x3 h hW hS (lv_sub hl [3] rfl)
        · have h := h1 c35
          refine lv_dload hx hb d_Ch_earlierDue_53 (lv_at hl 0 rfl) ?_
          refine lv_dload_n hx hb d_Ch_earlierDue_55 rfl (lv_at hl 3 rfl) ?_
          refine lv_dcmp hx hb d_Ch_earlierDue_56 ?_
          obtain ⟨h0, h1⟩ := h
          refine lv_if_ge (tgt := 65) hx hb d_Ch_earlierDue_57 (by decide) (fun c36 => ?_) (fun c36 => ?_)
          · have h := h0 c36
            exact l_Ch_earlierDue_65 C0 x3 h hW hS (lv_sub hl [3] rfl)
          · have h := h1 c36
            refine lv_dload hx hb d_Ch_earlierDue_60 (lv_at hl 0 rfl) ?_
            refine lv_goto (tgt := 66) hx hb d_Ch_earlierDue_62 (by decide) ?_
            exact l_Ch_earlierDue_66 C0 v34 h hW hS (lv_sub hl [] rfl)
set_option maxRecDepth 20000 in
theorem c_Ch_earlierDue {l : Launch} {D : va_G} {ca G : Nat → Nat} (post : UInt64 → hM → Prop) {M : hM} {sz : Nat} {a0 : Nat} {x1 : UInt64} {x3 : UInt64} (h : wp_Ch_earlierDue G ca post M a0 x1 x3) : Met l y_Ch_earlierDue (wz y_Ch_earlierDue prog_2_method_7_code 7 (some .double)) rm_Ch_earlierDue (va_Pc [.ref a0, .double x1, .double x3] (hI D ca G sz M)) (va_Qd post (hB D M sz) (hp_A M sz)) 0 0 (hp_A M sz) := by
  refine Met.ofW (cc := prog_2_method_7_code) (maxL := 7) (ret := some .double) (by decide) rfl ?_
  intro p e s m args below meth c s₁ B hml hv
  obtain ⟨rfl, hsz, hW, hK, hZ0⟩ := hv
  have hts := fun w hw => atoms_spec (ws := wz y_Ch_earlierDue prog_2_method_7_code 7 (some .double)) B.pre w (List.mem_cons_of_mem _ hw)
  have hown : s.vm.findClass "ChannelHall$Channel" = some m.cls := findClass_of_methodNamed B.named
  subst hsz
  have hl := lv_entry [.ref a0, .double x1, .double x3] (n := 7) (Nat.le_of_ble_eq_true rfl)
  rw [lg_entry_eq]
  exact l_Ch_earlierDue_e ⟨B.exec, B.bytes, B.returns, hml, hown, hts, B.notSynchronized, hK, fun q h => Or.inr h, hZ0⟩ a0 x1 x3 h hW va_S.rf hl

theorem d_Ch_waiterNumber_0 : decode prog_2_method_9_code 0 = .ok (.iload_n 1, 1) := by decide +kernel
theorem d_Ch_waiterNumber_1 : decode prog_2_method_9_code 1 = .ok (.ifCond .lt 31, 3) := by decide +kernel
theorem d_Ch_waiterNumber_4 : decode prog_2_method_9_code 4 = .ok (.iload_n 1, 1) := by decide +kernel
theorem d_Ch_waiterNumber_5 : decode prog_2_method_9_code 5 = .ok (.aload_n 0, 1) := by decide +kernel
theorem d_Ch_waiterNumber_6 : decode prog_2_method_9_code 6 = .ok (.getfield 18, 3) := by decide +kernel
theorem d_Ch_waiterNumber_9 : decode prog_2_method_9_code 9 = .ok (.invokevirtual 79, 3) := by decide +kernel
theorem d_Ch_waiterNumber_12 : decode prog_2_method_9_code 12 = .ok (.if_icmp .ge 20, 3) := by decide +kernel
theorem d_Ch_waiterNumber_15 : decode prog_2_method_9_code 15 = .ok (.aload_n 0, 1) := by decide +kernel
theorem d_Ch_waiterNumber_16 : decode prog_2_method_9_code 16 = .ok (.getfield 18, 3) := by decide +kernel
theorem d_Ch_waiterNumber_19 : decode prog_2_method_9_code 19 = .ok (.iload_n 1, 1) := by decide +kernel
theorem d_Ch_waiterNumber_20 : decode prog_2_method_9_code 20 = .ok (.invokevirtual 56, 3) := by decide +kernel
theorem d_Ch_waiterNumber_23 : decode prog_2_method_9_code 23 = .ok (.checkcast 83, 3) := by decide +kernel
theorem d_Ch_waiterNumber_26 : decode prog_2_method_9_code 26 = .ok (.getfield 88, 3) := by decide +kernel
theorem d_Ch_waiterNumber_29 : decode prog_2_method_9_code 29 = .ok (.goto 4, 3) := by decide +kernel
theorem d_Ch_waiterNumber_32 : decode prog_2_method_9_code 32 = .ok (.iconst (-1), 1) := by decide +kernel
theorem d_Ch_waiterNumber_33 : decode prog_2_method_9_code 33 = .ok (.ireturn, 1) := by decide +kernel
def y_Ch_waiterNumber : MethodName := ⟨"ChannelHall$Channel", "waiterNumber", "(I)I"⟩
abbrev rm_Ch_waiterNumber : Room := { frames := 3, cells := 0, slots := 0, locals := 64 }
def wp_Ch_waiterNumber_33 (G ca : Nat → Nat) (post : Int32 → hM → Prop) (M : hM) (s0b33 : Int32) : Prop := post s0b33 M
def wp_Ch_waiterNumber_32 (G ca : Nat → Nat) (post : Int32 → hM → Prop) (M : hM)  : Prop := wp_Ch_waiterNumber_33 G ca post M (-1)
def wp_Ch_waiterNumber (G ca : Nat → Nat) (post : Int32 → hM → Prop) (M : hM) (a0 : Nat) (x1 : Int32) : Prop := (x1 < 0 → wp_Ch_waiterNumber_32 G ca post M) ∧ (¬ x1 < 0 → gR M a0 0 5 fun v14 => nN v14 fun b15 => rC M b15 4 (wp_Al_size G ca (fun r16 M17 => (r16 ≤ x1 → wp_Ch_waiterNumber_32 G ca post M17) ∧ (¬ r16 ≤ x1 → gR M17 a0 0 5 fun v19 => nN v19 fun b20 => rC M17 b20 4 (wp_Al_get G ca (fun r21 M22 => cO M22 r21 2 fun b23 => gI M22 b23 2 0 fun v24 => wp_Ch_waiterNumber_33 G ca post M22 v24) M17 b20 x1))) M b15))
set_option maxHeartbeats 1000000 in
set_option maxRecDepth 20000 in
theorem l_Ch_waiterNumber_33 {p : Program} {l : Launch} {e : Env} {s : State} {m : MethodId} {args : Array Value} {below : List Frame} {meth : Method} {c : Code} {D : va_G} {ca G : Nat → Nat} {A : Nat → Prop} (C0 : hC p s m args meth c D ca G prog_2_method_9_code 2 (some .int) "ChannelHall$Channel" A) {post : Int32 → hM → Prop} {M : hM} {H : Heap} {locs : List Loc} {ls : Array Slot} (s0b33 : Int32) (h : wp_Ch_waiterNumber_33 G ca post M s0b33) (hW : hw D wCl A M H) (hS : va_S A s.heap H locs) (hl : lv_has ls 2 []) : W p l e rm_Ch_waiterNumber s m args below meth c H locs 0 0 (MQ below (va_Qi post (fun M' t => hw D wCl A M' t.heap) A) args s 0 0 A) (F0 m 33 ls [.int s0b33]) := by
  obtain ⟨hx, hb, hr, hml, hown, hts, hlocks, hK, hA, hZ0⟩ := id C0
  exact W.iret hx hb hr (fun t ht hWm => ⟨⟨_, _, rfl, h, hw_t ht hW⟩, hS.F ht⟩) hS.2.2 d_Ch_waiterNumber_33
set_option maxHeartbeats 1000000 in
set_option maxRecDepth 20000 in
theorem l_Ch_waiterNumber_32 {p : Program} {l : Launch} {e : Env} {s : State} {m : MethodId} {args : Array Value} {below : List Frame} {meth : Method} {c : Code} {D : va_G} {ca G : Nat → Nat} {A : Nat → Prop} (C0 : hC p s m args meth c D ca G prog_2_method_9_code 2 (some .int) "ChannelHall$Channel" A) {post : Int32 → hM → Prop} {M : hM} {H : Heap} {locs : List Loc} {ls : Array Slot}  (h : wp_Ch_waiterNumber_32 G ca post M) (hW : hw D wCl A M H) (hS : va_S A s.heap H locs) (hl : lv_has ls 2 []) : W p l e rm_Ch_waiterNumber s m args below meth c H locs 0 0 (MQ below (va_Qi post (fun M' t => hw D wCl A M' t.heap) A) args s 0 0 A) (F0 m 32 ls []) := by
  obtain ⟨hx, hb, hr, hml, hown, hts, hlocks, hK, hA, hZ0⟩ := id C0
  refine lv_iconst (v := (-1)) hx hb d_Ch_waiterNumber_32 (by decide) ?_
  exact l_Ch_waiterNumber_33 C0 (-1) h hW hS (lv_sub hl [] rfl)
set_option maxHeartbeats 1000000 in
set_option maxRecDepth 20000 in
theorem l_Ch_waiterNumber_e {p : Program} {l : Launch} {e : Env} {s : State} {m : MethodId} {args : Array Value} {below : List Frame} {meth : Method} {c : Code} {D : va_G} {ca G : Nat → Nat} {A : Nat → Prop} (C0 : hC p s m args meth c D ca G prog_2_method_9_code 2 (some .int) "ChannelHall$Channel" A) {post : Int32 → hM → Prop} {M : hM} {H : Heap} {locs : List Loc} {ls : Array Slot} (a0 : Nat) (x1 : Int32) (h : wp_Ch_waiterNumber G ca post M a0 x1) (hW : hw D wCl A M H) (hS : va_S A s.heap H locs) (hl : lv_has ls 2 [(0, .ref a0), (1, .int x1)]) : W p l e rm_Ch_waiterNumber s m args below meth c H locs 0 0 (MQ below (va_Qi post (fun M' t => hw D wCl A M' t.heap) A) args s 0 0 A) (F0 m 0 ls []) := by
  obtain ⟨hx, hb, hr, hml, hown, hts, hlocks, hK, hA, hZ0⟩ := id C0
  refine lv_iload_n hx hb d_Ch_waiterNumber_0 rfl (lv_at hl 1 rfl) ?_
  obtain ⟨h0, h1⟩ := h
  refine lv_if_lt (tgt := 32) hx hb d_Ch_waiterNumber_1 (by decide) (fun c13 => ?_) (fun c13 => ?_)
  · have h := h0 c13
    exact l_Ch_waiterNumber_32 C0  h hW hS (lv_sub hl [] rfl)
  · have h := h1 c13
    refine lv_iload_n hx hb d_Ch_waiterNumber_4 rfl (lv_at hl 1 rfl) ?_
    refine lv_aload_n hx hb d_Ch_waiterNumber_5 rfl (lv_at hl 0 rfl) ?_
    obtain ⟨fs, v14, h1, h2, h⟩ := h
    refine va_get (D := D) (ci := 0) (v := va_rf v14) (C := "ChannelHall$Channel") (T := TCh) (N := 10) hx hb hts uCh hown hK (hw_one hW h1) 0 rfl rfl 5 (by decide) (hts _ bw_260) (fun _ h9 => h9) h2 d_Ch_waiterNumber_6 ?_
    obtain ⟨b15, rfl, h⟩ := h
    obtain ⟨⟨fs, h1⟩, h⟩ := h
    have h9 := h
    clear h
    have hF := hW.free hS hA
    refine va_calli (va_runV (As := []) (rest := [.int x1]) ⟨hx, hb, hml, hown, hts⟩ (c_Al_size _ h9) (cwV 0 hts (gi_V bw_376 bw_377 bw_378 bw_14 bw_379) rfl rfl rfl (by decide +kernel) ⟨Nat.le_of_ble_eq_true rfl, Nat.le_of_ble_eq_true rfl⟩) ⟨hI.blind, hw_recv hK hW h1 rfl, hI.give hW hS hA hK hZ0⟩ rfl rfl hl.1 rfl (lv_room (Nat.le_of_ble_eq_true rfl)) d_Ch_waiterNumber_9 ⟨(show _ ≤ 0 by omega), (show _ ≤ 0 by omega)⟩) hS (fun q _ z => hF q z) hF (fun r16 M17 t H locs ht _ h hB1 _ _ hS => ?_)
    have hW := hw_back hF ht hB1
    clear h9
    obtain ⟨h0, h1⟩ := h
    refine lv_icmp_ge (tgt := 32) hx hb d_Ch_waiterNumber_12 (by decide) (fun c18 => ?_) (fun c18 => ?_)
    · have h := h0 c18
      exact l_Ch_waiterNumber_32 C0  h hW hS (lv_sub hl [] rfl)
    · have h := h1 c18
      refine lv_aload_n hx hb d_Ch_waiterNumber_15 rfl (lv_at hl 0 rfl) ?_
      obtain ⟨fs, v19, h1, h2, h⟩ := h
      refine va_get (D := D) (ci := 0) (v := va_rf v19) (C := "ChannelHall$Channel") (T := TCh) (N := 10) hx hb hts uCh hown hK (hw_one hW h1) 0 rfl rfl 5 (by decide) (hts _ bw_260) (fun _ h9 => h9) h2 d_Ch_waiterNumber_16 ?_
      refine lv_iload_n hx hb d_Ch_waiterNumber_19 rfl (lv_at hl 1 rfl) ?_
      obtain ⟨b20, rfl, h⟩ := h
      obtain ⟨⟨fs, h1⟩, h⟩ := h
      have h9 := h
      clear h
      have hF := hW.free hS hA
      refine va_callq (va_runV (As := [.int x1]) (rest := []) ⟨hx, hb, hml, hown, hts⟩ (c_Al_get _ h9) (cwV 1 hts (gi_V bw_380 bw_381 bw_382 bw_14 bw_383) rfl rfl rfl (by decide +kernel) ⟨Nat.le_of_ble_eq_true rfl, Nat.le_of_ble_eq_true rfl⟩) ⟨hI.blind, hw_recv hK hW h1 rfl, hI.give hW hS hA hK hZ0⟩ rfl rfl hl.1 rfl (lv_room (Nat.le_of_ble_eq_true rfl)) d_Ch_waiterNumber_20 ⟨(show _ ≤ 0 by omega), (show _ ≤ 0 by omega)⟩) hS (fun q _ z => hF q z) hF (fun r21 M22 t H locs ht _ h hB1 _ _ hS => ?_)
      have hW := hw_back hF ht hB1
      clear h9
      obtain ⟨b23, fs, rfl, h1, h⟩ := h
      refine va_castS (cC := D.1 2) hx hb hown (hts _ bw_394) (hK.1 2 _ rfl).2 (hw_recv hK hW h1 rfl) d_Ch_waiterNumber_23 ?_
      obtain ⟨fs, v24, h1, h2, h⟩ := h
      refine va_get (D := D) (ci := 2) (v := .int v24) (C := "ChannelHall$Worker") (T := TWo) (N := 11) hx hb hts uWo hown hK (hw_one hW h1) 0 rfl rfl 0 (by decide) (hts _ bw_52) (fun _ h9 => h9) h2 d_Ch_waiterNumber_26 ?_
      refine lv_goto (tgt := 33) hx hb d_Ch_waiterNumber_29 (by decide) ?_
      exact l_Ch_waiterNumber_33 C0 v24 h hW hS (lv_sub hl [] rfl)
set_option maxRecDepth 20000 in
theorem c_Ch_waiterNumber {l : Launch} {D : va_G} {ca G : Nat → Nat} (post : Int32 → hM → Prop) {M : hM} {sz : Nat} {a0 : Nat} {x1 : Int32} (h : wp_Ch_waiterNumber G ca post M a0 x1) : Met l y_Ch_waiterNumber (wz y_Ch_waiterNumber prog_2_method_9_code 2 (some .int)) rm_Ch_waiterNumber (va_Pc [.ref a0, .int x1] (hI D ca G sz M)) (va_Qi post (hB D M sz) (hp_A M sz)) 0 0 (hp_A M sz) := by
  refine Met.ofW (cc := prog_2_method_9_code) (maxL := 2) (ret := some .int) (by decide) rfl ?_
  intro p e s m args below meth c s₁ B hml hv
  obtain ⟨rfl, hsz, hW, hK, hZ0⟩ := hv
  have hts := fun w hw => atoms_spec (ws := wz y_Ch_waiterNumber prog_2_method_9_code 2 (some .int)) B.pre w (List.mem_cons_of_mem _ hw)
  have hown : s.vm.findClass "ChannelHall$Channel" = some m.cls := findClass_of_methodNamed B.named
  subst hsz
  have hl := lv_entry [.ref a0, .int x1] (n := 2) (Nat.le_of_ble_eq_true rfl)
  rw [lg_entry_eq]
  exact l_Ch_waiterNumber_e ⟨B.exec, B.bytes, B.returns, hml, hown, hts, B.notSynchronized, hK, fun q h => Or.inr h, hZ0⟩ a0 x1 h hW va_S.rf hl

theorem d_Ch_acceptsAtOnce_0 : decode prog_2_method_10_code 0 = .ok (.aload_n 0, 1) := by decide +kernel
theorem d_Ch_acceptsAtOnce_1 : decode prog_2_method_10_code 1 = .ok (.getstatic 89, 3) := by decide +kernel
theorem d_Ch_acceptsAtOnce_4 : decode prog_2_method_10_code 4 = .ok (.invokevirtual 75, 3) := by decide +kernel
theorem d_Ch_acceptsAtOnce_7 : decode prog_2_method_10_code 7 = .ok (.ifnull 5, 3) := by decide +kernel
theorem d_Ch_acceptsAtOnce_10 : decode prog_2_method_10_code 10 = .ok (.iconst 0, 1) := by decide +kernel
theorem d_Ch_acceptsAtOnce_11 : decode prog_2_method_10_code 11 = .ok (.ireturn, 1) := by decide +kernel
theorem d_Ch_acceptsAtOnce_12 : decode prog_2_method_10_code 12 = .ok (.aload_n 0, 1) := by decide +kernel
theorem d_Ch_acceptsAtOnce_13 : decode prog_2_method_10_code 13 = .ok (.getfield 39, 3) := by decide +kernel
theorem d_Ch_acceptsAtOnce_16 : decode prog_2_method_10_code 16 = .ok (.iconst 2, 1) := by decide +kernel
theorem d_Ch_acceptsAtOnce_17 : decode prog_2_method_10_code 17 = .ok (.if_icmp .ne 21, 3) := by decide +kernel
theorem d_Ch_acceptsAtOnce_20 : decode prog_2_method_10_code 20 = .ok (.aload_n 0, 1) := by decide +kernel
theorem d_Ch_acceptsAtOnce_21 : decode prog_2_method_10_code 21 = .ok (.getstatic 69, 3) := by decide +kernel
theorem d_Ch_acceptsAtOnce_24 : decode prog_2_method_10_code 24 = .ok (.invokevirtual 75, 3) := by decide +kernel
theorem d_Ch_acceptsAtOnce_27 : decode prog_2_method_10_code 27 = .ok (.ifnull 7, 3) := by decide +kernel
theorem d_Ch_acceptsAtOnce_30 : decode prog_2_method_10_code 30 = .ok (.iconst 1, 1) := by decide +kernel
theorem d_Ch_acceptsAtOnce_31 : decode prog_2_method_10_code 31 = .ok (.goto 26, 3) := by decide +kernel
theorem d_Ch_acceptsAtOnce_34 : decode prog_2_method_10_code 34 = .ok (.iconst 0, 1) := by decide +kernel
theorem d_Ch_acceptsAtOnce_35 : decode prog_2_method_10_code 35 = .ok (.goto 22, 3) := by decide +kernel
theorem d_Ch_acceptsAtOnce_38 : decode prog_2_method_10_code 38 = .ok (.aload_n 0, 1) := by decide +kernel
theorem d_Ch_acceptsAtOnce_39 : decode prog_2_method_10_code 39 = .ok (.getfield 12, 3) := by decide +kernel
theorem d_Ch_acceptsAtOnce_42 : decode prog_2_method_10_code 42 = .ok (.invokevirtual 79, 3) := by decide +kernel
theorem d_Ch_acceptsAtOnce_45 : decode prog_2_method_10_code 45 = .ok (.aload_n 0, 1) := by decide +kernel
theorem d_Ch_acceptsAtOnce_46 : decode prog_2_method_10_code 46 = .ok (.getfield 46, 3) := by decide +kernel
theorem d_Ch_acceptsAtOnce_49 : decode prog_2_method_10_code 49 = .ok (.if_icmp .ge 7, 3) := by decide +kernel
theorem d_Ch_acceptsAtOnce_52 : decode prog_2_method_10_code 52 = .ok (.iconst 1, 1) := by decide +kernel
theorem d_Ch_acceptsAtOnce_53 : decode prog_2_method_10_code 53 = .ok (.goto 4, 3) := by decide +kernel
theorem d_Ch_acceptsAtOnce_56 : decode prog_2_method_10_code 56 = .ok (.iconst 0, 1) := by decide +kernel
theorem d_Ch_acceptsAtOnce_57 : decode prog_2_method_10_code 57 = .ok (.ireturn, 1) := by decide +kernel
def y_Ch_acceptsAtOnce : MethodName := ⟨"ChannelHall$Channel", "acceptsAtOnce", "()Z"⟩
abbrev rm_Ch_acceptsAtOnce : Room := { frames := 4, cells := 0, slots := 0, locals := 86 }
def wp_Ch_acceptsAtOnce_57 (G ca : Nat → Nat) (post : Int32 → hM → Prop) (M : hM) (s0b57 : Int32) : Prop := bZ s0b57 (post s0b57 M)
def wp_Ch_acceptsAtOnce (G ca : Nat → Nat) (post : Int32 → hM → Prop) (M : hM) (a0 : Nat) : Prop := rC M a0 0 (wp_Ch_firstWaiter G ca (fun r15 M16 => (r15 = none → gI M16 a0 0 1 fun v18 => (¬ v18 = 2 → gR M16 a0 0 4 fun v20 => nN v20 fun b21 => rC M16 b21 4 (wp_Al_size G ca (fun r22 M23 => gI M23 a0 0 2 fun v24 => (v24 ≤ r22 → wp_Ch_acceptsAtOnce_57 G ca post M23 0) ∧ (¬ v24 ≤ r22 → wp_Ch_acceptsAtOnce_57 G ca post M23 1)) M16 b21)) ∧ (v18 = 2 → rC M16 a0 0 (wp_Ch_firstWaiter G ca (fun r26 M27 => (r26 = none → wp_Ch_acceptsAtOnce_57 G ca post M27 0) ∧ (∀ b28 : Nat, r26 = some b28 → wp_Ch_acceptsAtOnce_57 G ca post M27 1)) M16 a0 (some (G 1))))) ∧ (∀ b17 : Nat, r15 = some b17 → post 0 M16)) M a0 (some (G 0)))
set_option maxHeartbeats 1000000 in
set_option maxRecDepth 20000 in
theorem l_Ch_acceptsAtOnce_57 {p : Program} {l : Launch} {e : Env} {s : State} {m : MethodId} {args : Array Value} {below : List Frame} {meth : Method} {c : Code} {D : va_G} {ca G : Nat → Nat} {A : Nat → Prop} (C0 : hC p s m args meth c D ca G prog_2_method_10_code 1 (some .boolean) "ChannelHall$Channel" A) {post : Int32 → hM → Prop} {M : hM} {H : Heap} {locs : List Loc} {ls : Array Slot} (s0b57 : Int32) (h : wp_Ch_acceptsAtOnce_57 G ca post M s0b57) (hW : hw D wCl A M H) (hS : va_S A s.heap H locs) (hl : lv_has ls 1 []) : W p l e rm_Ch_acceptsAtOnce s m args below meth c H locs 0 0 (MQ below (va_Qi post (fun M' t => hw D wCl A M' t.heap) A) args s 0 0 A) (F0 m 57 ls [.int s0b57]) := by
  obtain ⟨hx, hb, hr, hml, hown, hts, hlocks, hK, hA, hZ0⟩ := id C0
  obtain ⟨hz, h⟩ := h
  exact W.zret hx hb hr (nb_n hz) (fun t ht hWm => ⟨⟨_, _, rfl, h, hw_t ht hW⟩, hS.F ht⟩) hS.2.2 d_Ch_acceptsAtOnce_57
set_option maxHeartbeats 1000000 in
set_option maxRecDepth 20000 in
theorem l_Ch_acceptsAtOnce_e {p : Program} {l : Launch} {e : Env} {s : State} {m : MethodId} {args : Array Value} {below : List Frame} {meth : Method} {c : Code} {D : va_G} {ca G : Nat → Nat} {A : Nat → Prop} (C0 : hC p s m args meth c D ca G prog_2_method_10_code 1 (some .boolean) "ChannelHall$Channel" A) {post : Int32 → hM → Prop} {M : hM} {H : Heap} {locs : List Loc} {ls : Array Slot} (a0 : Nat) (h : wp_Ch_acceptsAtOnce G ca post M a0) (hW : hw D wCl A M H) (hS : va_S A s.heap H locs) (hl : lv_has ls 1 [(0, .ref a0)]) : W p l e rm_Ch_acceptsAtOnce s m args below meth c H locs 0 0 (MQ below (va_Qi post (fun M' t => hw D wCl A M' t.heap) A) args s 0 0 A) (F0 m 0 ls []) := by
  obtain ⟨hx, hb, hr, hml, hown, hts, hlocks, hK, hA, hZ0⟩ := id C0
  refine lv_aload_n hx hb d_Ch_acceptsAtOnce_0 rfl (lv_at hl 0 rfl) ?_
  refine va_gets (v := .ref (G 0)) hx hb (hZ0.1) hS hown (hts _ bw_370) (fun _ h9 => h9) d_Ch_acceptsAtOnce_1 ?_
  obtain ⟨⟨fs, h1⟩, h⟩ := h
  have h9 := h
  clear h
  have hF := hW.free hS hA
  refine va_callq (va_runV (As := [.ref (G 0)]) (rest := []) ⟨hx, hb, hml, hown, hts⟩ (c_Ch_firstWaiter _ h9) (cwV 1 hts (gi_V bw_372 bw_373 bw_374 bw_11 bw_375) rfl rfl rfl (by decide +kernel) ⟨Nat.le_of_ble_eq_true rfl, Nat.le_of_ble_eq_true rfl⟩) ⟨hI.blind, hw_recv hK hW h1 rfl, hI.give hW hS hA hK hZ0⟩ rfl rfl hl.1 rfl (lv_room (Nat.le_of_ble_eq_true rfl)) d_Ch_acceptsAtOnce_4 ⟨(show _ ≤ 0 by omega), (show _ ≤ 0 by omega)⟩) hS (fun q _ z => hF q z) hF (fun r15 M16 t H locs ht _ h hB1 _ _ hS => ?_)
  have hW := hw_back hF ht hB1
  clear h9
  obtain ⟨h0, h1⟩ := h
  cases r15 with
  | none =>
    have h := h0 rfl
    refine lv_ifnullN (tgt := 12) hx hb d_Ch_acceptsAtOnce_7 (by decide) ?_
    refine lv_aload_n hx hb d_Ch_acceptsAtOnce_12 rfl (lv_at hl 0 rfl) ?_
    obtain ⟨fs, v18, h1, h2, h⟩ := h
    refine va_get (D := D) (ci := 0) (v := .int v18) (C := "ChannelHall$Channel") (T := TCh) (N := 10) hx hb hts uCh hown hK (hw_one hW h1) 0 rfl rfl 1 (by decide) (hts _ bw_253) (fun _ h9 => h9) h2 d_Ch_acceptsAtOnce_13 ?_
    refine lv_iconst (v := 2) hx hb d_Ch_acceptsAtOnce_16 (by decide) ?_
    obtain ⟨h0, h1⟩ := h
    refine lv_icmp_ne (tgt := 38) hx hb d_Ch_acceptsAtOnce_17 (by decide) (fun c19 => ?_) (fun c19 => ?_)
    · have h := h0 c19
      refine lv_aload_n hx hb d_Ch_acceptsAtOnce_38 rfl (lv_at hl 0 rfl) ?_
      obtain ⟨fs, v20, h1, h2, h⟩ := h
      refine va_get (D := D) (ci := 0) (v := va_rf v20) (C := "ChannelHall$Channel") (T := TCh) (N := 10) hx hb hts uCh hown hK (hw_one hW h1) 0 rfl rfl 4 (by decide) (hts _ bw_258) (fun _ h9 => h9) h2 d_Ch_acceptsAtOnce_39 ?_
      obtain ⟨b21, rfl, h⟩ := h
      obtain ⟨⟨fs, h1⟩, h⟩ := h
      have h9 := h
      clear h
      have hF := hW.free hS hA
      refine va_calli (va_runV (As := []) (rest := []) ⟨hx, hb, hml, hown, hts⟩ (c_Al_size _ h9) (cwV 0 hts (gi_V bw_376 bw_377 bw_378 bw_14 bw_379) rfl rfl rfl (by decide +kernel) ⟨Nat.le_of_ble_eq_true rfl, Nat.le_of_ble_eq_true rfl⟩) ⟨hI.blind, hw_recv hK hW h1 rfl, hI.give hW hS hA hK hZ0⟩ rfl rfl hl.1 rfl (lv_room (Nat.le_of_ble_eq_true rfl)) d_Ch_acceptsAtOnce_42 ⟨(show _ ≤ 0 by omega), (show _ ≤ 0 by omega)⟩) hS (fun q _ z => hF q z) hF (fun r22 M23 t H locs ht _ h hB1 _ _ hS => ?_)
      have hW := hw_back hF ht hB1
      clear h9
      refine lv_aload_n hx hb d_Ch_acceptsAtOnce_45 rfl (lv_at hl 0 rfl) ?_
      obtain ⟨fs, v24, h1, h2, h⟩ := h
      refine va_get (D := D) (ci := 0) (v := .int v24) (C := "ChannelHall$Channel") (T := TCh) (N := 10) hx hb hts uCh hown hK (hw_one hW h1) 0 rfl rfl 2 (by decide) (hts _ bw_255) (fun _ h9 => h9) h2 d_Ch_acceptsAtOnce_46 ?_
      obtain ⟨h0, h1⟩ := h
      refine lv_icmp_ge (tgt := 56) hx hb d_Ch_acceptsAtOnce_49 (by decide) (fun c25 => ?_) (fun c25 => ?_)
      · have h := h0 c25
        refine lv_iconst (v := 0) hx hb d_Ch_acceptsAtOnce_56 (by decide) ?_
        exact l_Ch_acceptsAtOnce_57 C0 0 h hW hS (lv_sub hl [] rfl)
      · have h := h1 c25
        refine lv_iconst (v := 1) hx hb d_Ch_acceptsAtOnce_52 (by decide) ?_
        refine lv_goto (tgt := 57) hx hb d_Ch_acceptsAtOnce_53 (by decide) ?_
        exact l_Ch_acceptsAtOnce_57 C0 1 h hW hS (lv_sub hl [] rfl)
    · have h := h1 c19
      refine lv_aload_n hx hb d_Ch_acceptsAtOnce_20 rfl (lv_at hl 0 rfl) ?_
      refine va_gets (v := .ref (G 1)) hx hb (hZ0.2.1) hS hown (hts _ bw_395) (fun _ h9 => h9) d_Ch_acceptsAtOnce_21 ?_
      obtain ⟨⟨fs, h1⟩, h⟩ := h
      have h9 := h
      clear h
      have hF := hW.free hS hA
      refine va_callq (va_runV (As := [.ref (G 1)]) (rest := []) ⟨hx, hb, hml, hown, hts⟩ (c_Ch_firstWaiter _ h9) (cwV 1 hts (gi_V bw_372 bw_373 bw_374 bw_11 bw_375) rfl rfl rfl (by decide +kernel) ⟨Nat.le_of_ble_eq_true rfl, Nat.le_of_ble_eq_true rfl⟩) ⟨hI.blind, hw_recv hK hW h1 rfl, hI.give hW hS hA hK hZ0⟩ rfl rfl hl.1 rfl (lv_room (Nat.le_of_ble_eq_true rfl)) d_Ch_acceptsAtOnce_24 ⟨(show _ ≤ 0 by omega), (show _ ≤ 0 by omega)⟩) hS (fun q _ z => hF q z) hF (fun r26 M27 t H locs ht _ h hB1 _ _ hS => ?_)
      have hW := hw_back hF ht hB1
      clear h9
      obtain ⟨h0, h1⟩ := h
      cases r26 with
      | none =>
        have h := h0 rfl
        refine lv_ifnullN (tgt := 34) hx hb d_Ch_acceptsAtOnce_27 (by decide) ?_
        refine lv_iconst (v := 0) hx hb d_Ch_acceptsAtOnce_34 (by decide) ?_
        refine lv_goto (tgt := 57) hx hb d_Ch_acceptsAtOnce_35 (by decide) ?_
        exact l_Ch_acceptsAtOnce_57 C0 0 h hW hS (lv_sub hl [] rfl)
      | some b28 =>
        have h := h1 b28 rfl
        refine lv_ifnull hx hb d_Ch_acceptsAtOnce_27 ?_
        refine lv_iconst (v := 1) hx hb d_Ch_acceptsAtOnce_30 (by decide) ?_
        refine lv_goto (tgt := 57) hx hb d_Ch_acceptsAtOnce_31 (by decide) ?_
        exact l_Ch_acceptsAtOnce_57 C0 1 h hW hS (lv_sub hl [] rfl)
  | some b17 =>
    have h := h1 b17 rfl
    refine lv_ifnull hx hb d_Ch_acceptsAtOnce_7 ?_
    refine lv_iconst (v := 0) hx hb d_Ch_acceptsAtOnce_10 (by decide) ?_
    exact W.zret hx hb hr (by decide) (fun t ht hWm => ⟨⟨_, _, rfl, h, hw_t ht hW⟩, hS.F ht⟩) hS.2.2 d_Ch_acceptsAtOnce_11
set_option maxRecDepth 20000 in
theorem c_Ch_acceptsAtOnce {l : Launch} {D : va_G} {ca G : Nat → Nat} (post : Int32 → hM → Prop) {M : hM} {sz : Nat} {a0 : Nat} (h : wp_Ch_acceptsAtOnce G ca post M a0) : Met l y_Ch_acceptsAtOnce (wz y_Ch_acceptsAtOnce prog_2_method_10_code 1 (some .boolean)) rm_Ch_acceptsAtOnce (va_Pc [.ref a0] (hI D ca G sz M)) (va_Qi post (hB D M sz) (hp_A M sz)) 0 0 (hp_A M sz) := by
  refine Met.ofW (cc := prog_2_method_10_code) (maxL := 1) (ret := some .boolean) (by decide) rfl ?_
  intro p e s m args below meth c s₁ B hml hv
  obtain ⟨rfl, hsz, hW, hK, hZ0⟩ := hv
  have hts := fun w hw => atoms_spec (ws := wz y_Ch_acceptsAtOnce prog_2_method_10_code 1 (some .boolean)) B.pre w (List.mem_cons_of_mem _ hw)
  have hown : s.vm.findClass "ChannelHall$Channel" = some m.cls := findClass_of_methodNamed B.named
  subst hsz
  have hl := lv_entry [.ref a0] (n := 1) (Nat.le_of_ble_eq_true rfl)
  rw [lg_entry_eq]
  exact l_Ch_acceptsAtOnce_e ⟨B.exec, B.bytes, B.returns, hml, hown, hts, B.notSynchronized, hK, fun q h => Or.inr h, hZ0⟩ a0 h hW va_S.rf hl

theorem d_Ch_yieldsAtOnce_0 : decode prog_2_method_12_code 0 = .ok (.aload_n 0, 1) := by decide +kernel
theorem d_Ch_yieldsAtOnce_1 : decode prog_2_method_12_code 1 = .ok (.getstatic 69, 3) := by decide +kernel
theorem d_Ch_yieldsAtOnce_4 : decode prog_2_method_12_code 4 = .ok (.invokevirtual 75, 3) := by decide +kernel
theorem d_Ch_yieldsAtOnce_7 : decode prog_2_method_12_code 7 = .ok (.ifnull 5, 3) := by decide +kernel
theorem d_Ch_yieldsAtOnce_10 : decode prog_2_method_12_code 10 = .ok (.iconst 0, 1) := by decide +kernel
theorem d_Ch_yieldsAtOnce_11 : decode prog_2_method_12_code 11 = .ok (.ireturn, 1) := by decide +kernel
theorem d_Ch_yieldsAtOnce_12 : decode prog_2_method_12_code 12 = .ok (.aload_n 0, 1) := by decide +kernel
theorem d_Ch_yieldsAtOnce_13 : decode prog_2_method_12_code 13 = .ok (.getfield 39, 3) := by decide +kernel
theorem d_Ch_yieldsAtOnce_16 : decode prog_2_method_12_code 16 = .ok (.iconst 2, 1) := by decide +kernel
theorem d_Ch_yieldsAtOnce_17 : decode prog_2_method_12_code 17 = .ok (.if_icmp .ne 21, 3) := by decide +kernel
theorem d_Ch_yieldsAtOnce_20 : decode prog_2_method_12_code 20 = .ok (.aload_n 0, 1) := by decide +kernel
theorem d_Ch_yieldsAtOnce_21 : decode prog_2_method_12_code 21 = .ok (.getstatic 89, 3) := by decide +kernel
theorem d_Ch_yieldsAtOnce_24 : decode prog_2_method_12_code 24 = .ok (.invokevirtual 75, 3) := by decide +kernel
theorem d_Ch_yieldsAtOnce_27 : decode prog_2_method_12_code 27 = .ok (.ifnull 7, 3) := by decide +kernel
theorem d_Ch_yieldsAtOnce_30 : decode prog_2_method_12_code 30 = .ok (.iconst 1, 1) := by decide +kernel
theorem d_Ch_yieldsAtOnce_31 : decode prog_2_method_12_code 31 = .ok (.goto 12, 3) := by decide +kernel
theorem d_Ch_yieldsAtOnce_34 : decode prog_2_method_12_code 34 = .ok (.iconst 0, 1) := by decide +kernel
theorem d_Ch_yieldsAtOnce_35 : decode prog_2_method_12_code 35 = .ok (.goto 8, 3) := by decide +kernel
theorem d_Ch_yieldsAtOnce_38 : decode prog_2_method_12_code 38 = .ok (.aload_n 0, 1) := by decide +kernel
theorem d_Ch_yieldsAtOnce_39 : decode prog_2_method_12_code 39 = .ok (.dload_n 1, 1) := by decide +kernel
theorem d_Ch_yieldsAtOnce_40 : decode prog_2_method_12_code 40 = .ok (.invokevirtual 65, 3) := by decide +kernel
theorem d_Ch_yieldsAtOnce_43 : decode prog_2_method_12_code 43 = .ok (.ireturn, 1) := by decide +kernel
def y_Ch_yieldsAtOnce : MethodName := ⟨"ChannelHall$Channel", "yieldsAtOnce", "(D)Z"⟩
abbrev rm_Ch_yieldsAtOnce : Room := { frames := 4, cells := 0, slots := 0, locals := 86 }
def wp_Ch_yieldsAtOnce_43 (G ca : Nat → Nat) (post : Int32 → hM → Prop) (M : hM) (s0b43 : Int32) : Prop := bZ s0b43 (post s0b43 M)
def wp_Ch_yieldsAtOnce (G ca : Nat → Nat) (post : Int32 → hM → Prop) (M : hM) (a0 : Nat) (x1 : UInt64) : Prop := rC M a0 0 (wp_Ch_firstWaiter G ca (fun r11 M12 => (r11 = none → gI M12 a0 0 1 fun v14 => (¬ v14 = 2 → rC M12 a0 0 (wp_Ch_isReady G ca (fun r16 M17 => wp_Ch_yieldsAtOnce_43 G ca post M17 r16) M12 a0 x1)) ∧ (v14 = 2 → rC M12 a0 0 (wp_Ch_firstWaiter G ca (fun r18 M19 => (r18 = none → wp_Ch_yieldsAtOnce_43 G ca post M19 0) ∧ (∀ b20 : Nat, r18 = some b20 → wp_Ch_yieldsAtOnce_43 G ca post M19 1)) M12 a0 (some (G 0))))) ∧ (∀ b13 : Nat, r11 = some b13 → post 0 M12)) M a0 (some (G 1)))
set_option maxHeartbeats 1000000 in
set_option maxRecDepth 20000 in
theorem l_Ch_yieldsAtOnce_43 {p : Program} {l : Launch} {e : Env} {s : State} {m : MethodId} {args : Array Value} {below : List Frame} {meth : Method} {c : Code} {D : va_G} {ca G : Nat → Nat} {A : Nat → Prop} (C0 : hC p s m args meth c D ca G prog_2_method_12_code 3 (some .boolean) "ChannelHall$Channel" A) {post : Int32 → hM → Prop} {M : hM} {H : Heap} {locs : List Loc} {ls : Array Slot} (s0b43 : Int32) (h : wp_Ch_yieldsAtOnce_43 G ca post M s0b43) (hW : hw D wCl A M H) (hS : va_S A s.heap H locs) (hl : lv_has ls 3 []) : W p l e rm_Ch_yieldsAtOnce s m args below meth c H locs 0 0 (MQ below (va_Qi post (fun M' t => hw D wCl A M' t.heap) A) args s 0 0 A) (F0 m 43 ls [.int s0b43]) := by
  obtain ⟨hx, hb, hr, hml, hown, hts, hlocks, hK, hA, hZ0⟩ := id C0
  obtain ⟨hz, h⟩ := h
  exact W.zret hx hb hr (nb_n hz) (fun t ht hWm => ⟨⟨_, _, rfl, h, hw_t ht hW⟩, hS.F ht⟩) hS.2.2 d_Ch_yieldsAtOnce_43
set_option maxHeartbeats 1000000 in
set_option maxRecDepth 20000 in
theorem l_Ch_yieldsAtOnce_e {p : Program} {l : Launch} {e : Env} {s : State} {m : MethodId} {args : Array Value} {below : List Frame} {meth : Method} {c : Code} {D : va_G} {ca G : Nat → Nat} {A : Nat → Prop} (C0 : hC p s m args meth c D ca G prog_2_method_12_code 3 (some .boolean) "ChannelHall$Channel" A) {post : Int32 → hM → Prop} {M : hM} {H : Heap} {locs : List Loc} {ls : Array Slot} (a0 : Nat) (x1 : UInt64) (h : wp_Ch_yieldsAtOnce G ca post M a0 x1) (hW : hw D wCl A M H) (hS : va_S A s.heap H locs) (hl : lv_has ls 3 [(0, .ref a0), (1, .double x1)]) : W p l e rm_Ch_yieldsAtOnce s m args below meth c H locs 0 0 (MQ below (va_Qi post (fun M' t => hw D wCl A M' t.heap) A) args s 0 0 A) (F0 m 0 ls []) := by
  obtain ⟨hx, hb, hr, hml, hown, hts, hlocks, hK, hA, hZ0⟩ := id C0
  refine lv_aload_n hx hb d_Ch_yieldsAtOnce_0 rfl (lv_at hl 0 rfl) ?_
  refine va_gets (v := .ref (G 1)) hx hb (hZ0.2.1) hS hown (hts _ bw_395) (fun _ h9 => h9) d_Ch_yieldsAtOnce_1 ?_
  obtain ⟨⟨fs, h1⟩, h⟩ := h
  have h9 := h
  clear h
  have hF := hW.free hS hA
  refine va_callq (va_runV (As := [.ref (G 1)]) (rest := []) ⟨hx, hb, hml, hown, hts⟩ (c_Ch_firstWaiter _ h9) (cwV 1 hts (gi_V bw_372 bw_373 bw_374 bw_11 bw_375) rfl rfl rfl (by decide +kernel) ⟨Nat.le_of_ble_eq_true rfl, Nat.le_of_ble_eq_true rfl⟩) ⟨hI.blind, hw_recv hK hW h1 rfl, hI.give hW hS hA hK hZ0⟩ rfl rfl hl.1 rfl (lv_room (Nat.le_of_ble_eq_true rfl)) d_Ch_yieldsAtOnce_4 ⟨(show _ ≤ 0 by omega), (show _ ≤ 0 by omega)⟩) hS (fun q _ z => hF q z) hF (fun r11 M12 t H locs ht _ h hB1 _ _ hS => ?_)
  have hW := hw_back hF ht hB1
  clear h9
  obtain ⟨h0, h1⟩ := h
  cases r11 with
  | none =>
    have h := h0 rfl
    refine lv_ifnullN (tgt := 12) hx hb d_Ch_yieldsAtOnce_7 (by decide) ?_
    refine lv_aload_n hx hb d_Ch_yieldsAtOnce_12 rfl (lv_at hl 0 rfl) ?_
    obtain ⟨fs, v14, h1, h2, h⟩ := h
    refine va_get (D := D) (ci := 0) (v := .int v14) (C := "ChannelHall$Channel") (T := TCh) (N := 10) hx hb hts uCh hown hK (hw_one hW h1) 0 rfl rfl 1 (by decide) (hts _ bw_253) (fun _ h9 => h9) h2 d_Ch_yieldsAtOnce_13 ?_
    refine lv_iconst (v := 2) hx hb d_Ch_yieldsAtOnce_16 (by decide) ?_
    obtain ⟨h0, h1⟩ := h
    refine lv_icmp_ne (tgt := 38) hx hb d_Ch_yieldsAtOnce_17 (by decide) (fun c15 => ?_) (fun c15 => ?_)
    · have h := h0 c15
      refine lv_aload_n hx hb d_Ch_yieldsAtOnce_38 rfl (lv_at hl 0 rfl) ?_
      refine lv_dload_n hx hb d_Ch_yieldsAtOnce_39 rfl (lv_at hl 1 rfl) ?_
      obtain ⟨⟨fs, h1⟩, h⟩ := h
      have h9 := h
      clear h
      have hF := hW.free hS hA
      refine va_calli (va_runV (As := [.double x1]) (rest := []) ⟨hx, hb, hml, hown, hts⟩ (c_Ch_isReady _ h9) (cwV 1 hts (gi_V bw_799 bw_800 bw_801 bw_11 bw_802) rfl rfl rfl (by decide +kernel) ⟨Nat.le_of_ble_eq_true rfl, Nat.le_of_ble_eq_true rfl⟩) ⟨hI.blind, hw_recv hK hW h1 rfl, hI.give hW hS hA hK hZ0⟩ rfl rfl hl.1 rfl (lv_room (Nat.le_of_ble_eq_true rfl)) d_Ch_yieldsAtOnce_40 ⟨(show _ ≤ 0 by omega), (show _ ≤ 0 by omega)⟩) hS (fun q _ z => hF q z) hF (fun r16 M17 t H locs ht _ h hB1 _ _ hS => ?_)
      have hW := hw_back hF ht hB1
      clear h9
      exact l_Ch_yieldsAtOnce_43 C0 r16 h hW hS (lv_sub hl [] rfl)
    · have h := h1 c15
      refine lv_aload_n hx hb d_Ch_yieldsAtOnce_20 rfl (lv_at hl 0 rfl) ?_
      refine va_gets (v := .ref (G 0)) hx hb (hZ0.1) hS hown (hts _ bw_370) (fun _ h9 => h9) d_Ch_yieldsAtOnce_21 ?_
      obtain ⟨⟨fs, h1⟩, h⟩ := h
      have h9 := h
      clear h
      have hF := hW.free hS hA
      refine va_callq (va_runV (As := [.ref (G 0)]) (rest := []) ⟨hx, hb, hml, hown, hts⟩ (c_Ch_firstWaiter _ h9) (cwV 1 hts (gi_V bw_372 bw_373 bw_374 bw_11 bw_375) rfl rfl rfl (by decide +kernel) ⟨Nat.le_of_ble_eq_true rfl, Nat.le_of_ble_eq_true rfl⟩) ⟨hI.blind, hw_recv hK hW h1 rfl, hI.give hW hS hA hK hZ0⟩ rfl rfl hl.1 rfl (lv_room (Nat.le_of_ble_eq_true rfl)) d_Ch_yieldsAtOnce_24 ⟨(show _ ≤ 0 by omega), (show _ ≤ 0 by omega)⟩) hS (fun q _ z => hF q z) hF (fun r18 M19 t H locs ht _ h hB1 _ _ hS => ?_)
      have hW := hw_back hF ht hB1
      clear h9
      obtain ⟨h0, h1⟩ := h
      cases r18 with
      | none =>
        have h := h0 rfl
        refine lv_ifnullN (tgt := 34) hx hb d_Ch_yieldsAtOnce_27 (by decide) ?_
        refine lv_iconst (v := 0) hx hb d_Ch_yieldsAtOnce_34 (by decide) ?_
        refine lv_goto (tgt := 43) hx hb d_Ch_yieldsAtOnce_35 (by decide) ?_
        exact l_Ch_yieldsAtOnce_43 C0 0 h hW hS (lv_sub hl [] rfl)
      | some b20 =>
        have h := h1 b20 rfl
        refine lv_ifnull hx hb d_Ch_yieldsAtOnce_27 ?_
        refine lv_iconst (v := 1) hx hb d_Ch_yieldsAtOnce_30 (by decide) ?_
        refine lv_goto (tgt := 43) hx hb d_Ch_yieldsAtOnce_31 (by decide) ?_
        exact l_Ch_yieldsAtOnce_43 C0 1 h hW hS (lv_sub hl [] rfl)
  | some b13 =>
    have h := h1 b13 rfl
    refine lv_ifnull hx hb d_Ch_yieldsAtOnce_7 ?_
    refine lv_iconst (v := 0) hx hb d_Ch_yieldsAtOnce_10 (by decide) ?_
    exact W.zret hx hb hr (by decide) (fun t ht hWm => ⟨⟨_, _, rfl, h, hw_t ht hW⟩, hS.F ht⟩) hS.2.2 d_Ch_yieldsAtOnce_11
set_option maxRecDepth 20000 in
theorem c_Ch_yieldsAtOnce {l : Launch} {D : va_G} {ca G : Nat → Nat} (post : Int32 → hM → Prop) {M : hM} {sz : Nat} {a0 : Nat} {x1 : UInt64} (h : wp_Ch_yieldsAtOnce G ca post M a0 x1) : Met l y_Ch_yieldsAtOnce (wz y_Ch_yieldsAtOnce prog_2_method_12_code 3 (some .boolean)) rm_Ch_yieldsAtOnce (va_Pc [.ref a0, .double x1] (hI D ca G sz M)) (va_Qi post (hB D M sz) (hp_A M sz)) 0 0 (hp_A M sz) := by
  refine Met.ofW (cc := prog_2_method_12_code) (maxL := 3) (ret := some .boolean) (by decide) rfl ?_
  intro p e s m args below meth c s₁ B hml hv
  obtain ⟨rfl, hsz, hW, hK, hZ0⟩ := hv
  have hts := fun w hw => atoms_spec (ws := wz y_Ch_yieldsAtOnce prog_2_method_12_code 3 (some .boolean)) B.pre w (List.mem_cons_of_mem _ hw)
  have hown : s.vm.findClass "ChannelHall$Channel" = some m.cls := findClass_of_methodNamed B.named
  subst hsz
  have hl := lv_entry [.ref a0, .double x1] (n := 3) (Nat.le_of_ble_eq_true rfl)
  rw [lg_entry_eq]
  exact l_Ch_yieldsAtOnce_e ⟨B.exec, B.bytes, B.returns, hml, hown, hts, B.notSynchronized, hK, fun q h => Or.inr h, hZ0⟩ a0 x1 h hW va_S.rf hl

theorem d_Ch_release_0 : decode prog_2_method_20_code 0 = .ok (.iconst 0, 1) := by decide +kernel
theorem d_Ch_release_1 : decode prog_2_method_20_code 1 = .ok (.istore_n 3, 1) := by decide +kernel
theorem d_Ch_release_2 : decode prog_2_method_20_code 2 = .ok (.iload_n 3, 1) := by decide +kernel
theorem d_Ch_release_3 : decode prog_2_method_20_code 3 = .ok (.aload_n 0, 1) := by decide +kernel
theorem d_Ch_release_4 : decode prog_2_method_20_code 4 = .ok (.getfield 18, 3) := by decide +kernel
theorem d_Ch_release_7 : decode prog_2_method_20_code 7 = .ok (.invokevirtual 79, 3) := by decide +kernel
theorem d_Ch_release_10 : decode prog_2_method_20_code 10 = .ok (.if_icmp .ge 33, 3) := by decide +kernel
theorem d_Ch_release_13 : decode prog_2_method_20_code 13 = .ok (.aload_n 0, 1) := by decide +kernel
theorem d_Ch_release_14 : decode prog_2_method_20_code 14 = .ok (.getfield 18, 3) := by decide +kernel
theorem d_Ch_release_17 : decode prog_2_method_20_code 17 = .ok (.iload_n 3, 1) := by decide +kernel
theorem d_Ch_release_18 : decode prog_2_method_20_code 18 = .ok (.invokevirtual 56, 3) := by decide +kernel
theorem d_Ch_release_21 : decode prog_2_method_20_code 21 = .ok (.aload_n 1, 1) := by decide +kernel
theorem d_Ch_release_22 : decode prog_2_method_20_code 22 = .ok (.if_acmp .ne 15, 3) := by decide +kernel
theorem d_Ch_release_25 : decode prog_2_method_20_code 25 = .ok (.aload_n 0, 1) := by decide +kernel
theorem d_Ch_release_26 : decode prog_2_method_20_code 26 = .ok (.getfield 18, 3) := by decide +kernel
theorem d_Ch_release_29 : decode prog_2_method_20_code 29 = .ok (.iload_n 3, 1) := by decide +kernel
theorem d_Ch_release_30 : decode prog_2_method_20_code 30 = .ok (.invokevirtual 123, 3) := by decide +kernel
theorem d_Ch_release_33 : decode prog_2_method_20_code 33 = .ok (.pop, 1) := by decide +kernel
theorem d_Ch_release_34 : decode prog_2_method_20_code 34 = .ok (.goto 9, 3) := by decide +kernel
theorem d_Ch_release_37 : decode prog_2_method_20_code 37 = .ok (.iinc 3 1, 3) := by decide +kernel
theorem d_Ch_release_40 : decode prog_2_method_20_code 40 = .ok (.goto (-38), 3) := by decide +kernel
theorem d_Ch_release_43 : decode prog_2_method_20_code 43 = .ok (.aload_n 1, 1) := by decide +kernel
theorem d_Ch_release_44 : decode prog_2_method_20_code 44 = .ok (.aconst_null, 1) := by decide +kernel
theorem d_Ch_release_45 : decode prog_2_method_20_code 45 = .ok (.putfield 140, 3) := by decide +kernel
theorem d_Ch_release_48 : decode prog_2_method_20_code 48 = .ok (.aload_n 1, 1) := by decide +kernel
theorem d_Ch_release_49 : decode prog_2_method_20_code 49 = .ok (.iload_n 2, 1) := by decide +kernel
theorem d_Ch_release_50 : decode prog_2_method_20_code 50 = .ok (.putfield 144, 3) := by decide +kernel
theorem d_Ch_release_53 : decode prog_2_method_20_code 53 = .ok (.return_, 1) := by decide +kernel
def y_Ch_release : MethodName := ⟨"ChannelHall$Channel", "release", "(LChannelHall$Worker;I)V"⟩
abbrev rm_Ch_release : Room := { frames := 3, cells := 0, slots := 0, locals := 86 }
def wp_Ch_release_43 (G ca : Nat → Nat) (post : hM → Prop) (M : hM) (l1b43 : Option Nat) (l2b43 : Int32) : Prop := nN l1b43 fun b18 => pF M b18 2 5 (.null) fun M19 => pF M19 b18 2 2 (.int l2b43) fun M20 => post M20
def wp_Ch_release_2 (G ca : Nat → Nat) (post : hM → Prop) : Nat → hM → Nat → Option Nat → Int32 → Int32 → Prop
  | 0, _, _, _, _, _ => False
  | n + 1, M, l0b2, l1b2, l2b2, l3b2 => gR M l0b2 0 5 fun v21 => nN v21 fun b22 => rC M b22 4 (wp_Al_size G ca (fun r23 M24 => (r23 ≤ l3b2 → wp_Ch_release_43 G ca post M24 l1b2 l2b2) ∧ (¬ r23 ≤ l3b2 → gR M24 l0b2 0 5 fun v26 => nN v26 fun b27 => rC M24 b27 4 (wp_Al_get G ca (fun r28 M29 => (¬ r28 = l1b2 → (wp_Ch_release_2 G ca post n) M29 l0b2 l1b2 l2b2 (l3b2 + 1)) ∧ (r28 = l1b2 → gR M29 l0b2 0 5 fun v31 => nN v31 fun b32 => rC M29 b32 4 (wp_Al_remove G ca (fun r33 M34 => wp_Ch_release_43 G ca post M34 l1b2 l2b2) M29 b32 l3b2))) M24 b27 l3b2))) M b22)
def wp_Ch_release (G ca : Nat → Nat) (post : hM → Prop) (M : hM) (a0 : Nat) (a1 : Option Nat) (x2 : Int32) : Prop := ∃ n, wp_Ch_release_2 G ca post n M a0 a1 x2 0
set_option maxHeartbeats 1000000 in
set_option maxRecDepth 20000 in
theorem l_Ch_release_43 {p : Program} {l : Launch} {e : Env} {s : State} {m : MethodId} {args : Array Value} {below : List Frame} {meth : Method} {c : Code} {D : va_G} {ca G : Nat → Nat} {A : Nat → Prop} (C0 : hC p s m args meth c D ca G prog_2_method_20_code 4 (none) "ChannelHall$Channel" A) {post : hM → Prop} {M : hM} {H : Heap} {locs : List Loc} {ls : Array Slot} (l1b43 : Option Nat) (l2b43 : Int32) (h : wp_Ch_release_43 G ca post M l1b43 l2b43) (hW : hw D wCl A M H) (hS : va_S A s.heap H locs) (hl : lv_has ls 4 [(1, va_rf l1b43), (2, .int l2b43)]) : W p l e rm_Ch_release s m args below meth c H locs 0 0 (MQ below (va_Qv post (fun M' t => hw D wCl A M' t.heap) A) args s 0 0 A) (F0 m 43 ls []) := by
  obtain ⟨hx, hb, hr, hml, hown, hts, hlocks, hK, hA, hZ0⟩ := id C0
  refine lq_load_n hx hb d_Ch_release_43 rfl (lv_at hl 0 rfl) ?_
  refine lv_null hx hb d_Ch_release_44 ?_
  obtain ⟨b18, rfl, h⟩ := h
  obtain ⟨fs, h1, h2, h⟩ := h
  obtain ⟨ws, q0, hq, hP, hD, hback, -⟩ := hw_open hW h1
  refine va_put (D := D) (ci := 2) (v := .null) (ty := .object "ChannelHall$Channel") (C := "ChannelHall$Worker") (T := TWo) (N := 11) hx hb hts uWo tWo tWo_ok nWo hown hK hP hD hS q0 hq rfl 5 (by decide) (hts _ bw_64) (fun _ h9 => h9) rfl (by decide +kernel) rfl rfl h2 d_Ch_release_45 (fun H locs hP hD hS => ?_)
  have hW := hback _ _ hP hD
  generalize (va_up M b18 (some (.inr (2, fs.set 5 (.null))))) = M19 at h hW
  refine lv_aload_n hx hb d_Ch_release_48 rfl (lv_at hl 0 rfl) ?_
  refine lv_iload_n hx hb d_Ch_release_49 rfl (lv_at hl 1 rfl) ?_
  obtain ⟨fs, h1, h2, h⟩ := h
  obtain ⟨ws, q0, hq, hP, hD, hback, -⟩ := hw_open hW h1
  refine va_put (D := D) (ci := 2) (v := .int l2b43) (ty := .int) (C := "ChannelHall$Worker") (T := TWo) (N := 11) hx hb hts uWo tWo tWo_ok nWo hown hK hP hD hS q0 hq rfl 2 (by decide) (hts _ bw_57) (fun _ h9 => h9) rfl (by decide +kernel) rfl rfl h2 d_Ch_release_50 (fun H locs hP hD hS => ?_)
  have hW := hback _ _ hP hD
  generalize (va_up M19 b18 (some (.inr (2, fs.set 2 (.int l2b43))))) = M20 at h hW
  exact W.vret hx hb hr (fun t ht hWm => ⟨⟨_, rfl, h, hw_t ht hW⟩, hS.F ht⟩) hS.2.2 d_Ch_release_53
set_option maxHeartbeats 1000000 in
set_option maxRecDepth 20000 in
theorem l_Ch_release_2 {p : Program} {l : Launch} {e : Env} {s : State} {m : MethodId} {args : Array Value} {below : List Frame} {meth : Method} {c : Code} {D : va_G} {ca G : Nat → Nat} {A : Nat → Prop} (C0 : hC p s m args meth c D ca G prog_2_method_20_code 4 (none) "ChannelHall$Channel" A) {post : hM → Prop} : ∀ (n : Nat) {M : hM} {H : Heap} {locs : List Loc} {ls : Array Slot} (l0b2 : Nat) (l1b2 : Option Nat) (l2b2 : Int32) (l3b2 : Int32) (h : wp_Ch_release_2 G ca post n M l0b2 l1b2 l2b2 l3b2) (hW : hw D wCl A M H) (hS : va_S A s.heap H locs) (hl : lv_has ls 4 [(0, .ref l0b2), (1, va_rf l1b2), (2, .int l2b2), (3, .int l3b2)]), W p l e rm_Ch_release s m args below meth c H locs 0 0 (MQ below (va_Qv post (fun M' t => hw D wCl A M' t.heap) A) args s 0 0 A) (F0 m 2 ls []) := by
  obtain ⟨hx, hb, hr, hml, hown, hts, hlocks, hK, hA, hZ0⟩ := id C0
  intro n
  induction n with
  | zero =>
    intro M H locs ls l0b2 l1b2 l2b2 l3b2 h
    exact False.elim h
  | succ n ih =>
    intro M H locs ls l0b2 l1b2 l2b2 l3b2 h hW hS hl
    have hk_2 := fun M H locs ls l0b2 l1b2 l2b2 l3b2 h hW hS hl => @ih M H locs ls l0b2 l1b2 l2b2 l3b2 h hW hS hl
    refine lv_iload_n hx hb d_Ch_release_2 rfl (lv_at hl 3 rfl) ?_
    refine lv_aload_n hx hb d_Ch_release_3 rfl (lv_at hl 0 rfl) ?_
    obtain ⟨fs, v21, h1, h2, h⟩ := h
    refine va_get (D := D) (ci := 0) (v := va_rf v21) (C := "ChannelHall$Channel") (T := TCh) (N := 10) hx hb hts uCh hown hK (hw_one hW h1) 0 rfl rfl 5 (by decide) (hts _ bw_260) (fun _ h9 => h9) h2 d_Ch_release_4 ?_
    obtain ⟨b22, rfl, h⟩ := h
    obtain ⟨⟨fs, h1⟩, h⟩ := h
    have h9 := h
    clear h
    have hF := hW.free hS hA
    refine va_calli (va_runV (As := []) (rest := [.int l3b2]) ⟨hx, hb, hml, hown, hts⟩ (c_Al_size _ h9) (cwV 0 hts (gi_V bw_376 bw_377 bw_378 bw_14 bw_379) rfl rfl rfl (by decide +kernel) ⟨Nat.le_of_ble_eq_true rfl, Nat.le_of_ble_eq_true rfl⟩) ⟨hI.blind, hw_recv hK hW h1 rfl, hI.give hW hS hA hK hZ0⟩ rfl rfl hl.1 rfl (lv_room (Nat.le_of_ble_eq_true rfl)) d_Ch_release_7 ⟨(show _ ≤ 0 by omega), (show _ ≤ 0 by omega)⟩) hS (fun q _ z => hF q z) hF (fun r23 M24 t H locs ht _ h hB1 _ _ hS => ?_)
    have hW := hw_back hF ht hB1
    clear h9
    obtain ⟨h0, h1⟩ := h
    refine lv_icmp_ge (tgt := 43) hx hb d_Ch_release_10 (by decide) (fun c25 => ?_) (fun c25 => ?_)
    · have h := h0 c25
      exact l_Ch_release_43 C0 l1b2 l2b2 h hW hS (lv_sub hl [1, 2] rfl)
    · have h := h1 c25
      refine lv_aload_n hx hb d_Ch_release_13 rfl (lv_at hl 0 rfl) ?_
      obtain ⟨fs, v26, h1, h2, h⟩ := h
      refine va_get (D := D) (ci := 0) (v := va_rf v26) (C := "ChannelHall$Channel") (T := TCh) (N := 10) hx hb hts uCh hown hK (hw_one hW h1) 0 rfl rfl 5 (by decide) (hts _ bw_260) (fun _ h9 => h9) h2 d_Ch_release_14 ?_
      refine lv_iload_n hx hb d_Ch_release_17 rfl (lv_at hl 3 rfl) ?_
      obtain ⟨b27, rfl, h⟩ := h
      obtain ⟨⟨fs, h1⟩, h⟩ := h
      have h9 := h
      clear h
      have hF := hW.free hS hA
      refine va_callq (va_runV (As := [.int l3b2]) (rest := []) ⟨hx, hb, hml, hown, hts⟩ (c_Al_get _ h9) (cwV 1 hts (gi_V bw_380 bw_381 bw_382 bw_14 bw_383) rfl rfl rfl (by decide +kernel) ⟨Nat.le_of_ble_eq_true rfl, Nat.le_of_ble_eq_true rfl⟩) ⟨hI.blind, hw_recv hK hW h1 rfl, hI.give hW hS hA hK hZ0⟩ rfl rfl hl.1 rfl (lv_room (Nat.le_of_ble_eq_true rfl)) d_Ch_release_18 ⟨(show _ ≤ 0 by omega), (show _ ≤ 0 by omega)⟩) hS (fun q _ z => hF q z) hF (fun r28 M29 t H locs ht _ h hB1 _ _ hS => ?_)
      have hW := hw_back hF ht hB1
      clear h9
      refine lq_load_n hx hb d_Ch_release_21 rfl (lv_at hl 1 rfl) ?_
      obtain ⟨h0, h1⟩ := h
      refine lv_acmp_ne (rx := r28) (ry := l1b2) (tgt := 37) hx hb d_Ch_release_22 (by decide) (fun c30 => ?_) (fun c30 => ?_)
      · have h := h0 c30
        refine lv_iinc (v := l3b2 + 1) (lv' := [(3, .int (l3b2 + 1)), (0, .ref l0b2), (1, va_rf l1b2), (2, .int l2b2)]) hx hb d_Ch_release_37 hl (k := 3) rfl rfl (by decide) rfl (fun ls hl => ?_)
        refine lv_goto (tgt := 2) hx hb d_Ch_release_40 (by decide) ?_
        exact hk_2 _ _ _ _ l0b2 l1b2 l2b2 (l3b2 + 1) h hW hS (lv_sub hl [1, 2, 3, 0] rfl)
      · have h := h1 c30
        refine lv_aload_n hx hb d_Ch_release_25 rfl (lv_at hl 0 rfl) ?_
        obtain ⟨fs, v31, h1, h2, h⟩ := h
        refine va_get (D := D) (ci := 0) (v := va_rf v31) (C := "ChannelHall$Channel") (T := TCh) (N := 10) hx hb hts uCh hown hK (hw_one hW h1) 0 rfl rfl 5 (by decide) (hts _ bw_260) (fun _ h9 => h9) h2 d_Ch_release_26 ?_
        refine lv_iload_n hx hb d_Ch_release_29 rfl (lv_at hl 3 rfl) ?_
        obtain ⟨b32, rfl, h⟩ := h
        obtain ⟨⟨fs, h1⟩, h⟩ := h
        have h9 := h
        clear h
        have hF := hW.free hS hA
        refine va_callq (va_runV (As := [.int l3b2]) (rest := []) ⟨hx, hb, hml, hown, hts⟩ (c_Al_remove _ h9) (cwV 1 hts (gi_V bw_783 bw_784 bw_785 bw_14 bw_786) rfl rfl rfl (by decide +kernel) ⟨Nat.le_of_ble_eq_true rfl, Nat.le_of_ble_eq_true rfl⟩) ⟨hI.blind, hw_recv hK hW h1 rfl, hI.give hW hS hA hK hZ0⟩ rfl rfl hl.1 rfl (lv_room (Nat.le_of_ble_eq_true rfl)) d_Ch_release_30 ⟨(show _ ≤ 0 by omega), (show _ ≤ 0 by omega)⟩) hS (fun q _ z => hF q z) hF (fun r33 M34 t H locs ht _ h hB1 _ _ hS => ?_)
        have hW := hw_back hF ht hB1
        clear h9
        refine lv_pop hx hb d_Ch_release_33 (by cases r33 <;> rfl) ?_
        refine lv_goto (tgt := 43) hx hb d_Ch_release_34 (by decide) ?_
        exact l_Ch_release_43 C0 l1b2 l2b2 h hW hS (lv_sub hl [1, 2] rfl)
set_option maxHeartbeats 1000000 in
set_option maxRecDepth 20000 in
theorem l_Ch_release_e {p : Program} {l : Launch} {e : Env} {s : State} {m : MethodId} {args : Array Value} {below : List Frame} {meth : Method} {c : Code} {D : va_G} {ca G : Nat → Nat} {A : Nat → Prop} (C0 : hC p s m args meth c D ca G prog_2_method_20_code 4 (none) "ChannelHall$Channel" A) {post : hM → Prop} {M : hM} {H : Heap} {locs : List Loc} {ls : Array Slot} (a0 : Nat) (a1 : Option Nat) (x2 : Int32) (h : wp_Ch_release G ca post M a0 a1 x2) (hW : hw D wCl A M H) (hS : va_S A s.heap H locs) (hl : lv_has ls 4 [(0, .ref a0), (1, va_rf a1), (2, .int x2)]) : W p l e rm_Ch_release s m args below meth c H locs 0 0 (MQ below (va_Qv post (fun M' t => hw D wCl A M' t.heap) A) args s 0 0 A) (F0 m 0 ls []) := by
  obtain ⟨hx, hb, hr, hml, hown, hts, hlocks, hK, hA, hZ0⟩ := id C0
  refine lv_iconst (v := 0) hx hb d_Ch_release_0 (by decide) ?_
  refine lv_istore_n (lv' := [(3, .int 0), (0, .ref a0), (1, va_rf a1), (2, .int x2)]) hx hb d_Ch_release_1 rfl hl (by decide) rfl (fun ls hl => ?_)
  obtain ⟨n, h⟩ := h
  exact l_Ch_release_2 C0 n a0 a1 x2 0 h hW hS (lv_sub hl [1, 2, 3, 0] rfl)
set_option maxRecDepth 20000 in
theorem c_Ch_release {l : Launch} {D : va_G} {ca G : Nat → Nat} (post : hM → Prop) {M : hM} {sz : Nat} {a0 : Nat} {a1 : Option Nat} {x2 : Int32} (h : wp_Ch_release G ca post M a0 a1 x2) : Met l y_Ch_release (wz y_Ch_release prog_2_method_20_code 4 (none)) rm_Ch_release (va_Pc [.ref a0, va_rf a1, .int x2] (hI D ca G sz M)) (va_Qv post (hB D M sz) (hp_A M sz)) 0 0 (hp_A M sz) := by
  refine Met.ofW (cc := prog_2_method_20_code) (maxL := 4) (ret := none) (by decide) rfl ?_
  intro p e s m args below meth c s₁ B hml hv
  obtain ⟨rfl, hsz, hW, hK, hZ0⟩ := hv
  have hts := fun w hw => atoms_spec (ws := wz y_Ch_release prog_2_method_20_code 4 (none)) B.pre w (List.mem_cons_of_mem _ hw)
  have hown : s.vm.findClass "ChannelHall$Channel" = some m.cls := findClass_of_methodNamed B.named
  subst hsz
  have hl : lv_has ((lg_sl [.ref a0, va_rf a1, .int x2] ++ List.replicate (4 - (lg_sl [.ref a0, va_rf a1, .int x2]).length) Slot.unset).toArray) 4 [(0, .ref a0), (1, va_rf a1), (2, .int x2)] := by cases a1 <;> exact lv_entry _ (Nat.le_of_ble_eq_true rfl)
  rw [lg_entry_eq]
  exact l_Ch_release_e ⟨B.exec, B.bytes, B.returns, hml, hown, hts, B.notSynchronized, hK, fun q h => Or.inr h, hZ0⟩ a0 a1 x2 h hW va_S.rf hl

theorem d_Ch_releaseAll_0 : decode prog_2_method_21_code 0 = .ok (.iconst 0, 1) := by decide +kernel
theorem d_Ch_releaseAll_1 : decode prog_2_method_21_code 1 = .ok (.istore_n 2, 1) := by decide +kernel
theorem d_Ch_releaseAll_2 : decode prog_2_method_21_code 2 = .ok (.iload_n 2, 1) := by decide +kernel
theorem d_Ch_releaseAll_3 : decode prog_2_method_21_code 3 = .ok (.aload_n 0, 1) := by decide +kernel
theorem d_Ch_releaseAll_4 : decode prog_2_method_21_code 4 = .ok (.getfield 18, 3) := by decide +kernel
theorem d_Ch_releaseAll_7 : decode prog_2_method_21_code 7 = .ok (.invokevirtual 79, 3) := by decide +kernel
theorem d_Ch_releaseAll_10 : decode prog_2_method_21_code 10 = .ok (.if_icmp .ge 39, 3) := by decide +kernel
theorem d_Ch_releaseAll_13 : decode prog_2_method_21_code 13 = .ok (.aload_n 0, 1) := by decide +kernel
theorem d_Ch_releaseAll_14 : decode prog_2_method_21_code 14 = .ok (.getfield 18, 3) := by decide +kernel
theorem d_Ch_releaseAll_17 : decode prog_2_method_21_code 17 = .ok (.iload_n 2, 1) := by decide +kernel
theorem d_Ch_releaseAll_18 : decode prog_2_method_21_code 18 = .ok (.invokevirtual 56, 3) := by decide +kernel
theorem d_Ch_releaseAll_21 : decode prog_2_method_21_code 21 = .ok (.checkcast 83, 3) := by decide +kernel
theorem d_Ch_releaseAll_24 : decode prog_2_method_21_code 24 = .ok (.aconst_null, 1) := by decide +kernel
theorem d_Ch_releaseAll_25 : decode prog_2_method_21_code 25 = .ok (.putfield 140, 3) := by decide +kernel
theorem d_Ch_releaseAll_28 : decode prog_2_method_21_code 28 = .ok (.aload_n 0, 1) := by decide +kernel
theorem d_Ch_releaseAll_29 : decode prog_2_method_21_code 29 = .ok (.getfield 18, 3) := by decide +kernel
theorem d_Ch_releaseAll_32 : decode prog_2_method_21_code 32 = .ok (.iload_n 2, 1) := by decide +kernel
theorem d_Ch_releaseAll_33 : decode prog_2_method_21_code 33 = .ok (.invokevirtual 56, 3) := by decide +kernel
theorem d_Ch_releaseAll_36 : decode prog_2_method_21_code 36 = .ok (.checkcast 83, 3) := by decide +kernel
theorem d_Ch_releaseAll_39 : decode prog_2_method_21_code 39 = .ok (.iload_n 1, 1) := by decide +kernel
theorem d_Ch_releaseAll_40 : decode prog_2_method_21_code 40 = .ok (.putfield 144, 3) := by decide +kernel
theorem d_Ch_releaseAll_43 : decode prog_2_method_21_code 43 = .ok (.iinc 2 1, 3) := by decide +kernel
theorem d_Ch_releaseAll_46 : decode prog_2_method_21_code 46 = .ok (.goto (-44), 3) := by decide +kernel
theorem d_Ch_releaseAll_49 : decode prog_2_method_21_code 49 = .ok (.aload_n 0, 1) := by decide +kernel
theorem d_Ch_releaseAll_50 : decode prog_2_method_21_code 50 = .ok (.getfield 18, 3) := by decide +kernel
theorem d_Ch_releaseAll_53 : decode prog_2_method_21_code 53 = .ok (.invokevirtual 147, 3) := by decide +kernel
theorem d_Ch_releaseAll_56 : decode prog_2_method_21_code 56 = .ok (.return_, 1) := by decide +kernel
def y_Ch_releaseAll : MethodName := ⟨"ChannelHall$Channel", "releaseAll", "(I)V"⟩
abbrev rm_Ch_releaseAll : Room := { frames := 3, cells := 0, slots := 0, locals := 64 }
def wp_Ch_releaseAll_2 (G ca : Nat → Nat) (post : hM → Prop) : Nat → hM → Nat → Int32 → Int32 → Prop
  | 0, _, _, _, _ => False
  | n + 1, M, l0b2, l1b2, l2b2 => gR M l0b2 0 5 fun v21 => nN v21 fun b22 => rC M b22 4 (wp_Al_size G ca (fun r23 M24 => (r23 ≤ l2b2 → gR M24 l0b2 0 5 fun v26 => nN v26 fun b27 => rC M24 b27 4 (wp_Al_clear G ca (fun M28 => post M28) M24 b27)) ∧ (¬ r23 ≤ l2b2 → gR M24 l0b2 0 5 fun v29 => nN v29 fun b30 => rC M24 b30 4 (wp_Al_get G ca (fun r31 M32 => cO M32 r31 2 fun b33 => pF M32 b33 2 5 (.null) fun M34 => gR M34 l0b2 0 5 fun v35 => nN v35 fun b36 => rC M34 b36 4 (wp_Al_get G ca (fun r37 M38 => cO M38 r37 2 fun b39 => pF M38 b39 2 2 (.int l1b2) fun M40 => (wp_Ch_releaseAll_2 G ca post n) M40 l0b2 l1b2 (l2b2 + 1)) M34 b36 l2b2)) M24 b30 l2b2))) M b22)
def wp_Ch_releaseAll (G ca : Nat → Nat) (post : hM → Prop) (M : hM) (a0 : Nat) (x1 : Int32) : Prop := ∃ n, wp_Ch_releaseAll_2 G ca post n M a0 x1 0
set_option maxHeartbeats 1000000 in
set_option maxRecDepth 20000 in
theorem l_Ch_releaseAll_2 {p : Program} {l : Launch} {e : Env} {s : State} {m : MethodId} {args : Array Value} {below : List Frame} {meth : Method} {c : Code} {D : va_G} {ca G : Nat → Nat} {A : Nat → Prop} (C0 : hC p s m args meth c D ca G prog_2_method_21_code 3 (none) "ChannelHall$Channel" A) {post : hM → Prop} : ∀ (n : Nat) {M : hM} {H : Heap} {locs : List Loc} {ls : Array Slot} (l0b2 : Nat) (l1b2 : Int32) (l2b2 : Int32) (h : wp_Ch_releaseAll_2 G ca post n M l0b2 l1b2 l2b2) (hW : hw D wCl A M H) (hS : va_S A s.heap H locs) (hl : lv_has ls 3 [(0, .ref l0b2), (1, .int l1b2), (2, .int l2b2)]), W p l e rm_Ch_releaseAll s m args below meth c H locs 0 0 (MQ below (va_Qv post (fun M' t => hw D wCl A M' t.heap) A) args s 0 0 A) (F0 m 2 ls []) := by
  obtain ⟨hx, hb, hr, hml, hown, hts, hlocks, hK, hA, hZ0⟩ := id C0
  intro n
  induction n with
  | zero =>
    intro M H locs ls l0b2 l1b2 l2b2 h
    exact False.elim h
  | succ n ih =>
    intro M H locs ls l0b2 l1b2 l2b2 h hW hS hl
    have hk_2 := fun M H locs ls l0b2 l1b2 l2b2 h hW hS hl => @ih M H locs ls l0b2 l1b2 l2b2 h hW hS hl
    refine lv_iload_n hx hb d_Ch_releaseAll_2 rfl (lv_at hl 2 rfl) ?_
    refine lv_aload_n hx hb d_Ch_releaseAll_3 rfl (lv_at hl 0 rfl) ?_
    obtain ⟨fs, v21, h1, h2, h⟩ := h
    refine va_get (D := D) (ci := 0) (v := va_rf v21) (C := "ChannelHall$Channel") (T := TCh) (N := 10) hx hb hts uCh hown hK (hw_one hW h1) 0 rfl rfl 5 (by decide) (hts _ bw_260) (fun _ h9 => h9) h2 d_Ch_releaseAll_4 ?_
    obtain ⟨b22, rfl, h⟩ := h
    obtain ⟨⟨fs, h1⟩, h⟩ := h
    have h9 := h
    clear h
    have hF := hW.free hS hA
    refine va_calli (va_runV (As := []) (rest := [.int l2b2]) ⟨hx, hb, hml, hown, hts⟩ (c_Al_size _ h9) (cwV 0 hts (gi_V bw_376 bw_377 bw_378 bw_14 bw_379) rfl rfl rfl (by decide +kernel) ⟨Nat.le_of_ble_eq_true rfl, Nat.le_of_ble_eq_true rfl⟩) ⟨hI.blind, hw_recv hK hW h1 rfl, hI.give hW hS hA hK hZ0⟩ rfl rfl hl.1 rfl (lv_room (Nat.le_of_ble_eq_true rfl)) d_Ch_releaseAll_7 ⟨(show _ ≤ 0 by omega), (show _ ≤ 0 by omega)⟩) hS (fun q _ z => hF q z) hF (fun r23 M24 t H locs ht _ h hB1 _ _ hS => ?_)
    have hW := hw_back hF ht hB1
    clear h9
    obtain ⟨h0, h1⟩ := h
    refine lv_icmp_ge (tgt := 49) hx hb d_Ch_releaseAll_10 (by decide) (fun c25 => ?_) (fun c25 => ?_)
    · have h := h0 c25
      refine lv_aload_n hx hb d_Ch_releaseAll_49 rfl (lv_at hl 0 rfl) ?_
      obtain ⟨fs, v26, h1, h2, h⟩ := h
      refine va_get (D := D) (ci := 0) (v := va_rf v26) (C := "ChannelHall$Channel") (T := TCh) (N := 10) hx hb hts uCh hown hK (hw_one hW h1) 0 rfl rfl 5 (by decide) (hts _ bw_260) (fun _ h9 => h9) h2 d_Ch_releaseAll_50 ?_
      obtain ⟨b27, rfl, h⟩ := h
      obtain ⟨⟨fs, h1⟩, h⟩ := h
      have h9 := h
      clear h
      have hF := hW.free hS hA
      refine va_callv (va_runV (As := []) (rest := []) ⟨hx, hb, hml, hown, hts⟩ (c_Al_clear _ h9) (cwV 0 hts (gi_V bw_869 bw_870 bw_871 bw_14 bw_872) rfl rfl rfl (by decide +kernel) ⟨Nat.le_of_ble_eq_true rfl, Nat.le_of_ble_eq_true rfl⟩) ⟨hI.blind, hw_recv hK hW h1 rfl, hI.give hW hS hA hK hZ0⟩ rfl rfl hl.1 rfl (lv_room (Nat.le_of_ble_eq_true rfl)) d_Ch_releaseAll_53 ⟨(show _ ≤ 0 by omega), (show _ ≤ 0 by omega)⟩) hS (fun q _ z => hF q z) hF (fun M28 t H locs ht _ h hB1 _ _ hS => ?_)
      have hW := hw_back hF ht hB1
      clear h9
      exact W.vret hx hb hr (fun t ht hWm => ⟨⟨_, rfl, h, hw_t ht hW⟩, hS.F ht⟩) hS.2.2 d_Ch_releaseAll_56
    · have h := h1 c25
      refine lv_aload_n hx hb d_Ch_releaseAll_13 rfl (lv_at hl 0 rfl) ?_
      obtain ⟨fs, v29, h1, h2, h⟩ := h
      refine va_get (D := D) (ci := 0) (v := va_rf v29) (C := "ChannelHall$Channel") (T := TCh) (N := 10) hx hb hts uCh hown hK (hw_one hW h1) 0 rfl rfl 5 (by decide) (hts _ bw_260) (fun _ h9 => h9) h2 d_Ch_releaseAll_14 ?_
      refine lv_iload_n hx hb d_Ch_releaseAll_17 rfl (lv_at hl 2 rfl) ?_
      obtain ⟨b30, rfl, h⟩ := h
      obtain ⟨⟨fs, h1⟩, h⟩ := h
      have h9 := h
      clear h
      have hF := hW.free hS hA
      refine va_callq (va_runV (As := [.int l2b2]) (rest := []) ⟨hx, hb, hml, hown, hts⟩ (c_Al_get _ h9) (cwV 1 hts (gi_V bw_380 bw_381 bw_382 bw_14 bw_383) rfl rfl rfl (by decide +kernel) ⟨Nat.le_of_ble_eq_true rfl, Nat.le_of_ble_eq_true rfl⟩) ⟨hI.blind, hw_recv hK hW h1 rfl, hI.give hW hS hA hK hZ0⟩ rfl rfl hl.1 rfl (lv_room (Nat.le_of_ble_eq_true rfl)) d_Ch_releaseAll_18 ⟨(show _ ≤ 0 by omega), (show _ ≤ 0 by omega)⟩) hS (fun q _ z => hF q z) hF (fun r31 M32 t H locs ht _ h hB1 _ _ hS => ?_)
      have hW := hw_back hF ht hB1
      clear h9
      obtain ⟨b33, fs, rfl, h1, h⟩ := h
      refine va_castS (cC := D.1 2) hx hb hown (hts _ bw_394) (hK.1 2 _ rfl).2 (hw_recv hK hW h1 rfl) d_Ch_releaseAll_21 ?_
      refine lv_null hx hb d_Ch_releaseAll_24 ?_
      obtain ⟨fs, h1, h2, h⟩ := h
      obtain ⟨ws, q0, hq, hP, hD, hback, -⟩ := hw_open hW h1
      refine va_put (D := D) (ci := 2) (v := .null) (ty := .object "ChannelHall$Channel") (C := "ChannelHall$Worker") (T := TWo) (N := 11) hx hb hts uWo tWo tWo_ok nWo hown hK hP hD hS q0 hq rfl 5 (by decide) (hts _ bw_64) (fun _ h9 => h9) rfl (by decide +kernel) rfl rfl h2 d_Ch_releaseAll_25 (fun H locs hP hD hS => ?_)
      have hW := hback _ _ hP hD
      generalize (va_up M32 b33 (some (.inr (2, fs.set 5 (.null))))) = M34 at h hW
      refine lv_aload_n hx hb d_Ch_releaseAll_28 rfl (lv_at hl 0 rfl) ?_
      obtain ⟨fs, v35, h1, h2, h⟩ := h
      refine va_get (D := D) (ci := 0) (v := va_rf v35) (C := "ChannelHall$Channel") (T := TCh) (N := 10) hx hb hts uCh hown hK (hw_one hW h1) 0 rfl rfl 5 (by decide) (hts _ bw_260) (fun _ h9 => h9) h2 d_Ch_releaseAll_29 ?_
      refine lv_iload_n hx hb d_Ch_releaseAll_32 rfl (lv_at hl 2 rfl) ?_
      obtain ⟨b36, rfl, h⟩ := h
      obtain ⟨⟨fs, h1⟩, h⟩ := h
      have h9 := h
      clear h
      have hF := hW.free hS hA
      refine va_callq (va_runV (As := [.int l2b2]) (rest := []) ⟨hx, hb, hml, hown, hts⟩ (c_Al_get _ h9) (cwV 1 hts (gi_V bw_380 bw_381 bw_382 bw_14 bw_383) rfl rfl rfl (by decide +kernel) ⟨Nat.le_of_ble_eq_true rfl, Nat.le_of_ble_eq_true rfl⟩) ⟨hI.blind, hw_recv hK hW h1 rfl, hI.give hW hS hA hK hZ0⟩ rfl rfl hl.1 rfl (lv_room (Nat.le_of_ble_eq_true rfl)) d_Ch_releaseAll_33 ⟨(show _ ≤ 0 by omega), (show _ ≤ 0 by omega)⟩) hS (fun q _ z => hF q z) hF (fun r37 M38 t H locs ht _ h hB1 _ _ hS => ?_)
      have hW := hw_back hF ht hB1
      clear h9
      obtain ⟨b39, fs, rfl, h1, h⟩ := h
      refine va_castS (cC := D.1 2) hx hb hown (hts _ bw_394) (hK.1 2 _ rfl).2 (hw_recv hK hW h1 rfl) d_Ch_releaseAll_36 ?_
      refine lv_iload_n hx hb d_Ch_releaseAll_39 rfl (lv_at hl 1 rfl) ?_
      obtain ⟨fs, h1, h2, h⟩ := h
      obtain ⟨ws, q0, hq, hP, hD, hback, -⟩ := hw_open hW h1
      refine va_put (D := D) (ci := 2) (v := .int l1b2) (ty := .int) (C := "ChannelHall$Worker") (T := TWo) (N := 11) hx hb hts uWo tWo tWo_ok nWo hown hK hP hD hS q0 hq rfl 2 (by decide) (hts _ bw_57) (fun _ h9 => h9) rfl (by decide +kernel) rfl rfl h2 d_Ch_releaseAll_40 (fun H locs hP hD hS => ?_)
      have hW := hback _ _ hP hD
      generalize (va_up M38 b39 (some (.inr (2, fs.set 2 (.int l1b2))))) = M40 at h hW
      refine lv_iinc (v := l2b2 + 1) (lv' := [(2, .int (l2b2 + 1)), (0, .ref l0b2), (1, .int l1b2)]) hx hb d_Ch_releaseAll_43 hl (k := 2) rfl rfl (by decide) rfl (fun ls hl => ?_)
      refine lv_goto (tgt := 2) hx hb d_Ch_releaseAll_46 (by decide) ?_
      exact hk_2 _ _ _ _ l0b2 l1b2 (l2b2 + 1) h hW hS (lv_sub hl [1, 2, 0] rfl)
set_option maxHeartbeats 1000000 in
set_option maxRecDepth 20000 in
theorem l_Ch_releaseAll_e {p : Program} {l : Launch} {e : Env} {s : State} {m : MethodId} {args : Array Value} {below : List Frame} {meth : Method} {c : Code} {D : va_G} {ca G : Nat → Nat} {A : Nat → Prop} (C0 : hC p s m args meth c D ca G prog_2_method_21_code 3 (none) "ChannelHall$Channel" A) {post : hM → Prop} {M : hM} {H : Heap} {locs : List Loc} {ls : Array Slot} (a0 : Nat) (x1 : Int32) (h : wp_Ch_releaseAll G ca post M a0 x1) (hW : hw D wCl A M H) (hS : va_S A s.heap H locs) (hl : lv_has ls 3 [(0, .ref a0), (1, .int x1)]) : W p l e rm_Ch_releaseAll s m args below meth c H locs 0 0 (MQ below (va_Qv post (fun M' t => hw D wCl A M' t.heap) A) args s 0 0 A) (F0 m 0 ls []) := by
  obtain ⟨hx, hb, hr, hml, hown, hts, hlocks, hK, hA, hZ0⟩ := id C0
  refine lv_iconst (v := 0) hx hb d_Ch_releaseAll_0 (by decide) ?_
  refine lv_istore_n (lv' := [(2, .int 0), (0, .ref a0), (1, .int x1)]) hx hb d_Ch_releaseAll_1 rfl hl (by decide) rfl (fun ls hl => ?_)
  obtain ⟨n, h⟩ := h
  exact l_Ch_releaseAll_2 C0 n a0 x1 0 h hW hS (lv_sub hl [1, 2, 0] rfl)
set_option maxRecDepth 20000 in
theorem c_Ch_releaseAll {l : Launch} {D : va_G} {ca G : Nat → Nat} (post : hM → Prop) {M : hM} {sz : Nat} {a0 : Nat} {x1 : Int32} (h : wp_Ch_releaseAll G ca post M a0 x1) : Met l y_Ch_releaseAll (wz y_Ch_releaseAll prog_2_method_21_code 3 (none)) rm_Ch_releaseAll (va_Pc [.ref a0, .int x1] (hI D ca G sz M)) (va_Qv post (hB D M sz) (hp_A M sz)) 0 0 (hp_A M sz) := by
  refine Met.ofW (cc := prog_2_method_21_code) (maxL := 3) (ret := none) (by decide) rfl ?_
  intro p e s m args below meth c s₁ B hml hv
  obtain ⟨rfl, hsz, hW, hK, hZ0⟩ := hv
  have hts := fun w hw => atoms_spec (ws := wz y_Ch_releaseAll prog_2_method_21_code 3 (none)) B.pre w (List.mem_cons_of_mem _ hw)
  have hown : s.vm.findClass "ChannelHall$Channel" = some m.cls := findClass_of_methodNamed B.named
  subst hsz
  have hl := lv_entry [.ref a0, .int x1] (n := 3) (Nat.le_of_ble_eq_true rfl)
  rw [lg_entry_eq]
  exact l_Ch_releaseAll_e ⟨B.exec, B.bytes, B.returns, hml, hown, hts, B.notSynchronized, hK, fun q h => Or.inr h, hZ0⟩ a0 x1 h hW va_S.rf hl

theorem d_Ch_breakUp_0 : decode prog_2_method_22_code 0 = .ok (.aload_n 0, 1) := by decide +kernel
theorem d_Ch_breakUp_1 : decode prog_2_method_22_code 1 = .ok (.iconst 1, 1) := by decide +kernel
theorem d_Ch_breakUp_2 : decode prog_2_method_22_code 2 = .ok (.putfield 21, 3) := by decide +kernel
theorem d_Ch_breakUp_5 : decode prog_2_method_22_code 5 = .ok (.aload_n 0, 1) := by decide +kernel
theorem d_Ch_breakUp_6 : decode prog_2_method_22_code 6 = .ok (.iconst 4, 1) := by decide +kernel
theorem d_Ch_breakUp_7 : decode prog_2_method_22_code 7 = .ok (.invokevirtual 150, 3) := by decide +kernel
theorem d_Ch_breakUp_10 : decode prog_2_method_22_code 10 = .ok (.return_, 1) := by decide +kernel
def y_Ch_breakUp : MethodName := ⟨"ChannelHall$Channel", "breakUp", "()V"⟩
abbrev rm_Ch_breakUp : Room := { frames := 4, cells := 0, slots := 0, locals := 86 }
def wp_Ch_breakUp (G ca : Nat → Nat) (post : hM → Prop) (M : hM) (a0 : Nat) : Prop := pF M a0 0 6 (.int 1) fun M3 => rC M3 a0 0 (wp_Ch_releaseAll G ca (fun M4 => post M4) M3 a0 4)
set_option maxHeartbeats 1000000 in
set_option maxRecDepth 20000 in
theorem l_Ch_breakUp_e {p : Program} {l : Launch} {e : Env} {s : State} {m : MethodId} {args : Array Value} {below : List Frame} {meth : Method} {c : Code} {D : va_G} {ca G : Nat → Nat} {A : Nat → Prop} (C0 : hC p s m args meth c D ca G prog_2_method_22_code 1 (none) "ChannelHall$Channel" A) {post : hM → Prop} {M : hM} {H : Heap} {locs : List Loc} {ls : Array Slot} (a0 : Nat) (h : wp_Ch_breakUp G ca post M a0) (hW : hw D wCl A M H) (hS : va_S A s.heap H locs) (hl : lv_has ls 1 [(0, .ref a0)]) : W p l e rm_Ch_breakUp s m args below meth c H locs 0 0 (MQ below (va_Qv post (fun M' t => hw D wCl A M' t.heap) A) args s 0 0 A) (F0 m 0 ls []) := by
  obtain ⟨hx, hb, hr, hml, hown, hts, hlocks, hK, hA, hZ0⟩ := id C0
  refine lv_aload_n hx hb d_Ch_breakUp_0 rfl (lv_at hl 0 rfl) ?_
  refine lv_iconst (v := 1) hx hb d_Ch_breakUp_1 (by decide) ?_
  obtain ⟨fs, h1, h2, h⟩ := h
  obtain ⟨ws, q0, hq, hP, hD, hback, -⟩ := hw_open hW h1
  refine va_put (D := D) (ci := 0) (v := .int 1) (ty := .boolean) (C := "ChannelHall$Channel") (T := TCh) (N := 10) hx hb hts uCh tCh tCh_ok nCh hown hK hP hD hS q0 hq rfl 6 (by decide) (hts _ bw_262) (fun _ h9 => h9) rfl (by decide +kernel) (by decide) (by decide) h2 d_Ch_breakUp_2 (fun H locs hP hD hS => ?_)
  have hW := hback _ _ hP hD
  generalize (va_up M a0 (some (.inr (0, fs.set 6 (.int 1))))) = M3 at h hW
  refine lv_aload_n hx hb d_Ch_breakUp_5 rfl (lv_at hl 0 rfl) ?_
  refine lv_iconst (v := 4) hx hb d_Ch_breakUp_6 (by decide) ?_
  obtain ⟨⟨fs, h1⟩, h⟩ := h
  have h9 := h
  clear h
  have hF := hW.free hS hA
  refine va_callv (va_runV (As := [.int 4]) (rest := []) ⟨hx, hb, hml, hown, hts⟩ (c_Ch_releaseAll _ h9) (cwV 1 hts (gi_V bw_865 bw_866 bw_867 bw_11 bw_868) rfl rfl rfl (by decide +kernel) ⟨Nat.le_of_ble_eq_true rfl, Nat.le_of_ble_eq_true rfl⟩) ⟨hI.blind, hw_recv hK hW h1 rfl, hI.give hW hS hA hK hZ0⟩ rfl rfl hl.1 rfl (lv_room (Nat.le_of_ble_eq_true rfl)) d_Ch_breakUp_7 ⟨(show _ ≤ 0 by omega), (show _ ≤ 0 by omega)⟩) hS (fun q _ z => hF q z) hF (fun M4 t H locs ht _ h hB1 _ _ hS => ?_)
  have hW := hw_back hF ht hB1
  clear h9
  exact W.vret hx hb hr (fun t ht hWm => ⟨⟨_, rfl, h, hw_t ht hW⟩, hS.F ht⟩) hS.2.2 d_Ch_breakUp_10
set_option maxRecDepth 20000 in
theorem c_Ch_breakUp {l : Launch} {D : va_G} {ca G : Nat → Nat} (post : hM → Prop) {M : hM} {sz : Nat} {a0 : Nat} (h : wp_Ch_breakUp G ca post M a0) : Met l y_Ch_breakUp (wz y_Ch_breakUp prog_2_method_22_code 1 (none)) rm_Ch_breakUp (va_Pc [.ref a0] (hI D ca G sz M)) (va_Qv post (hB D M sz) (hp_A M sz)) 0 0 (hp_A M sz) := by
  refine Met.ofW (cc := prog_2_method_22_code) (maxL := 1) (ret := none) (by decide) rfl ?_
  intro p e s m args below meth c s₁ B hml hv
  obtain ⟨rfl, hsz, hW, hK, hZ0⟩ := hv
  have hts := fun w hw => atoms_spec (ws := wz y_Ch_breakUp prog_2_method_22_code 1 (none)) B.pre w (List.mem_cons_of_mem _ hw)
  have hown : s.vm.findClass "ChannelHall$Channel" = some m.cls := findClass_of_methodNamed B.named
  subst hsz
  have hl := lv_entry [.ref a0] (n := 1) (Nat.le_of_ble_eq_true rfl)
  rw [lg_entry_eq]
  exact l_Ch_breakUp_e ⟨B.exec, B.bytes, B.returns, hml, hown, hts, B.notSynchronized, hK, fun q h => Or.inr h, hZ0⟩ a0 h hW va_S.rf hl

theorem d_Ch_handOver_0 : decode prog_2_method_18_code 0 = .ok (.aload_n 2, 1) := by decide +kernel
theorem d_Ch_handOver_1 : decode prog_2_method_18_code 1 = .ok (.iload_n 1, 1) := by decide +kernel
theorem d_Ch_handOver_2 : decode prog_2_method_18_code 2 = .ok (.invokevirtual 129, 3) := by decide +kernel
theorem d_Ch_handOver_5 : decode prog_2_method_18_code 5 = .ok (.aload_n 0, 1) := by decide +kernel
theorem d_Ch_handOver_6 : decode prog_2_method_18_code 6 = .ok (.dconst 0, 1) := by decide +kernel
theorem d_Ch_handOver_7 : decode prog_2_method_18_code 7 = .ok (.invokevirtual 136, 3) := by decide +kernel
theorem d_Ch_handOver_10 : decode prog_2_method_18_code 10 = .ok (.return_, 1) := by decide +kernel
def y_Ch_handOver : MethodName := ⟨"ChannelHall$Channel", "handOver", "(ILChannelHall$Worker;)V"⟩
abbrev rm_Ch_handOver : Room := { frames := 1, cells := 0, slots := 0, locals := 22 }
def wp_Ch_handOver (G ca : Nat → Nat) (post : hM → Prop) (M : hM) (a0 : Nat) (x1 : Int32) (a2 : Option Nat) : Prop := nN a2 fun b4 => rC M b4 2 (wp_Wo_receive G ca (fun M5 => rC M5 a0 0 (wp_Ch_addStay G ca (fun M6 => post M6) M5 a0 FP.dconst0)) M b4 x1)
set_option maxHeartbeats 1000000 in
set_option maxRecDepth 20000 in
theorem l_Ch_handOver_e {p : Program} {l : Launch} {e : Env} {s : State} {m : MethodId} {args : Array Value} {below : List Frame} {meth : Method} {c : Code} {D : va_G} {ca G : Nat → Nat} {A : Nat → Prop} (C0 : hC p s m args meth c D ca G prog_2_method_18_code 3 (none) "ChannelHall$Channel" A) {post : hM → Prop} {M : hM} {H : Heap} {locs : List Loc} {ls : Array Slot} (a0 : Nat) (x1 : Int32) (a2 : Option Nat) (h : wp_Ch_handOver G ca post M a0 x1 a2) (hW : hw D wCl A M H) (hS : va_S A s.heap H locs) (hl : lv_has ls 3 [(0, .ref a0), (1, .int x1), (2, va_rf a2)]) : W p l e rm_Ch_handOver s m args below meth c H locs 0 0 (MQ below (va_Qv post (fun M' t => hw D wCl A M' t.heap) A) args s 0 0 A) (F0 m 0 ls []) := by
  obtain ⟨hx, hb, hr, hml, hown, hts, hlocks, hK, hA, hZ0⟩ := id C0
  refine lq_load_n hx hb d_Ch_handOver_0 rfl (lv_at hl 2 rfl) ?_
  refine lv_iload_n hx hb d_Ch_handOver_1 rfl (lv_at hl 1 rfl) ?_
  obtain ⟨b4, rfl, h⟩ := h
  obtain ⟨⟨fs, h1⟩, h⟩ := h
  have h9 := h
  clear h
  have hF := hW.free hS hA
  refine va_callv (va_runV (As := [.int x1]) (rest := []) ⟨hx, hb, hml, hown, hts⟩ (c_Wo_receive _ h9) (cwV 1 hts (gi_V bw_771 bw_772 bw_773 bw_2 bw_774) rfl rfl rfl (by decide +kernel) ⟨Nat.le_of_ble_eq_true rfl, Nat.le_of_ble_eq_true rfl⟩) ⟨hI.blind, hw_recv hK hW h1 rfl, hI.give hW hS hA hK hZ0⟩ rfl rfl hl.1 rfl (lv_room (Nat.le_of_ble_eq_true rfl)) d_Ch_handOver_2 ⟨(show _ ≤ 0 by omega), (show _ ≤ 0 by omega)⟩) hS (fun q _ z => hF q z) hF (fun M5 t H locs ht _ h hB1 _ _ hS => ?_)
  have hW := hw_back hF ht hB1
  clear h9
  refine lv_aload_n hx hb d_Ch_handOver_5 rfl (lv_at hl 0 rfl) ?_
  refine lv_dconst0 hx hb d_Ch_handOver_6 ?_
  obtain ⟨⟨fs, h1⟩, h⟩ := h
  have h9 := h
  clear h
  have hF := hW.free hS hA
  refine va_callv (va_runV (As := [.double FP.dconst0]) (rest := []) ⟨hx, hb, hml, hown, hts⟩ (c_Ch_addStay _ h9) (cwV 1 hts (gi_V bw_775 bw_777 bs_11 bw_11 bw_778) rfl rfl rfl (by decide +kernel) ⟨Nat.le_of_ble_eq_true rfl, Nat.le_of_ble_eq_true rfl⟩) ⟨hI.blind, hw_recv hK hW h1 rfl, hI.give hW hS hA hK hZ0⟩ rfl rfl hl.1 rfl (lv_room (Nat.le_of_ble_eq_true rfl)) d_Ch_handOver_7 ⟨(show _ ≤ 0 by omega), (show _ ≤ 0 by omega)⟩) hS (fun q _ z => hF q z) hF (fun M6 t H locs ht _ h hB1 _ _ hS => ?_)
  have hW := hw_back hF ht hB1
  clear h9
  exact W.vret hx hb hr (fun t ht hWm => ⟨⟨_, rfl, h, hw_t ht hW⟩, hS.F ht⟩) hS.2.2 d_Ch_handOver_10
set_option maxRecDepth 20000 in
theorem c_Ch_handOver {l : Launch} {D : va_G} {ca G : Nat → Nat} (post : hM → Prop) {M : hM} {sz : Nat} {a0 : Nat} {x1 : Int32} {a2 : Option Nat} (h : wp_Ch_handOver G ca post M a0 x1 a2) : Met l y_Ch_handOver (wz y_Ch_handOver prog_2_method_18_code 3 (none)) rm_Ch_handOver (va_Pc [.ref a0, .int x1, va_rf a2] (hI D ca G sz M)) (va_Qv post (hB D M sz) (hp_A M sz)) 0 0 (hp_A M sz) := by
  refine Met.ofW (cc := prog_2_method_18_code) (maxL := 3) (ret := none) (by decide) rfl ?_
  intro p e s m args below meth c s₁ B hml hv
  obtain ⟨rfl, hsz, hW, hK, hZ0⟩ := hv
  have hts := fun w hw => atoms_spec (ws := wz y_Ch_handOver prog_2_method_18_code 3 (none)) B.pre w (List.mem_cons_of_mem _ hw)
  have hown : s.vm.findClass "ChannelHall$Channel" = some m.cls := findClass_of_methodNamed B.named
  subst hsz
  have hl : lv_has ((lg_sl [.ref a0, .int x1, va_rf a2] ++ List.replicate (3 - (lg_sl [.ref a0, .int x1, va_rf a2]).length) Slot.unset).toArray) 3 [(0, .ref a0), (1, .int x1), (2, va_rf a2)] := by cases a2 <;> exact lv_entry _ (Nat.le_of_ble_eq_true rfl)
  rw [lg_entry_eq]
  exact l_Ch_handOver_e ⟨B.exec, B.bytes, B.returns, hml, hown, hts, B.notSynchronized, hK, fun q h => Or.inr h, hZ0⟩ a0 x1 a2 h hW va_S.rf hl

theorem d_Ch_handFirst_0 : decode prog_2_method_17_code 0 = .ok (.aload_n 0, 1) := by decide +kernel
theorem d_Ch_handFirst_1 : decode prog_2_method_17_code 1 = .ok (.getfield 12, 3) := by decide +kernel
theorem d_Ch_handFirst_4 : decode prog_2_method_17_code 4 = .ok (.invokevirtual 52, 3) := by decide +kernel
theorem d_Ch_handFirst_7 : decode prog_2_method_17_code 7 = .ok (.ifCond .eq 4, 3) := by decide +kernel
theorem d_Ch_handFirst_10 : decode prog_2_method_17_code 10 = .ok (.return_, 1) := by decide +kernel
theorem d_Ch_handFirst_11 : decode prog_2_method_17_code 11 = .ok (.aload_n 0, 1) := by decide +kernel
theorem d_Ch_handFirst_12 : decode prog_2_method_17_code 12 = .ok (.getfield 12, 3) := by decide +kernel
theorem d_Ch_handFirst_15 : decode prog_2_method_17_code 15 = .ok (.iconst 0, 1) := by decide +kernel
theorem d_Ch_handFirst_16 : decode prog_2_method_17_code 16 = .ok (.invokevirtual 123, 3) := by decide +kernel
theorem d_Ch_handFirst_19 : decode prog_2_method_17_code 19 = .ok (.checkcast 60, 3) := by decide +kernel
theorem d_Ch_handFirst_22 : decode prog_2_method_17_code 22 = .ok (.astore 4, 2) := by decide +kernel
theorem d_Ch_handFirst_24 : decode prog_2_method_17_code 24 = .ok (.aload_n 1, 1) := by decide +kernel
theorem d_Ch_handFirst_25 : decode prog_2_method_17_code 25 = .ok (.aload 4, 2) := by decide +kernel
theorem d_Ch_handFirst_27 : decode prog_2_method_17_code 27 = .ok (.getfield 126, 3) := by decide +kernel
theorem d_Ch_handFirst_30 : decode prog_2_method_17_code 30 = .ok (.invokevirtual 129, 3) := by decide +kernel
theorem d_Ch_handFirst_33 : decode prog_2_method_17_code 33 = .ok (.aload_n 0, 1) := by decide +kernel
theorem d_Ch_handFirst_34 : decode prog_2_method_17_code 34 = .ok (.dload_n 2, 1) := by decide +kernel
theorem d_Ch_handFirst_35 : decode prog_2_method_17_code 35 = .ok (.aload 4, 2) := by decide +kernel
theorem d_Ch_handFirst_37 : decode prog_2_method_17_code 37 = .ok (.getfield 133, 3) := by decide +kernel
theorem d_Ch_handFirst_40 : decode prog_2_method_17_code 40 = .ok (.dsub, 1) := by decide +kernel
theorem d_Ch_handFirst_41 : decode prog_2_method_17_code 41 = .ok (.invokevirtual 136, 3) := by decide +kernel
theorem d_Ch_handFirst_44 : decode prog_2_method_17_code 44 = .ok (.return_, 1) := by decide +kernel
def y_Ch_handFirst : MethodName := ⟨"ChannelHall$Channel", "handFirst", "(LChannelHall$Worker;D)V"⟩
abbrev rm_Ch_handFirst : Room := { frames := 3, cells := 0, slots := 0, locals := 86 }
def wp_Ch_handFirst (G ca : Nat → Nat) (post : hM → Prop) (M : hM) (a0 : Nat) (a1 : Option Nat) (x2 : UInt64) : Prop := gR M a0 0 4 fun v16 => nN v16 fun b17 => rC M b17 4 (wp_Al_isEmpty G ca (fun r18 M19 => (r18 = 0 → gR M19 a0 0 4 fun v21 => nN v21 fun b22 => rC M19 b22 4 (wp_Al_remove G ca (fun r23 M24 => cO M24 r23 1 fun b25 => gI M24 b25 1 0 fun v26 => nN a1 fun b27 => rC M24 b27 2 (wp_Wo_receive G ca (fun M28 => gD M28 b25 1 2 fun v29 => nD (FP.dsub x2 v29) (rC M28 a0 0 (wp_Ch_addStay G ca (fun M30 => post M30) M28 a0 (FP.dsub x2 v29)))) M24 b27 v26)) M19 b22 0)) ∧ (¬ r18 = 0 → post M19)) M b17)
set_option maxHeartbeats 1000000 in
set_option maxRecDepth 20000 in
theorem l_Ch_handFirst_e {p : Program} {l : Launch} {e : Env} {s : State} {m : MethodId} {args : Array Value} {below : List Frame} {meth : Method} {c : Code} {D : va_G} {ca G : Nat → Nat} {A : Nat → Prop} (C0 : hC p s m args meth c D ca G prog_2_method_17_code 5 (none) "ChannelHall$Channel" A) {post : hM → Prop} {M : hM} {H : Heap} {locs : List Loc} {ls : Array Slot} (a0 : Nat) (a1 : Option Nat) (x2 : UInt64) (h : wp_Ch_handFirst G ca post M a0 a1 x2) (hW : hw D wCl A M H) (hS : va_S A s.heap H locs) (hl : lv_has ls 5 [(0, .ref a0), (1, va_rf a1), (2, .double x2)]) : W p l e rm_Ch_handFirst s m args below meth c H locs 0 0 (MQ below (va_Qv post (fun M' t => hw D wCl A M' t.heap) A) args s 0 0 A) (F0 m 0 ls []) := by
  obtain ⟨hx, hb, hr, hml, hown, hts, hlocks, hK, hA, hZ0⟩ := id C0
  refine lv_aload_n hx hb d_Ch_handFirst_0 rfl (lv_at hl 0 rfl) ?_
  obtain ⟨fs, v16, h1, h2, h⟩ := h
  refine va_get (D := D) (ci := 0) (v := va_rf v16) (C := "ChannelHall$Channel") (T := TCh) (N := 10) hx hb hts uCh hown hK (hw_one hW h1) 0 rfl rfl 4 (by decide) (hts _ bw_258) (fun _ h9 => h9) h2 d_Ch_handFirst_1 ?_
  obtain ⟨b17, rfl, h⟩ := h
  obtain ⟨⟨fs, h1⟩, h⟩ := h
  have h9 := h
  clear h
  have hF := hW.free hS hA
  refine va_calli (va_runV (As := []) (rest := []) ⟨hx, hb, hml, hown, hts⟩ (c_Al_isEmpty _ h9) (cwV 0 hts (gi_V bw_803 bw_804 bw_805 bw_14 bw_806) rfl rfl rfl (by decide +kernel) ⟨Nat.le_of_ble_eq_true rfl, Nat.le_of_ble_eq_true rfl⟩) ⟨hI.blind, hw_recv hK hW h1 rfl, hI.give hW hS hA hK hZ0⟩ rfl rfl hl.1 rfl (lv_room (Nat.le_of_ble_eq_true rfl)) d_Ch_handFirst_4 ⟨(show _ ≤ 0 by omega), (show _ ≤ 0 by omega)⟩) hS (fun q _ z => hF q z) hF (fun r18 M19 t H locs ht _ h hB1 _ _ hS => ?_)
  have hW := hw_back hF ht hB1
  clear h9
  obtain ⟨h0, h1⟩ := h
  refine lv_if_eq (tgt := 11) hx hb d_Ch_handFirst_7 (by decide) (fun c20 => ?_) (fun c20 => ?_)
  · have h := h0 c20
    refine lv_aload_n hx hb d_Ch_handFirst_11 rfl (lv_at hl 0 rfl) ?_
    obtain ⟨fs, v21, h1, h2, h⟩ := h
    refine va_get (D := D) (ci := 0) (v := va_rf v21) (C := "ChannelHall$Channel") (T := TCh) (N := 10) hx hb hts uCh hown hK (hw_one hW h1) 0 rfl rfl 4 (by decide) (hts _ bw_258) (fun _ h9 => h9) h2 d_Ch_handFirst_12 ?_
    refine lv_iconst (v := 0) hx hb d_Ch_handFirst_15 (by decide) ?_
    obtain ⟨b22, rfl, h⟩ := h
    obtain ⟨⟨fs, h1⟩, h⟩ := h
    have h9 := h
    clear h
    have hF := hW.free hS hA
    refine va_callq (va_runV (As := [.int 0]) (rest := []) ⟨hx, hb, hml, hown, hts⟩ (c_Al_remove _ h9) (cwV 1 hts (gi_V bw_783 bw_784 bw_785 bw_14 bw_786) rfl rfl rfl (by decide +kernel) ⟨Nat.le_of_ble_eq_true rfl, Nat.le_of_ble_eq_true rfl⟩) ⟨hI.blind, hw_recv hK hW h1 rfl, hI.give hW hS hA hK hZ0⟩ rfl rfl hl.1 rfl (lv_room (Nat.le_of_ble_eq_true rfl)) d_Ch_handFirst_16 ⟨(show _ ≤ 0 by omega), (show _ ≤ 0 by omega)⟩) hS (fun q _ z => hF q z) hF (fun r23 M24 t H locs ht _ h hB1 _ _ hS => ?_)
    have hW := hw_back hF ht hB1
    clear h9
    obtain ⟨b25, fs, rfl, h1, h⟩ := h
    refine va_castS (cC := D.1 1) hx hb hown (hts _ bw_476) (hK.1 1 _ rfl).2 (hw_recv hK hW h1 rfl) d_Ch_handFirst_19 ?_
    refine lv_astore (lv' := [(4, .ref b25), (0, .ref a0), (1, va_rf a1), (2, .double x2)]) hx hb d_Ch_handFirst_22 hl (by decide) rfl (fun ls hl => ?_)
    refine lq_load_n hx hb d_Ch_handFirst_24 rfl (lv_at hl 2 rfl) ?_
    refine lv_aload hx hb d_Ch_handFirst_25 (lv_at hl 0 rfl) ?_
    obtain ⟨fs, v26, h1, h2, h⟩ := h
    refine va_get (D := D) (ci := 1) (v := .int v26) (C := "ChannelHall$Item") (T := TIt) (N := 3) hx hb hts uIt hown hK (hw_one hW h1) 0 rfl rfl 0 (by decide) (hts _ bw_484) (fun _ h9 => h9) h2 d_Ch_handFirst_27 ?_
    obtain ⟨b27, rfl, h⟩ := h
    obtain ⟨⟨fs, h1⟩, h⟩ := h
    have h9 := h
    clear h
    have hF := hW.free hS hA
    refine va_callv (va_runV (As := [.int v26]) (rest := []) ⟨hx, hb, hml, hown, hts⟩ (c_Wo_receive _ h9) (cwV 1 hts (gi_V bw_771 bw_772 bw_773 bw_2 bw_774) rfl rfl rfl (by decide +kernel) ⟨Nat.le_of_ble_eq_true rfl, Nat.le_of_ble_eq_true rfl⟩) ⟨hI.blind, hw_recv hK hW h1 rfl, hI.give hW hS hA hK hZ0⟩ rfl rfl hl.1 rfl (lv_room (Nat.le_of_ble_eq_true rfl)) d_Ch_handFirst_30 ⟨(show _ ≤ 0 by omega), (show _ ≤ 0 by omega)⟩) hS (fun q _ z => hF q z) hF (fun M28 t H locs ht _ h hB1 _ _ hS => ?_)
    have hW := hw_back hF ht hB1
    clear h9
    refine lv_aload_n hx hb d_Ch_handFirst_33 rfl (lv_at hl 1 rfl) ?_
    refine lv_dload_n hx hb d_Ch_handFirst_34 rfl (lv_at hl 3 rfl) ?_
    refine lv_aload hx hb d_Ch_handFirst_35 (lv_at hl 0 rfl) ?_
    obtain ⟨fs, v29, h1, h2, h⟩ := h
    refine va_get (D := D) (ci := 1) (v := .double v29) (C := "ChannelHall$Item") (T := TIt) (N := 3) hx hb hts uIt hown hK (hw_one hW h1) 0 rfl rfl 2 (by decide) (hts _ bw_488) (fun _ h9 => h9) h2 d_Ch_handFirst_37 ?_
    obtain ⟨hn, h⟩ := h
    refine lv_dsub hx hb d_Ch_handFirst_40 hn ?_
    obtain ⟨⟨fs, h1⟩, h⟩ := h
    have h9 := h
    clear h
    have hF := hW.free hS hA
    refine va_callv (va_runV (As := [.double (FP.dsub x2 v29)]) (rest := []) ⟨hx, hb, hml, hown, hts⟩ (c_Ch_addStay _ h9) (cwV 1 hts (gi_V bw_775 bw_777 bs_11 bw_11 bw_778) rfl rfl rfl (by decide +kernel) ⟨Nat.le_of_ble_eq_true rfl, Nat.le_of_ble_eq_true rfl⟩) ⟨hI.blind, hw_recv hK hW h1 rfl, hI.give hW hS hA hK hZ0⟩ rfl rfl hl.1 rfl (lv_room (Nat.le_of_ble_eq_true rfl)) d_Ch_handFirst_41 ⟨(show _ ≤ 0 by omega), (show _ ≤ 0 by omega)⟩) hS (fun q _ z => hF q z) hF (fun M30 t H locs ht _ h hB1 _ _ hS => ?_)
    have hW := hw_back hF ht hB1
    clear h9
    exact W.vret hx hb hr (fun t ht hWm => ⟨⟨_, rfl, h, hw_t ht hW⟩, hS.F ht⟩) hS.2.2 d_Ch_handFirst_44
  · have h := h1 c20
    exact W.vret hx hb hr (fun t ht hWm => ⟨⟨_, rfl, h, hw_t ht hW⟩, hS.F ht⟩) hS.2.2 d_Ch_handFirst_10
set_option maxRecDepth 20000 in
theorem c_Ch_handFirst {l : Launch} {D : va_G} {ca G : Nat → Nat} (post : hM → Prop) {M : hM} {sz : Nat} {a0 : Nat} {a1 : Option Nat} {x2 : UInt64} (h : wp_Ch_handFirst G ca post M a0 a1 x2) : Met l y_Ch_handFirst (wz y_Ch_handFirst prog_2_method_17_code 5 (none)) rm_Ch_handFirst (va_Pc [.ref a0, va_rf a1, .double x2] (hI D ca G sz M)) (va_Qv post (hB D M sz) (hp_A M sz)) 0 0 (hp_A M sz) := by
  refine Met.ofW (cc := prog_2_method_17_code) (maxL := 5) (ret := none) (by decide) rfl ?_
  intro p e s m args below meth c s₁ B hml hv
  obtain ⟨rfl, hsz, hW, hK, hZ0⟩ := hv
  have hts := fun w hw => atoms_spec (ws := wz y_Ch_handFirst prog_2_method_17_code 5 (none)) B.pre w (List.mem_cons_of_mem _ hw)
  have hown : s.vm.findClass "ChannelHall$Channel" = some m.cls := findClass_of_methodNamed B.named
  subst hsz
  have hl : lv_has ((lg_sl [.ref a0, va_rf a1, .double x2] ++ List.replicate (5 - (lg_sl [.ref a0, va_rf a1, .double x2]).length) Slot.unset).toArray) 5 [(0, .ref a0), (1, va_rf a1), (2, .double x2)] := by cases a1 <;> exact lv_entry _ (Nat.le_of_ble_eq_true rfl)
  rw [lg_entry_eq]
  exact l_Ch_handFirst_e ⟨B.exec, B.bytes, B.returns, hml, hown, hts, B.notSynchronized, hK, fun q h => Or.inr h, hZ0⟩ a0 a1 x2 h hW va_S.rf hl

theorem d_Ch_put_0 : decode prog_2_method_16_code 0 = .ok (.aload_n 0, 1) := by decide +kernel
theorem d_Ch_put_1 : decode prog_2_method_16_code 1 = .ok (.getfield 12, 3) := by decide +kernel
theorem d_Ch_put_4 : decode prog_2_method_16_code 4 = .ok (.invokevirtual 79, 3) := by decide +kernel
theorem d_Ch_put_7 : decode prog_2_method_16_code 7 = .ok (.istore 6, 2) := by decide +kernel
theorem d_Ch_put_9 : decode prog_2_method_16_code 9 = .ok (.iload 6, 2) := by decide +kernel
theorem d_Ch_put_11 : decode prog_2_method_16_code 11 = .ok (.ifCond .le 31, 3) := by decide +kernel
theorem d_Ch_put_14 : decode prog_2_method_16_code 14 = .ok (.aload_n 0, 1) := by decide +kernel
theorem d_Ch_put_15 : decode prog_2_method_16_code 15 = .ok (.getfield 12, 3) := by decide +kernel
theorem d_Ch_put_18 : decode prog_2_method_16_code 18 = .ok (.iload 6, 2) := by decide +kernel
theorem d_Ch_put_20 : decode prog_2_method_16_code 20 = .ok (.iconst 1, 1) := by decide +kernel
theorem d_Ch_put_21 : decode prog_2_method_16_code 21 = .ok (.isub, 1) := by decide +kernel
theorem d_Ch_put_22 : decode prog_2_method_16_code 22 = .ok (.invokevirtual 56, 3) := by decide +kernel
theorem d_Ch_put_25 : decode prog_2_method_16_code 25 = .ok (.checkcast 60, 3) := by decide +kernel
theorem d_Ch_put_28 : decode prog_2_method_16_code 28 = .ok (.getfield 62, 3) := by decide +kernel
theorem d_Ch_put_31 : decode prog_2_method_16_code 31 = .ok (.dload_n 2, 1) := by decide +kernel
theorem d_Ch_put_32 : decode prog_2_method_16_code 32 = .ok (.dcmp .l, 1) := by decide +kernel
theorem d_Ch_put_33 : decode prog_2_method_16_code 33 = .ok (.ifCond .le 9, 3) := by decide +kernel
theorem d_Ch_put_36 : decode prog_2_method_16_code 36 = .ok (.iinc 6 (-1), 3) := by decide +kernel
theorem d_Ch_put_39 : decode prog_2_method_16_code 39 = .ok (.goto (-30), 3) := by decide +kernel
theorem d_Ch_put_42 : decode prog_2_method_16_code 42 = .ok (.aload_n 0, 1) := by decide +kernel
theorem d_Ch_put_43 : decode prog_2_method_16_code 43 = .ok (.getfield 12, 3) := by decide +kernel
theorem d_Ch_put_46 : decode prog_2_method_16_code 46 = .ok (.iload 6, 2) := by decide +kernel
theorem d_Ch_put_48 : decode prog_2_method_16_code 48 = .ok (.new 60, 3) := by decide +kernel
theorem d_Ch_put_51 : decode prog_2_method_16_code 51 = .ok (.dup, 1) := by decide +kernel
theorem d_Ch_put_52 : decode prog_2_method_16_code 52 = .ok (.iload_n 1, 1) := by decide +kernel
theorem d_Ch_put_53 : decode prog_2_method_16_code 53 = .ok (.dload_n 2, 1) := by decide +kernel
theorem d_Ch_put_54 : decode prog_2_method_16_code 54 = .ok (.dload 4, 2) := by decide +kernel
theorem d_Ch_put_56 : decode prog_2_method_16_code 56 = .ok (.invokespecial 117, 3) := by decide +kernel
theorem d_Ch_put_59 : decode prog_2_method_16_code 59 = .ok (.invokevirtual 119, 3) := by decide +kernel
theorem d_Ch_put_62 : decode prog_2_method_16_code 62 = .ok (.return_, 1) := by decide +kernel
def y_Ch_put : MethodName := ⟨"ChannelHall$Channel", "put", "(IDD)V"⟩
abbrev rm_Ch_put : Room := { frames := 6, cells := 2, slots := 25, locals := 151 }
def wp_Ch_put_42 (G ca : Nat → Nat) (post : hM → Prop) (M : hM) (l0b42 : Nat) (l1b42 : Int32) (l2b42 : UInt64) (l4b42 : UInt64) (l6b42 : Int32) : Prop := gR M l0b42 0 4 fun v19 => nO M (.inr (1, [.int 0, .double FP.dconst0, .double FP.dconst0])) fun q20 M21 => wp_It_init G ca (fun M22 => nN v19 fun b23 => rC M22 b23 4 (wp_Al_add_IObject G ca (fun M24 => post M24) M22 b23 l6b42 (some q20))) M21 q20 l1b42 l2b42 l4b42
def wp_Ch_put_9 (G ca : Nat → Nat) (post : hM → Prop) : Nat → hM → Nat → Int32 → UInt64 → UInt64 → Int32 → Prop
  | 0, _, _, _, _, _, _ => False
  | n + 1, M, l0b9, l1b9, l2b9, l4b9, l6b9 => (l6b9 ≤ 0 → wp_Ch_put_42 G ca post M l0b9 l1b9 l2b9 l4b9 l6b9) ∧ (¬ l6b9 ≤ 0 → gR M l0b9 0 4 fun v26 => nN v26 fun b27 => rC M b27 4 (wp_Al_get G ca (fun r28 M29 => cO M29 r28 1 fun b30 => gD M29 b30 1 1 fun v31 => ((Op.cmpValue (FP.dcmp v31 l2b9) .l) ≤ 0 → wp_Ch_put_42 G ca post M29 l0b9 l1b9 l2b9 l4b9 l6b9) ∧ (¬ (Op.cmpValue (FP.dcmp v31 l2b9) .l) ≤ 0 → (wp_Ch_put_9 G ca post n) M29 l0b9 l1b9 l2b9 l4b9 (l6b9 + (-1)))) M b27 (l6b9 - 1)))
def wp_Ch_put (G ca : Nat → Nat) (post : hM → Prop) (M : hM) (a0 : Nat) (x1 : Int32) (x2 : UInt64) (x4 : UInt64) : Prop := gR M a0 0 4 fun v33 => nN v33 fun b34 => rC M b34 4 (wp_Al_size G ca (fun r35 M36 => ∃ n, wp_Ch_put_9 G ca post n M36 a0 x1 x2 x4 r35) M b34)
set_option maxHeartbeats 1000000 in
set_option maxRecDepth 20000 in
theorem l_Ch_put_42 {p : Program} {l : Launch} {e : Env} {s : State} {m : MethodId} {args : Array Value} {below : List Frame} {meth : Method} {c : Code} {D : va_G} {ca G : Nat → Nat} {A : Nat → Prop} (C0 : hC p s m args meth c D ca G prog_2_method_16_code 7 (none) "ChannelHall$Channel" A) {post : hM → Prop} {M : hM} {H : Heap} {locs : List Loc} {ls : Array Slot} {cells slots : Nat} (l0b42 : Nat) (l1b42 : Int32) (l2b42 : UInt64) (l4b42 : UInt64) (l6b42 : Int32) (hc : cells ≤ 0) (hs : slots ≤ 0) (h : wp_Ch_put_42 G ca post M l0b42 l1b42 l2b42 l4b42 l6b42) (hW : hw D wCl A M H) (hS : va_S A s.heap H locs) (hl : lv_has ls 7 [(0, .ref l0b42), (1, .int l1b42), (2, .double l2b42), (4, .double l4b42), (6, .int l6b42)]) : W p l e rm_Ch_put s m args below meth c H locs cells slots (MQ below (va_Qv post (fun M' t => hw D wCl A M' t.heap) A) args s 2 25 A) (F0 m 42 ls []) := by
  obtain ⟨hx, hb, hr, hml, hown, hts, hlocks, hK, hA, hZ0⟩ := id C0
  refine lv_aload_n hx hb d_Ch_put_42 rfl (lv_at hl 0 rfl) ?_
  obtain ⟨fs, v19, h1, h2, h⟩ := h
  refine va_get (D := D) (ci := 0) (v := va_rf v19) (C := "ChannelHall$Channel") (T := TCh) (N := 10) hx hb hts uCh hown hK (hw_one hW h1) 0 rfl rfl 4 (by decide) (hts _ bw_258) (fun _ h9 => h9) h2 d_Ch_put_43 ?_
  refine lv_iload hx hb d_Ch_put_46 (lv_at hl 4 rfl) ?_
  obtain ⟨ws, hP, hD, hmake⟩ := hw_make hW
  refine va_new (ci := 1) (fs := [.int 0, .double FP.dconst0, .double FP.dconst0]) (C := "ChannelHall$Item") (T := TIt) (N := 3) hx hb hts uIt tIt tIt_ok hown (hts _ bw_476) (hts _ bw_477) (hts _ bw_23) hK hP hD hS hA rfl (by decide) (show _ ≤ 2 by omega) (show _ ≤ 25 by omega) d_Ch_put_48 (fun q20 H hP hD hS => ?_)
  obtain ⟨hfr, hW⟩ := hmake _ _ _ hP hD
  replace h := h q20 hfr
  generalize va_up M q20 _ = M21 at h hW
  refine lv_dup hx hb d_Ch_put_51 rfl ?_
  refine lv_iload_n hx hb d_Ch_put_52 rfl (lv_at hl 1 rfl) ?_
  refine lv_dload_n hx hb d_Ch_put_53 rfl (lv_at hl 2 rfl) ?_
  refine lv_dload hx hb d_Ch_put_54 (lv_at hl 3 rfl) ?_
  have h9 := h
  clear h
  have hF := hW.free hS hA
  refine va_callv (va_runI (As := [.int l1b42, .double l2b42, .double l4b42]) (rest := [.ref q20, .int l6b42, va_rf v19]) ⟨hx, hb, hml, hown, hts⟩ (c_It_init _ h9) (cwI 3 hts (gi_z bw_480) rfl rfl rfl (hts _ bw_23) (hts _ bw_478) (hts _ bw_479) rfl (by decide +kernel) ⟨Nat.le_of_ble_eq_true rfl, Nat.le_of_ble_eq_true rfl⟩) ⟨hI.blind, hI.give hW hS hA hK hZ0⟩ rfl rfl hl.1 rfl (lv_room (by cases v19 <;> exact Nat.le_of_ble_eq_true rfl)) d_Ch_put_56 ⟨(show _ ≤ 2 by omega), (show _ ≤ 25 by omega)⟩) hS (fun q _ z => hF q z) hF (fun M22 t H locs ht _ h hB1 _ _ hS => ?_)
  have hW := hw_back hF ht hB1
  clear h9
  obtain ⟨b23, rfl, h⟩ := h
  obtain ⟨⟨fs, h1⟩, h⟩ := h
  have h9 := h
  clear h
  have hF := hW.free hS hA
  refine va_callv (va_runV (As := [.int l6b42, .ref q20]) (rest := []) ⟨hx, hb, hml, hown, hts⟩ (c_Al_add_IObject _ h9) (cwV 2 hts (gi_V bw_496 bw_497 bw_498 bw_14 bw_499) rfl rfl rfl (by decide +kernel) ⟨Nat.le_of_ble_eq_true rfl, Nat.le_of_ble_eq_true rfl⟩) ⟨hI.blind, hw_recv hK hW h1 rfl, hI.give hW hS hA hK hZ0⟩ rfl rfl hl.1 rfl (lv_room (Nat.le_of_ble_eq_true rfl)) d_Ch_put_59 ⟨(show _ ≤ 2 by omega), (show _ ≤ 25 by omega)⟩) hS (fun q _ z => hF q z) hF (fun M24 t H locs ht _ h hB1 _ _ hS => ?_)
  have hW := hw_back hF ht hB1
  clear h9
  refine W.widen (k := 2) (n := 25) (by omega) (by omega) ?_
  exact W.vret hx hb hr (fun t ht hWm => ⟨⟨_, rfl, h, hw_t ht hW⟩, hS.F ht⟩) hS.2.2 d_Ch_put_62
set_option maxHeartbeats 1000000 in
set_option maxRecDepth 20000 in
theorem l_Ch_put_9 {p : Program} {l : Launch} {e : Env} {s : State} {m : MethodId} {args : Array Value} {below : List Frame} {meth : Method} {c : Code} {D : va_G} {ca G : Nat → Nat} {A : Nat → Prop} (C0 : hC p s m args meth c D ca G prog_2_method_16_code 7 (none) "ChannelHall$Channel" A) {post : hM → Prop} : ∀ (n : Nat) {M : hM} {H : Heap} {locs : List Loc} {ls : Array Slot} {cells slots : Nat} (l0b9 : Nat) (l1b9 : Int32) (l2b9 : UInt64) (l4b9 : UInt64) (l6b9 : Int32) (hc : cells ≤ 0) (hs : slots ≤ 0) (h : wp_Ch_put_9 G ca post n M l0b9 l1b9 l2b9 l4b9 l6b9) (hW : hw D wCl A M H) (hS : va_S A s.heap H locs) (hl : lv_has ls 7 [(0, .ref l0b9), (1, .int l1b9), (2, .double l2b9), (4, .double l4b9), (6, .int l6b9)]), W p l e rm_Ch_put s m args below meth c H locs cells slots (MQ below (va_Qv post (fun M' t => hw D wCl A M' t.heap) A) args s 2 25 A) (F0 m 9 ls []) := by
  obtain ⟨hx, hb, hr, hml, hown, hts, hlocks, hK, hA, hZ0⟩ := id C0
  intro n
  induction n with
  | zero =>
    intro M H locs ls cells slots l0b9 l1b9 l2b9 l4b9 l6b9 hc hs h
    exact False.elim h
  | succ n ih =>
    intro M H locs ls cells slots l0b9 l1b9 l2b9 l4b9 l6b9 hc hs h hW hS hl
    have hk_4 := fun M H locs ls cells slots l0b9 l1b9 l2b9 l4b9 l6b9 hc hs h hW hS hl => @ih M H locs ls cells slots l0b9 l1b9 l2b9 l4b9 l6b9 hc hs h hW hS hl
    refine lv_iload hx hb d_Ch_put_9 (lv_at hl 4 rfl) ?_
    obtain ⟨h0, h1⟩ := h
    refine lv_if_le (tgt := 42) hx hb d_Ch_put_11 (by decide) (fun c25 => ?_) (fun c25 => ?_)
    · have h := h0 c25
      exact l_Ch_put_42 C0 l0b9 l1b9 l2b9 l4b9 l6b9 (by omega) (by omega) h hW hS (lv_sub hl [0, 1, 2, 3, 4] rfl)
    · have h := h1 c25
      refine lv_aload_n hx hb d_Ch_put_14 rfl (lv_at hl 0 rfl) ?_
      obtain ⟨fs, v26, h1, h2, h⟩ := h
      refine va_get (D := D) (ci := 0) (v := va_rf v26) (C := "ChannelHall$Channel") (T := TCh) (N := 10) hx hb hts uCh hown hK (hw_one hW h1) 0 rfl rfl 4 (by decide) (hts _ bw_258) (fun _ h9 => h9) h2 d_Ch_put_15 ?_
      refine lv_iload hx hb d_Ch_put_18 (lv_at hl 4 rfl) ?_
      refine lv_iconst (v := 1) hx hb d_Ch_put_20 (by decide) ?_
      refine lv_isub hx hb d_Ch_put_21 ?_
      obtain ⟨b27, rfl, h⟩ := h
      obtain ⟨⟨fs, h1⟩, h⟩ := h
      have h9 := h
      clear h
      have hF := hW.free hS hA
      refine va_callq (va_runV (As := [.int (l6b9 - 1)]) (rest := []) ⟨hx, hb, hml, hown, hts⟩ (c_Al_get _ h9) (cwV 1 hts (gi_V bw_380 bw_381 bw_382 bw_14 bw_383) rfl rfl rfl (by decide +kernel) ⟨Nat.le_of_ble_eq_true rfl, Nat.le_of_ble_eq_true rfl⟩) ⟨hI.blind, hw_recv hK hW h1 rfl, hI.give hW hS hA hK hZ0⟩ rfl rfl hl.1 rfl (lv_room (Nat.le_of_ble_eq_true rfl)) d_Ch_put_22 ⟨(show _ ≤ 2 by omega), (show _ ≤ 25 by omega)⟩) hS (fun q _ z => hF q z) hF (fun r28 M29 t H locs ht _ h hB1 _ _ hS => ?_)
      have hW := hw_back hF ht hB1
      clear h9
      obtain ⟨b30, fs, rfl, h1, h⟩ := h
      refine va_castS (cC := D.1 1) hx hb hown (hts _ bw_476) (hK.1 1 _ rfl).2 (hw_recv hK hW h1 rfl) d_Ch_put_25 ?_
      obtain ⟨fs, v31, h1, h2, h⟩ := h
      refine va_get (D := D) (ci := 1) (v := .double v31) (C := "ChannelHall$Item") (T := TIt) (N := 3) hx hb hts uIt hown hK (hw_one hW h1) 0 rfl rfl 1 (by decide) (hts _ bw_486) (fun _ h9 => h9) h2 d_Ch_put_28 ?_
      refine lv_dload_n hx hb d_Ch_put_31 rfl (lv_at hl 2 rfl) ?_
      refine lv_dcmp hx hb d_Ch_put_32 ?_
      obtain ⟨h0, h1⟩ := h
      refine lv_if_le (tgt := 42) hx hb d_Ch_put_33 (by decide) (fun c32 => ?_) (fun c32 => ?_)
      · have h := h0 c32
        exact l_Ch_put_42 C0 l0b9 l1b9 l2b9 l4b9 l6b9 (by omega) (by omega) h hW hS (lv_sub hl [0, 1, 2, 3, 4] rfl)
      · have h := h1 c32
        refine lv_iinc (v := l6b9 + (-1)) (lv' := [(6, .int (l6b9 + (-1))), (0, .ref l0b9), (1, .int l1b9), (2, .double l2b9), (4, .double l4b9)]) hx hb d_Ch_put_36 hl (k := 4) rfl rfl (by decide) rfl (fun ls hl => ?_)
        refine lv_goto (tgt := 9) hx hb d_Ch_put_39 (by decide) ?_
        exact hk_4 _ _ _ _ _ _ l0b9 l1b9 l2b9 l4b9 (l6b9 + (-1)) (by omega) (by omega) h hW hS (lv_sub hl [1, 2, 3, 4, 0] rfl)
set_option maxHeartbeats 1000000 in
set_option maxRecDepth 20000 in
theorem l_Ch_put_e {p : Program} {l : Launch} {e : Env} {s : State} {m : MethodId} {args : Array Value} {below : List Frame} {meth : Method} {c : Code} {D : va_G} {ca G : Nat → Nat} {A : Nat → Prop} (C0 : hC p s m args meth c D ca G prog_2_method_16_code 7 (none) "ChannelHall$Channel" A) {post : hM → Prop} {M : hM} {H : Heap} {locs : List Loc} {ls : Array Slot} {cells slots : Nat} (a0 : Nat) (x1 : Int32) (x2 : UInt64) (x4 : UInt64) (hc : cells ≤ 0) (hs : slots ≤ 0) (h : wp_Ch_put G ca post M a0 x1 x2 x4) (hW : hw D wCl A M H) (hS : va_S A s.heap H locs) (hl : lv_has ls 7 [(0, .ref a0), (1, .int x1), (2, .double x2), (4, .double x4)]) : W p l e rm_Ch_put s m args below meth c H locs cells slots (MQ below (va_Qv post (fun M' t => hw D wCl A M' t.heap) A) args s 2 25 A) (F0 m 0 ls []) := by
  obtain ⟨hx, hb, hr, hml, hown, hts, hlocks, hK, hA, hZ0⟩ := id C0
  refine lv_aload_n hx hb d_Ch_put_0 rfl (lv_at hl 0 rfl) ?_
  obtain ⟨fs, v33, h1, h2, h⟩ := h
  refine va_get (D := D) (ci := 0) (v := va_rf v33) (C := "ChannelHall$Channel") (T := TCh) (N := 10) hx hb hts uCh hown hK (hw_one hW h1) 0 rfl rfl 4 (by decide) (hts _ bw_258) (fun _ h9 => h9) h2 d_Ch_put_1 ?_
  obtain ⟨b34, rfl, h⟩ := h
  obtain ⟨⟨fs, h1⟩, h⟩ := h
  have h9 := h
  clear h
  have hF := hW.free hS hA
  refine va_calli (va_runV (As := []) (rest := []) ⟨hx, hb, hml, hown, hts⟩ (c_Al_size _ h9) (cwV 0 hts (gi_V bw_376 bw_377 bw_378 bw_14 bw_379) rfl rfl rfl (by decide +kernel) ⟨Nat.le_of_ble_eq_true rfl, Nat.le_of_ble_eq_true rfl⟩) ⟨hI.blind, hw_recv hK hW h1 rfl, hI.give hW hS hA hK hZ0⟩ rfl rfl hl.1 rfl (lv_room (Nat.le_of_ble_eq_true rfl)) d_Ch_put_4 ⟨(show _ ≤ 2 by omega), (show _ ≤ 25 by omega)⟩) hS (fun q _ z => hF q z) hF (fun r35 M36 t H locs ht _ h hB1 _ _ hS => ?_)
  have hW := hw_back hF ht hB1
  clear h9
  refine lv_istore (lv' := [(6, .int r35), (0, .ref a0), (1, .int x1), (2, .double x2), (4, .double x4)]) hx hb d_Ch_put_7 hl (by decide) rfl (fun ls hl => ?_)
  obtain ⟨n, h⟩ := h
  exact l_Ch_put_9 C0 n a0 x1 x2 x4 r35 (by omega) (by omega) h hW hS (lv_sub hl [1, 2, 3, 4, 0] rfl)
set_option maxRecDepth 20000 in
theorem c_Ch_put {l : Launch} {D : va_G} {ca G : Nat → Nat} (post : hM → Prop) {M : hM} {sz : Nat} {a0 : Nat} {x1 : Int32} {x2 : UInt64} {x4 : UInt64} (h : wp_Ch_put G ca post M a0 x1 x2 x4) : Met l y_Ch_put (wz y_Ch_put prog_2_method_16_code 7 (none)) rm_Ch_put (va_Pc [.ref a0, .int x1, .double x2, .double x4] (hI D ca G sz M)) (va_Qv post (hB D M sz) (hp_A M sz)) 2 25 (hp_A M sz) := by
  refine Met.ofW (cc := prog_2_method_16_code) (maxL := 7) (ret := none) (by decide) rfl ?_
  intro p e s m args below meth c s₁ B hml hv
  obtain ⟨rfl, hsz, hW, hK, hZ0⟩ := hv
  have hts := fun w hw => atoms_spec (ws := wz y_Ch_put prog_2_method_16_code 7 (none)) B.pre w (List.mem_cons_of_mem _ hw)
  have hown : s.vm.findClass "ChannelHall$Channel" = some m.cls := findClass_of_methodNamed B.named
  subst hsz
  have hl := lv_entry [.ref a0, .int x1, .double x2, .double x4] (n := 7) (Nat.le_of_ble_eq_true rfl)
  rw [lg_entry_eq]
  exact l_Ch_put_e ⟨B.exec, B.bytes, B.returns, hml, hown, hts, B.notSynchronized, hK, fun q h => Or.inr h, hZ0⟩ a0 x1 x2 x4 (Nat.zero_le _) (Nat.zero_le _) h hW va_S.rf hl

theorem d_Ch_accept_0 : decode prog_2_method_11_code 0 = .ok (.aload_n 0, 1) := by decide +kernel
theorem d_Ch_accept_1 : decode prog_2_method_11_code 1 = .ok (.getstatic 69, 3) := by decide +kernel
theorem d_Ch_accept_4 : decode prog_2_method_11_code 4 = .ok (.invokevirtual 75, 3) := by decide +kernel
theorem d_Ch_accept_7 : decode prog_2_method_11_code 7 = .ok (.astore 6, 2) := by decide +kernel
theorem d_Ch_accept_9 : decode prog_2_method_11_code 9 = .ok (.aload_n 0, 1) := by decide +kernel
theorem d_Ch_accept_10 : decode prog_2_method_11_code 10 = .ok (.getfield 39, 3) := by decide +kernel
theorem d_Ch_accept_13 : decode prog_2_method_11_code 13 = .ok (.iconst 2, 1) := by decide +kernel
theorem d_Ch_accept_14 : decode prog_2_method_11_code 14 = .ok (.if_icmp .eq 14, 3) := by decide +kernel
theorem d_Ch_accept_17 : decode prog_2_method_11_code 17 = .ok (.aload_n 0, 1) := by decide +kernel
theorem d_Ch_accept_18 : decode prog_2_method_11_code 18 = .ok (.iload_n 1, 1) := by decide +kernel
theorem d_Ch_accept_19 : decode prog_2_method_11_code 19 = .ok (.dload_n 2, 1) := by decide +kernel
theorem d_Ch_accept_20 : decode prog_2_method_11_code 20 = .ok (.dload 4, 2) := by decide +kernel
theorem d_Ch_accept_22 : decode prog_2_method_11_code 22 = .ok (.invokevirtual 92, 3) := by decide +kernel
theorem d_Ch_accept_25 : decode prog_2_method_11_code 25 = .ok (.goto 22, 3) := by decide +kernel
theorem d_Ch_accept_28 : decode prog_2_method_11_code 28 = .ok (.aload 6, 2) := by decide +kernel
theorem d_Ch_accept_30 : decode prog_2_method_11_code 30 = .ok (.ifnull 17, 3) := by decide +kernel
theorem d_Ch_accept_33 : decode prog_2_method_11_code 33 = .ok (.aload_n 0, 1) := by decide +kernel
theorem d_Ch_accept_34 : decode prog_2_method_11_code 34 = .ok (.iload_n 1, 1) := by decide +kernel
theorem d_Ch_accept_35 : decode prog_2_method_11_code 35 = .ok (.aload 6, 2) := by decide +kernel
theorem d_Ch_accept_37 : decode prog_2_method_11_code 37 = .ok (.invokevirtual 96, 3) := by decide +kernel
theorem d_Ch_accept_40 : decode prog_2_method_11_code 40 = .ok (.aload_n 0, 1) := by decide +kernel
theorem d_Ch_accept_41 : decode prog_2_method_11_code 41 = .ok (.aload 6, 2) := by decide +kernel
theorem d_Ch_accept_43 : decode prog_2_method_11_code 43 = .ok (.iconst 1, 1) := by decide +kernel
theorem d_Ch_accept_44 : decode prog_2_method_11_code 44 = .ok (.invokevirtual 100, 3) := by decide +kernel
theorem d_Ch_accept_47 : decode prog_2_method_11_code 47 = .ok (.return_, 1) := by decide +kernel
def y_Ch_accept : MethodName := ⟨"ChannelHall$Channel", "accept", "(IDD)V"⟩
abbrev rm_Ch_accept : Room := { frames := 7, cells := 2, slots := 25, locals := 177 }
def wp_Ch_accept_47 (G ca : Nat → Nat) (post : hM → Prop) (M : hM)  : Prop := post M
def wp_Ch_accept (G ca : Nat → Nat) (post : hM → Prop) (M : hM) (a0 : Nat) (x1 : Int32) (x2 : UInt64) (x4 : UInt64) : Prop := rC M a0 0 (wp_Ch_firstWaiter G ca (fun r9 M10 => gI M10 a0 0 1 fun v11 => (v11 = 2 → (r9 = none → wp_Ch_accept_47 G ca post M10) ∧ (∀ b13 : Nat, r9 = some b13 → rC M10 a0 0 (wp_Ch_handOver G ca (fun M14 => rC M14 a0 0 (wp_Ch_release G ca (fun M15 => wp_Ch_accept_47 G ca post M15) M14 a0 (some b13) 1)) M10 a0 x1 (some b13)))) ∧ (¬ v11 = 2 → rC M10 a0 0 (wp_Ch_put G ca (fun M16 => wp_Ch_accept_47 G ca post M16) M10 a0 x1 x2 x4))) M a0 (some (G 1)))
set_option maxHeartbeats 1000000 in
set_option maxRecDepth 20000 in
theorem l_Ch_accept_47 {p : Program} {l : Launch} {e : Env} {s : State} {m : MethodId} {args : Array Value} {below : List Frame} {meth : Method} {c : Code} {D : va_G} {ca G : Nat → Nat} {A : Nat → Prop} (C0 : hC p s m args meth c D ca G prog_2_method_11_code 7 (none) "ChannelHall$Channel" A) {post : hM → Prop} {M : hM} {H : Heap} {locs : List Loc} {ls : Array Slot} {cells slots : Nat}  (hc : cells ≤ 2) (hs : slots ≤ 25) (h : wp_Ch_accept_47 G ca post M) (hW : hw D wCl A M H) (hS : va_S A s.heap H locs) (hl : lv_has ls 7 []) : W p l e rm_Ch_accept s m args below meth c H locs cells slots (MQ below (va_Qv post (fun M' t => hw D wCl A M' t.heap) A) args s 2 25 A) (F0 m 47 ls []) := by
  obtain ⟨hx, hb, hr, hml, hown, hts, hlocks, hK, hA, hZ0⟩ := id C0
  refine W.widen (k := 2) (n := 25) (by omega) (by omega) ?_
  exact W.vret hx hb hr (fun t ht hWm => ⟨⟨_, rfl, h, hw_t ht hW⟩, hS.F ht⟩) hS.2.2 d_Ch_accept_47
set_option maxHeartbeats 1000000 in
set_option maxRecDepth 20000 in
theorem l_Ch_accept_e {p : Program} {l : Launch} {e : Env} {s : State} {m : MethodId} {args : Array Value} {below : List Frame} {meth : Method} {c : Code} {D : va_G} {ca G : Nat → Nat} {A : Nat → Prop} (C0 : hC p s m args meth c D ca G prog_2_method_11_code 7 (none) "ChannelHall$Channel" A) {post : hM → Prop} {M : hM} {H : Heap} {locs : List Loc} {ls : Array Slot} {cells slots : Nat} (a0 : Nat) (x1 : Int32) (x2 : UInt64) (x4 : UInt64) (hc : cells ≤ 0) (hs : slots ≤ 0) (h : wp_Ch_accept G ca post M a0 x1 x2 x4) (hW : hw D wCl A M H) (hS : va_S A s.heap H locs) (hl : lv_has ls 7 [(0, .ref a0), (1, .int x1), (2, .double x2), (4, .double x4)]) : W p l e rm_Ch_accept s m args below meth c H locs cells slots (MQ below (va_Qv post (fun M' t => hw D wCl A M' t.heap) A) args s 2 25 A) (F0 m 0 ls []) := by
  obtain ⟨hx, hb, hr, hml, hown, hts, hlocks, hK, hA, hZ0⟩ := id C0
  refine lv_aload_n hx hb d_Ch_accept_0 rfl (lv_at hl 0 rfl) ?_
  refine va_gets (v := .ref (G 1)) hx hb (hZ0.2.1) hS hown (hts _ bw_395) (fun _ h9 => h9) d_Ch_accept_1 ?_
  obtain ⟨⟨fs, h1⟩, h⟩ := h
  have h9 := h
  clear h
  have hF := hW.free hS hA
  refine va_callq (va_runV (As := [.ref (G 1)]) (rest := []) ⟨hx, hb, hml, hown, hts⟩ (c_Ch_firstWaiter _ h9) (cwV 1 hts (gi_V bw_372 bw_373 bw_374 bw_11 bw_375) rfl rfl rfl (by decide +kernel) ⟨Nat.le_of_ble_eq_true rfl, Nat.le_of_ble_eq_true rfl⟩) ⟨hI.blind, hw_recv hK hW h1 rfl, hI.give hW hS hA hK hZ0⟩ rfl rfl hl.1 rfl (lv_room (Nat.le_of_ble_eq_true rfl)) d_Ch_accept_4 ⟨(show _ ≤ 2 by omega), (show _ ≤ 25 by omega)⟩) hS (fun q _ z => hF q z) hF (fun r9 M10 t H locs ht _ h hB1 _ _ hS => ?_)
  have hW := hw_back hF ht hB1
  clear h9
  refine lq_store (lv' := [(6, va_rf r9), (0, .ref a0), (1, .int x1), (2, .double x2), (4, .double x4)]) hx hb d_Ch_accept_7 hl (by decide) rfl (fun ls hl => ?_)
  refine lv_aload_n hx hb d_Ch_accept_9 rfl (lv_at hl 1 rfl) ?_
  obtain ⟨fs, v11, h1, h2, h⟩ := h
  refine va_get (D := D) (ci := 0) (v := .int v11) (C := "ChannelHall$Channel") (T := TCh) (N := 10) hx hb hts uCh hown hK (hw_one hW h1) 0 rfl rfl 1 (by decide) (hts _ bw_253) (fun _ h9 => h9) h2 d_Ch_accept_10 ?_
  refine lv_iconst (v := 2) hx hb d_Ch_accept_13 (by decide) ?_
  obtain ⟨h0, h1⟩ := h
  refine lv_icmp_eq (tgt := 28) hx hb d_Ch_accept_14 (by decide) (fun c12 => ?_) (fun c12 => ?_)
  · have h := h0 c12
    refine lq_load hx hb d_Ch_accept_28 (lv_at hl 0 rfl) ?_
    obtain ⟨h0, h1⟩ := h
    cases r9 with
    | none =>
      have h := h0 rfl
      refine lv_ifnullN (tgt := 47) hx hb d_Ch_accept_30 (by decide) ?_
      exact l_Ch_accept_47 C0  (by omega) (by omega) h hW hS (lv_sub hl [] rfl)
    | some b13 =>
      have h := h1 b13 rfl
      refine lv_ifnull hx hb d_Ch_accept_30 ?_
      refine lv_aload_n hx hb d_Ch_accept_33 rfl (lv_at hl 1 rfl) ?_
      refine lv_iload_n hx hb d_Ch_accept_34 rfl (lv_at hl 2 rfl) ?_
      refine lv_aload hx hb d_Ch_accept_35 (lv_at hl 0 rfl) ?_
      obtain ⟨⟨fs, h1⟩, h⟩ := h
      have h9 := h
      clear h
      have hF := hW.free hS hA
      refine va_callv (va_runV (As := [.int x1, .ref b13]) (rest := []) ⟨hx, hb, hml, hown, hts⟩ (c_Ch_handOver _ h9) (cwV 2 hts (gi_V bw_767 bw_769 bs_10 bw_11 bw_770) rfl rfl rfl (by decide +kernel) ⟨Nat.le_of_ble_eq_true rfl, Nat.le_of_ble_eq_true rfl⟩) ⟨hI.blind, hw_recv hK hW h1 rfl, hI.give hW hS hA hK hZ0⟩ rfl rfl hl.1 rfl (lv_room (Nat.le_of_ble_eq_true rfl)) d_Ch_accept_37 ⟨(show _ ≤ 2 by omega), (show _ ≤ 25 by omega)⟩) hS (fun q _ z => hF q z) hF (fun M14 t H locs ht _ h hB1 _ _ hS => ?_)
      have hW := hw_back hF ht hB1
      clear h9
      refine lv_aload_n hx hb d_Ch_accept_40 rfl (lv_at hl 1 rfl) ?_
      refine lv_aload hx hb d_Ch_accept_41 (lv_at hl 0 rfl) ?_
      refine lv_iconst (v := 1) hx hb d_Ch_accept_43 (by decide) ?_
      obtain ⟨⟨fs, h1⟩, h⟩ := h
      have h9 := h
      clear h
      have hF := hW.free hS hA
      refine va_callv (va_runV (As := [.ref b13, .int 1]) (rest := []) ⟨hx, hb, hml, hown, hts⟩ (c_Ch_release _ h9) (cwV 2 hts (gi_V bw_779 bw_780 bw_781 bw_11 bw_782) rfl rfl rfl (by decide +kernel) ⟨Nat.le_of_ble_eq_true rfl, Nat.le_of_ble_eq_true rfl⟩) ⟨hI.blind, hw_recv hK hW h1 rfl, hI.give hW hS hA hK hZ0⟩ rfl rfl hl.1 rfl (lv_room (Nat.le_of_ble_eq_true rfl)) d_Ch_accept_44 ⟨(show _ ≤ 2 by omega), (show _ ≤ 25 by omega)⟩) hS (fun q _ z => hF q z) hF (fun M15 t H locs ht _ h hB1 _ _ hS => ?_)
      have hW := hw_back hF ht hB1
      clear h9
      exact l_Ch_accept_47 C0  (by omega) (by omega) h hW hS (lv_sub hl [] rfl)
  · have h := h1 c12
    refine lv_aload_n hx hb d_Ch_accept_17 rfl (lv_at hl 1 rfl) ?_
    refine lv_iload_n hx hb d_Ch_accept_18 rfl (lv_at hl 2 rfl) ?_
    refine lv_dload_n hx hb d_Ch_accept_19 rfl (lv_at hl 3 rfl) ?_
    refine lv_dload hx hb d_Ch_accept_20 (lv_at hl 4 rfl) ?_
    obtain ⟨⟨fs, h1⟩, h⟩ := h
    have h9 := h
    clear h
    have hF := hW.free hS hA
    refine va_callv (va_runV (As := [.int x1, .double x2, .double x4]) (rest := []) ⟨hx, hb, hml, hown, hts⟩ (c_Ch_put _ h9) (cwV 3 hts (gi_V bw_472 bw_474 bs_7 bw_11 bw_475) rfl rfl rfl (by decide +kernel) ⟨Nat.le_of_ble_eq_true rfl, Nat.le_of_ble_eq_true rfl⟩) ⟨hI.blind, hw_recv hK hW h1 rfl, hI.give hW hS hA hK hZ0⟩ rfl rfl hl.1 rfl (lv_room (Nat.le_of_ble_eq_true rfl)) d_Ch_accept_22 ⟨(show _ ≤ 2 by omega), (show _ ≤ 25 by omega)⟩) hS (fun q _ z => hF q z) hF (fun M16 t H locs ht _ h hB1 _ _ hS => ?_)
    have hW := hw_back hF ht hB1
    clear h9
    refine lv_goto (tgt := 47) hx hb d_Ch_accept_25 (by decide) ?_
    exact l_Ch_accept_47 C0  (by omega) (by omega) h hW hS (lv_sub hl [] rfl)
set_option maxRecDepth 20000 in
theorem c_Ch_accept {l : Launch} {D : va_G} {ca G : Nat → Nat} (post : hM → Prop) {M : hM} {sz : Nat} {a0 : Nat} {x1 : Int32} {x2 : UInt64} {x4 : UInt64} (h : wp_Ch_accept G ca post M a0 x1 x2 x4) : Met l y_Ch_accept (wz y_Ch_accept prog_2_method_11_code 7 (none)) rm_Ch_accept (va_Pc [.ref a0, .int x1, .double x2, .double x4] (hI D ca G sz M)) (va_Qv post (hB D M sz) (hp_A M sz)) 2 25 (hp_A M sz) := by
  refine Met.ofW (cc := prog_2_method_11_code) (maxL := 7) (ret := none) (by decide) rfl ?_
  intro p e s m args below meth c s₁ B hml hv
  obtain ⟨rfl, hsz, hW, hK, hZ0⟩ := hv
  have hts := fun w hw => atoms_spec (ws := wz y_Ch_accept prog_2_method_11_code 7 (none)) B.pre w (List.mem_cons_of_mem _ hw)
  have hown : s.vm.findClass "ChannelHall$Channel" = some m.cls := findClass_of_methodNamed B.named
  subst hsz
  have hl := lv_entry [.ref a0, .int x1, .double x2, .double x4] (n := 7) (Nat.le_of_ble_eq_true rfl)
  rw [lg_entry_eq]
  exact l_Ch_accept_e ⟨B.exec, B.bytes, B.returns, hml, hown, hts, B.notSynchronized, hK, fun q h => Or.inr h, hZ0⟩ a0 x1 x2 x4 (Nat.zero_le _) (Nat.zero_le _) h hW va_S.rf hl

theorem d_Ch_yieldTo_0 : decode prog_2_method_13_code 0 = .ok (.aload_n 0, 1) := by decide +kernel
theorem d_Ch_yieldTo_1 : decode prog_2_method_13_code 1 = .ok (.getstatic 89, 3) := by decide +kernel
theorem d_Ch_yieldTo_4 : decode prog_2_method_13_code 4 = .ok (.invokevirtual 75, 3) := by decide +kernel
theorem d_Ch_yieldTo_7 : decode prog_2_method_13_code 7 = .ok (.astore 4, 2) := by decide +kernel
theorem d_Ch_yieldTo_9 : decode prog_2_method_13_code 9 = .ok (.aload_n 0, 1) := by decide +kernel
theorem d_Ch_yieldTo_10 : decode prog_2_method_13_code 10 = .ok (.getfield 39, 3) := by decide +kernel
theorem d_Ch_yieldTo_13 : decode prog_2_method_13_code 13 = .ok (.iconst 2, 1) := by decide +kernel
theorem d_Ch_yieldTo_14 : decode prog_2_method_13_code 14 = .ok (.if_icmp .eq 12, 3) := by decide +kernel
theorem d_Ch_yieldTo_17 : decode prog_2_method_13_code 17 = .ok (.aload_n 0, 1) := by decide +kernel
theorem d_Ch_yieldTo_18 : decode prog_2_method_13_code 18 = .ok (.aload_n 1, 1) := by decide +kernel
theorem d_Ch_yieldTo_19 : decode prog_2_method_13_code 19 = .ok (.dload_n 2, 1) := by decide +kernel
theorem d_Ch_yieldTo_20 : decode prog_2_method_13_code 20 = .ok (.invokevirtual 104, 3) := by decide +kernel
theorem d_Ch_yieldTo_23 : decode prog_2_method_13_code 23 = .ok (.goto 25, 3) := by decide +kernel
theorem d_Ch_yieldTo_26 : decode prog_2_method_13_code 26 = .ok (.aload 4, 2) := by decide +kernel
theorem d_Ch_yieldTo_28 : decode prog_2_method_13_code 28 = .ok (.ifnull 20, 3) := by decide +kernel
theorem d_Ch_yieldTo_31 : decode prog_2_method_13_code 31 = .ok (.aload_n 0, 1) := by decide +kernel
theorem d_Ch_yieldTo_32 : decode prog_2_method_13_code 32 = .ok (.aload 4, 2) := by decide +kernel
theorem d_Ch_yieldTo_34 : decode prog_2_method_13_code 34 = .ok (.getfield 108, 3) := by decide +kernel
theorem d_Ch_yieldTo_37 : decode prog_2_method_13_code 37 = .ok (.aload_n 1, 1) := by decide +kernel
theorem d_Ch_yieldTo_38 : decode prog_2_method_13_code 38 = .ok (.invokevirtual 96, 3) := by decide +kernel
theorem d_Ch_yieldTo_41 : decode prog_2_method_13_code 41 = .ok (.aload_n 0, 1) := by decide +kernel
theorem d_Ch_yieldTo_42 : decode prog_2_method_13_code 42 = .ok (.aload 4, 2) := by decide +kernel
theorem d_Ch_yieldTo_44 : decode prog_2_method_13_code 44 = .ok (.iconst 1, 1) := by decide +kernel
theorem d_Ch_yieldTo_45 : decode prog_2_method_13_code 45 = .ok (.invokevirtual 100, 3) := by decide +kernel
theorem d_Ch_yieldTo_48 : decode prog_2_method_13_code 48 = .ok (.return_, 1) := by decide +kernel
def y_Ch_yieldTo : MethodName := ⟨"ChannelHall$Channel", "yieldTo", "(LChannelHall$Worker;D)V"⟩
abbrev rm_Ch_yieldTo : Room := { frames := 4, cells := 0, slots := 0, locals := 110 }
def wp_Ch_yieldTo_48 (G ca : Nat → Nat) (post : hM → Prop) (M : hM)  : Prop := post M
def wp_Ch_yieldTo (G ca : Nat → Nat) (post : hM → Prop) (M : hM) (a0 : Nat) (a1 : Option Nat) (x2 : UInt64) : Prop := rC M a0 0 (wp_Ch_firstWaiter G ca (fun r10 M11 => gI M11 a0 0 1 fun v12 => (v12 = 2 → (r10 = none → wp_Ch_yieldTo_48 G ca post M11) ∧ (∀ b14 : Nat, r10 = some b14 → gI M11 b14 2 7 fun v15 => rC M11 a0 0 (wp_Ch_handOver G ca (fun M16 => rC M16 a0 0 (wp_Ch_release G ca (fun M17 => wp_Ch_yieldTo_48 G ca post M17) M16 a0 (some b14) 1)) M11 a0 v15 a1))) ∧ (¬ v12 = 2 → rC M11 a0 0 (wp_Ch_handFirst G ca (fun M18 => wp_Ch_yieldTo_48 G ca post M18) M11 a0 a1 x2))) M a0 (some (G 0)))
set_option maxHeartbeats 1000000 in
set_option maxRecDepth 20000 in
theorem l_Ch_yieldTo_48 {p : Program} {l : Launch} {e : Env} {s : State} {m : MethodId} {args : Array Value} {below : List Frame} {meth : Method} {c : Code} {D : va_G} {ca G : Nat → Nat} {A : Nat → Prop} (C0 : hC p s m args meth c D ca G prog_2_method_13_code 5 (none) "ChannelHall$Channel" A) {post : hM → Prop} {M : hM} {H : Heap} {locs : List Loc} {ls : Array Slot}  (h : wp_Ch_yieldTo_48 G ca post M) (hW : hw D wCl A M H) (hS : va_S A s.heap H locs) (hl : lv_has ls 5 []) : W p l e rm_Ch_yieldTo s m args below meth c H locs 0 0 (MQ below (va_Qv post (fun M' t => hw D wCl A M' t.heap) A) args s 0 0 A) (F0 m 48 ls []) := by
  obtain ⟨hx, hb, hr, hml, hown, hts, hlocks, hK, hA, hZ0⟩ := id C0
  exact W.vret hx hb hr (fun t ht hWm => ⟨⟨_, rfl, h, hw_t ht hW⟩, hS.F ht⟩) hS.2.2 d_Ch_yieldTo_48
set_option maxHeartbeats 1000000 in
set_option maxRecDepth 20000 in
theorem l_Ch_yieldTo_e {p : Program} {l : Launch} {e : Env} {s : State} {m : MethodId} {args : Array Value} {below : List Frame} {meth : Method} {c : Code} {D : va_G} {ca G : Nat → Nat} {A : Nat → Prop} (C0 : hC p s m args meth c D ca G prog_2_method_13_code 5 (none) "ChannelHall$Channel" A) {post : hM → Prop} {M : hM} {H : Heap} {locs : List Loc} {ls : Array Slot} (a0 : Nat) (a1 : Option Nat) (x2 : UInt64) (h : wp_Ch_yieldTo G ca post M a0 a1 x2) (hW : hw D wCl A M H) (hS : va_S A s.heap H locs) (hl : lv_has ls 5 [(0, .ref a0), (1, va_rf a1), (2, .double x2)]) : W p l e rm_Ch_yieldTo s m args below meth c H locs 0 0 (MQ below (va_Qv post (fun M' t => hw D wCl A M' t.heap) A) args s 0 0 A) (F0 m 0 ls []) := by
  obtain ⟨hx, hb, hr, hml, hown, hts, hlocks, hK, hA, hZ0⟩ := id C0
  refine lv_aload_n hx hb d_Ch_yieldTo_0 rfl (lv_at hl 0 rfl) ?_
  refine va_gets (v := .ref (G 0)) hx hb (hZ0.1) hS hown (hts _ bw_370) (fun _ h9 => h9) d_Ch_yieldTo_1 ?_
  obtain ⟨⟨fs, h1⟩, h⟩ := h
  have h9 := h
  clear h
  have hF := hW.free hS hA
  refine va_callq (va_runV (As := [.ref (G 0)]) (rest := []) ⟨hx, hb, hml, hown, hts⟩ (c_Ch_firstWaiter _ h9) (cwV 1 hts (gi_V bw_372 bw_373 bw_374 bw_11 bw_375) rfl rfl rfl (by decide +kernel) ⟨Nat.le_of_ble_eq_true rfl, Nat.le_of_ble_eq_true rfl⟩) ⟨hI.blind, hw_recv hK hW h1 rfl, hI.give hW hS hA hK hZ0⟩ rfl rfl hl.1 rfl (lv_room (Nat.le_of_ble_eq_true rfl)) d_Ch_yieldTo_4 ⟨(show _ ≤ 0 by omega), (show _ ≤ 0 by omega)⟩) hS (fun q _ z => hF q z) hF (fun r10 M11 t H locs ht _ h hB1 _ _ hS => ?_)
  have hW := hw_back hF ht hB1
  clear h9
  refine lq_store (lv' := [(4, va_rf r10), (0, .ref a0), (1, va_rf a1), (2, .double x2)]) hx hb d_Ch_yieldTo_7 hl (by decide) rfl (fun ls hl => ?_)
  refine lv_aload_n hx hb d_Ch_yieldTo_9 rfl (lv_at hl 1 rfl) ?_
  obtain ⟨fs, v12, h1, h2, h⟩ := h
  refine va_get (D := D) (ci := 0) (v := .int v12) (C := "ChannelHall$Channel") (T := TCh) (N := 10) hx hb hts uCh hown hK (hw_one hW h1) 0 rfl rfl 1 (by decide) (hts _ bw_253) (fun _ h9 => h9) h2 d_Ch_yieldTo_10 ?_
  refine lv_iconst (v := 2) hx hb d_Ch_yieldTo_13 (by decide) ?_
  obtain ⟨h0, h1⟩ := h
  refine lv_icmp_eq (tgt := 26) hx hb d_Ch_yieldTo_14 (by decide) (fun c13 => ?_) (fun c13 => ?_)
  · have h := h0 c13
    refine lq_load hx hb d_Ch_yieldTo_26 (lv_at hl 0 rfl) ?_
    obtain ⟨h0, h1⟩ := h
    cases r10 with
    | none =>
      have h := h0 rfl
      refine lv_ifnullN (tgt := 48) hx hb d_Ch_yieldTo_28 (by decide) ?_
      exact l_Ch_yieldTo_48 C0  h hW hS (lv_sub hl [] rfl)
    | some b14 =>
      have h := h1 b14 rfl
      refine lv_ifnull hx hb d_Ch_yieldTo_28 ?_
      refine lv_aload_n hx hb d_Ch_yieldTo_31 rfl (lv_at hl 1 rfl) ?_
      refine lv_aload hx hb d_Ch_yieldTo_32 (lv_at hl 0 rfl) ?_
      obtain ⟨fs, v15, h1, h2, h⟩ := h
      refine va_get (D := D) (ci := 2) (v := .int v15) (C := "ChannelHall$Worker") (T := TWo) (N := 11) hx hb hts uWo hown hK (hw_one hW h1) 0 rfl rfl 7 (by decide) (hts _ bw_70) (fun _ h9 => h9) h2 d_Ch_yieldTo_34 ?_
      refine lq_load_n hx hb d_Ch_yieldTo_37 rfl (lv_at hl 2 rfl) ?_
      obtain ⟨⟨fs, h1⟩, h⟩ := h
      have h9 := h
      clear h
      have hF := hW.free hS hA
      refine va_callv (va_runV (As := [.int v15, va_rf a1]) (rest := []) ⟨hx, hb, hml, hown, hts⟩ (c_Ch_handOver _ h9) (cwV 2 hts (gi_V bw_767 bw_769 bs_10 bw_11 bw_770) rfl rfl rfl (by decide +kernel) ⟨Nat.le_of_ble_eq_true rfl, Nat.le_of_ble_eq_true rfl⟩) ⟨hI.blind, hw_recv hK hW h1 rfl, hI.give hW hS hA hK hZ0⟩ rfl rfl hl.1 rfl (lv_room (Nat.le_of_ble_eq_true rfl)) d_Ch_yieldTo_38 ⟨(show _ ≤ 0 by omega), (show _ ≤ 0 by omega)⟩) hS (fun q _ z => hF q z) hF (fun M16 t H locs ht _ h hB1 _ _ hS => ?_)
      have hW := hw_back hF ht hB1
      clear h9
      refine lv_aload_n hx hb d_Ch_yieldTo_41 rfl (lv_at hl 1 rfl) ?_
      refine lv_aload hx hb d_Ch_yieldTo_42 (lv_at hl 0 rfl) ?_
      refine lv_iconst (v := 1) hx hb d_Ch_yieldTo_44 (by decide) ?_
      obtain ⟨⟨fs, h1⟩, h⟩ := h
      have h9 := h
      clear h
      have hF := hW.free hS hA
      refine va_callv (va_runV (As := [.ref b14, .int 1]) (rest := []) ⟨hx, hb, hml, hown, hts⟩ (c_Ch_release _ h9) (cwV 2 hts (gi_V bw_779 bw_780 bw_781 bw_11 bw_782) rfl rfl rfl (by decide +kernel) ⟨Nat.le_of_ble_eq_true rfl, Nat.le_of_ble_eq_true rfl⟩) ⟨hI.blind, hw_recv hK hW h1 rfl, hI.give hW hS hA hK hZ0⟩ rfl rfl hl.1 rfl (lv_room (Nat.le_of_ble_eq_true rfl)) d_Ch_yieldTo_45 ⟨(show _ ≤ 0 by omega), (show _ ≤ 0 by omega)⟩) hS (fun q _ z => hF q z) hF (fun M17 t H locs ht _ h hB1 _ _ hS => ?_)
      have hW := hw_back hF ht hB1
      clear h9
      exact l_Ch_yieldTo_48 C0  h hW hS (lv_sub hl [] rfl)
  · have h := h1 c13
    refine lv_aload_n hx hb d_Ch_yieldTo_17 rfl (lv_at hl 1 rfl) ?_
    refine lq_load_n hx hb d_Ch_yieldTo_18 rfl (lv_at hl 2 rfl) ?_
    refine lv_dload_n hx hb d_Ch_yieldTo_19 rfl (lv_at hl 3 rfl) ?_
    obtain ⟨⟨fs, h1⟩, h⟩ := h
    have h9 := h
    clear h
    have hF := hW.free hS hA
    refine va_callv (va_runV (As := [va_rf a1, .double x2]) (rest := []) ⟨hx, hb, hml, hown, hts⟩ (c_Ch_handFirst _ h9) (cwV 2 hts (gi_V bw_807 bw_809 bs_14 bw_11 bw_810) rfl rfl rfl (by decide +kernel) ⟨Nat.le_of_ble_eq_true rfl, Nat.le_of_ble_eq_true rfl⟩) ⟨hI.blind, hw_recv hK hW h1 rfl, hI.give hW hS hA hK hZ0⟩ rfl rfl hl.1 rfl (lv_room (Nat.le_of_ble_eq_true rfl)) d_Ch_yieldTo_20 ⟨(show _ ≤ 0 by omega), (show _ ≤ 0 by omega)⟩) hS (fun q _ z => hF q z) hF (fun M18 t H locs ht _ h hB1 _ _ hS => ?_)
    have hW := hw_back hF ht hB1
    clear h9
    refine lv_goto (tgt := 48) hx hb d_Ch_yieldTo_23 (by decide) ?_
    exact l_Ch_yieldTo_48 C0  h hW hS (lv_sub hl [] rfl)
set_option maxRecDepth 20000 in
theorem c_Ch_yieldTo {l : Launch} {D : va_G} {ca G : Nat → Nat} (post : hM → Prop) {M : hM} {sz : Nat} {a0 : Nat} {a1 : Option Nat} {x2 : UInt64} (h : wp_Ch_yieldTo G ca post M a0 a1 x2) : Met l y_Ch_yieldTo (wz y_Ch_yieldTo prog_2_method_13_code 5 (none)) rm_Ch_yieldTo (va_Pc [.ref a0, va_rf a1, .double x2] (hI D ca G sz M)) (va_Qv post (hB D M sz) (hp_A M sz)) 0 0 (hp_A M sz) := by
  refine Met.ofW (cc := prog_2_method_13_code) (maxL := 5) (ret := none) (by decide) rfl ?_
  intro p e s m args below meth c s₁ B hml hv
  obtain ⟨rfl, hsz, hW, hK, hZ0⟩ := hv
  have hts := fun w hw => atoms_spec (ws := wz y_Ch_yieldTo prog_2_method_13_code 5 (none)) B.pre w (List.mem_cons_of_mem _ hw)
  have hown : s.vm.findClass "ChannelHall$Channel" = some m.cls := findClass_of_methodNamed B.named
  subst hsz
  have hl : lv_has ((lg_sl [.ref a0, va_rf a1, .double x2] ++ List.replicate (5 - (lg_sl [.ref a0, va_rf a1, .double x2]).length) Slot.unset).toArray) 5 [(0, .ref a0), (1, va_rf a1), (2, .double x2)] := by cases a1 <;> exact lv_entry _ (Nat.le_of_ble_eq_true rfl)
  rw [lg_entry_eq]
  exact l_Ch_yieldTo_e ⟨B.exec, B.bytes, B.returns, hml, hown, hts, B.notSynchronized, hK, fun q h => Or.inr h, hZ0⟩ a0 a1 x2 h hW va_S.rf hl

theorem d_Ch_serveOnce_0 : decode prog_2_method_15_code 0 = .ok (.aload_n 0, 1) := by decide +kernel
theorem d_Ch_serveOnce_1 : decode prog_2_method_15_code 1 = .ok (.getstatic 69, 3) := by decide +kernel
theorem d_Ch_serveOnce_4 : decode prog_2_method_15_code 4 = .ok (.invokevirtual 75, 3) := by decide +kernel
theorem d_Ch_serveOnce_7 : decode prog_2_method_15_code 7 = .ok (.astore_n 3, 1) := by decide +kernel
theorem d_Ch_serveOnce_8 : decode prog_2_method_15_code 8 = .ok (.aload_n 0, 1) := by decide +kernel
theorem d_Ch_serveOnce_9 : decode prog_2_method_15_code 9 = .ok (.getstatic 89, 3) := by decide +kernel
theorem d_Ch_serveOnce_12 : decode prog_2_method_15_code 12 = .ok (.invokevirtual 75, 3) := by decide +kernel
theorem d_Ch_serveOnce_15 : decode prog_2_method_15_code 15 = .ok (.astore 4, 2) := by decide +kernel
theorem d_Ch_serveOnce_17 : decode prog_2_method_15_code 17 = .ok (.aload_n 3, 1) := by decide +kernel
theorem d_Ch_serveOnce_18 : decode prog_2_method_15_code 18 = .ok (.ifnull 25, 3) := by decide +kernel
theorem d_Ch_serveOnce_21 : decode prog_2_method_15_code 21 = .ok (.aload_n 0, 1) := by decide +kernel
theorem d_Ch_serveOnce_22 : decode prog_2_method_15_code 22 = .ok (.dload_n 1, 1) := by decide +kernel
theorem d_Ch_serveOnce_23 : decode prog_2_method_15_code 23 = .ok (.invokevirtual 65, 3) := by decide +kernel
theorem d_Ch_serveOnce_26 : decode prog_2_method_15_code 26 = .ok (.ifCond .eq 17, 3) := by decide +kernel
theorem d_Ch_serveOnce_29 : decode prog_2_method_15_code 29 = .ok (.aload_n 0, 1) := by decide +kernel
theorem d_Ch_serveOnce_30 : decode prog_2_method_15_code 30 = .ok (.aload_n 3, 1) := by decide +kernel
theorem d_Ch_serveOnce_31 : decode prog_2_method_15_code 31 = .ok (.dload_n 1, 1) := by decide +kernel
theorem d_Ch_serveOnce_32 : decode prog_2_method_15_code 32 = .ok (.invokevirtual 104, 3) := by decide +kernel
theorem d_Ch_serveOnce_35 : decode prog_2_method_15_code 35 = .ok (.aload_n 0, 1) := by decide +kernel
theorem d_Ch_serveOnce_36 : decode prog_2_method_15_code 36 = .ok (.aload_n 3, 1) := by decide +kernel
theorem d_Ch_serveOnce_37 : decode prog_2_method_15_code 37 = .ok (.iconst 1, 1) := by decide +kernel
theorem d_Ch_serveOnce_38 : decode prog_2_method_15_code 38 = .ok (.invokevirtual 100, 3) := by decide +kernel
theorem d_Ch_serveOnce_41 : decode prog_2_method_15_code 41 = .ok (.iconst 1, 1) := by decide +kernel
theorem d_Ch_serveOnce_42 : decode prog_2_method_15_code 42 = .ok (.ireturn, 1) := by decide +kernel
theorem d_Ch_serveOnce_43 : decode prog_2_method_15_code 43 = .ok (.aload 4, 2) := by decide +kernel
theorem d_Ch_serveOnce_45 : decode prog_2_method_15_code 45 = .ok (.ifnull 41, 3) := by decide +kernel
theorem d_Ch_serveOnce_48 : decode prog_2_method_15_code 48 = .ok (.aload_n 0, 1) := by decide +kernel
theorem d_Ch_serveOnce_49 : decode prog_2_method_15_code 49 = .ok (.getfield 12, 3) := by decide +kernel
theorem d_Ch_serveOnce_52 : decode prog_2_method_15_code 52 = .ok (.invokevirtual 79, 3) := by decide +kernel
theorem d_Ch_serveOnce_55 : decode prog_2_method_15_code 55 = .ok (.aload_n 0, 1) := by decide +kernel
theorem d_Ch_serveOnce_56 : decode prog_2_method_15_code 56 = .ok (.getfield 46, 3) := by decide +kernel
theorem d_Ch_serveOnce_59 : decode prog_2_method_15_code 59 = .ok (.if_icmp .ge 27, 3) := by decide +kernel
theorem d_Ch_serveOnce_62 : decode prog_2_method_15_code 62 = .ok (.aload_n 0, 1) := by decide +kernel
theorem d_Ch_serveOnce_63 : decode prog_2_method_15_code 63 = .ok (.aload 4, 2) := by decide +kernel
theorem d_Ch_serveOnce_65 : decode prog_2_method_15_code 65 = .ok (.getfield 108, 3) := by decide +kernel
theorem d_Ch_serveOnce_68 : decode prog_2_method_15_code 68 = .ok (.aload 4, 2) := by decide +kernel
theorem d_Ch_serveOnce_70 : decode prog_2_method_15_code 70 = .ok (.getfield 114, 3) := by decide +kernel
theorem d_Ch_serveOnce_73 : decode prog_2_method_15_code 73 = .ok (.dload_n 1, 1) := by decide +kernel
theorem d_Ch_serveOnce_74 : decode prog_2_method_15_code 74 = .ok (.invokevirtual 92, 3) := by decide +kernel
theorem d_Ch_serveOnce_77 : decode prog_2_method_15_code 77 = .ok (.aload_n 0, 1) := by decide +kernel
theorem d_Ch_serveOnce_78 : decode prog_2_method_15_code 78 = .ok (.aload 4, 2) := by decide +kernel
theorem d_Ch_serveOnce_80 : decode prog_2_method_15_code 80 = .ok (.iconst 1, 1) := by decide +kernel
theorem d_Ch_serveOnce_81 : decode prog_2_method_15_code 81 = .ok (.invokevirtual 100, 3) := by decide +kernel
theorem d_Ch_serveOnce_84 : decode prog_2_method_15_code 84 = .ok (.iconst 1, 1) := by decide +kernel
theorem d_Ch_serveOnce_85 : decode prog_2_method_15_code 85 = .ok (.ireturn, 1) := by decide +kernel
theorem d_Ch_serveOnce_86 : decode prog_2_method_15_code 86 = .ok (.aload_n 0, 1) := by decide +kernel
theorem d_Ch_serveOnce_87 : decode prog_2_method_15_code 87 = .ok (.getfield 39, 3) := by decide +kernel
theorem d_Ch_serveOnce_90 : decode prog_2_method_15_code 90 = .ok (.iconst 2, 1) := by decide +kernel
theorem d_Ch_serveOnce_91 : decode prog_2_method_15_code 91 = .ok (.if_icmp .ne 37, 3) := by decide +kernel
theorem d_Ch_serveOnce_94 : decode prog_2_method_15_code 94 = .ok (.aload 4, 2) := by decide +kernel
theorem d_Ch_serveOnce_96 : decode prog_2_method_15_code 96 = .ok (.ifnull 32, 3) := by decide +kernel
theorem d_Ch_serveOnce_99 : decode prog_2_method_15_code 99 = .ok (.aload_n 3, 1) := by decide +kernel
theorem d_Ch_serveOnce_100 : decode prog_2_method_15_code 100 = .ok (.ifnull 28, 3) := by decide +kernel
theorem d_Ch_serveOnce_103 : decode prog_2_method_15_code 103 = .ok (.aload_n 0, 1) := by decide +kernel
theorem d_Ch_serveOnce_104 : decode prog_2_method_15_code 104 = .ok (.aload 4, 2) := by decide +kernel
theorem d_Ch_serveOnce_106 : decode prog_2_method_15_code 106 = .ok (.getfield 108, 3) := by decide +kernel
theorem d_Ch_serveOnce_109 : decode prog_2_method_15_code 109 = .ok (.aload_n 3, 1) := by decide +kernel
theorem d_Ch_serveOnce_110 : decode prog_2_method_15_code 110 = .ok (.invokevirtual 96, 3) := by decide +kernel
theorem d_Ch_serveOnce_113 : decode prog_2_method_15_code 113 = .ok (.aload_n 0, 1) := by decide +kernel
theorem d_Ch_serveOnce_114 : decode prog_2_method_15_code 114 = .ok (.aload 4, 2) := by decide +kernel
theorem d_Ch_serveOnce_116 : decode prog_2_method_15_code 116 = .ok (.iconst 1, 1) := by decide +kernel
theorem d_Ch_serveOnce_117 : decode prog_2_method_15_code 117 = .ok (.invokevirtual 100, 3) := by decide +kernel
theorem d_Ch_serveOnce_120 : decode prog_2_method_15_code 120 = .ok (.aload_n 0, 1) := by decide +kernel
theorem d_Ch_serveOnce_121 : decode prog_2_method_15_code 121 = .ok (.aload_n 3, 1) := by decide +kernel
theorem d_Ch_serveOnce_122 : decode prog_2_method_15_code 122 = .ok (.iconst 1, 1) := by decide +kernel
theorem d_Ch_serveOnce_123 : decode prog_2_method_15_code 123 = .ok (.invokevirtual 100, 3) := by decide +kernel
theorem d_Ch_serveOnce_126 : decode prog_2_method_15_code 126 = .ok (.iconst 1, 1) := by decide +kernel
theorem d_Ch_serveOnce_127 : decode prog_2_method_15_code 127 = .ok (.ireturn, 1) := by decide +kernel
theorem d_Ch_serveOnce_128 : decode prog_2_method_15_code 128 = .ok (.iconst 0, 1) := by decide +kernel
theorem d_Ch_serveOnce_129 : decode prog_2_method_15_code 129 = .ok (.ireturn, 1) := by decide +kernel
def y_Ch_serveOnce : MethodName := ⟨"ChannelHall$Channel", "serveOnce", "(D)Z"⟩
abbrev rm_Ch_serveOnce : Room := { frames := 7, cells := 2, slots := 25, locals := 177 }
def wp_Ch_serveOnce_128 (G ca : Nat → Nat) (post : Int32 → hM → Prop) (M : hM)  : Prop := post 0 M
def wp_Ch_serveOnce_86 (G ca : Nat → Nat) (post : Int32 → hM → Prop) (M : hM) (l0b86 : Nat) (l3b86 : Option Nat) (l4b86 : Option Nat) : Prop := gI M l0b86 0 1 fun v30 => (¬ v30 = 2 → wp_Ch_serveOnce_128 G ca post M) ∧ (v30 = 2 → (l4b86 = none → wp_Ch_serveOnce_128 G ca post M) ∧ (∀ b32 : Nat, l4b86 = some b32 → (l3b86 = none → wp_Ch_serveOnce_128 G ca post M) ∧ (∀ b33 : Nat, l3b86 = some b33 → gI M b32 2 7 fun v34 => rC M l0b86 0 (wp_Ch_handOver G ca (fun M35 => rC M35 l0b86 0 (wp_Ch_release G ca (fun M36 => rC M36 l0b86 0 (wp_Ch_release G ca (fun M37 => post 1 M37) M36 l0b86 (some b33) 1)) M35 l0b86 (some b32) 1)) M l0b86 v34 (some b33)))))
def wp_Ch_serveOnce_43 (G ca : Nat → Nat) (post : Int32 → hM → Prop) (M : hM) (l0b43 : Nat) (l1b43 : UInt64) (l3b43 : Option Nat) (l4b43 : Option Nat) : Prop := (l4b43 = none → wp_Ch_serveOnce_86 G ca post M l0b43 l3b43 none) ∧ (∀ b38 : Nat, l4b43 = some b38 → gR M l0b43 0 4 fun v39 => nN v39 fun b40 => rC M b40 4 (wp_Al_size G ca (fun r41 M42 => gI M42 l0b43 0 2 fun v43 => (v43 ≤ r41 → wp_Ch_serveOnce_86 G ca post M42 l0b43 l3b43 (some b38)) ∧ (¬ v43 ≤ r41 → gI M42 b38 2 7 fun v45 => gD M42 b38 2 8 fun v46 => rC M42 l0b43 0 (wp_Ch_put G ca (fun M47 => rC M47 l0b43 0 (wp_Ch_release G ca (fun M48 => post 1 M48) M47 l0b43 (some b38) 1)) M42 l0b43 v45 v46 l1b43))) M b40))
def wp_Ch_serveOnce (G ca : Nat → Nat) (post : Int32 → hM → Prop) (M : hM) (a0 : Nat) (x1 : UInt64) : Prop := rC M a0 0 (wp_Ch_firstWaiter G ca (fun r49 M50 => rC M50 a0 0 (wp_Ch_firstWaiter G ca (fun r51 M52 => (r49 = none → wp_Ch_serveOnce_43 G ca post M52 a0 x1 none r51) ∧ (∀ b53 : Nat, r49 = some b53 → rC M52 a0 0 (wp_Ch_isReady G ca (fun r54 M55 => (r54 = 0 → wp_Ch_serveOnce_43 G ca post M55 a0 x1 (some b53) r51) ∧ (¬ r54 = 0 → rC M55 a0 0 (wp_Ch_handFirst G ca (fun M57 => rC M57 a0 0 (wp_Ch_release G ca (fun M58 => post 1 M58) M57 a0 (some b53) 1)) M55 a0 (some b53) x1))) M52 a0 x1))) M50 a0 (some (G 0)))) M a0 (some (G 1)))
set_option maxHeartbeats 1000000 in
set_option maxRecDepth 20000 in
theorem l_Ch_serveOnce_128 {p : Program} {l : Launch} {e : Env} {s : State} {m : MethodId} {args : Array Value} {below : List Frame} {meth : Method} {c : Code} {D : va_G} {ca G : Nat → Nat} {A : Nat → Prop} (C0 : hC p s m args meth c D ca G prog_2_method_15_code 5 (some .boolean) "ChannelHall$Channel" A) {post : Int32 → hM → Prop} {M : hM} {H : Heap} {locs : List Loc} {ls : Array Slot} {cells slots : Nat}  (hc : cells ≤ 0) (hs : slots ≤ 0) (h : wp_Ch_serveOnce_128 G ca post M) (hW : hw D wCl A M H) (hS : va_S A s.heap H locs) (hl : lv_has ls 5 []) : W p l e rm_Ch_serveOnce s m args below meth c H locs cells slots (MQ below (va_Qi post (fun M' t => hw D wCl A M' t.heap) A) args s 2 25 A) (F0 m 128 ls []) := by
  obtain ⟨hx, hb, hr, hml, hown, hts, hlocks, hK, hA, hZ0⟩ := id C0
  refine lv_iconst (v := 0) hx hb d_Ch_serveOnce_128 (by decide) ?_
  refine W.widen (k := 2) (n := 25) (by omega) (by omega) ?_
  exact W.zret hx hb hr (by decide) (fun t ht hWm => ⟨⟨_, _, rfl, h, hw_t ht hW⟩, hS.F ht⟩) hS.2.2 d_Ch_serveOnce_129
set_option maxHeartbeats 1000000 in
set_option maxRecDepth 20000 in
theorem l_Ch_serveOnce_86 {p : Program} {l : Launch} {e : Env} {s : State} {m : MethodId} {args : Array Value} {below : List Frame} {meth : Method} {c : Code} {D : va_G} {ca G : Nat → Nat} {A : Nat → Prop} (C0 : hC p s m args meth c D ca G prog_2_method_15_code 5 (some .boolean) "ChannelHall$Channel" A) {post : Int32 → hM → Prop} {M : hM} {H : Heap} {locs : List Loc} {ls : Array Slot} {cells slots : Nat} (l0b86 : Nat) (l3b86 : Option Nat) (l4b86 : Option Nat) (hc : cells ≤ 0) (hs : slots ≤ 0) (h : wp_Ch_serveOnce_86 G ca post M l0b86 l3b86 l4b86) (hW : hw D wCl A M H) (hS : va_S A s.heap H locs) (hl : lv_has ls 5 [(0, .ref l0b86), (3, va_rf l3b86), (4, va_rf l4b86)]) : W p l e rm_Ch_serveOnce s m args below meth c H locs cells slots (MQ below (va_Qi post (fun M' t => hw D wCl A M' t.heap) A) args s 2 25 A) (F0 m 86 ls []) := by
  obtain ⟨hx, hb, hr, hml, hown, hts, hlocks, hK, hA, hZ0⟩ := id C0
  refine lv_aload_n hx hb d_Ch_serveOnce_86 rfl (lv_at hl 0 rfl) ?_
  obtain ⟨fs, v30, h1, h2, h⟩ := h
  refine va_get (D := D) (ci := 0) (v := .int v30) (C := "ChannelHall$Channel") (T := TCh) (N := 10) hx hb hts uCh hown hK (hw_one hW h1) 0 rfl rfl 1 (by decide) (hts _ bw_253) (fun _ h9 => h9) h2 d_Ch_serveOnce_87 ?_
  refine lv_iconst (v := 2) hx hb d_Ch_serveOnce_90 (by decide) ?_
  obtain ⟨h0, h1⟩ := h
  refine lv_icmp_ne (tgt := 128) hx hb d_Ch_serveOnce_91 (by decide) (fun c31 => ?_) (fun c31 => ?_)
  · have h := h0 c31
    exact l_Ch_serveOnce_128 C0  (by omega) (by omega) h hW hS (lv_sub hl [] rfl)
  · have h := h1 c31
    refine lq_load hx hb d_Ch_serveOnce_94 (lv_at hl 2 rfl) ?_
    obtain ⟨h0, h1⟩ := h
    cases l4b86 with
    | none =>
      have h := h0 rfl
      refine lv_ifnullN (tgt := 128) hx hb d_Ch_serveOnce_96 (by decide) ?_
      exact l_Ch_serveOnce_128 C0  (by omega) (by omega) h hW hS (lv_sub hl [] rfl)
    | some b32 =>
      have h := h1 b32 rfl
      refine lv_ifnull hx hb d_Ch_serveOnce_96 ?_
      refine lq_load_n hx hb d_Ch_serveOnce_99 rfl (lv_at hl 1 rfl) ?_
      obtain ⟨h0, h1⟩ := h
      cases l3b86 with
      | none =>
        have h := h0 rfl
        refine lv_ifnullN (tgt := 128) hx hb d_Ch_serveOnce_100 (by decide) ?_
        exact l_Ch_serveOnce_128 C0  (by omega) (by omega) h hW hS (lv_sub hl [] rfl)
      | some b33 =>
        have h := h1 b33 rfl
        refine lv_ifnull hx hb d_Ch_serveOnce_100 ?_
        refine lv_aload_n hx hb d_Ch_serveOnce_103 rfl (lv_at hl 0 rfl) ?_
        refine lv_aload hx hb d_Ch_serveOnce_104 (lv_at hl 2 rfl) ?_
        obtain ⟨fs, v34, h1, h2, h⟩ := h
        refine va_get (D := D) (ci := 2) (v := .int v34) (C := "ChannelHall$Worker") (T := TWo) (N := 11) hx hb hts uWo hown hK (hw_one hW h1) 0 rfl rfl 7 (by decide) (hts _ bw_70) (fun _ h9 => h9) h2 d_Ch_serveOnce_106 ?_
        refine lv_aload_n hx hb d_Ch_serveOnce_109 rfl (lv_at hl 1 rfl) ?_
        obtain ⟨⟨fs, h1⟩, h⟩ := h
        have h9 := h
        clear h
        have hF := hW.free hS hA
        refine va_callv (va_runV (As := [.int v34, .ref b33]) (rest := []) ⟨hx, hb, hml, hown, hts⟩ (c_Ch_handOver _ h9) (cwV 2 hts (gi_V bw_767 bw_769 bs_10 bw_11 bw_770) rfl rfl rfl (by decide +kernel) ⟨Nat.le_of_ble_eq_true rfl, Nat.le_of_ble_eq_true rfl⟩) ⟨hI.blind, hw_recv hK hW h1 rfl, hI.give hW hS hA hK hZ0⟩ rfl rfl hl.1 rfl (lv_room (Nat.le_of_ble_eq_true rfl)) d_Ch_serveOnce_110 ⟨(show _ ≤ 2 by omega), (show _ ≤ 25 by omega)⟩) hS (fun q _ z => hF q z) hF (fun M35 t H locs ht _ h hB1 _ _ hS => ?_)
        have hW := hw_back hF ht hB1
        clear h9
        refine lv_aload_n hx hb d_Ch_serveOnce_113 rfl (lv_at hl 0 rfl) ?_
        refine lv_aload hx hb d_Ch_serveOnce_114 (lv_at hl 2 rfl) ?_
        refine lv_iconst (v := 1) hx hb d_Ch_serveOnce_116 (by decide) ?_
        obtain ⟨⟨fs, h1⟩, h⟩ := h
        have h9 := h
        clear h
        have hF := hW.free hS hA
        refine va_callv (va_runV (As := [.ref b32, .int 1]) (rest := []) ⟨hx, hb, hml, hown, hts⟩ (c_Ch_release _ h9) (cwV 2 hts (gi_V bw_779 bw_780 bw_781 bw_11 bw_782) rfl rfl rfl (by decide +kernel) ⟨Nat.le_of_ble_eq_true rfl, Nat.le_of_ble_eq_true rfl⟩) ⟨hI.blind, hw_recv hK hW h1 rfl, hI.give hW hS hA hK hZ0⟩ rfl rfl hl.1 rfl (lv_room (Nat.le_of_ble_eq_true rfl)) d_Ch_serveOnce_117 ⟨(show _ ≤ 2 by omega), (show _ ≤ 25 by omega)⟩) hS (fun q _ z => hF q z) hF (fun M36 t H locs ht _ h hB1 _ _ hS => ?_)
        have hW := hw_back hF ht hB1
        clear h9
        refine lv_aload_n hx hb d_Ch_serveOnce_120 rfl (lv_at hl 0 rfl) ?_
        refine lv_aload_n hx hb d_Ch_serveOnce_121 rfl (lv_at hl 1 rfl) ?_
        refine lv_iconst (v := 1) hx hb d_Ch_serveOnce_122 (by decide) ?_
        obtain ⟨⟨fs, h1⟩, h⟩ := h
        have h9 := h
        clear h
        have hF := hW.free hS hA
        refine va_callv (va_runV (As := [.ref b33, .int 1]) (rest := []) ⟨hx, hb, hml, hown, hts⟩ (c_Ch_release _ h9) (cwV 2 hts (gi_V bw_779 bw_780 bw_781 bw_11 bw_782) rfl rfl rfl (by decide +kernel) ⟨Nat.le_of_ble_eq_true rfl, Nat.le_of_ble_eq_true rfl⟩) ⟨hI.blind, hw_recv hK hW h1 rfl, hI.give hW hS hA hK hZ0⟩ rfl rfl hl.1 rfl (lv_room (Nat.le_of_ble_eq_true rfl)) d_Ch_serveOnce_123 ⟨(show _ ≤ 2 by omega), (show _ ≤ 25 by omega)⟩) hS (fun q _ z => hF q z) hF (fun M37 t H locs ht _ h hB1 _ _ hS => ?_)
        have hW := hw_back hF ht hB1
        clear h9
        refine lv_iconst (v := 1) hx hb d_Ch_serveOnce_126 (by decide) ?_
        refine W.widen (k := 2) (n := 25) (by omega) (by omega) ?_
        exact W.zret hx hb hr (by decide) (fun t ht hWm => ⟨⟨_, _, rfl, h, hw_t ht hW⟩, hS.F ht⟩) hS.2.2 d_Ch_serveOnce_127
set_option maxHeartbeats 1000000 in
set_option maxRecDepth 20000 in
theorem l_Ch_serveOnce_43 {p : Program} {l : Launch} {e : Env} {s : State} {m : MethodId} {args : Array Value} {below : List Frame} {meth : Method} {c : Code} {D : va_G} {ca G : Nat → Nat} {A : Nat → Prop} (C0 : hC p s m args meth c D ca G prog_2_method_15_code 5 (some .boolean) "ChannelHall$Channel" A) {post : Int32 → hM → Prop} {M : hM} {H : Heap} {locs : List Loc} {ls : Array Slot} {cells slots : Nat} (l0b43 : Nat) (l1b43 : UInt64) (l3b43 : Option Nat) (l4b43 : Option Nat) (hc : cells ≤ 0) (hs : slots ≤ 0) (h : wp_Ch_serveOnce_43 G ca post M l0b43 l1b43 l3b43 l4b43) (hW : hw D wCl A M H) (hS : va_S A s.heap H locs) (hl : lv_has ls 5 [(0, .ref l0b43), (1, .double l1b43), (3, va_rf l3b43), (4, va_rf l4b43)]) : W p l e rm_Ch_serveOnce s m args below meth c H locs cells slots (MQ below (va_Qi post (fun M' t => hw D wCl A M' t.heap) A) args s 2 25 A) (F0 m 43 ls []) := by
  obtain ⟨hx, hb, hr, hml, hown, hts, hlocks, hK, hA, hZ0⟩ := id C0
  refine lq_load hx hb d_Ch_serveOnce_43 (lv_at hl 3 rfl) ?_
  obtain ⟨h0, h1⟩ := h
  cases l4b43 with
  | none =>
    have h := h0 rfl
    refine lv_ifnullN (tgt := 86) hx hb d_Ch_serveOnce_45 (by decide) ?_
    exact l_Ch_serveOnce_86 C0 l0b43 l3b43 none (by omega) (by omega) h hW hS (lv_sub hl [0, 2, 3] rfl)
  | some b38 =>
    have h := h1 b38 rfl
    refine lv_ifnull hx hb d_Ch_serveOnce_45 ?_
    refine lv_aload_n hx hb d_Ch_serveOnce_48 rfl (lv_at hl 0 rfl) ?_
    obtain ⟨fs, v39, h1, h2, h⟩ := h
    refine va_get (D := D) (ci := 0) (v := va_rf v39) (C := "ChannelHall$Channel") (T := TCh) (N := 10) hx hb hts uCh hown hK (hw_one hW h1) 0 rfl rfl 4 (by decide) (hts _ bw_258) (fun _ h9 => h9) h2 d_Ch_serveOnce_49 ?_
    obtain ⟨b40, rfl, h⟩ := h
    obtain ⟨⟨fs, h1⟩, h⟩ := h
    have h9 := h
    clear h
    have hF := hW.free hS hA
    refine va_calli (va_runV (As := []) (rest := []) ⟨hx, hb, hml, hown, hts⟩ (c_Al_size _ h9) (cwV 0 hts (gi_V bw_376 bw_377 bw_378 bw_14 bw_379) rfl rfl rfl (by decide +kernel) ⟨Nat.le_of_ble_eq_true rfl, Nat.le_of_ble_eq_true rfl⟩) ⟨hI.blind, hw_recv hK hW h1 rfl, hI.give hW hS hA hK hZ0⟩ rfl rfl hl.1 rfl (lv_room (Nat.le_of_ble_eq_true rfl)) d_Ch_serveOnce_52 ⟨(show _ ≤ 2 by omega), (show _ ≤ 25 by omega)⟩) hS (fun q _ z => hF q z) hF (fun r41 M42 t H locs ht _ h hB1 _ _ hS => ?_)
    have hW := hw_back hF ht hB1
    clear h9
    refine lv_aload_n hx hb d_Ch_serveOnce_55 rfl (lv_at hl 0 rfl) ?_
    obtain ⟨fs, v43, h1, h2, h⟩ := h
    refine va_get (D := D) (ci := 0) (v := .int v43) (C := "ChannelHall$Channel") (T := TCh) (N := 10) hx hb hts uCh hown hK (hw_one hW h1) 0 rfl rfl 2 (by decide) (hts _ bw_255) (fun _ h9 => h9) h2 d_Ch_serveOnce_56 ?_
    obtain ⟨h0, h1⟩ := h
    refine lv_icmp_ge (tgt := 86) hx hb d_Ch_serveOnce_59 (by decide) (fun c44 => ?_) (fun c44 => ?_)
    · have h := h0 c44
      exact l_Ch_serveOnce_86 C0 l0b43 l3b43 (some b38) (by omega) (by omega) h hW hS (lv_sub hl [0, 2, 3] rfl)
    · have h := h1 c44
      refine lv_aload_n hx hb d_Ch_serveOnce_62 rfl (lv_at hl 0 rfl) ?_
      refine lv_aload hx hb d_Ch_serveOnce_63 (lv_at hl 3 rfl) ?_
      obtain ⟨fs, v45, h1, h2, h⟩ := h
      refine va_get (D := D) (ci := 2) (v := .int v45) (C := "ChannelHall$Worker") (T := TWo) (N := 11) hx hb hts uWo hown hK (hw_one hW h1) 0 rfl rfl 7 (by decide) (hts _ bw_70) (fun _ h9 => h9) h2 d_Ch_serveOnce_65 ?_
      refine lv_aload hx hb d_Ch_serveOnce_68 (lv_at hl 3 rfl) ?_
      obtain ⟨fs, v46, h1, h2, h⟩ := h
      refine va_get (D := D) (ci := 2) (v := .double v46) (C := "ChannelHall$Worker") (T := TWo) (N := 11) hx hb hts uWo hown hK (hw_one hW h1) 0 rfl rfl 8 (by decide) (hts _ bw_72) (fun _ h9 => h9) h2 d_Ch_serveOnce_70 ?_
      refine lv_dload_n hx hb d_Ch_serveOnce_73 rfl (lv_at hl 1 rfl) ?_
      obtain ⟨⟨fs, h1⟩, h⟩ := h
      have h9 := h
      clear h
      have hF := hW.free hS hA
      refine va_callv (va_runV (As := [.int v45, .double v46, .double l1b43]) (rest := []) ⟨hx, hb, hml, hown, hts⟩ (c_Ch_put _ h9) (cwV 3 hts (gi_V bw_472 bw_474 bs_7 bw_11 bw_475) rfl rfl rfl (by decide +kernel) ⟨Nat.le_of_ble_eq_true rfl, Nat.le_of_ble_eq_true rfl⟩) ⟨hI.blind, hw_recv hK hW h1 rfl, hI.give hW hS hA hK hZ0⟩ rfl rfl hl.1 rfl (lv_room (Nat.le_of_ble_eq_true rfl)) d_Ch_serveOnce_74 ⟨(show _ ≤ 2 by omega), (show _ ≤ 25 by omega)⟩) hS (fun q _ z => hF q z) hF (fun M47 t H locs ht _ h hB1 _ _ hS => ?_)
      have hW := hw_back hF ht hB1
      clear h9
      refine lv_aload_n hx hb d_Ch_serveOnce_77 rfl (lv_at hl 0 rfl) ?_
      refine lv_aload hx hb d_Ch_serveOnce_78 (lv_at hl 3 rfl) ?_
      refine lv_iconst (v := 1) hx hb d_Ch_serveOnce_80 (by decide) ?_
      obtain ⟨⟨fs, h1⟩, h⟩ := h
      have h9 := h
      clear h
      have hF := hW.free hS hA
      refine va_callv (va_runV (As := [.ref b38, .int 1]) (rest := []) ⟨hx, hb, hml, hown, hts⟩ (c_Ch_release _ h9) (cwV 2 hts (gi_V bw_779 bw_780 bw_781 bw_11 bw_782) rfl rfl rfl (by decide +kernel) ⟨Nat.le_of_ble_eq_true rfl, Nat.le_of_ble_eq_true rfl⟩) ⟨hI.blind, hw_recv hK hW h1 rfl, hI.give hW hS hA hK hZ0⟩ rfl rfl hl.1 rfl (lv_room (Nat.le_of_ble_eq_true rfl)) d_Ch_serveOnce_81 ⟨(show _ ≤ 2 by omega), (show _ ≤ 25 by omega)⟩) hS (fun q _ z => hF q z) hF (fun M48 t H locs ht _ h hB1 _ _ hS => ?_)
      have hW := hw_back hF ht hB1
      clear h9
      refine lv_iconst (v := 1) hx hb d_Ch_serveOnce_84 (by decide) ?_
      refine W.widen (k := 2) (n := 25) (by omega) (by omega) ?_
      exact W.zret hx hb hr (by decide) (fun t ht hWm => ⟨⟨_, _, rfl, h, hw_t ht hW⟩, hS.F ht⟩) hS.2.2 d_Ch_serveOnce_85
set_option maxHeartbeats 1000000 in
set_option maxRecDepth 20000 in
theorem l_Ch_serveOnce_e {p : Program} {l : Launch} {e : Env} {s : State} {m : MethodId} {args : Array Value} {below : List Frame} {meth : Method} {c : Code} {D : va_G} {ca G : Nat → Nat} {A : Nat → Prop} (C0 : hC p s m args meth c D ca G prog_2_method_15_code 5 (some .boolean) "ChannelHall$Channel" A) {post : Int32 → hM → Prop} {M : hM} {H : Heap} {locs : List Loc} {ls : Array Slot} {cells slots : Nat} (a0 : Nat) (x1 : UInt64) (hc : cells ≤ 0) (hs : slots ≤ 0) (h : wp_Ch_serveOnce G ca post M a0 x1) (hW : hw D wCl A M H) (hS : va_S A s.heap H locs) (hl : lv_has ls 5 [(0, .ref a0), (1, .double x1)]) : W p l e rm_Ch_serveOnce s m args below meth c H locs cells slots (MQ below (va_Qi post (fun M' t => hw D wCl A M' t.heap) A) args s 2 25 A) (F0 m 0 ls []) := by
  obtain ⟨hx, hb, hr, hml, hown, hts, hlocks, hK, hA, hZ0⟩ := id C0
  refine lv_aload_n hx hb d_Ch_serveOnce_0 rfl (lv_at hl 0 rfl) ?_
  refine va_gets (v := .ref (G 1)) hx hb (hZ0.2.1) hS hown (hts _ bw_395) (fun _ h9 => h9) d_Ch_serveOnce_1 ?_
  obtain ⟨⟨fs, h1⟩, h⟩ := h
  have h9 := h
  clear h
  have hF := hW.free hS hA
  refine va_callq (va_runV (As := [.ref (G 1)]) (rest := []) ⟨hx, hb, hml, hown, hts⟩ (c_Ch_firstWaiter _ h9) (cwV 1 hts (gi_V bw_372 bw_373 bw_374 bw_11 bw_375) rfl rfl rfl (by decide +kernel) ⟨Nat.le_of_ble_eq_true rfl, Nat.le_of_ble_eq_true rfl⟩) ⟨hI.blind, hw_recv hK hW h1 rfl, hI.give hW hS hA hK hZ0⟩ rfl rfl hl.1 rfl (lv_room (Nat.le_of_ble_eq_true rfl)) d_Ch_serveOnce_4 ⟨(show _ ≤ 2 by omega), (show _ ≤ 25 by omega)⟩) hS (fun q _ z => hF q z) hF (fun r49 M50 t H locs ht _ h hB1 _ _ hS => ?_)
  have hW := hw_back hF ht hB1
  clear h9
  refine lq_store_n (lv' := [(3, va_rf r49), (0, .ref a0), (1, .double x1)]) hx hb d_Ch_serveOnce_7 rfl hl (by decide) rfl (fun ls hl => ?_)
  refine lv_aload_n hx hb d_Ch_serveOnce_8 rfl (lv_at hl 1 rfl) ?_
  refine va_gets (v := .ref (G 0)) hx hb (hZ0.1) hS hown (hts _ bw_370) (fun _ h9 => h9) d_Ch_serveOnce_9 ?_
  obtain ⟨⟨fs, h1⟩, h⟩ := h
  have h9 := h
  clear h
  have hF := hW.free hS hA
  refine va_callq (va_runV (As := [.ref (G 0)]) (rest := []) ⟨hx, hb, hml, hown, hts⟩ (c_Ch_firstWaiter _ h9) (cwV 1 hts (gi_V bw_372 bw_373 bw_374 bw_11 bw_375) rfl rfl rfl (by decide +kernel) ⟨Nat.le_of_ble_eq_true rfl, Nat.le_of_ble_eq_true rfl⟩) ⟨hI.blind, hw_recv hK hW h1 rfl, hI.give hW hS hA hK hZ0⟩ rfl rfl hl.1 rfl (lv_room (Nat.le_of_ble_eq_true rfl)) d_Ch_serveOnce_12 ⟨(show _ ≤ 2 by omega), (show _ ≤ 25 by omega)⟩) hS (fun q _ z => hF q z) hF (fun r51 M52 t H locs ht _ h hB1 _ _ hS => ?_)
  have hW := hw_back hF ht hB1
  clear h9
  refine lq_store (lv' := [(4, va_rf r51), (3, va_rf r49), (0, .ref a0), (1, .double x1)]) hx hb d_Ch_serveOnce_15 hl (by decide) (by cases r49 <;> rfl) (fun ls hl => ?_)
  refine lq_load_n hx hb d_Ch_serveOnce_17 rfl (lv_at hl 1 rfl) ?_
  obtain ⟨h0, h1⟩ := h
  cases r49 with
  | none =>
    have h := h0 rfl
    refine lv_ifnullN (tgt := 43) hx hb d_Ch_serveOnce_18 (by decide) ?_
    exact l_Ch_serveOnce_43 C0 a0 x1 none r51 (by omega) (by omega) h hW hS (lv_sub hl [2, 3, 1, 0] rfl)
  | some b53 =>
    have h := h1 b53 rfl
    refine lv_ifnull hx hb d_Ch_serveOnce_18 ?_
    refine lv_aload_n hx hb d_Ch_serveOnce_21 rfl (lv_at hl 2 rfl) ?_
    refine lv_dload_n hx hb d_Ch_serveOnce_22 rfl (lv_at hl 3 rfl) ?_
    obtain ⟨⟨fs, h1⟩, h⟩ := h
    have h9 := h
    clear h
    have hF := hW.free hS hA
    refine va_calli (va_runV (As := [.double x1]) (rest := []) ⟨hx, hb, hml, hown, hts⟩ (c_Ch_isReady _ h9) (cwV 1 hts (gi_V bw_799 bw_800 bw_801 bw_11 bw_802) rfl rfl rfl (by decide +kernel) ⟨Nat.le_of_ble_eq_true rfl, Nat.le_of_ble_eq_true rfl⟩) ⟨hI.blind, hw_recv hK hW h1 rfl, hI.give hW hS hA hK hZ0⟩ rfl rfl hl.1 rfl (lv_room (Nat.le_of_ble_eq_true rfl)) d_Ch_serveOnce_23 ⟨(show _ ≤ 2 by omega), (show _ ≤ 25 by omega)⟩) hS (fun q _ z => hF q z) hF (fun r54 M55 t H locs ht _ h hB1 _ _ hS => ?_)
    have hW := hw_back hF ht hB1
    clear h9
    obtain ⟨h0, h1⟩ := h
    refine lv_if_eq (tgt := 43) hx hb d_Ch_serveOnce_26 (by decide) (fun c56 => ?_) (fun c56 => ?_)
    · have h := h0 c56
      exact l_Ch_serveOnce_43 C0 a0 x1 (some b53) r51 (by omega) (by omega) h hW hS (lv_sub hl [2, 3, 1, 0] rfl)
    · have h := h1 c56
      refine lv_aload_n hx hb d_Ch_serveOnce_29 rfl (lv_at hl 2 rfl) ?_
      refine lv_aload_n hx hb d_Ch_serveOnce_30 rfl (lv_at hl 1 rfl) ?_
      refine lv_dload_n hx hb d_Ch_serveOnce_31 rfl (lv_at hl 3 rfl) ?_
      obtain ⟨⟨fs, h1⟩, h⟩ := h
      have h9 := h
      clear h
      have hF := hW.free hS hA
      refine va_callv (va_runV (As := [.ref b53, .double x1]) (rest := []) ⟨hx, hb, hml, hown, hts⟩ (c_Ch_handFirst _ h9) (cwV 2 hts (gi_V bw_807 bw_809 bs_14 bw_11 bw_810) rfl rfl rfl (by decide +kernel) ⟨Nat.le_of_ble_eq_true rfl, Nat.le_of_ble_eq_true rfl⟩) ⟨hI.blind, hw_recv hK hW h1 rfl, hI.give hW hS hA hK hZ0⟩ rfl rfl hl.1 rfl (lv_room (Nat.le_of_ble_eq_true rfl)) d_Ch_serveOnce_32 ⟨(show _ ≤ 2 by omega), (show _ ≤ 25 by omega)⟩) hS (fun q _ z => hF q z) hF (fun M57 t H locs ht _ h hB1 _ _ hS => ?_)
      have hW := hw_back hF ht hB1
      clear h9
      refine lv_aload_n hx hb d_Ch_serveOnce_35 rfl (lv_at hl 2 rfl) ?_
      refine lv_aload_n hx hb d_Ch_serveOnce_36 rfl (lv_at hl 1 rfl) ?_
      refine lv_iconst (v := 1) hx hb d_Ch_serveOnce_37 (by decide) ?_
      obtain ⟨⟨fs, h1⟩, h⟩ := h
      have h9 := h
      clear h
      have hF := hW.free hS hA
      refine va_callv (va_runV (As := [.ref b53, .int 1]) (rest := []) ⟨hx, hb, hml, hown, hts⟩ (c_Ch_release _ h9) (cwV 2 hts (gi_V bw_779 bw_780 bw_781 bw_11 bw_782) rfl rfl rfl (by decide +kernel) ⟨Nat.le_of_ble_eq_true rfl, Nat.le_of_ble_eq_true rfl⟩) ⟨hI.blind, hw_recv hK hW h1 rfl, hI.give hW hS hA hK hZ0⟩ rfl rfl hl.1 rfl (lv_room (Nat.le_of_ble_eq_true rfl)) d_Ch_serveOnce_38 ⟨(show _ ≤ 2 by omega), (show _ ≤ 25 by omega)⟩) hS (fun q _ z => hF q z) hF (fun M58 t H locs ht _ h hB1 _ _ hS => ?_)
      have hW := hw_back hF ht hB1
      clear h9
      refine lv_iconst (v := 1) hx hb d_Ch_serveOnce_41 (by decide) ?_
      refine W.widen (k := 2) (n := 25) (by omega) (by omega) ?_
      exact W.zret hx hb hr (by decide) (fun t ht hWm => ⟨⟨_, _, rfl, h, hw_t ht hW⟩, hS.F ht⟩) hS.2.2 d_Ch_serveOnce_42
set_option maxRecDepth 20000 in
theorem c_Ch_serveOnce {l : Launch} {D : va_G} {ca G : Nat → Nat} (post : Int32 → hM → Prop) {M : hM} {sz : Nat} {a0 : Nat} {x1 : UInt64} (h : wp_Ch_serveOnce G ca post M a0 x1) : Met l y_Ch_serveOnce (wz y_Ch_serveOnce prog_2_method_15_code 5 (some .boolean)) rm_Ch_serveOnce (va_Pc [.ref a0, .double x1] (hI D ca G sz M)) (va_Qi post (hB D M sz) (hp_A M sz)) 2 25 (hp_A M sz) := by
  refine Met.ofW (cc := prog_2_method_15_code) (maxL := 5) (ret := some .boolean) (by decide) rfl ?_
  intro p e s m args below meth c s₁ B hml hv
  obtain ⟨rfl, hsz, hW, hK, hZ0⟩ := hv
  have hts := fun w hw => atoms_spec (ws := wz y_Ch_serveOnce prog_2_method_15_code 5 (some .boolean)) B.pre w (List.mem_cons_of_mem _ hw)
  have hown : s.vm.findClass "ChannelHall$Channel" = some m.cls := findClass_of_methodNamed B.named
  subst hsz
  have hl := lv_entry [.ref a0, .double x1] (n := 5) (Nat.le_of_ble_eq_true rfl)
  rw [lg_entry_eq]
  exact l_Ch_serveOnce_e ⟨B.exec, B.bytes, B.returns, hml, hown, hts, B.notSynchronized, hK, fun q h => Or.inr h, hZ0⟩ a0 x1 (Nat.zero_le _) (Nat.zero_le _) h hW va_S.rf hl

theorem d_Ch_serve_0 : decode prog_2_method_14_code 0 = .ok (.iconst 0, 1) := by decide +kernel
theorem d_Ch_serve_1 : decode prog_2_method_14_code 1 = .ok (.istore_n 3, 1) := by decide +kernel
theorem d_Ch_serve_2 : decode prog_2_method_14_code 2 = .ok (.iload_n 3, 1) := by decide +kernel
theorem d_Ch_serve_3 : decode prog_2_method_14_code 3 = .ok (.bipush 6, 2) := by decide +kernel
theorem d_Ch_serve_5 : decode prog_2_method_14_code 5 = .ok (.if_icmp .ge 18, 3) := by decide +kernel
theorem d_Ch_serve_8 : decode prog_2_method_14_code 8 = .ok (.aload_n 0, 1) := by decide +kernel
theorem d_Ch_serve_9 : decode prog_2_method_14_code 9 = .ok (.dload_n 1, 1) := by decide +kernel
theorem d_Ch_serve_10 : decode prog_2_method_14_code 10 = .ok (.invokevirtual 111, 3) := by decide +kernel
theorem d_Ch_serve_13 : decode prog_2_method_14_code 13 = .ok (.ifCond .ne 4, 3) := by decide +kernel
theorem d_Ch_serve_16 : decode prog_2_method_14_code 16 = .ok (.return_, 1) := by decide +kernel
theorem d_Ch_serve_17 : decode prog_2_method_14_code 17 = .ok (.iinc 3 1, 3) := by decide +kernel
theorem d_Ch_serve_20 : decode prog_2_method_14_code 20 = .ok (.goto (-18), 3) := by decide +kernel
theorem d_Ch_serve_23 : decode prog_2_method_14_code 23 = .ok (.return_, 1) := by decide +kernel
def y_Ch_serve : MethodName := ⟨"ChannelHall$Channel", "serve", "(D)V"⟩
abbrev rm_Ch_serve : Room := { frames := 8, cells := 12, slots := 150, locals := 201 }
def wp_Ch_serve_2 (G ca : Nat → Nat) (post : hM → Prop) : Nat → hM → Nat → UInt64 → Int32 → Prop
  | 0, _, _, _, _ => False
  | n + 1, M, l0b2, l1b2, l3b2 => (6 ≤ l3b2 → post M) ∧ (¬ 6 ≤ l3b2 → 0 < n ∧ rC M l0b2 0 (wp_Ch_serveOnce G ca (fun r6 M7 => (¬ r6 = 0 → (wp_Ch_serve_2 G ca post n) M7 l0b2 l1b2 (l3b2 + 1)) ∧ (r6 = 0 → post M7)) M l0b2 l1b2))
def wp_Ch_serve (G ca : Nat → Nat) (post : hM → Prop) (M : hM) (a0 : Nat) (x1 : UInt64) : Prop := ∃ n, n ≤ 7 ∧ wp_Ch_serve_2 G ca post n M a0 x1 0
set_option maxHeartbeats 1000000 in
set_option maxRecDepth 20000 in
theorem l_Ch_serve_2 {p : Program} {l : Launch} {e : Env} {s : State} {m : MethodId} {args : Array Value} {below : List Frame} {meth : Method} {c : Code} {D : va_G} {ca G : Nat → Nat} {A : Nat → Prop} (C0 : hC p s m args meth c D ca G prog_2_method_14_code 4 (none) "ChannelHall$Channel" A) {post : hM → Prop} : ∀ (n : Nat) {M : hM} {H : Heap} {locs : List Loc} {ls : Array Slot} {cells slots : Nat} (l0b2 : Nat) (l1b2 : UInt64) (l3b2 : Int32) (hc : cells + n * 2 ≤ 14) (hs : slots + n * 25 ≤ 175) (h : wp_Ch_serve_2 G ca post n M l0b2 l1b2 l3b2) (hW : hw D wCl A M H) (hS : va_S A s.heap H locs) (hl : lv_has ls 4 [(0, .ref l0b2), (1, .double l1b2), (3, .int l3b2)]), W p l e rm_Ch_serve s m args below meth c H locs cells slots (MQ below (va_Qv post (fun M' t => hw D wCl A M' t.heap) A) args s 12 150 A) (F0 m 2 ls []) := by
  obtain ⟨hx, hb, hr, hml, hown, hts, hlocks, hK, hA, hZ0⟩ := id C0
  intro n
  induction n with
  | zero =>
    intro M H locs ls cells slots l0b2 l1b2 l3b2 hc hs h
    exact False.elim h
  | succ n ih =>
    intro M H locs ls cells slots l0b2 l1b2 l3b2 hc hs h hW hS hl
    have hk_2 := fun M H locs ls cells slots l0b2 l1b2 l3b2 hc hs h hW hS hl => @ih M H locs ls cells slots l0b2 l1b2 l3b2 hc hs h hW hS hl
    refine lv_iload_n hx hb d_Ch_serve_2 rfl (lv_at hl 2 rfl) ?_
    refine lv_bipush (v := 6) hx hb d_Ch_serve_3 (by decide) ?_
    obtain ⟨h0, h1⟩ := h
    refine lv_icmp_ge (tgt := 23) hx hb d_Ch_serve_5 (by decide) (fun c5 => ?_) (fun c5 => ?_)
    · have h := h0 c5
      refine W.widen (k := 12) (n := 150) (by omega) (by omega) ?_
      exact W.vret hx hb hr (fun t ht hWm => ⟨⟨_, rfl, h, hw_t ht hW⟩, hS.F ht⟩) hS.2.2 d_Ch_serve_23
    · have h := h1 c5
      obtain ⟨hn_2, h⟩ := h
      refine lv_aload_n hx hb d_Ch_serve_8 rfl (lv_at hl 0 rfl) ?_
      refine lv_dload_n hx hb d_Ch_serve_9 rfl (lv_at hl 1 rfl) ?_
      obtain ⟨⟨fs, h1⟩, h⟩ := h
      have h9 := h
      clear h
      have hF := hW.free hS hA
      refine va_calli (va_runV (As := [.double l1b2]) (rest := []) ⟨hx, hb, hml, hown, hts⟩ (c_Ch_serveOnce _ h9) (cwV 1 hts (gi_V bw_795 bw_797 bs_13 bw_11 bw_798) rfl rfl rfl (by decide +kernel) ⟨Nat.le_of_ble_eq_true rfl, Nat.le_of_ble_eq_true rfl⟩) ⟨hI.blind, hw_recv hK hW h1 rfl, hI.give hW hS hA hK hZ0⟩ rfl rfl hl.1 rfl (lv_room (Nat.le_of_ble_eq_true rfl)) d_Ch_serve_10 ⟨(show _ ≤ 12 by omega), (show _ ≤ 150 by omega)⟩) hS (fun q _ z => hF q z) hF (fun r6 M7 t H locs ht _ h hB1 _ _ hS => ?_)
      have hW := hw_back hF ht hB1
      clear h9
      obtain ⟨h0, h1⟩ := h
      refine lv_if_ne (tgt := 17) hx hb d_Ch_serve_13 (by decide) (fun c8 => ?_) (fun c8 => ?_)
      · have h := h0 c8
        refine lv_iinc (v := l3b2 + 1) (lv' := [(3, .int (l3b2 + 1)), (0, .ref l0b2), (1, .double l1b2)]) hx hb d_Ch_serve_17 hl (k := 2) rfl rfl (by decide) rfl (fun ls hl => ?_)
        refine lv_goto (tgt := 2) hx hb d_Ch_serve_20 (by decide) ?_
        exact hk_2 _ _ _ _ _ _ l0b2 l1b2 (l3b2 + 1) (by omega) (by omega) h hW hS (lv_sub hl [1, 2, 0] rfl)
      · have h := h1 c8
        refine W.widen (k := 12) (n := 150) (by omega) (by omega) ?_
        exact W.vret hx hb hr (fun t ht hWm => ⟨⟨_, rfl, h, hw_t ht hW⟩, hS.F ht⟩) hS.2.2 d_Ch_serve_16
set_option maxHeartbeats 1000000 in
set_option maxRecDepth 20000 in
theorem l_Ch_serve_e {p : Program} {l : Launch} {e : Env} {s : State} {m : MethodId} {args : Array Value} {below : List Frame} {meth : Method} {c : Code} {D : va_G} {ca G : Nat → Nat} {A : Nat → Prop} (C0 : hC p s m args meth c D ca G prog_2_method_14_code 4 (none) "ChannelHall$Channel" A) {post : hM → Prop} {M : hM} {H : Heap} {locs : List Loc} {ls : Array Slot} {cells slots : Nat} (a0 : Nat) (x1 : UInt64) (hc : cells ≤ 0) (hs : slots ≤ 0) (h : wp_Ch_serve G ca post M a0 x1) (hW : hw D wCl A M H) (hS : va_S A s.heap H locs) (hl : lv_has ls 4 [(0, .ref a0), (1, .double x1)]) : W p l e rm_Ch_serve s m args below meth c H locs cells slots (MQ below (va_Qv post (fun M' t => hw D wCl A M' t.heap) A) args s 12 150 A) (F0 m 0 ls []) := by
  obtain ⟨hx, hb, hr, hml, hown, hts, hlocks, hK, hA, hZ0⟩ := id C0
  refine lv_iconst (v := 0) hx hb d_Ch_serve_0 (by decide) ?_
  refine lv_istore_n (lv' := [(3, .int 0), (0, .ref a0), (1, .double x1)]) hx hb d_Ch_serve_1 rfl hl (by decide) rfl (fun ls hl => ?_)
  obtain ⟨n, hn0, h⟩ := h
  exact l_Ch_serve_2 C0 n a0 x1 0 (by omega) (by omega) h hW hS (lv_sub hl [1, 2, 0] rfl)
set_option maxRecDepth 20000 in
theorem c_Ch_serve {l : Launch} {D : va_G} {ca G : Nat → Nat} (post : hM → Prop) {M : hM} {sz : Nat} {a0 : Nat} {x1 : UInt64} (h : wp_Ch_serve G ca post M a0 x1) : Met l y_Ch_serve (wz y_Ch_serve prog_2_method_14_code 4 (none)) rm_Ch_serve (va_Pc [.ref a0, .double x1] (hI D ca G sz M)) (va_Qv post (hB D M sz) (hp_A M sz)) 12 150 (hp_A M sz) := by
  refine Met.ofW (cc := prog_2_method_14_code) (maxL := 4) (ret := none) (by decide) rfl ?_
  intro p e s m args below meth c s₁ B hml hv
  obtain ⟨rfl, hsz, hW, hK, hZ0⟩ := hv
  have hts := fun w hw => atoms_spec (ws := wz y_Ch_serve prog_2_method_14_code 4 (none)) B.pre w (List.mem_cons_of_mem _ hw)
  have hown : s.vm.findClass "ChannelHall$Channel" = some m.cls := findClass_of_methodNamed B.named
  subst hsz
  have hl := lv_entry [.ref a0, .double x1] (n := 4) (Nat.le_of_ble_eq_true rfl)
  rw [lg_entry_eq]
  exact l_Ch_serve_e ⟨B.exec, B.bytes, B.returns, hml, hown, hts, B.notSynchronized, hK, fun q h => Or.inr h, hZ0⟩ a0 x1 (Nat.zero_le _) (Nat.zero_le _) h hW va_S.rf hl

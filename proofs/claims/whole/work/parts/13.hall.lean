theorem xg_Ha_IllegalArgumentException : ∀ w ∈ (vx_at0 "ChannelHall" 235 "java/lang/IllegalArgumentException" ["java/lang/RuntimeException", "java/lang/Exception"]).filter goodWord, w ∈ lw_tbl := by decide +kernel
theorem xn_Ha_IllegalArgumentException : ∀ w ∈ (vx_at0 "ChannelHall" 235 "java/lang/IllegalArgumentException" ["java/lang/RuntimeException", "java/lang/Exception"]).filter (fun w => !goodWord w), w ∈ NG.filter (fun w => w.onTables) := by decide +kernel
theorem xo_Ha_IllegalArgumentException : ∀ w ∈ Cond.classLink "ChannelHall" 233 "java/lang/IllegalArgumentException" :: Cond.initialized "java/lang/IllegalArgumentException" :: vx_at0 "ChannelHall" 235 "java/lang/IllegalArgumentException" ["java/lang/RuntimeException", "java/lang/Exception"], vx_ot w = true := by decide +kernel
theorem xg_Ha_UnsupportedOperationException : ∀ w ∈ (vx_at0 "ChannelHall" 238 "java/lang/UnsupportedOperationException" ["java/lang/RuntimeException", "java/lang/Exception"]).filter goodWord, w ∈ lw_tbl := by decide +kernel
theorem xn_Ha_UnsupportedOperationException : ∀ w ∈ (vx_at0 "ChannelHall" 238 "java/lang/UnsupportedOperationException" ["java/lang/RuntimeException", "java/lang/Exception"]).filter (fun w => !goodWord w), w ∈ NG.filter (fun w => w.onTables) := by decide +kernel
theorem xo_Ha_UnsupportedOperationException : ∀ w ∈ Cond.classLink "ChannelHall" 236 "java/lang/UnsupportedOperationException" :: Cond.initialized "java/lang/UnsupportedOperationException" :: vx_at0 "ChannelHall" 238 "java/lang/UnsupportedOperationException" ["java/lang/RuntimeException", "java/lang/Exception"], vx_ot w = true := by decide +kernel
theorem xg_Ha_NoSuchElementException : ∀ w ∈ (vx_at0 "ChannelHall" 199 "java/util/NoSuchElementException" ["java/lang/RuntimeException", "java/lang/Exception"]).filter goodWord, w ∈ lw_tbl := by decide +kernel
theorem xn_Ha_NoSuchElementException : ∀ w ∈ (vx_at0 "ChannelHall" 199 "java/util/NoSuchElementException" ["java/lang/RuntimeException", "java/lang/Exception"]).filter (fun w => !goodWord w), w ∈ NG.filter (fun w => w.onTables) := by decide +kernel
theorem xo_Ha_NoSuchElementException : ∀ w ∈ Cond.classLink "ChannelHall" 197 "java/util/NoSuchElementException" :: Cond.initialized "java/util/NoSuchElementException" :: vx_at0 "ChannelHall" 199 "java/util/NoSuchElementException" ["java/lang/RuntimeException", "java/lang/Exception"], vx_ot w = true := by decide +kernel
theorem xg_Ha_IllegalStateException : ∀ w ∈ (vx_at0 "ChannelHall" 46 "java/lang/IllegalStateException" ["java/lang/RuntimeException", "java/lang/Exception"]).filter goodWord, w ∈ lw_tbl := by decide +kernel
theorem xn_Ha_IllegalStateException : ∀ w ∈ (vx_at0 "ChannelHall" 46 "java/lang/IllegalStateException" ["java/lang/RuntimeException", "java/lang/Exception"]).filter (fun w => !goodWord w), w ∈ NG.filter (fun w => w.onTables) := by decide +kernel
theorem xo_Ha_IllegalStateException : ∀ w ∈ Cond.classLink "ChannelHall" 44 "java/lang/IllegalStateException" :: Cond.initialized "java/lang/IllegalStateException" :: vx_at0 "ChannelHall" 46 "java/lang/IllegalStateException" ["java/lang/RuntimeException", "java/lang/Exception"], vx_ot w = true := by decide +kernel
theorem xg_Ha_ArithmeticException : ∀ w ∈ (vx_at0 "ChannelHall" 148 "java/lang/ArithmeticException" ["java/lang/RuntimeException", "java/lang/Exception"]).filter goodWord, w ∈ lw_tbl := by decide +kernel
theorem xn_Ha_ArithmeticException : ∀ w ∈ (vx_at0 "ChannelHall" 148 "java/lang/ArithmeticException" ["java/lang/RuntimeException", "java/lang/Exception"]).filter (fun w => !goodWord w), w ∈ NG.filter (fun w => w.onTables) := by decide +kernel
theorem xo_Ha_ArithmeticException : ∀ w ∈ Cond.classLink "ChannelHall" 146 "java/lang/ArithmeticException" :: Cond.initialized "java/lang/ArithmeticException" :: vx_at0 "ChannelHall" 148 "java/lang/ArithmeticException" ["java/lang/RuntimeException", "java/lang/Exception"], vx_ot w = true := by decide +kernel
theorem xg_Ha_IndexOutOfBoundsException : ∀ w ∈ (vx_at0 "ChannelHall" 217 "java/lang/IndexOutOfBoundsException" ["java/lang/RuntimeException", "java/lang/Exception"]).filter goodWord, w ∈ lw_tbl := by decide +kernel
theorem xn_Ha_IndexOutOfBoundsException : ∀ w ∈ (vx_at0 "ChannelHall" 217 "java/lang/IndexOutOfBoundsException" ["java/lang/RuntimeException", "java/lang/Exception"]).filter (fun w => !goodWord w), w ∈ NG.filter (fun w => w.onTables) := by decide +kernel
theorem xo_Ha_IndexOutOfBoundsException : ∀ w ∈ Cond.classLink "ChannelHall" 215 "java/lang/IndexOutOfBoundsException" :: Cond.initialized "java/lang/IndexOutOfBoundsException" :: vx_at0 "ChannelHall" 217 "java/lang/IndexOutOfBoundsException" ["java/lang/RuntimeException", "java/lang/Exception"], vx_ot w = true := by decide +kernel
theorem d_Ha_init_0 : decode prog_1_method_1_code 0 = .ok (.aload_n 0, 1) := by decide +kernel
theorem d_Ha_init_1 : decode prog_1_method_1_code 1 = .ok (.invokespecial 1, 3) := by decide +kernel
theorem d_Ha_init_4 : decode prog_1_method_1_code 4 = .ok (.aload_n 0, 1) := by decide +kernel
theorem d_Ha_init_5 : decode prog_1_method_1_code 5 = .ok (.bipush 6, 2) := by decide +kernel
theorem d_Ha_init_7 : decode prog_1_method_1_code 7 = .ok (.anewarray 9, 3) := by decide +kernel
theorem d_Ha_init_10 : decode prog_1_method_1_code 10 = .ok (.putfield 11, 3) := by decide +kernel
theorem d_Ha_init_13 : decode prog_1_method_1_code 13 = .ok (.aload_n 0, 1) := by decide +kernel
theorem d_Ha_init_14 : decode prog_1_method_1_code 14 = .ok (.bipush 8, 2) := by decide +kernel
theorem d_Ha_init_16 : decode prog_1_method_1_code 16 = .ok (.anewarray 15, 3) := by decide +kernel
theorem d_Ha_init_19 : decode prog_1_method_1_code 19 = .ok (.putfield 17, 3) := by decide +kernel
theorem d_Ha_init_22 : decode prog_1_method_1_code 22 = .ok (.aload_n 0, 1) := by decide +kernel
theorem d_Ha_init_23 : decode prog_1_method_1_code 23 = .ok (.iconst 0, 1) := by decide +kernel
theorem d_Ha_init_24 : decode prog_1_method_1_code 24 = .ok (.putfield 21, 3) := by decide +kernel
theorem d_Ha_init_27 : decode prog_1_method_1_code 27 = .ok (.aload_n 0, 1) := by decide +kernel
theorem d_Ha_init_28 : decode prog_1_method_1_code 28 = .ok (.dconst 0, 1) := by decide +kernel
theorem d_Ha_init_29 : decode prog_1_method_1_code 29 = .ok (.putfield 25, 3) := by decide +kernel
theorem d_Ha_init_32 : decode prog_1_method_1_code 32 = .ok (.iconst 0, 1) := by decide +kernel
theorem d_Ha_init_33 : decode prog_1_method_1_code 33 = .ok (.istore_n 1, 1) := by decide +kernel
theorem d_Ha_init_34 : decode prog_1_method_1_code 34 = .ok (.iload_n 1, 1) := by decide +kernel
theorem d_Ha_init_35 : decode prog_1_method_1_code 35 = .ok (.bipush 6, 2) := by decide +kernel
theorem d_Ha_init_37 : decode prog_1_method_1_code 37 = .ok (.if_icmp .ge 23, 3) := by decide +kernel
theorem d_Ha_init_40 : decode prog_1_method_1_code 40 = .ok (.aload_n 0, 1) := by decide +kernel
theorem d_Ha_init_41 : decode prog_1_method_1_code 41 = .ok (.getfield 11, 3) := by decide +kernel
theorem d_Ha_init_44 : decode prog_1_method_1_code 44 = .ok (.iload_n 1, 1) := by decide +kernel
theorem d_Ha_init_45 : decode prog_1_method_1_code 45 = .ok (.new 9, 3) := by decide +kernel
theorem d_Ha_init_48 : decode prog_1_method_1_code 48 = .ok (.dup, 1) := by decide +kernel
theorem d_Ha_init_49 : decode prog_1_method_1_code 49 = .ok (.iload_n 1, 1) := by decide +kernel
theorem d_Ha_init_50 : decode prog_1_method_1_code 50 = .ok (.invokespecial 29, 3) := by decide +kernel
theorem d_Ha_init_53 : decode prog_1_method_1_code 53 = .ok (.aastore, 1) := by decide +kernel
theorem d_Ha_init_54 : decode prog_1_method_1_code 54 = .ok (.iinc 1 1, 3) := by decide +kernel
theorem d_Ha_init_57 : decode prog_1_method_1_code 57 = .ok (.goto (-23), 3) := by decide +kernel
theorem d_Ha_init_60 : decode prog_1_method_1_code 60 = .ok (.return_, 1) := by decide +kernel
def y_Ha_init : MethodName := ⟨"ChannelHall", "<init>", "()V"⟩
abbrev rm_Ha_init : Room := { frames := 2, cells := 8, slots := 80, locals := 33 }
def wp_Ha_init_34 (G ca : Nat → Nat) (post : hM → Prop) : Nat → hM → Nat → Int32 → Prop
  | 0, _, _, _ => False
  | n + 1, M, l0b34, l1b34 => (6 ≤ l1b34 → post M) ∧ (¬ 6 ≤ l1b34 → 0 < n ∧ gR M l0b34 3 0 fun v17 => nO M (.inr (2, [.int 0, .int 0, .int 0, .int 0, .int 0, .null, .null, .int 0, .double FP.dconst0, .int 0, .double FP.dconst0])) fun q18 M19 => wp_Wo_init G ca (fun M20 => nN v17 fun b21 => sR M20 b21 (ca 0) l1b34 (some q18) (fun z => z = 2) fun M22 => (wp_Ha_init_34 G ca post n) M22 l0b34 (l1b34 + 1)) M19 q18 l1b34)
def wp_Ha_init (G ca : Nat → Nat) (post : hM → Prop) (M : hM) (a0 : Nat) : Prop := nA M 6 6 (fun N => .inl (ca 0, N, .inr (.inr (.inr (.inr (fun _ => none)))))) fun q23 M24 => pF M24 a0 3 0 (.ref q23) fun M25 => nA M25 8 8 (fun N => .inl (ca 1, N, .inr (.inr (.inr (.inr (fun _ => none)))))) fun q26 M27 => pF M27 a0 3 1 (.ref q26) fun M28 => pF M28 a0 3 2 (.int 0) fun M29 => pF M29 a0 3 3 (.double FP.dconst0) fun M30 => ∃ n, n ≤ 7 ∧ wp_Ha_init_34 G ca post n M30 a0 0
set_option maxHeartbeats 1000000 in
set_option maxRecDepth 20000 in
theorem l_Ha_init_34 {p : Program} {l : Launch} {e : Env} {s : State} {m : MethodId} {args : Array Value} {below : List Frame} {meth : Method} {c : Code} {D : va_G} {ca G : Nat → Nat} {A : Nat → Prop} (C0 : hC p s m args meth c D ca G prog_1_method_1_code 2 (none) "ChannelHall" A) (hin : meth.name = "<init>") {post : hM → Prop} : ∀ (n : Nat) {M : hM} {H : Heap} {locs : List Loc} {ls : Array Slot} {cells slots : Nat} (l0b34 : Nat) (l1b34 : Int32) (hc : cells + n * 1 ≤ 9) (hs : slots + n * 11 ≤ 91) (h : wp_Ha_init_34 G ca post n M l0b34 l1b34) (hW : hw D wCl A M H) (hS : va_S A s.heap H locs) (hl : lv_has ls 2 [(0, .ref l0b34), (1, .int l1b34)]), W p l e rm_Ha_init s m args below meth c H locs cells slots (MQ below (va_Qv post (fun M' t => hw D wCl A M' t.heap) A) args s 8 80 A) (F0 m 34 ls []) := by
  obtain ⟨hx, hb, hr, hml, hown, hts, hlocks, hK, hA, hZ0⟩ := id C0
  intro n
  induction n with
  | zero =>
    intro M H locs ls cells slots l0b34 l1b34 hc hs h
    exact False.elim h
  | succ n ih =>
    intro M H locs ls cells slots l0b34 l1b34 hc hs h hW hS hl
    have hk_18 := fun M H locs ls cells slots l0b34 l1b34 hc hs h hW hS hl => @ih M H locs ls cells slots l0b34 l1b34 hc hs h hW hS hl
    refine lv_iload_n hx hb d_Ha_init_34 rfl (lv_at hl 1 rfl) ?_
    refine lv_bipush (v := 6) hx hb d_Ha_init_35 (by decide) ?_
    obtain ⟨h0, h1⟩ := h
    refine lv_icmp_ge (tgt := 60) hx hb d_Ha_init_37 (by decide) (fun c16 => ?_) (fun c16 => ?_)
    · have h := h0 c16
      refine W.widen (k := 8) (n := 80) (by omega) (by omega) ?_
      exact W.vret hx hb hr (fun t ht hWm => ⟨⟨_, rfl, h, hw_t ht hW⟩, hS.F ht⟩) hS.2.2 d_Ha_init_60
    · have h := h1 c16
      obtain ⟨hn_18, h⟩ := h
      refine lv_aload_n hx hb d_Ha_init_40 rfl (lv_at hl 0 rfl) ?_
      obtain ⟨fs, v17, h1, h2, h⟩ := h
      refine va_get (D := D) (ci := 3) (v := va_rf v17) (C := "ChannelHall") (T := THa) (N := 4) hx hb hts uHa hown hK (hw_one hW h1) 0 rfl rfl 0 (by decide) (hts _ bw_100) (fun _ h9 => h9) h2 d_Ha_init_41 ?_
      refine lv_iload_n hx hb d_Ha_init_44 rfl (lv_at hl 1 rfl) ?_
      obtain ⟨ws, hP, hD, hmake⟩ := hw_make hW
      refine va_new (ci := 2) (fs := [.int 0, .int 0, .int 0, .int 0, .int 0, .null, .null, .int 0, .double FP.dconst0, .int 0, .double FP.dconst0]) (C := "ChannelHall$Worker") (T := TWo) (N := 11) hx hb hts uWo tWo tWo_ok hown (hts _ bw_40) (hts _ bw_44) (hts _ bw_2) hK hP hD hS hA rfl (by decide) (show _ ≤ 8 by omega) (show _ ≤ 80 by omega) d_Ha_init_45 (fun q18 H hP hD hS => ?_)
      obtain ⟨hfr, hW⟩ := hmake _ _ _ hP hD
      replace h := h q18 hfr
      generalize va_up M q18 _ = M19 at h hW
      refine lv_dup hx hb d_Ha_init_48 rfl ?_
      refine lv_iload_n hx hb d_Ha_init_49 rfl (lv_at hl 1 rfl) ?_
      have h9 := h
      clear h
      have hF := hW.free hS hA
      refine va_callv (va_runI (As := [.int l1b34]) (rest := [.ref q18, .int l1b34, va_rf v17]) ⟨hx, hb, hml, hown, hts⟩ (c_Wo_init _ h9) (cwI 1 hts (gi_z bw_47) rfl rfl rfl (hts _ bw_2) (hts _ bw_45) (hts _ bw_46) rfl (by decide +kernel) ⟨Nat.le_of_ble_eq_true rfl, Nat.le_of_ble_eq_true rfl⟩) ⟨hI.blind, hI.give hW hS hA hK hZ0⟩ rfl rfl hl.1 rfl (lv_room (by cases v17 <;> exact Nat.le_of_ble_eq_true rfl)) d_Ha_init_50 ⟨(show _ ≤ 8 by omega), (show _ ≤ 80 by omega)⟩) hS (fun q _ z => hF q z) hF (fun M20 t H locs ht _ h hB1 _ _ hS => ?_)
      have hW := hw_back hF ht hB1
      clear h9
      obtain ⟨b21, rfl, h⟩ := h
      have h9 := h
      clear h
      refine hq_ast 0 2 (r := (some q18)) hx hb hK hW hS h9 rfl rfl d_Ha_init_53 (fun M22 H locs h hW hS => ?_)
      clear h9
      refine lv_iinc (v := l1b34 + 1) (lv' := [(1, .int (l1b34 + 1)), (0, .ref l0b34)]) hx hb d_Ha_init_54 hl (k := 1) rfl rfl (by decide) rfl (fun ls hl => ?_)
      refine lv_goto (tgt := 34) hx hb d_Ha_init_57 (by decide) ?_
      exact hk_18 _ _ _ _ _ _ l0b34 (l1b34 + 1) (by omega) (by omega) h hW hS (lv_sub hl [1, 0] rfl)
set_option maxHeartbeats 1000000 in
set_option maxRecDepth 20000 in
theorem l_Ha_init_e {p : Program} {l : Launch} {e : Env} {s : State} {m : MethodId} {args : Array Value} {below : List Frame} {meth : Method} {c : Code} {D : va_G} {ca G : Nat → Nat} {A : Nat → Prop} (C0 : hC p s m args meth c D ca G prog_1_method_1_code 2 (none) "ChannelHall" A) (hin : meth.name = "<init>") {post : hM → Prop} {M : hM} {H : Heap} {locs : List Loc} {ls : Array Slot} {cells slots : Nat} (a0 : Nat) (hc : cells ≤ 0) (hs : slots ≤ 0) (h : wp_Ha_init G ca post M a0) (hW : hw D wCl A M H) (hS : va_S A s.heap H locs) (hl : lv_has ls 2 [(0, .ref a0)]) : W p l e rm_Ha_init s m args below meth c H locs cells slots (MQ below (va_Qv post (fun M' t => hw D wCl A M' t.heap) A) args s 8 80 A) (F0 m 0 ls []) := by
  obtain ⟨hx, hb, hr, hml, hown, hts, hlocks, hK, hA, hZ0⟩ := id C0
  refine lv_aload_n hx hb d_Ha_init_0 rfl (lv_at hl 0 rfl) ?_
  refine W.objInit (rest := []) hx hb hown (hts _ bw_37) (hts _ bw_38) (hts _ bw_39) rfl (hl.1.trans hml.symm) rfl d_Ha_init_1 (Nat.le_of_ble_eq_true rfl) (Nat.le_of_ble_eq_true rfl) ?_
  refine W.eq (g2 := F0 m 4 ls []) rfl ?_
  refine lv_aload_n hx hb d_Ha_init_4 rfl (lv_at hl 0 rfl) ?_
  refine lv_bipush (v := 6) hx hb d_Ha_init_5 (by decide) ?_
  have h9 := h
  clear h
  refine hq_newq 0 6 (C := "ChannelHall$Worker") hx hb hown (hts _ bw_40) (hZ0.2.2.2.2.2.2.1 _ (by decide)) hK hW hS hA h9 rfl (by decide) (show _ ≤ 8 by omega) (show _ ≤ 80 by omega) d_Ha_init_7 (fun q23 M24 H h hW hS => ?_)
  clear h9
  obtain ⟨fs, h1, h2, h⟩ := h
  obtain ⟨ws, q0, hq, hP, hD, hback, -⟩ := hw_open hW h1
  refine va_putF (D := D) (ci := 3) (v := .ref q23) (ty := .array (.object "ChannelHall$Worker")) (C := "ChannelHall") (T := THa) (N := 4) hx hb hts uHa tHa tHa_ok nHa hown hK hP hD hS q0 hq rfl 0 (by decide) (hts _ bw_100) (fun _ h9 => h9) rfl hin rfl (by decide +kernel) rfl rfl h2 d_Ha_init_10 (fun H locs hP hD hS => ?_)
  have hW := hback _ _ hP hD
  generalize (va_up M24 a0 (some (.inr (3, fs.set 0 (.ref q23))))) = M25 at h hW
  refine lv_aload_n hx hb d_Ha_init_13 rfl (lv_at hl 0 rfl) ?_
  refine lv_bipush (v := 8) hx hb d_Ha_init_14 (by decide) ?_
  have h9 := h
  clear h
  refine hq_newq 1 8 (C := "ChannelHall$Channel") hx hb hown (hts _ bw_42) (hZ0.2.2.2.2.2.2.1 _ (by decide)) hK hW hS hA h9 rfl (by decide) (show _ ≤ 8 by omega) (show _ ≤ 80 by omega) d_Ha_init_16 (fun q26 M27 H h hW hS => ?_)
  clear h9
  obtain ⟨fs, h1, h2, h⟩ := h
  obtain ⟨ws, q0, hq, hP, hD, hback, -⟩ := hw_open hW h1
  refine va_putF (D := D) (ci := 3) (v := .ref q26) (ty := .array (.object "ChannelHall$Channel")) (C := "ChannelHall") (T := THa) (N := 4) hx hb hts uHa tHa tHa_ok nHa hown hK hP hD hS q0 hq rfl 1 (by decide) (hts _ bw_101) (fun _ h9 => h9) rfl hin rfl (by decide +kernel) rfl rfl h2 d_Ha_init_19 (fun H locs hP hD hS => ?_)
  have hW := hback _ _ hP hD
  generalize (va_up M27 a0 (some (.inr (3, fs.set 1 (.ref q26))))) = M28 at h hW
  refine lv_aload_n hx hb d_Ha_init_22 rfl (lv_at hl 0 rfl) ?_
  refine lv_iconst (v := 0) hx hb d_Ha_init_23 (by decide) ?_
  obtain ⟨fs, h1, h2, h⟩ := h
  obtain ⟨ws, q0, hq, hP, hD, hback, -⟩ := hw_open hW h1
  refine va_put (D := D) (ci := 3) (v := .int 0) (ty := .int) (C := "ChannelHall") (T := THa) (N := 4) hx hb hts uHa tHa tHa_ok nHa hown hK hP hD hS q0 hq rfl 2 (by decide) (hts _ bw_102) (fun _ h9 => h9) rfl (by decide +kernel) rfl rfl h2 d_Ha_init_24 (fun H locs hP hD hS => ?_)
  have hW := hback _ _ hP hD
  generalize (va_up M28 a0 (some (.inr (3, fs.set 2 (.int 0))))) = M29 at h hW
  refine lv_aload_n hx hb d_Ha_init_27 rfl (lv_at hl 0 rfl) ?_
  refine lv_dconst0 hx hb d_Ha_init_28 ?_
  obtain ⟨fs, h1, h2, h⟩ := h
  obtain ⟨ws, q0, hq, hP, hD, hback, -⟩ := hw_open hW h1
  refine va_put (D := D) (ci := 3) (v := .double FP.dconst0) (ty := .double) (C := "ChannelHall") (T := THa) (N := 4) hx hb hts uHa tHa tHa_ok nHa hown hK hP hD hS q0 hq rfl 3 (by decide) (hts _ bw_103) (fun _ h9 => h9) rfl (by decide +kernel) rfl rfl h2 d_Ha_init_29 (fun H locs hP hD hS => ?_)
  have hW := hback _ _ hP hD
  generalize (va_up M29 a0 (some (.inr (3, fs.set 3 (.double FP.dconst0))))) = M30 at h hW
  refine lv_iconst (v := 0) hx hb d_Ha_init_32 (by decide) ?_
  refine lv_istore_n (lv' := [(1, .int 0), (0, .ref a0)]) hx hb d_Ha_init_33 rfl hl (by decide) rfl (fun ls hl => ?_)
  obtain ⟨n, hn0, h⟩ := h
  exact l_Ha_init_34 C0 hin n a0 0 (by omega) (by omega) h hW hS (lv_sub hl [1, 0] rfl)
set_option maxRecDepth 20000 in
theorem c_Ha_init {l : Launch} {D : va_G} {ca G : Nat → Nat} (post : hM → Prop) {M : hM} {sz : Nat} {a0 : Nat} (h : wp_Ha_init G ca post M a0) : Met l y_Ha_init (wz y_Ha_init prog_1_method_1_code 2 (none)) rm_Ha_init (va_Pc [.ref a0] (hI D ca G sz M)) (va_Qv post (hB D M sz) (hp_A M sz)) 8 80 (hp_A M sz) := by
  refine Met.ofW (cc := prog_1_method_1_code) (maxL := 2) (ret := none) (by decide) rfl ?_
  intro p e s m args below meth c s₁ B hml hv
  obtain ⟨rfl, hsz, hW, hK, hZ0⟩ := hv
  have hts := fun w hw => atoms_spec (ws := wz y_Ha_init prog_1_method_1_code 2 (none)) B.pre w (List.mem_cons_of_mem _ hw)
  have hown : s.vm.findClass "ChannelHall" = some m.cls := findClass_of_methodNamed B.named
  subst hsz
  have hl := lv_entry [.ref a0] (n := 2) (Nat.le_of_ble_eq_true rfl)
  rw [lg_entry_eq]
  exact l_Ha_init_e ⟨B.exec, B.bytes, B.returns, hml, hown, hts, B.notSynchronized, hK, fun q h => Or.inr h, hZ0⟩ (name_of_methodNamed B.named B.method).1 a0 (Nat.zero_le _) (Nat.zero_le _) h hW va_S.rf hl

theorem d_Ha_require_0 : decode prog_1_method_16_code 0 = .ok (.iload_n 0, 1) := by decide +kernel
theorem d_Ha_require_1 : decode prog_1_method_16_code 1 = .ok (.ifCond .ne 11, 3) := by decide +kernel
theorem d_Ha_require_4 : decode prog_1_method_16_code 4 = .ok (.new 233, 3) := by decide +kernel
theorem d_Ha_require_7 : decode prog_1_method_16_code 7 = .ok (.dup, 1) := by decide +kernel
theorem d_Ha_require_8 : decode prog_1_method_16_code 8 = .ok (.invokespecial 235, 3) := by decide +kernel
theorem d_Ha_require_11 : decode prog_1_method_16_code 11 = .ok (.athrow, 1) := by decide +kernel
theorem d_Ha_require_12 : decode prog_1_method_16_code 12 = .ok (.return_, 1) := by decide +kernel
def y_Ha_require : MethodName := ⟨"ChannelHall", "require", "(Z)V"⟩
abbrev rm_Ha_require : Room := { frames := 6, cells := 1, slots := 6, locals := 81 }
def wp_Ha_require (G ca : Nat → Nat) (post : hM → Prop) (xp : String → hM → Prop) (M : hM) (x0 : Int32) : Prop := (¬ x0 = 0 → post M) ∧ (x0 = 0 → xp "java/lang/IllegalArgumentException" M)
set_option maxHeartbeats 1000000 in
set_option maxRecDepth 20000 in
theorem l_Ha_require_e {p : Program} {l : Launch} {e : Env} {s : State} {m : MethodId} {args : Array Value} {below : List Frame} {meth : Method} {c : Code} {D : va_G} {ca G : Nat → Nat} {A : Nat → Prop} (C0 : hC p s m args meth c D ca G prog_1_method_16_code 1 (none) "ChannelHall" A) (hl0 : l.stackTraces = false) (hout : ∀ x ∈ c.exceptionTable.toList, False) {post : hM → Prop} {xp : String → hM → Prop} {M : hM} {H : Heap} {locs : List Loc} {ls : Array Slot} {cells slots : Nat} (x0 : Int32) (hc : cells ≤ 0) (hs : slots ≤ 0) (h : wp_Ha_require G ca post xp M x0) (hW : hw D wCl A M H) (hS : va_S A s.heap H locs) (hl : lv_has ls 1 [(0, .int x0)]) : W p l e rm_Ha_require s m args below meth c H locs cells slots (vx_MQ below (va_Qv post (fun M' t => hw D wCl A M' t.heap) A) (hX D xp A) args s 1 6 A) (F0 m 0 ls []) := by
  obtain ⟨hx, hb, hr, hml, hown, hts, hlocks, hK, hA, hZ0⟩ := id C0
  refine lv_iload_n hx hb d_Ha_require_0 rfl (lv_at hl 0 rfl) ?_
  obtain ⟨h0, h1⟩ := h
  refine lv_if_ne (tgt := 12) hx hb d_Ha_require_1 (by decide) (fun c2 => ?_) (fun c2 => ?_)
  · have h := h0 c2
    refine W.widen (k := 1) (n := 6) (by omega) (by omega) ?_
    exact vx_ret (W.vret hx hb hr (fun t ht hWm => ⟨⟨_, rfl, h, hw_t ht hW⟩, hS.F ht⟩) hS.2.2 d_Ha_require_12)
  · have h := h1 c2
    exact hq_throw (names := ["java/lang/RuntimeException", "java/lang/Exception"]) hx hb hl0 hout hown (by decide) (by decide) hts bw_135 bw_9 xg_Ha_IllegalArgumentException xn_Ha_IllegalArgumentException xo_Ha_IllegalArgumentException hZ0 hW hS (hl.1.trans hml.symm) h d_Ha_require_4 d_Ha_require_7 d_Ha_require_8 d_Ha_require_11 (by decide) (Nat.le_of_ble_eq_true rfl) (show _ ≤ 1 by omega) (show _ ≤ 6 by omega) hlocks (by omega) (by omega)
set_option maxRecDepth 20000 in
theorem c_Ha_require {l : Launch} (hl0 : l.stackTraces = false) {D : va_G} {ca G : Nat → Nat} (post : hM → Prop) (xp : String → hM → Prop) {M : hM} {sz : Nat} {x0 : Int32} (h : wp_Ha_require G ca post xp M x0) : vx_Met l y_Ha_require (wz y_Ha_require prog_1_method_16_code 1 (none)) rm_Ha_require (va_Pc [.int x0] (hI D ca G sz M)) (va_Qv post (hB D M sz) (hp_A M sz)) (hX D xp (hp_A M sz)) 1 6 (hp_A M sz) := by
  refine vx_ofW (cc := prog_1_method_16_code) (maxL := 1) (ret := none) (by decide) rfl ?_
  intro p e s m args below meth c s₁ B hml hout hv
  obtain ⟨rfl, hsz, hW, hK, hZ0⟩ := hv
  have hts := fun w hw => atoms_spec (ws := wz y_Ha_require prog_1_method_16_code 1 (none)) B.pre w (List.mem_cons_of_mem _ hw)
  have hown : s.vm.findClass "ChannelHall" = some m.cls := findClass_of_methodNamed B.named
  subst hsz
  have hl := lv_entry [.int x0] (n := 1) (Nat.le_of_ble_eq_true rfl)
  rw [lg_entry_eq]
  exact l_Ha_require_e ⟨B.exec, B.bytes, B.returns, hml, hown, hts, B.notSynchronized, hK, fun q h => Or.inr h, hZ0⟩ hl0 hout x0 (Nat.zero_le _) (Nat.zero_le _) h hW va_S.rf hl

theorem d_Ha_requireKind_0 : decode prog_1_method_17_code 0 = .ok (.iload_n 0, 1) := by decide +kernel
theorem d_Ha_requireKind_1 : decode prog_1_method_17_code 1 = .ok (.ifCond .ne 11, 3) := by decide +kernel
theorem d_Ha_requireKind_4 : decode prog_1_method_17_code 4 = .ok (.new 236, 3) := by decide +kernel
theorem d_Ha_requireKind_7 : decode prog_1_method_17_code 7 = .ok (.dup, 1) := by decide +kernel
theorem d_Ha_requireKind_8 : decode prog_1_method_17_code 8 = .ok (.invokespecial 238, 3) := by decide +kernel
theorem d_Ha_requireKind_11 : decode prog_1_method_17_code 11 = .ok (.athrow, 1) := by decide +kernel
theorem d_Ha_requireKind_12 : decode prog_1_method_17_code 12 = .ok (.return_, 1) := by decide +kernel
def y_Ha_requireKind : MethodName := ⟨"ChannelHall", "requireKind", "(Z)V"⟩
abbrev rm_Ha_requireKind : Room := { frames := 6, cells := 1, slots := 6, locals := 81 }
def wp_Ha_requireKind (G ca : Nat → Nat) (post : hM → Prop) (xp : String → hM → Prop) (M : hM) (x0 : Int32) : Prop := (¬ x0 = 0 → post M) ∧ (x0 = 0 → xp "java/lang/UnsupportedOperationException" M)
set_option maxHeartbeats 1000000 in
set_option maxRecDepth 20000 in
theorem l_Ha_requireKind_e {p : Program} {l : Launch} {e : Env} {s : State} {m : MethodId} {args : Array Value} {below : List Frame} {meth : Method} {c : Code} {D : va_G} {ca G : Nat → Nat} {A : Nat → Prop} (C0 : hC p s m args meth c D ca G prog_1_method_17_code 1 (none) "ChannelHall" A) (hl0 : l.stackTraces = false) (hout : ∀ x ∈ c.exceptionTable.toList, False) {post : hM → Prop} {xp : String → hM → Prop} {M : hM} {H : Heap} {locs : List Loc} {ls : Array Slot} {cells slots : Nat} (x0 : Int32) (hc : cells ≤ 0) (hs : slots ≤ 0) (h : wp_Ha_requireKind G ca post xp M x0) (hW : hw D wCl A M H) (hS : va_S A s.heap H locs) (hl : lv_has ls 1 [(0, .int x0)]) : W p l e rm_Ha_requireKind s m args below meth c H locs cells slots (vx_MQ below (va_Qv post (fun M' t => hw D wCl A M' t.heap) A) (hX D xp A) args s 1 6 A) (F0 m 0 ls []) := by
  obtain ⟨hx, hb, hr, hml, hown, hts, hlocks, hK, hA, hZ0⟩ := id C0
  refine lv_iload_n hx hb d_Ha_requireKind_0 rfl (lv_at hl 0 rfl) ?_
  obtain ⟨h0, h1⟩ := h
  refine lv_if_ne (tgt := 12) hx hb d_Ha_requireKind_1 (by decide) (fun c2 => ?_) (fun c2 => ?_)
  · have h := h0 c2
    refine W.widen (k := 1) (n := 6) (by omega) (by omega) ?_
    exact vx_ret (W.vret hx hb hr (fun t ht hWm => ⟨⟨_, rfl, h, hw_t ht hW⟩, hS.F ht⟩) hS.2.2 d_Ha_requireKind_12)
  · have h := h1 c2
    exact hq_throw (names := ["java/lang/RuntimeException", "java/lang/Exception"]) hx hb hl0 hout hown (by decide) (by decide) hts bw_339 bw_16 xg_Ha_UnsupportedOperationException xn_Ha_UnsupportedOperationException xo_Ha_UnsupportedOperationException hZ0 hW hS (hl.1.trans hml.symm) h d_Ha_requireKind_4 d_Ha_requireKind_7 d_Ha_requireKind_8 d_Ha_requireKind_11 (by decide) (Nat.le_of_ble_eq_true rfl) (show _ ≤ 1 by omega) (show _ ≤ 6 by omega) hlocks (by omega) (by omega)
set_option maxRecDepth 20000 in
theorem c_Ha_requireKind {l : Launch} (hl0 : l.stackTraces = false) {D : va_G} {ca G : Nat → Nat} (post : hM → Prop) (xp : String → hM → Prop) {M : hM} {sz : Nat} {x0 : Int32} (h : wp_Ha_requireKind G ca post xp M x0) : vx_Met l y_Ha_requireKind (wz y_Ha_requireKind prog_1_method_17_code 1 (none)) rm_Ha_requireKind (va_Pc [.int x0] (hI D ca G sz M)) (va_Qv post (hB D M sz) (hp_A M sz)) (hX D xp (hp_A M sz)) 1 6 (hp_A M sz) := by
  refine vx_ofW (cc := prog_1_method_17_code) (maxL := 1) (ret := none) (by decide) rfl ?_
  intro p e s m args below meth c s₁ B hml hout hv
  obtain ⟨rfl, hsz, hW, hK, hZ0⟩ := hv
  have hts := fun w hw => atoms_spec (ws := wz y_Ha_requireKind prog_1_method_17_code 1 (none)) B.pre w (List.mem_cons_of_mem _ hw)
  have hown : s.vm.findClass "ChannelHall" = some m.cls := findClass_of_methodNamed B.named
  subst hsz
  have hl := lv_entry [.int x0] (n := 1) (Nat.le_of_ble_eq_true rfl)
  rw [lg_entry_eq]
  exact l_Ha_requireKind_e ⟨B.exec, B.bytes, B.returns, hml, hown, hts, B.notSynchronized, hK, fun q h => Or.inr h, hZ0⟩ hl0 hout x0 (Nat.zero_le _) (Nat.zero_le _) h hW va_S.rf hl

theorem d_Ha_presentChannel_0 : decode prog_1_method_22_code 0 = .ok (.aload_n 0, 1) := by decide +kernel
theorem d_Ha_presentChannel_1 : decode prog_1_method_22_code 1 = .ok (.getfield 17, 3) := by decide +kernel
theorem d_Ha_presentChannel_4 : decode prog_1_method_22_code 4 = .ok (.iload_n 1, 1) := by decide +kernel
theorem d_Ha_presentChannel_5 : decode prog_1_method_22_code 5 = .ok (.aaload, 1) := by decide +kernel
theorem d_Ha_presentChannel_6 : decode prog_1_method_22_code 6 = .ok (.astore_n 2, 1) := by decide +kernel
theorem d_Ha_presentChannel_7 : decode prog_1_method_22_code 7 = .ok (.aload_n 2, 1) := by decide +kernel
theorem d_Ha_presentChannel_8 : decode prog_1_method_22_code 8 = .ok (.ifnonnull 11, 3) := by decide +kernel
theorem d_Ha_presentChannel_11 : decode prog_1_method_22_code 11 = .ok (.new 197, 3) := by decide +kernel
theorem d_Ha_presentChannel_14 : decode prog_1_method_22_code 14 = .ok (.dup, 1) := by decide +kernel
theorem d_Ha_presentChannel_15 : decode prog_1_method_22_code 15 = .ok (.invokespecial 199, 3) := by decide +kernel
theorem d_Ha_presentChannel_18 : decode prog_1_method_22_code 18 = .ok (.athrow, 1) := by decide +kernel
theorem d_Ha_presentChannel_19 : decode prog_1_method_22_code 19 = .ok (.aload_n 2, 1) := by decide +kernel
theorem d_Ha_presentChannel_20 : decode prog_1_method_22_code 20 = .ok (.areturn, 1) := by decide +kernel
def y_Ha_presentChannel : MethodName := ⟨"ChannelHall", "presentChannel", "(I)LChannelHall$Channel;"⟩
abbrev rm_Ha_presentChannel : Room := { frames := 6, cells := 1, slots := 6, locals := 81 }
def wp_Ha_presentChannel (G ca : Nat → Nat) (post : Option Nat → hM → Prop) (xp : String → hM → Prop) (M : hM) (a0 : Nat) (x1 : Int32) : Prop := gR M a0 3 1 fun v5 => nN v5 fun b6 => aR M b6 (ca 1) x1 fun v7 => (v7 = none → xp "java/util/NoSuchElementException" M) ∧ (∀ b8 : Nat, v7 = some b8 → post (some b8) M)
set_option maxHeartbeats 1000000 in
set_option maxRecDepth 20000 in
theorem l_Ha_presentChannel_e {p : Program} {l : Launch} {e : Env} {s : State} {m : MethodId} {args : Array Value} {below : List Frame} {meth : Method} {c : Code} {D : va_G} {ca G : Nat → Nat} {A : Nat → Prop} (C0 : hC p s m args meth c D ca G prog_1_method_22_code 3 (some (.object "ChannelHall$Channel")) "ChannelHall" A) (hl0 : l.stackTraces = false) (hout : ∀ x ∈ c.exceptionTable.toList, False) {post : Option Nat → hM → Prop} {xp : String → hM → Prop} {M : hM} {H : Heap} {locs : List Loc} {ls : Array Slot} {cells slots : Nat} (a0 : Nat) (x1 : Int32) (hc : cells ≤ 0) (hs : slots ≤ 0) (h : wp_Ha_presentChannel G ca post xp M a0 x1) (hW : hw D wCl A M H) (hS : va_S A s.heap H locs) (hl : lv_has ls 3 [(0, .ref a0), (1, .int x1)]) : W p l e rm_Ha_presentChannel s m args below meth c H locs cells slots (vx_MQ below (va_Qq post (fun M' t => hw D wCl A M' t.heap) A) (hX D xp A) args s 1 6 A) (F0 m 0 ls []) := by
  obtain ⟨hx, hb, hr, hml, hown, hts, hlocks, hK, hA, hZ0⟩ := id C0
  refine lv_aload_n hx hb d_Ha_presentChannel_0 rfl (lv_at hl 0 rfl) ?_
  obtain ⟨fs, v5, h1, h2, h⟩ := h
  refine va_get (D := D) (ci := 3) (v := va_rf v5) (C := "ChannelHall") (T := THa) (N := 4) hx hb hts uHa hown hK (hw_one hW h1) 0 rfl rfl 1 (by decide) (hts _ bw_101) (fun _ h9 => h9) h2 d_Ha_presentChannel_1 ?_
  refine lv_iload_n hx hb d_Ha_presentChannel_4 rfl (lv_at hl 1 rfl) ?_
  obtain ⟨b6, rfl, h⟩ := h
  obtain ⟨n, f, h1, h2, h⟩ := h
  refine va_aldq hx hb hK (hw_one hW h1) 0 1 rfl rfl h2 d_Ha_presentChannel_5 ?_
  generalize f (x1).toNatClampNeg = v7 at h ⊢
  refine lq_store_n (lv' := [(2, va_rf v7), (0, .ref a0), (1, .int x1)]) hx hb d_Ha_presentChannel_6 rfl hl (by decide) rfl (fun ls hl => ?_)
  refine lq_load_n hx hb d_Ha_presentChannel_7 rfl (lv_at hl 0 rfl) ?_
  obtain ⟨h0, h1⟩ := h
  cases v7 with
  | none =>
    have h := h0 rfl
    refine lv_ifnonnullN hx hb d_Ha_presentChannel_8 ?_
    exact hq_throw (names := ["java/lang/RuntimeException", "java/lang/Exception"]) hx hb hl0 hout hown (by decide) (by decide) hts bw_313 bw_15 xg_Ha_NoSuchElementException xn_Ha_NoSuchElementException xo_Ha_NoSuchElementException hZ0 hW hS (hl.1.trans hml.symm) h d_Ha_presentChannel_11 d_Ha_presentChannel_14 d_Ha_presentChannel_15 d_Ha_presentChannel_18 (by decide) (Nat.le_of_ble_eq_true rfl) (show _ ≤ 1 by omega) (show _ ≤ 6 by omega) hlocks (by omega) (by omega)
  | some b8 =>
    have h := h1 b8 rfl
    refine lv_ifnonnull (tgt := 19) hx hb d_Ha_presentChannel_8 (by decide) ?_
    refine lv_aload_n hx hb d_Ha_presentChannel_19 rfl (lv_at hl 0 rfl) ?_
    refine W.widen (k := 1) (n := 6) (by omega) (by omega) ?_
    exact vx_ret (W.aret hx hb hr (Or.inl ⟨_, rfl⟩) (Or.inr ⟨_, rfl⟩) (fun t ht hWm => ⟨⟨(some b8), _, rfl, h, hw_t ht hW⟩, hS.F ht⟩) hS.2.2 d_Ha_presentChannel_20)
set_option maxRecDepth 20000 in
theorem c_Ha_presentChannel {l : Launch} (hl0 : l.stackTraces = false) {D : va_G} {ca G : Nat → Nat} (post : Option Nat → hM → Prop) (xp : String → hM → Prop) {M : hM} {sz : Nat} {a0 : Nat} {x1 : Int32} (h : wp_Ha_presentChannel G ca post xp M a0 x1) : vx_Met l y_Ha_presentChannel (wz y_Ha_presentChannel prog_1_method_22_code 3 (some (.object "ChannelHall$Channel"))) rm_Ha_presentChannel (va_Pc [.ref a0, .int x1] (hI D ca G sz M)) (va_Qq post (hB D M sz) (hp_A M sz)) (hX D xp (hp_A M sz)) 1 6 (hp_A M sz) := by
  refine vx_ofW (cc := prog_1_method_22_code) (maxL := 3) (ret := some (.object "ChannelHall$Channel")) (by decide) rfl ?_
  intro p e s m args below meth c s₁ B hml hout hv
  obtain ⟨rfl, hsz, hW, hK, hZ0⟩ := hv
  have hts := fun w hw => atoms_spec (ws := wz y_Ha_presentChannel prog_1_method_22_code 3 (some (.object "ChannelHall$Channel"))) B.pre w (List.mem_cons_of_mem _ hw)
  have hown : s.vm.findClass "ChannelHall" = some m.cls := findClass_of_methodNamed B.named
  subst hsz
  have hl := lv_entry [.ref a0, .int x1] (n := 3) (Nat.le_of_ble_eq_true rfl)
  rw [lg_entry_eq]
  exact l_Ha_presentChannel_e ⟨B.exec, B.bytes, B.returns, hml, hown, hts, B.notSynchronized, hK, fun q h => Or.inr h, hZ0⟩ hl0 hout a0 x1 (Nat.zero_le _) (Nat.zero_le _) h hW va_S.rf hl

theorem d_Ha_runningWorker_0 : decode prog_1_method_23_code 0 = .ok (.aload_n 0, 1) := by decide +kernel
theorem d_Ha_runningWorker_1 : decode prog_1_method_23_code 1 = .ok (.getfield 11, 3) := by decide +kernel
theorem d_Ha_runningWorker_4 : decode prog_1_method_23_code 4 = .ok (.iload_n 1, 1) := by decide +kernel
theorem d_Ha_runningWorker_5 : decode prog_1_method_23_code 5 = .ok (.aaload, 1) := by decide +kernel
theorem d_Ha_runningWorker_6 : decode prog_1_method_23_code 6 = .ok (.astore_n 2, 1) := by decide +kernel
theorem d_Ha_runningWorker_7 : decode prog_1_method_23_code 7 = .ok (.aload_n 2, 1) := by decide +kernel
theorem d_Ha_runningWorker_8 : decode prog_1_method_23_code 8 = .ok (.getfield 171, 3) := by decide +kernel
theorem d_Ha_runningWorker_11 : decode prog_1_method_23_code 11 = .ok (.ifnull 11, 3) := by decide +kernel
theorem d_Ha_runningWorker_14 : decode prog_1_method_23_code 14 = .ok (.new 44, 3) := by decide +kernel
theorem d_Ha_runningWorker_17 : decode prog_1_method_23_code 17 = .ok (.dup, 1) := by decide +kernel
theorem d_Ha_runningWorker_18 : decode prog_1_method_23_code 18 = .ok (.invokespecial 46, 3) := by decide +kernel
theorem d_Ha_runningWorker_21 : decode prog_1_method_23_code 21 = .ok (.athrow, 1) := by decide +kernel
theorem d_Ha_runningWorker_22 : decode prog_1_method_23_code 22 = .ok (.aload_n 2, 1) := by decide +kernel
theorem d_Ha_runningWorker_23 : decode prog_1_method_23_code 23 = .ok (.areturn, 1) := by decide +kernel
def y_Ha_runningWorker : MethodName := ⟨"ChannelHall", "runningWorker", "(I)LChannelHall$Worker;"⟩
abbrev rm_Ha_runningWorker : Room := { frames := 6, cells := 1, slots := 6, locals := 81 }
def wp_Ha_runningWorker (G ca : Nat → Nat) (post : Option Nat → hM → Prop) (xp : String → hM → Prop) (M : hM) (a0 : Nat) (x1 : Int32) : Prop := gR M a0 3 0 fun v7 => nN v7 fun b8 => aR M b8 (ca 0) x1 fun v9 => nN v9 fun b10 => gR M b10 2 5 fun v11 => (v11 = none → post (some b10) M) ∧ (∀ b12 : Nat, v11 = some b12 → xp "java/lang/IllegalStateException" M)
set_option maxHeartbeats 1000000 in
set_option maxRecDepth 20000 in
theorem l_Ha_runningWorker_e {p : Program} {l : Launch} {e : Env} {s : State} {m : MethodId} {args : Array Value} {below : List Frame} {meth : Method} {c : Code} {D : va_G} {ca G : Nat → Nat} {A : Nat → Prop} (C0 : hC p s m args meth c D ca G prog_1_method_23_code 3 (some (.object "ChannelHall$Worker")) "ChannelHall" A) (hl0 : l.stackTraces = false) (hout : ∀ x ∈ c.exceptionTable.toList, False) {post : Option Nat → hM → Prop} {xp : String → hM → Prop} {M : hM} {H : Heap} {locs : List Loc} {ls : Array Slot} {cells slots : Nat} (a0 : Nat) (x1 : Int32) (hc : cells ≤ 0) (hs : slots ≤ 0) (h : wp_Ha_runningWorker G ca post xp M a0 x1) (hW : hw D wCl A M H) (hS : va_S A s.heap H locs) (hl : lv_has ls 3 [(0, .ref a0), (1, .int x1)]) : W p l e rm_Ha_runningWorker s m args below meth c H locs cells slots (vx_MQ below (va_Qq post (fun M' t => hw D wCl A M' t.heap) A) (hX D xp A) args s 1 6 A) (F0 m 0 ls []) := by
  obtain ⟨hx, hb, hr, hml, hown, hts, hlocks, hK, hA, hZ0⟩ := id C0
  refine lv_aload_n hx hb d_Ha_runningWorker_0 rfl (lv_at hl 0 rfl) ?_
  obtain ⟨fs, v7, h1, h2, h⟩ := h
  refine va_get (D := D) (ci := 3) (v := va_rf v7) (C := "ChannelHall") (T := THa) (N := 4) hx hb hts uHa hown hK (hw_one hW h1) 0 rfl rfl 0 (by decide) (hts _ bw_100) (fun _ h9 => h9) h2 d_Ha_runningWorker_1 ?_
  refine lv_iload_n hx hb d_Ha_runningWorker_4 rfl (lv_at hl 1 rfl) ?_
  obtain ⟨b8, rfl, h⟩ := h
  obtain ⟨n, f, h1, h2, h⟩ := h
  refine va_aldq hx hb hK (hw_one hW h1) 0 0 rfl rfl h2 d_Ha_runningWorker_5 ?_
  generalize f (x1).toNatClampNeg = v9 at h ⊢
  refine lq_store_n (lv' := [(2, va_rf v9), (0, .ref a0), (1, .int x1)]) hx hb d_Ha_runningWorker_6 rfl hl (by decide) rfl (fun ls hl => ?_)
  refine lq_load_n hx hb d_Ha_runningWorker_7 rfl (lv_at hl 0 rfl) ?_
  obtain ⟨b10, rfl, h⟩ := h
  obtain ⟨fs, v11, h1, h2, h⟩ := h
  refine va_get (D := D) (ci := 2) (v := va_rf v11) (C := "ChannelHall$Worker") (T := TWo) (N := 11) hx hb hts uWo hown hK (hw_one hW h1) 0 rfl rfl 5 (by decide) (hts _ bw_63) (fun _ h9 => h9) h2 d_Ha_runningWorker_8 ?_
  obtain ⟨h0, h1⟩ := h
  cases v11 with
  | none =>
    have h := h0 rfl
    refine lv_ifnullN (tgt := 22) hx hb d_Ha_runningWorker_11 (by decide) ?_
    refine lv_aload_n hx hb d_Ha_runningWorker_22 rfl (lv_at hl 0 rfl) ?_
    refine W.widen (k := 1) (n := 6) (by omega) (by omega) ?_
    exact vx_ret (W.aret hx hb hr (Or.inl ⟨_, rfl⟩) (Or.inr ⟨_, rfl⟩) (fun t ht hWm => ⟨⟨(some b10), _, rfl, h, hw_t ht hW⟩, hS.F ht⟩) hS.2.2 d_Ha_runningWorker_23)
  | some b12 =>
    have h := h1 b12 rfl
    refine lv_ifnull hx hb d_Ha_runningWorker_11 ?_
    exact hq_throw (names := ["java/lang/RuntimeException", "java/lang/Exception"]) hx hb hl0 hout hown (by decide) (by decide) hts bw_202 bw_10 xg_Ha_IllegalStateException xn_Ha_IllegalStateException xo_Ha_IllegalStateException hZ0 hW hS (hl.1.trans hml.symm) h d_Ha_runningWorker_14 d_Ha_runningWorker_17 d_Ha_runningWorker_18 d_Ha_runningWorker_21 (by decide) (Nat.le_of_ble_eq_true rfl) (show _ ≤ 1 by omega) (show _ ≤ 6 by omega) hlocks (by omega) (by omega)
set_option maxRecDepth 20000 in
theorem c_Ha_runningWorker {l : Launch} (hl0 : l.stackTraces = false) {D : va_G} {ca G : Nat → Nat} (post : Option Nat → hM → Prop) (xp : String → hM → Prop) {M : hM} {sz : Nat} {a0 : Nat} {x1 : Int32} (h : wp_Ha_runningWorker G ca post xp M a0 x1) : vx_Met l y_Ha_runningWorker (wz y_Ha_runningWorker prog_1_method_23_code 3 (some (.object "ChannelHall$Worker"))) rm_Ha_runningWorker (va_Pc [.ref a0, .int x1] (hI D ca G sz M)) (va_Qq post (hB D M sz) (hp_A M sz)) (hX D xp (hp_A M sz)) 1 6 (hp_A M sz) := by
  refine vx_ofW (cc := prog_1_method_23_code) (maxL := 3) (ret := some (.object "ChannelHall$Worker")) (by decide) rfl ?_
  intro p e s m args below meth c s₁ B hml hout hv
  obtain ⟨rfl, hsz, hW, hK, hZ0⟩ := hv
  have hts := fun w hw => atoms_spec (ws := wz y_Ha_runningWorker prog_1_method_23_code 3 (some (.object "ChannelHall$Worker"))) B.pre w (List.mem_cons_of_mem _ hw)
  have hown : s.vm.findClass "ChannelHall" = some m.cls := findClass_of_methodNamed B.named
  subst hsz
  have hl := lv_entry [.ref a0, .int x1] (n := 3) (Nat.le_of_ble_eq_true rfl)
  rw [lg_entry_eq]
  exact l_Ha_runningWorker_e ⟨B.exec, B.bytes, B.returns, hml, hown, hts, B.notSynchronized, hK, fun q h => Or.inr h, hZ0⟩ hl0 hout a0 x1 (Nat.zero_le _) (Nat.zero_le _) h hW va_S.rf hl

theorem d_Ha_startWait_0 : decode prog_1_method_24_code 0 = .ok (.dload 4, 2) := by decide +kernel
theorem d_Ha_startWait_2 : decode prog_1_method_24_code 2 = .ok (.dconst 0, 1) := by decide +kernel
theorem d_Ha_startWait_3 : decode prog_1_method_24_code 3 = .ok (.dcmp .l, 1) := by decide +kernel
theorem d_Ha_startWait_4 : decode prog_1_method_24_code 4 = .ok (.ifCond .ne 9, 3) := by decide +kernel
theorem d_Ha_startWait_7 : decode prog_1_method_24_code 7 = .ok (.aload_n 1, 1) := by decide +kernel
theorem d_Ha_startWait_8 : decode prog_1_method_24_code 8 = .ok (.iconst 2, 1) := by decide +kernel
theorem d_Ha_startWait_9 : decode prog_1_method_24_code 9 = .ok (.invokevirtual 79, 3) := by decide +kernel
theorem d_Ha_startWait_12 : decode prog_1_method_24_code 12 = .ok (.ireturn, 1) := by decide +kernel
theorem d_Ha_startWait_13 : decode prog_1_method_24_code 13 = .ok (.aload_n 1, 1) := by decide +kernel
theorem d_Ha_startWait_14 : decode prog_1_method_24_code 14 = .ok (.aload_n 2, 1) := by decide +kernel
theorem d_Ha_startWait_15 : decode prog_1_method_24_code 15 = .ok (.putfield 171, 3) := by decide +kernel
theorem d_Ha_startWait_18 : decode prog_1_method_24_code 18 = .ok (.aload_n 1, 1) := by decide +kernel
theorem d_Ha_startWait_19 : decode prog_1_method_24_code 19 = .ok (.aload_n 3, 1) := by decide +kernel
theorem d_Ha_startWait_20 : decode prog_1_method_24_code 20 = .ok (.putfield 241, 3) := by decide +kernel
theorem d_Ha_startWait_23 : decode prog_1_method_24_code 23 = .ok (.aload_n 1, 1) := by decide +kernel
theorem d_Ha_startWait_24 : decode prog_1_method_24_code 24 = .ok (.dload 4, 2) := by decide +kernel
theorem d_Ha_startWait_26 : decode prog_1_method_24_code 26 = .ok (.dconst 0, 1) := by decide +kernel
theorem d_Ha_startWait_27 : decode prog_1_method_24_code 27 = .ok (.dcmp .l, 1) := by decide +kernel
theorem d_Ha_startWait_28 : decode prog_1_method_24_code 28 = .ok (.ifCond .le 7, 3) := by decide +kernel
theorem d_Ha_startWait_31 : decode prog_1_method_24_code 31 = .ok (.iconst 1, 1) := by decide +kernel
theorem d_Ha_startWait_32 : decode prog_1_method_24_code 32 = .ok (.goto 4, 3) := by decide +kernel
theorem d_Ha_startWait_35 : decode prog_1_method_24_code 35 = .ok (.iconst 0, 1) := by decide +kernel
theorem d_Ha_startWait_36 : decode prog_1_method_24_code 36 = .ok (.putfield 244, 3) := by decide +kernel
theorem d_Ha_startWait_39 : decode prog_1_method_24_code 39 = .ok (.aload_n 1, 1) := by decide +kernel
theorem d_Ha_startWait_40 : decode prog_1_method_24_code 40 = .ok (.aload_n 0, 1) := by decide +kernel
theorem d_Ha_startWait_41 : decode prog_1_method_24_code 41 = .ok (.getfield 25, 3) := by decide +kernel
theorem d_Ha_startWait_44 : decode prog_1_method_24_code 44 = .ok (.dload 4, 2) := by decide +kernel
theorem d_Ha_startWait_46 : decode prog_1_method_24_code 46 = .ok (.dadd, 1) := by decide +kernel
theorem d_Ha_startWait_47 : decode prog_1_method_24_code 47 = .ok (.putfield 247, 3) := by decide +kernel
theorem d_Ha_startWait_50 : decode prog_1_method_24_code 50 = .ok (.aload_n 2, 1) := by decide +kernel
theorem d_Ha_startWait_51 : decode prog_1_method_24_code 51 = .ok (.getfield 152, 3) := by decide +kernel
theorem d_Ha_startWait_54 : decode prog_1_method_24_code 54 = .ok (.aload_n 1, 1) := by decide +kernel
theorem d_Ha_startWait_55 : decode prog_1_method_24_code 55 = .ok (.invokevirtual 250, 3) := by decide +kernel
theorem d_Ha_startWait_58 : decode prog_1_method_24_code 58 = .ok (.pop, 1) := by decide +kernel
theorem d_Ha_startWait_59 : decode prog_1_method_24_code 59 = .ok (.aload_n 1, 1) := by decide +kernel
theorem d_Ha_startWait_60 : decode prog_1_method_24_code 60 = .ok (.iconst 0, 1) := by decide +kernel
theorem d_Ha_startWait_61 : decode prog_1_method_24_code 61 = .ok (.invokevirtual 79, 3) := by decide +kernel
theorem d_Ha_startWait_64 : decode prog_1_method_24_code 64 = .ok (.ireturn, 1) := by decide +kernel
def y_Ha_startWait : MethodName := ⟨"ChannelHall", "startWait", "(LChannelHall$Worker;LChannelHall$Channel;LChannelHall$Role;D)I"⟩
abbrev rm_Ha_startWait : Room := { frames := 7, cells := 1, slots := 22, locals := 171 }
def wp_Ha_startWait_36 (G ca : Nat → Nat) (post : Int32 → hM → Prop) (M : hM) (l0b36 : Nat) (l1b36 : Nat) (l2b36 : Option Nat) (l4b36 : UInt64) (s0b36 : Int32) (s1b36 : Nat) : Prop := bZ s0b36 (pF M s1b36 2 9 (.int s0b36) fun M19 => gD M19 l0b36 3 3 fun v20 => nD (FP.dadd v20 l4b36) (pF M19 l1b36 2 10 (.double (FP.dadd v20 l4b36)) fun M21 => nN l2b36 fun b22 => gR M21 b22 0 5 fun v23 => nN v23 fun b24 => rC M21 b24 4 (wp_Al_add_Object G ca (fun r25 M26 => rC M26 l1b36 2 (wp_Wo_endWith G ca (fun r27 M28 => post r27 M28) M26 l1b36 0)) M21 b24 (some l1b36))))
def wp_Ha_startWait (G ca : Nat → Nat) (post : Int32 → hM → Prop) (M : hM) (a0 : Nat) (a1 : Option Nat) (a2 : Option Nat) (a3 : Option Nat) (x4 : UInt64) : Prop := (¬ (Op.cmpValue (FP.dcmp x4 FP.dconst0) .l) = 0 → nN a1 fun b30 => pF M b30 2 5 (va_rf a2) fun M31 => pF M31 b30 2 6 (va_rf a3) fun M32 => ((Op.cmpValue (FP.dcmp x4 FP.dconst0) .l) ≤ 0 → wp_Ha_startWait_36 G ca post M32 a0 b30 a2 x4 0 b30) ∧ (¬ (Op.cmpValue (FP.dcmp x4 FP.dconst0) .l) ≤ 0 → wp_Ha_startWait_36 G ca post M32 a0 b30 a2 x4 1 b30)) ∧ ((Op.cmpValue (FP.dcmp x4 FP.dconst0) .l) = 0 → nN a1 fun b34 => rC M b34 2 (wp_Wo_endWith G ca (fun r35 M36 => post r35 M36) M b34 2))
set_option maxHeartbeats 1000000 in
set_option maxRecDepth 20000 in
theorem l_Ha_startWait_36 {p : Program} {l : Launch} {e : Env} {s : State} {m : MethodId} {args : Array Value} {below : List Frame} {meth : Method} {c : Code} {D : va_G} {ca G : Nat → Nat} {A : Nat → Prop} (C0 : hC p s m args meth c D ca G prog_1_method_24_code 6 (some .int) "ChannelHall" A) {post : Int32 → hM → Prop} {M : hM} {H : Heap} {locs : List Loc} {ls : Array Slot} {cells slots : Nat} (l0b36 : Nat) (l1b36 : Nat) (l2b36 : Option Nat) (l4b36 : UInt64) (s0b36 : Int32) (s1b36 : Nat) (hc : cells ≤ 0) (hs : slots ≤ 0) (h : wp_Ha_startWait_36 G ca post M l0b36 l1b36 l2b36 l4b36 s0b36 s1b36) (hW : hw D wCl A M H) (hS : va_S A s.heap H locs) (hl : lv_has ls 6 [(0, .ref l0b36), (1, .ref l1b36), (2, va_rf l2b36), (4, .double l4b36)]) : W p l e rm_Ha_startWait s m args below meth c H locs cells slots (MQ below (va_Qi post (fun M' t => hw D wCl A M' t.heap) A) args s 1 22 A) (F0 m 36 ls [.int s0b36, .ref s1b36]) := by
  obtain ⟨hx, hb, hr, hml, hown, hts, hlocks, hK, hA, hZ0⟩ := id C0
  obtain ⟨hz, h⟩ := h
  obtain ⟨fs, h1, h2, h⟩ := h
  obtain ⟨ws, q0, hq, hP, hD, hback, -⟩ := hw_open hW h1
  refine va_put (D := D) (ci := 2) (v := .int s0b36) (ty := .boolean) (C := "ChannelHall$Worker") (T := TWo) (N := 11) hx hb hts uWo tWo tWo_ok nWo hown hK hP hD hS q0 hq rfl 9 (by decide) (hts _ bw_74) (fun _ h9 => h9) rfl (by decide +kernel) (nb_n hz) (nb_f hz) h2 d_Ha_startWait_36 (fun H locs hP hD hS => ?_)
  have hW := hback _ _ hP hD
  generalize (va_up M s1b36 (some (.inr (2, fs.set 9 (.int s0b36))))) = M19 at h hW
  refine lv_aload_n hx hb d_Ha_startWait_39 rfl (lv_at hl 1 rfl) ?_
  refine lv_aload_n hx hb d_Ha_startWait_40 rfl (lv_at hl 0 rfl) ?_
  obtain ⟨fs, v20, h1, h2, h⟩ := h
  refine va_get (D := D) (ci := 3) (v := .double v20) (C := "ChannelHall") (T := THa) (N := 4) hx hb hts uHa hown hK (hw_one hW h1) 0 rfl rfl 3 (by decide) (hts _ bw_103) (fun _ h9 => h9) h2 d_Ha_startWait_41 ?_
  refine lv_dload hx hb d_Ha_startWait_44 (lv_at hl 3 rfl) ?_
  obtain ⟨hn, h⟩ := h
  refine lv_dadd hx hb d_Ha_startWait_46 hn ?_
  obtain ⟨fs, h1, h2, h⟩ := h
  obtain ⟨ws, q0, hq, hP, hD, hback, -⟩ := hw_open hW h1
  refine va_put (D := D) (ci := 2) (v := .double (FP.dadd v20 l4b36)) (ty := .double) (C := "ChannelHall$Worker") (T := TWo) (N := 11) hx hb hts uWo tWo tWo_ok nWo hown hK hP hD hS q0 hq rfl 10 (by decide) (hts _ bw_76) (fun _ h9 => h9) rfl (by decide +kernel) rfl rfl h2 d_Ha_startWait_47 (fun H locs hP hD hS => ?_)
  have hW := hback _ _ hP hD
  generalize (va_up M19 l1b36 (some (.inr (2, fs.set 10 (.double (FP.dadd v20 l4b36)))))) = M21 at h hW
  refine lq_load_n hx hb d_Ha_startWait_50 rfl (lv_at hl 2 rfl) ?_
  obtain ⟨b22, rfl, h⟩ := h
  obtain ⟨fs, v23, h1, h2, h⟩ := h
  refine va_get (D := D) (ci := 0) (v := va_rf v23) (C := "ChannelHall$Channel") (T := TCh) (N := 10) hx hb hts uCh hown hK (hw_one hW h1) 0 rfl rfl 5 (by decide) (hts _ bw_261) (fun _ h9 => h9) h2 d_Ha_startWait_51 ?_
  refine lv_aload_n hx hb d_Ha_startWait_54 rfl (lv_at hl 1 rfl) ?_
  obtain ⟨b24, rfl, h⟩ := h
  obtain ⟨⟨fs, h1⟩, h⟩ := h
  have h9 := h
  clear h
  have hF := hW.free hS hA
  refine va_calli (va_runV (As := [.ref l1b36]) (rest := []) ⟨hx, hb, hml, hown, hts⟩ (c_Al_add_Object _ h9) (cwV 1 hts (gi_V bw_406 bw_407 bw_408 bw_14 bw_409) rfl rfl rfl (by decide +kernel) ⟨Nat.le_of_ble_eq_true rfl, Nat.le_of_ble_eq_true rfl⟩) ⟨hI.blind, hw_recv hK hW h1 rfl, hI.give hW hS hA hK hZ0⟩ rfl rfl hl.1 rfl (lv_room (Nat.le_of_ble_eq_true rfl)) d_Ha_startWait_55 ⟨(show _ ≤ 1 by omega), (show _ ≤ 22 by omega)⟩) hS (fun q _ z => hF q z) hF (fun r25 M26 t H locs ht _ h hB1 _ _ hS => ?_)
  have hW := hw_back hF ht hB1
  clear h9
  refine lv_pop hx hb d_Ha_startWait_58 rfl ?_
  refine lv_aload_n hx hb d_Ha_startWait_59 rfl (lv_at hl 1 rfl) ?_
  refine lv_iconst (v := 0) hx hb d_Ha_startWait_60 (by decide) ?_
  obtain ⟨⟨fs, h1⟩, h⟩ := h
  have h9 := h
  clear h
  have hF := hW.free hS hA
  refine va_calli (va_runV (As := [.int 0]) (rest := []) ⟨hx, hb, hml, hown, hts⟩ (c_Wo_endWith _ h9) (cwV 1 hts (gi_V bw_358 bw_359 bw_360 bw_2 bw_361) rfl rfl rfl (by decide +kernel) ⟨Nat.le_of_ble_eq_true rfl, Nat.le_of_ble_eq_true rfl⟩) ⟨hI.blind, hw_recv hK hW h1 rfl, hI.give hW hS hA hK hZ0⟩ rfl rfl hl.1 rfl (lv_room (Nat.le_of_ble_eq_true rfl)) d_Ha_startWait_61 ⟨(show _ ≤ 1 by omega), (show _ ≤ 22 by omega)⟩) hS (fun q _ z => hF q z) hF (fun r27 M28 t H locs ht _ h hB1 _ _ hS => ?_)
  have hW := hw_back hF ht hB1
  clear h9
  refine W.widen (k := 1) (n := 22) (by omega) (by omega) ?_
  exact W.iret hx hb hr (fun t ht hWm => ⟨⟨_, _, rfl, h, hw_t ht hW⟩, hS.F ht⟩) hS.2.2 d_Ha_startWait_64
set_option maxHeartbeats 1000000 in
set_option maxRecDepth 20000 in
theorem l_Ha_startWait_e {p : Program} {l : Launch} {e : Env} {s : State} {m : MethodId} {args : Array Value} {below : List Frame} {meth : Method} {c : Code} {D : va_G} {ca G : Nat → Nat} {A : Nat → Prop} (C0 : hC p s m args meth c D ca G prog_1_method_24_code 6 (some .int) "ChannelHall" A) {post : Int32 → hM → Prop} {M : hM} {H : Heap} {locs : List Loc} {ls : Array Slot} {cells slots : Nat} (a0 : Nat) (a1 : Option Nat) (a2 : Option Nat) (a3 : Option Nat) (x4 : UInt64) (hc : cells ≤ 0) (hs : slots ≤ 0) (h : wp_Ha_startWait G ca post M a0 a1 a2 a3 x4) (hW : hw D wCl A M H) (hS : va_S A s.heap H locs) (hl : lv_has ls 6 [(0, .ref a0), (1, va_rf a1), (2, va_rf a2), (3, va_rf a3), (4, .double x4)]) : W p l e rm_Ha_startWait s m args below meth c H locs cells slots (MQ below (va_Qi post (fun M' t => hw D wCl A M' t.heap) A) args s 1 22 A) (F0 m 0 ls []) := by
  obtain ⟨hx, hb, hr, hml, hown, hts, hlocks, hK, hA, hZ0⟩ := id C0
  refine lv_dload hx hb d_Ha_startWait_0 (lv_at hl 4 rfl) ?_
  refine lv_dconst0 hx hb d_Ha_startWait_2 ?_
  refine lv_dcmp hx hb d_Ha_startWait_3 ?_
  obtain ⟨h0, h1⟩ := h
  refine lv_if_ne (tgt := 13) hx hb d_Ha_startWait_4 (by decide) (fun c29 => ?_) (fun c29 => ?_)
  · have h := h0 c29
    refine lq_load_n hx hb d_Ha_startWait_13 rfl (lv_at hl 1 rfl) ?_
    refine lq_load_n hx hb d_Ha_startWait_14 rfl (lv_at hl 2 rfl) ?_
    obtain ⟨b30, rfl, h⟩ := h
    obtain ⟨fs, h1, h2, h⟩ := h
    obtain ⟨ws, q0, hq, hP, hD, hback, -⟩ := hw_open hW h1
    refine va_put (D := D) (ci := 2) (v := va_rf a2) (ty := .object "ChannelHall$Channel") (C := "ChannelHall$Worker") (T := TWo) (N := 11) hx hb hts uWo tWo tWo_ok nWo hown hK hP hD hS q0 hq rfl 5 (by decide) (hts _ bw_63) (fun _ h9 => h9) rfl (by decide +kernel) (rf_n _ _) (rf_f _ _) h2 d_Ha_startWait_15 (fun H locs hP hD hS => ?_)
    have hW := hback _ _ hP hD
    generalize (va_up M b30 (some (.inr (2, fs.set 5 (va_rf a2))))) = M31 at h hW
    refine lv_aload_n hx hb d_Ha_startWait_18 rfl (lv_at hl 1 rfl) ?_
    refine lq_load_n hx hb d_Ha_startWait_19 rfl (lv_at hl 3 rfl) ?_
    obtain ⟨fs, h1, h2, h⟩ := h
    obtain ⟨ws, q0, hq, hP, hD, hback, -⟩ := hw_open hW h1
    refine va_put (D := D) (ci := 2) (v := va_rf a3) (ty := .object "ChannelHall$Role") (C := "ChannelHall$Worker") (T := TWo) (N := 11) hx hb hts uWo tWo tWo_ok nWo hown hK hP hD hS q0 hq rfl 6 (by decide) (hts _ bw_67) (fun _ h9 => h9) rfl (by decide +kernel) (rf_n _ _) (rf_f _ _) h2 d_Ha_startWait_20 (fun H locs hP hD hS => ?_)
    have hW := hback _ _ hP hD
    generalize (va_up M31 b30 (some (.inr (2, fs.set 6 (va_rf a3))))) = M32 at h hW
    refine lv_aload_n hx hb d_Ha_startWait_23 rfl (lv_at hl 1 rfl) ?_
    refine lv_dload hx hb d_Ha_startWait_24 (lv_at hl 4 rfl) ?_
    refine lv_dconst0 hx hb d_Ha_startWait_26 ?_
    refine lv_dcmp hx hb d_Ha_startWait_27 ?_
    obtain ⟨h0, h1⟩ := h
    refine lv_if_le (tgt := 35) hx hb d_Ha_startWait_28 (by decide) (fun c33 => ?_) (fun c33 => ?_)
    · have h := h0 c33
      refine lv_iconst (v := 0) hx hb d_Ha_startWait_35 (by decide) ?_
      exact l_Ha_startWait_36 C0 a0 b30 a2 x4 0 b30 (by omega) (by omega) h hW hS (lv_sub hl [0, 1, 2, 4] rfl)
    · have h := h1 c33
      refine lv_iconst (v := 1) hx hb d_Ha_startWait_31 (by decide) ?_
      refine lv_goto (tgt := 36) hx hb d_Ha_startWait_32 (by decide) ?_
      exact l_Ha_startWait_36 C0 a0 b30 a2 x4 1 b30 (by omega) (by omega) h hW hS (lv_sub hl [0, 1, 2, 4] rfl)
  · have h := h1 c29
    refine lq_load_n hx hb d_Ha_startWait_7 rfl (lv_at hl 1 rfl) ?_
    refine lv_iconst (v := 2) hx hb d_Ha_startWait_8 (by decide) ?_
    obtain ⟨b34, rfl, h⟩ := h
    obtain ⟨⟨fs, h1⟩, h⟩ := h
    have h9 := h
    clear h
    have hF := hW.free hS hA
    refine va_calli (va_runV (As := [.int 2]) (rest := []) ⟨hx, hb, hml, hown, hts⟩ (c_Wo_endWith _ h9) (cwV 1 hts (gi_V bw_358 bw_359 bw_360 bw_2 bw_361) rfl rfl rfl (by decide +kernel) ⟨Nat.le_of_ble_eq_true rfl, Nat.le_of_ble_eq_true rfl⟩) ⟨hI.blind, hw_recv hK hW h1 rfl, hI.give hW hS hA hK hZ0⟩ rfl rfl hl.1 rfl (lv_room (Nat.le_of_ble_eq_true rfl)) d_Ha_startWait_9 ⟨(show _ ≤ 1 by omega), (show _ ≤ 22 by omega)⟩) hS (fun q _ z => hF q z) hF (fun r35 M36 t H locs ht _ h hB1 _ _ hS => ?_)
    have hW := hw_back hF ht hB1
    clear h9
    refine W.widen (k := 1) (n := 22) (by omega) (by omega) ?_
    exact W.iret hx hb hr (fun t ht hWm => ⟨⟨_, _, rfl, h, hw_t ht hW⟩, hS.F ht⟩) hS.2.2 d_Ha_startWait_12
set_option maxRecDepth 20000 in
theorem c_Ha_startWait {l : Launch} {D : va_G} {ca G : Nat → Nat} (post : Int32 → hM → Prop) {M : hM} {sz : Nat} {a0 : Nat} {a1 : Option Nat} {a2 : Option Nat} {a3 : Option Nat} {x4 : UInt64} (h : wp_Ha_startWait G ca post M a0 a1 a2 a3 x4) : Met l y_Ha_startWait (wz y_Ha_startWait prog_1_method_24_code 6 (some .int)) rm_Ha_startWait (va_Pc [.ref a0, va_rf a1, va_rf a2, va_rf a3, .double x4] (hI D ca G sz M)) (va_Qi post (hB D M sz) (hp_A M sz)) 1 22 (hp_A M sz) := by
  refine Met.ofW (cc := prog_1_method_24_code) (maxL := 6) (ret := some .int) (by decide) rfl ?_
  intro p e s m args below meth c s₁ B hml hv
  obtain ⟨rfl, hsz, hW, hK, hZ0⟩ := hv
  have hts := fun w hw => atoms_spec (ws := wz y_Ha_startWait prog_1_method_24_code 6 (some .int)) B.pre w (List.mem_cons_of_mem _ hw)
  have hown : s.vm.findClass "ChannelHall" = some m.cls := findClass_of_methodNamed B.named
  subst hsz
  have hl : lv_has ((lg_sl [.ref a0, va_rf a1, va_rf a2, va_rf a3, .double x4] ++ List.replicate (6 - (lg_sl [.ref a0, va_rf a1, va_rf a2, va_rf a3, .double x4]).length) Slot.unset).toArray) 6 [(0, .ref a0), (1, va_rf a1), (2, va_rf a2), (3, va_rf a3), (4, .double x4)] := by cases a1 <;> cases a2 <;> cases a3 <;> exact lv_entry _ (Nat.le_of_ble_eq_true rfl)
  rw [lg_entry_eq]
  exact l_Ha_startWait_e ⟨B.exec, B.bytes, B.returns, hml, hown, hts, B.notSynchronized, hK, fun q h => Or.inr h, hZ0⟩ a0 a1 a2 a3 x4 (Nat.zero_le _) (Nat.zero_le _) h hW va_S.rf hl

theorem d_Ha_giveUp_0 : decode prog_1_method_25_code 0 = .ok (.aload_n 1, 1) := by decide +kernel
theorem d_Ha_giveUp_1 : decode prog_1_method_25_code 1 = .ok (.getfield 171, 3) := by decide +kernel
theorem d_Ha_giveUp_4 : decode prog_1_method_25_code 4 = .ok (.astore_n 3, 1) := by decide +kernel
theorem d_Ha_giveUp_5 : decode prog_1_method_25_code 5 = .ok (.aload_n 3, 1) := by decide +kernel
theorem d_Ha_giveUp_6 : decode prog_1_method_25_code 6 = .ok (.ifnonnull 4, 3) := by decide +kernel
theorem d_Ha_giveUp_9 : decode prog_1_method_25_code 9 = .ok (.return_, 1) := by decide +kernel
theorem d_Ha_giveUp_10 : decode prog_1_method_25_code 10 = .ok (.aload_n 3, 1) := by decide +kernel
theorem d_Ha_giveUp_11 : decode prog_1_method_25_code 11 = .ok (.aload_n 1, 1) := by decide +kernel
theorem d_Ha_giveUp_12 : decode prog_1_method_25_code 12 = .ok (.iload_n 2, 1) := by decide +kernel
theorem d_Ha_giveUp_13 : decode prog_1_method_25_code 13 = .ok (.invokevirtual 138, 3) := by decide +kernel
theorem d_Ha_giveUp_16 : decode prog_1_method_25_code 16 = .ok (.aload_n 3, 1) := by decide +kernel
theorem d_Ha_giveUp_17 : decode prog_1_method_25_code 17 = .ok (.getfield 122, 3) := by decide +kernel
theorem d_Ha_giveUp_20 : decode prog_1_method_25_code 20 = .ok (.bipush 6, 2) := by decide +kernel
theorem d_Ha_giveUp_22 : decode prog_1_method_25_code 22 = .ok (.if_icmp .ne 7, 3) := by decide +kernel
theorem d_Ha_giveUp_25 : decode prog_1_method_25_code 25 = .ok (.aload_n 3, 1) := by decide +kernel
theorem d_Ha_giveUp_26 : decode prog_1_method_25_code 26 = .ok (.invokevirtual 149, 3) := by decide +kernel
theorem d_Ha_giveUp_29 : decode prog_1_method_25_code 29 = .ok (.aload_n 3, 1) := by decide +kernel
theorem d_Ha_giveUp_30 : decode prog_1_method_25_code 30 = .ok (.aload_n 0, 1) := by decide +kernel
theorem d_Ha_giveUp_31 : decode prog_1_method_25_code 31 = .ok (.getfield 25, 3) := by decide +kernel
theorem d_Ha_giveUp_34 : decode prog_1_method_25_code 34 = .ok (.invokevirtual 108, 3) := by decide +kernel
theorem d_Ha_giveUp_37 : decode prog_1_method_25_code 37 = .ok (.return_, 1) := by decide +kernel
def y_Ha_giveUp : MethodName := ⟨"ChannelHall", "giveUp", "(LChannelHall$Worker;I)V"⟩
abbrev rm_Ha_giveUp : Room := { frames := 9, cells := 12, slots := 150, locals := 224 }
def wp_Ha_giveUp_29 (G ca : Nat → Nat) (post : hM → Prop) (M : hM) (l0b29 : Nat) (l3b29 : Nat) : Prop := gD M l0b29 3 3 fun v10 => rC M l3b29 0 (wp_Ch_serve G ca (fun M11 => post M11) M l3b29 v10)
def wp_Ha_giveUp (G ca : Nat → Nat) (post : hM → Prop) (M : hM) (a0 : Nat) (a1 : Option Nat) (x2 : Int32) : Prop := nN a1 fun b12 => gR M b12 2 5 fun v13 => (v13 = none → post M) ∧ (∀ b14 : Nat, v13 = some b14 → rC M b14 0 (wp_Ch_release G ca (fun M15 => gI M15 b14 0 1 fun v16 => (¬ v16 = 6 → wp_Ha_giveUp_29 G ca post M15 a0 b14) ∧ (v16 = 6 → rC M15 b14 0 (wp_Ch_breakUp G ca (fun M18 => wp_Ha_giveUp_29 G ca post M18 a0 b14) M15 b14))) M b14 (some b12) x2))
set_option maxHeartbeats 1000000 in
set_option maxRecDepth 20000 in
theorem l_Ha_giveUp_29 {p : Program} {l : Launch} {e : Env} {s : State} {m : MethodId} {args : Array Value} {below : List Frame} {meth : Method} {c : Code} {D : va_G} {ca G : Nat → Nat} {A : Nat → Prop} (C0 : hC p s m args meth c D ca G prog_1_method_25_code 4 (none) "ChannelHall" A) {post : hM → Prop} {M : hM} {H : Heap} {locs : List Loc} {ls : Array Slot} {cells slots : Nat} (l0b29 : Nat) (l3b29 : Nat) (hc : cells ≤ 0) (hs : slots ≤ 0) (h : wp_Ha_giveUp_29 G ca post M l0b29 l3b29) (hW : hw D wCl A M H) (hS : va_S A s.heap H locs) (hl : lv_has ls 4 [(0, .ref l0b29), (3, .ref l3b29)]) : W p l e rm_Ha_giveUp s m args below meth c H locs cells slots (MQ below (va_Qv post (fun M' t => hw D wCl A M' t.heap) A) args s 12 150 A) (F0 m 29 ls []) := by
  obtain ⟨hx, hb, hr, hml, hown, hts, hlocks, hK, hA, hZ0⟩ := id C0
  refine lv_aload_n hx hb d_Ha_giveUp_29 rfl (lv_at hl 1 rfl) ?_
  refine lv_aload_n hx hb d_Ha_giveUp_30 rfl (lv_at hl 0 rfl) ?_
  obtain ⟨fs, v10, h1, h2, h⟩ := h
  refine va_get (D := D) (ci := 3) (v := .double v10) (C := "ChannelHall") (T := THa) (N := 4) hx hb hts uHa hown hK (hw_one hW h1) 0 rfl rfl 3 (by decide) (hts _ bw_103) (fun _ h9 => h9) h2 d_Ha_giveUp_31 ?_
  obtain ⟨⟨fs, h1⟩, h⟩ := h
  have h9 := h
  clear h
  have hF := hW.free hS hA
  refine va_callv (va_runV (As := [.double v10]) (rest := []) ⟨hx, hb, hml, hown, hts⟩ (c_Ch_serve _ h9) (cwV 1 hts (gi_V bw_791 bw_792 bw_793 bw_11 bw_794) rfl rfl rfl (by decide +kernel) ⟨Nat.le_of_ble_eq_true rfl, Nat.le_of_ble_eq_true rfl⟩) ⟨hI.blind, hw_recv hK hW h1 rfl, hI.give hW hS hA hK hZ0⟩ rfl rfl hl.1 rfl (lv_room (Nat.le_of_ble_eq_true rfl)) d_Ha_giveUp_34 ⟨(show _ ≤ 12 by omega), (show _ ≤ 150 by omega)⟩) hS (fun q _ z => hF q z) hF (fun M11 t H locs ht _ h hB1 _ _ hS => ?_)
  have hW := hw_back hF ht hB1
  clear h9
  refine W.widen (k := 12) (n := 150) (by omega) (by omega) ?_
  exact W.vret hx hb hr (fun t ht hWm => ⟨⟨_, rfl, h, hw_t ht hW⟩, hS.F ht⟩) hS.2.2 d_Ha_giveUp_37
set_option maxHeartbeats 1000000 in
set_option maxRecDepth 20000 in
theorem l_Ha_giveUp_e {p : Program} {l : Launch} {e : Env} {s : State} {m : MethodId} {args : Array Value} {below : List Frame} {meth : Method} {c : Code} {D : va_G} {ca G : Nat → Nat} {A : Nat → Prop} (C0 : hC p s m args meth c D ca G prog_1_method_25_code 4 (none) "ChannelHall" A) {post : hM → Prop} {M : hM} {H : Heap} {locs : List Loc} {ls : Array Slot} {cells slots : Nat} (a0 : Nat) (a1 : Option Nat) (x2 : Int32) (hc : cells ≤ 0) (hs : slots ≤ 0) (h : wp_Ha_giveUp G ca post M a0 a1 x2) (hW : hw D wCl A M H) (hS : va_S A s.heap H locs) (hl : lv_has ls 4 [(0, .ref a0), (1, va_rf a1), (2, .int x2)]) : W p l e rm_Ha_giveUp s m args below meth c H locs cells slots (MQ below (va_Qv post (fun M' t => hw D wCl A M' t.heap) A) args s 12 150 A) (F0 m 0 ls []) := by
  obtain ⟨hx, hb, hr, hml, hown, hts, hlocks, hK, hA, hZ0⟩ := id C0
  refine lq_load_n hx hb d_Ha_giveUp_0 rfl (lv_at hl 1 rfl) ?_
  obtain ⟨b12, rfl, h⟩ := h
  obtain ⟨fs, v13, h1, h2, h⟩ := h
  refine va_get (D := D) (ci := 2) (v := va_rf v13) (C := "ChannelHall$Worker") (T := TWo) (N := 11) hx hb hts uWo hown hK (hw_one hW h1) 0 rfl rfl 5 (by decide) (hts _ bw_63) (fun _ h9 => h9) h2 d_Ha_giveUp_1 ?_
  refine lq_store_n (lv' := [(3, va_rf v13), (0, .ref a0), (1, .ref b12), (2, .int x2)]) hx hb d_Ha_giveUp_4 rfl hl (by decide) rfl (fun ls hl => ?_)
  refine lq_load_n hx hb d_Ha_giveUp_5 rfl (lv_at hl 0 rfl) ?_
  obtain ⟨h0, h1⟩ := h
  cases v13 with
  | none =>
    have h := h0 rfl
    refine lv_ifnonnullN hx hb d_Ha_giveUp_6 ?_
    refine W.widen (k := 12) (n := 150) (by omega) (by omega) ?_
    exact W.vret hx hb hr (fun t ht hWm => ⟨⟨_, rfl, h, hw_t ht hW⟩, hS.F ht⟩) hS.2.2 d_Ha_giveUp_9
  | some b14 =>
    have h := h1 b14 rfl
    refine lv_ifnonnull (tgt := 10) hx hb d_Ha_giveUp_6 (by decide) ?_
    refine lv_aload_n hx hb d_Ha_giveUp_10 rfl (lv_at hl 0 rfl) ?_
    refine lv_aload_n hx hb d_Ha_giveUp_11 rfl (lv_at hl 2 rfl) ?_
    refine lv_iload_n hx hb d_Ha_giveUp_12 rfl (lv_at hl 3 rfl) ?_
    obtain ⟨⟨fs, h1⟩, h⟩ := h
    have h9 := h
    clear h
    have hF := hW.free hS hA
    refine va_callv (va_runV (As := [.ref b12, .int x2]) (rest := []) ⟨hx, hb, hml, hown, hts⟩ (c_Ch_release _ h9) (cwV 2 hts (gi_V bw_837 bw_780 bw_781 bw_11 bw_782) rfl rfl rfl (by decide +kernel) ⟨Nat.le_of_ble_eq_true rfl, Nat.le_of_ble_eq_true rfl⟩) ⟨hI.blind, hw_recv hK hW h1 rfl, hI.give hW hS hA hK hZ0⟩ rfl rfl hl.1 rfl (lv_room (Nat.le_of_ble_eq_true rfl)) d_Ha_giveUp_13 ⟨(show _ ≤ 12 by omega), (show _ ≤ 150 by omega)⟩) hS (fun q _ z => hF q z) hF (fun M15 t H locs ht _ h hB1 _ _ hS => ?_)
    have hW := hw_back hF ht hB1
    clear h9
    refine lv_aload_n hx hb d_Ha_giveUp_16 rfl (lv_at hl 0 rfl) ?_
    obtain ⟨fs, v16, h1, h2, h⟩ := h
    refine va_get (D := D) (ci := 0) (v := .int v16) (C := "ChannelHall$Channel") (T := TCh) (N := 10) hx hb hts uCh hown hK (hw_one hW h1) 0 rfl rfl 1 (by decide) (hts _ bw_254) (fun _ h9 => h9) h2 d_Ha_giveUp_17 ?_
    refine lv_bipush (v := 6) hx hb d_Ha_giveUp_20 (by decide) ?_
    obtain ⟨h0, h1⟩ := h
    refine lv_icmp_ne (tgt := 29) hx hb d_Ha_giveUp_22 (by decide) (fun c17 => ?_) (fun c17 => ?_)
    · have h := h0 c17
      exact l_Ha_giveUp_29 C0 a0 b14 (by omega) (by omega) h hW hS (lv_sub hl [1, 0] rfl)
    · have h := h1 c17
      refine lv_aload_n hx hb d_Ha_giveUp_25 rfl (lv_at hl 0 rfl) ?_
      obtain ⟨⟨fs, h1⟩, h⟩ := h
      have h9 := h
      clear h
      have hF := hW.free hS hA
      refine va_callv (va_runV (As := []) (rest := []) ⟨hx, hb, hml, hown, hts⟩ (c_Ch_breakUp _ h9) (cwV 0 hts (gi_V bw_861 bw_862 bw_863 bw_11 bw_864) rfl rfl rfl (by decide +kernel) ⟨Nat.le_of_ble_eq_true rfl, Nat.le_of_ble_eq_true rfl⟩) ⟨hI.blind, hw_recv hK hW h1 rfl, hI.give hW hS hA hK hZ0⟩ rfl rfl hl.1 rfl (lv_room (Nat.le_of_ble_eq_true rfl)) d_Ha_giveUp_26 ⟨(show _ ≤ 12 by omega), (show _ ≤ 150 by omega)⟩) hS (fun q _ z => hF q z) hF (fun M18 t H locs ht _ h hB1 _ _ hS => ?_)
      have hW := hw_back hF ht hB1
      clear h9
      exact l_Ha_giveUp_29 C0 a0 b14 (by omega) (by omega) h hW hS (lv_sub hl [1, 0] rfl)
set_option maxRecDepth 20000 in
theorem c_Ha_giveUp {l : Launch} {D : va_G} {ca G : Nat → Nat} (post : hM → Prop) {M : hM} {sz : Nat} {a0 : Nat} {a1 : Option Nat} {x2 : Int32} (h : wp_Ha_giveUp G ca post M a0 a1 x2) : Met l y_Ha_giveUp (wz y_Ha_giveUp prog_1_method_25_code 4 (none)) rm_Ha_giveUp (va_Pc [.ref a0, va_rf a1, .int x2] (hI D ca G sz M)) (va_Qv post (hB D M sz) (hp_A M sz)) 12 150 (hp_A M sz) := by
  refine Met.ofW (cc := prog_1_method_25_code) (maxL := 4) (ret := none) (by decide) rfl ?_
  intro p e s m args below meth c s₁ B hml hv
  obtain ⟨rfl, hsz, hW, hK, hZ0⟩ := hv
  have hts := fun w hw => atoms_spec (ws := wz y_Ha_giveUp prog_1_method_25_code 4 (none)) B.pre w (List.mem_cons_of_mem _ hw)
  have hown : s.vm.findClass "ChannelHall" = some m.cls := findClass_of_methodNamed B.named
  subst hsz
  have hl : lv_has ((lg_sl [.ref a0, va_rf a1, .int x2] ++ List.replicate (4 - (lg_sl [.ref a0, va_rf a1, .int x2]).length) Slot.unset).toArray) 4 [(0, .ref a0), (1, va_rf a1), (2, .int x2)] := by cases a1 <;> exact lv_entry _ (Nat.le_of_ble_eq_true rfl)
  rw [lg_entry_eq]
  exact l_Ha_giveUp_e ⟨B.exec, B.bytes, B.returns, hml, hown, hts, B.notSynchronized, hK, fun q h => Or.inr h, hZ0⟩ a0 a1 x2 (Nat.zero_le _) (Nat.zero_le _) h hW va_S.rf hl

theorem d_Ha_nextMoment_0 : decode prog_1_method_26_code 0 = .ok (.dload_n 1, 1) := by decide +kernel
theorem d_Ha_nextMoment_1 : decode prog_1_method_26_code 1 = .ok (.dconst 1, 1) := by decide +kernel
theorem d_Ha_nextMoment_2 : decode prog_1_method_26_code 2 = .ok (.dadd, 1) := by decide +kernel
theorem d_Ha_nextMoment_3 : decode prog_1_method_26_code 3 = .ok (.dstore_n 3, 1) := by decide +kernel
theorem d_Ha_nextMoment_4 : decode prog_1_method_26_code 4 = .ok (.aload_n 0, 1) := by decide +kernel
theorem d_Ha_nextMoment_5 : decode prog_1_method_26_code 5 = .ok (.getfield 11, 3) := by decide +kernel
theorem d_Ha_nextMoment_8 : decode prog_1_method_26_code 8 = .ok (.astore 5, 2) := by decide +kernel
theorem d_Ha_nextMoment_10 : decode prog_1_method_26_code 10 = .ok (.aload 5, 2) := by decide +kernel
theorem d_Ha_nextMoment_12 : decode prog_1_method_26_code 12 = .ok (.arraylength, 1) := by decide +kernel
theorem d_Ha_nextMoment_13 : decode prog_1_method_26_code 13 = .ok (.istore 6, 2) := by decide +kernel
theorem d_Ha_nextMoment_15 : decode prog_1_method_26_code 15 = .ok (.iconst 0, 1) := by decide +kernel
theorem d_Ha_nextMoment_16 : decode prog_1_method_26_code 16 = .ok (.istore 7, 2) := by decide +kernel
theorem d_Ha_nextMoment_18 : decode prog_1_method_26_code 18 = .ok (.iload 7, 2) := by decide +kernel
theorem d_Ha_nextMoment_20 : decode prog_1_method_26_code 20 = .ok (.iload 6, 2) := by decide +kernel
theorem d_Ha_nextMoment_22 : decode prog_1_method_26_code 22 = .ok (.if_icmp .ge 48, 3) := by decide +kernel
theorem d_Ha_nextMoment_25 : decode prog_1_method_26_code 25 = .ok (.aload 5, 2) := by decide +kernel
theorem d_Ha_nextMoment_27 : decode prog_1_method_26_code 27 = .ok (.iload 7, 2) := by decide +kernel
theorem d_Ha_nextMoment_29 : decode prog_1_method_26_code 29 = .ok (.aaload, 1) := by decide +kernel
theorem d_Ha_nextMoment_30 : decode prog_1_method_26_code 30 = .ok (.astore 8, 2) := by decide +kernel
theorem d_Ha_nextMoment_32 : decode prog_1_method_26_code 32 = .ok (.aload 8, 2) := by decide +kernel
theorem d_Ha_nextMoment_34 : decode prog_1_method_26_code 34 = .ok (.getfield 171, 3) := by decide +kernel
theorem d_Ha_nextMoment_37 : decode prog_1_method_26_code 37 = .ok (.ifnull 27, 3) := by decide +kernel
theorem d_Ha_nextMoment_40 : decode prog_1_method_26_code 40 = .ok (.aload 8, 2) := by decide +kernel
theorem d_Ha_nextMoment_42 : decode prog_1_method_26_code 42 = .ok (.getfield 244, 3) := by decide +kernel
theorem d_Ha_nextMoment_45 : decode prog_1_method_26_code 45 = .ok (.ifCond .eq 19, 3) := by decide +kernel
theorem d_Ha_nextMoment_48 : decode prog_1_method_26_code 48 = .ok (.aload 8, 2) := by decide +kernel
theorem d_Ha_nextMoment_50 : decode prog_1_method_26_code 50 = .ok (.getfield 247, 3) := by decide +kernel
theorem d_Ha_nextMoment_53 : decode prog_1_method_26_code 53 = .ok (.dload_n 3, 1) := by decide +kernel
theorem d_Ha_nextMoment_54 : decode prog_1_method_26_code 54 = .ok (.dcmp .g, 1) := by decide +kernel
theorem d_Ha_nextMoment_55 : decode prog_1_method_26_code 55 = .ok (.ifCond .ge 9, 3) := by decide +kernel
theorem d_Ha_nextMoment_58 : decode prog_1_method_26_code 58 = .ok (.aload 8, 2) := by decide +kernel
theorem d_Ha_nextMoment_60 : decode prog_1_method_26_code 60 = .ok (.getfield 247, 3) := by decide +kernel
theorem d_Ha_nextMoment_63 : decode prog_1_method_26_code 63 = .ok (.dstore_n 3, 1) := by decide +kernel
theorem d_Ha_nextMoment_64 : decode prog_1_method_26_code 64 = .ok (.iinc 7 1, 3) := by decide +kernel
theorem d_Ha_nextMoment_67 : decode prog_1_method_26_code 67 = .ok (.goto (-49), 3) := by decide +kernel
theorem d_Ha_nextMoment_70 : decode prog_1_method_26_code 70 = .ok (.aload_n 0, 1) := by decide +kernel
theorem d_Ha_nextMoment_71 : decode prog_1_method_26_code 71 = .ok (.getfield 17, 3) := by decide +kernel
theorem d_Ha_nextMoment_74 : decode prog_1_method_26_code 74 = .ok (.astore 5, 2) := by decide +kernel
theorem d_Ha_nextMoment_76 : decode prog_1_method_26_code 76 = .ok (.aload 5, 2) := by decide +kernel
theorem d_Ha_nextMoment_78 : decode prog_1_method_26_code 78 = .ok (.arraylength, 1) := by decide +kernel
theorem d_Ha_nextMoment_79 : decode prog_1_method_26_code 79 = .ok (.istore 6, 2) := by decide +kernel
theorem d_Ha_nextMoment_81 : decode prog_1_method_26_code 81 = .ok (.iconst 0, 1) := by decide +kernel
theorem d_Ha_nextMoment_82 : decode prog_1_method_26_code 82 = .ok (.istore 7, 2) := by decide +kernel
theorem d_Ha_nextMoment_84 : decode prog_1_method_26_code 84 = .ok (.iload 7, 2) := by decide +kernel
theorem d_Ha_nextMoment_86 : decode prog_1_method_26_code 86 = .ok (.iload 6, 2) := by decide +kernel
theorem d_Ha_nextMoment_88 : decode prog_1_method_26_code 88 = .ok (.if_icmp .ge 32, 3) := by decide +kernel
theorem d_Ha_nextMoment_91 : decode prog_1_method_26_code 91 = .ok (.aload 5, 2) := by decide +kernel
theorem d_Ha_nextMoment_93 : decode prog_1_method_26_code 93 = .ok (.iload 7, 2) := by decide +kernel
theorem d_Ha_nextMoment_95 : decode prog_1_method_26_code 95 = .ok (.aaload, 1) := by decide +kernel
theorem d_Ha_nextMoment_96 : decode prog_1_method_26_code 96 = .ok (.astore 8, 2) := by decide +kernel
theorem d_Ha_nextMoment_98 : decode prog_1_method_26_code 98 = .ok (.aload 8, 2) := by decide +kernel
theorem d_Ha_nextMoment_100 : decode prog_1_method_26_code 100 = .ok (.ifnull 14, 3) := by decide +kernel
theorem d_Ha_nextMoment_103 : decode prog_1_method_26_code 103 = .ok (.aload 8, 2) := by decide +kernel
theorem d_Ha_nextMoment_105 : decode prog_1_method_26_code 105 = .ok (.aload_n 0, 1) := by decide +kernel
theorem d_Ha_nextMoment_106 : decode prog_1_method_26_code 106 = .ok (.getfield 25, 3) := by decide +kernel
theorem d_Ha_nextMoment_109 : decode prog_1_method_26_code 109 = .ok (.dload_n 3, 1) := by decide +kernel
theorem d_Ha_nextMoment_110 : decode prog_1_method_26_code 110 = .ok (.invokevirtual 254, 3) := by decide +kernel
theorem d_Ha_nextMoment_113 : decode prog_1_method_26_code 113 = .ok (.dstore_n 3, 1) := by decide +kernel
theorem d_Ha_nextMoment_114 : decode prog_1_method_26_code 114 = .ok (.iinc 7 1, 3) := by decide +kernel
theorem d_Ha_nextMoment_117 : decode prog_1_method_26_code 117 = .ok (.goto (-33), 3) := by decide +kernel
theorem d_Ha_nextMoment_120 : decode prog_1_method_26_code 120 = .ok (.dload_n 3, 1) := by decide +kernel
theorem d_Ha_nextMoment_121 : decode prog_1_method_26_code 121 = .ok (.dreturn, 1) := by decide +kernel
def y_Ha_nextMoment : MethodName := ⟨"ChannelHall", "nextMoment", "(D)D"⟩
abbrev rm_Ha_nextMoment : Room := { frames := 5, cells := 0, slots := 0, locals := 112 }
def wp_Ha_nextMoment_114 (G ca : Nat → Nat) (post : UInt64 → hM → Prop) (k_43 : hM → Nat → UInt64 → Nat → Int32 → Int32 → Prop) (M : hM) (l0b114 : Nat) (l3b114 : UInt64) (l5b114 : Nat) (l6b114 : Int32) (l7b114 : Int32) : Prop := k_43 M l0b114 l3b114 l5b114 l6b114 (l7b114 + 1)
def wp_Ha_nextMoment_84 (G ca : Nat → Nat) (post : UInt64 → hM → Prop) : Nat → hM → Nat → UInt64 → Nat → Int32 → Int32 → Prop
  | 0, _, _, _, _, _, _ => False
  | n + 1, M, l0b84, l3b84, l5b84, l6b84, l7b84 => (l6b84 ≤ l7b84 → post l3b84 M) ∧ (¬ l6b84 ≤ l7b84 → aR M l5b84 (ca 1) l7b84 fun v24 => (v24 = none → wp_Ha_nextMoment_114 G ca post (wp_Ha_nextMoment_84 G ca post n) M l0b84 l3b84 l5b84 l6b84 l7b84) ∧ (∀ b25 : Nat, v24 = some b25 → gD M l0b84 3 3 fun v26 => rC M b25 0 (wp_Ch_earlierDue G ca (fun r27 M28 => wp_Ha_nextMoment_114 G ca post (wp_Ha_nextMoment_84 G ca post n) M28 l0b84 r27 l5b84 l6b84 l7b84) M b25 v26 l3b84)))
def wp_Ha_nextMoment_64 (G ca : Nat → Nat) (post : UInt64 → hM → Prop) (k_12 : hM → Nat → UInt64 → Nat → Int32 → Int32 → Prop) (M : hM) (l0b64 : Nat) (l3b64 : UInt64) (l5b64 : Nat) (l6b64 : Int32) (l7b64 : Int32) : Prop := k_12 M l0b64 l3b64 l5b64 l6b64 (l7b64 + 1)
def wp_Ha_nextMoment_18 (G ca : Nat → Nat) (post : UInt64 → hM → Prop) : Nat → hM → Nat → UInt64 → Nat → Int32 → Int32 → Prop
  | 0, _, _, _, _, _, _ => False
  | n + 1, M, l0b18, l3b18, l5b18, l6b18, l7b18 => (l6b18 ≤ l7b18 → gR M l0b18 3 1 fun v30 => nN v30 fun b31 => aL M b31 (ca 1) fun v32 => ∃ n, wp_Ha_nextMoment_84 G ca post n M l0b18 l3b18 b31 v32 0) ∧ (¬ l6b18 ≤ l7b18 → aR M l5b18 (ca 0) l7b18 fun v33 => nN v33 fun b34 => gR M b34 2 5 fun v35 => (v35 = none → wp_Ha_nextMoment_64 G ca post (wp_Ha_nextMoment_18 G ca post n) M l0b18 l3b18 l5b18 l6b18 l7b18) ∧ (∀ b36 : Nat, v35 = some b36 → gI M b34 2 9 fun v37 => (v37 = 0 → wp_Ha_nextMoment_64 G ca post (wp_Ha_nextMoment_18 G ca post n) M l0b18 l3b18 l5b18 l6b18 l7b18) ∧ (¬ v37 = 0 → gD M b34 2 10 fun v39 => (0 ≤ (Op.cmpValue (FP.dcmp v39 l3b18) .g) → wp_Ha_nextMoment_64 G ca post (wp_Ha_nextMoment_18 G ca post n) M l0b18 l3b18 l5b18 l6b18 l7b18) ∧ (¬ 0 ≤ (Op.cmpValue (FP.dcmp v39 l3b18) .g) → gD M b34 2 10 fun v41 => wp_Ha_nextMoment_64 G ca post (wp_Ha_nextMoment_18 G ca post n) M l0b18 v41 l5b18 l6b18 l7b18))))
def wp_Ha_nextMoment (G ca : Nat → Nat) (post : UInt64 → hM → Prop) (M : hM) (a0 : Nat) (x1 : UInt64) : Prop := nD (FP.dadd x1 FP.dconst1) (gR M a0 3 0 fun v42 => nN v42 fun b43 => aL M b43 (ca 0) fun v44 => ∃ n, wp_Ha_nextMoment_18 G ca post n M a0 (FP.dadd x1 FP.dconst1) b43 v44 0)
set_option maxHeartbeats 1000000 in
set_option maxRecDepth 20000 in
theorem l_Ha_nextMoment_114 {p : Program} {l : Launch} {e : Env} {s : State} {m : MethodId} {args : Array Value} {below : List Frame} {meth : Method} {c : Code} {D : va_G} {ca G : Nat → Nat} {A : Nat → Prop} (C0 : hC p s m args meth c D ca G prog_1_method_26_code 9 (some .double) "ChannelHall" A) {post : UInt64 → hM → Prop} {k_43 : hM → Nat → UInt64 → Nat → Int32 → Int32 → Prop} (hk_43 : ∀ (M : hM) (H : Heap) (locs : List Loc) (ls : Array Slot) (l0b84 : Nat) (l3b84 : UInt64) (l5b84 : Nat) (l6b84 : Int32) (l7b84 : Int32), k_43 M l0b84 l3b84 l5b84 l6b84 l7b84 → hw D wCl A M H → va_S A s.heap H locs → lv_has ls 9 [(0, .ref l0b84), (3, .double l3b84), (5, .ref l5b84), (6, .int l6b84), (7, .int l7b84)] → W p l e rm_Ha_nextMoment s m args below meth c H locs 0 0 (MQ below (va_Qd post (fun M' t => hw D wCl A M' t.heap) A) args s 0 0 A) (F0 m 84 ls [])) {M : hM} {H : Heap} {locs : List Loc} {ls : Array Slot} (l0b114 : Nat) (l3b114 : UInt64) (l5b114 : Nat) (l6b114 : Int32) (l7b114 : Int32) (h : wp_Ha_nextMoment_114 G ca post k_43 M l0b114 l3b114 l5b114 l6b114 l7b114) (hW : hw D wCl A M H) (hS : va_S A s.heap H locs) (hl : lv_has ls 9 [(0, .ref l0b114), (3, .double l3b114), (5, .ref l5b114), (6, .int l6b114), (7, .int l7b114)]) : W p l e rm_Ha_nextMoment s m args below meth c H locs 0 0 (MQ below (va_Qd post (fun M' t => hw D wCl A M' t.heap) A) args s 0 0 A) (F0 m 114 ls []) := by
  obtain ⟨hx, hb, hr, hml, hown, hts, hlocks, hK, hA, hZ0⟩ := id C0
  refine lv_iinc (v := l7b114 + 1) (lv' := [(7, .int (l7b114 + 1)), (0, .ref l0b114), (3, .double l3b114), (5, .ref l5b114), (6, .int l6b114)]) hx hb d_Ha_nextMoment_114 hl (k := 4) rfl rfl (by decide) rfl (fun ls hl => ?_)
  refine lv_goto (tgt := 84) hx hb d_Ha_nextMoment_117 (by decide) ?_
  exact hk_43 _ _ _ _ l0b114 l3b114 l5b114 l6b114 (l7b114 + 1) h hW hS (lv_sub hl [1, 2, 3, 4, 0] rfl)
set_option maxHeartbeats 1000000 in
set_option maxRecDepth 20000 in
theorem l_Ha_nextMoment_84 {p : Program} {l : Launch} {e : Env} {s : State} {m : MethodId} {args : Array Value} {below : List Frame} {meth : Method} {c : Code} {D : va_G} {ca G : Nat → Nat} {A : Nat → Prop} (C0 : hC p s m args meth c D ca G prog_1_method_26_code 9 (some .double) "ChannelHall" A) {post : UInt64 → hM → Prop} : ∀ (n : Nat) {M : hM} {H : Heap} {locs : List Loc} {ls : Array Slot} (l0b84 : Nat) (l3b84 : UInt64) (l5b84 : Nat) (l6b84 : Int32) (l7b84 : Int32) (h : wp_Ha_nextMoment_84 G ca post n M l0b84 l3b84 l5b84 l6b84 l7b84) (hW : hw D wCl A M H) (hS : va_S A s.heap H locs) (hl : lv_has ls 9 [(0, .ref l0b84), (3, .double l3b84), (5, .ref l5b84), (6, .int l6b84), (7, .int l7b84)]), W p l e rm_Ha_nextMoment s m args below meth c H locs 0 0 (MQ below (va_Qd post (fun M' t => hw D wCl A M' t.heap) A) args s 0 0 A) (F0 m 84 ls []) := by
  obtain ⟨hx, hb, hr, hml, hown, hts, hlocks, hK, hA, hZ0⟩ := id C0
  intro n
  induction n with
  | zero =>
    intro M H locs ls l0b84 l3b84 l5b84 l6b84 l7b84 h
    exact False.elim h
  | succ n ih =>
    intro M H locs ls l0b84 l3b84 l5b84 l6b84 l7b84 h hW hS hl
    have hk_43 := fun M H locs ls l0b84 l3b84 l5b84 l6b84 l7b84 h hW hS hl => @ih M H locs ls l0b84 l3b84 l5b84 l6b84 l7b84 h hW hS hl
    refine lv_iload hx hb d_Ha_nextMoment_84 (lv_at hl 4 rfl) ?_
    refine lv_iload hx hb d_Ha_nextMoment_86 (lv_at hl 3 rfl) ?_
    obtain ⟨h0, h1⟩ := h
    refine lv_icmp_ge (tgt := 120) hx hb d_Ha_nextMoment_88 (by decide) (fun c23 => ?_) (fun c23 => ?_)
    · have h := h0 c23
      refine lv_dload_n hx hb d_Ha_nextMoment_120 rfl (lv_at hl 1 rfl) ?_
      exact W.dret hx hb hr (fun t ht hWm => ⟨⟨_, _, rfl, h, hw_t ht hW⟩, hS.F ht⟩) hS.2.2 d_Ha_nextMoment_121
    · have h := h1 c23
      refine lv_aload hx hb d_Ha_nextMoment_91 (lv_at hl 2 rfl) ?_
      refine lv_iload hx hb d_Ha_nextMoment_93 (lv_at hl 4 rfl) ?_
      obtain ⟨n, f, h1, h2, h⟩ := h
      refine va_aldq hx hb hK (hw_one hW h1) 0 1 rfl rfl h2 d_Ha_nextMoment_95 ?_
      generalize f (l7b84).toNatClampNeg = v24 at h ⊢
      refine lq_store (lv' := [(8, va_rf v24), (0, .ref l0b84), (3, .double l3b84), (5, .ref l5b84), (6, .int l6b84), (7, .int l7b84)]) hx hb d_Ha_nextMoment_96 hl (by decide) rfl (fun ls hl => ?_)
      refine lq_load hx hb d_Ha_nextMoment_98 (lv_at hl 0 rfl) ?_
      obtain ⟨h0, h1⟩ := h
      cases v24 with
      | none =>
        have h := h0 rfl
        refine lv_ifnullN (tgt := 114) hx hb d_Ha_nextMoment_100 (by decide) ?_
        exact l_Ha_nextMoment_114 C0 hk_43 l0b84 l3b84 l5b84 l6b84 l7b84 h hW hS (lv_sub hl [1, 2, 3, 4, 5] rfl)
      | some b25 =>
        have h := h1 b25 rfl
        refine lv_ifnull hx hb d_Ha_nextMoment_100 ?_
        refine lv_aload hx hb d_Ha_nextMoment_103 (lv_at hl 0 rfl) ?_
        refine lv_aload_n hx hb d_Ha_nextMoment_105 rfl (lv_at hl 1 rfl) ?_
        obtain ⟨fs, v26, h1, h2, h⟩ := h
        refine va_get (D := D) (ci := 3) (v := .double v26) (C := "ChannelHall") (T := THa) (N := 4) hx hb hts uHa hown hK (hw_one hW h1) 0 rfl rfl 3 (by decide) (hts _ bw_103) (fun _ h9 => h9) h2 d_Ha_nextMoment_106 ?_
        refine lv_dload_n hx hb d_Ha_nextMoment_109 rfl (lv_at hl 2 rfl) ?_
        obtain ⟨⟨fs, h1⟩, h⟩ := h
        have h9 := h
        clear h
        have hF := hW.free hS hA
        refine va_calld (va_runV (As := [.double v26, .double l3b84]) (rest := []) ⟨hx, hb, hml, hown, hts⟩ (c_Ch_earlierDue _ h9) (cwV 2 hts (gi_V bw_904 bw_905 bw_906 bw_11 bw_907) rfl rfl rfl (by decide +kernel) ⟨Nat.le_of_ble_eq_true rfl, Nat.le_of_ble_eq_true rfl⟩) ⟨hI.blind, hw_recv hK hW h1 rfl, hI.give hW hS hA hK hZ0⟩ rfl rfl hl.1 rfl (lv_room (Nat.le_of_ble_eq_true rfl)) d_Ha_nextMoment_110 ⟨(show _ ≤ 0 by omega), (show _ ≤ 0 by omega)⟩) hS (fun q _ z => hF q z) hF (fun r27 M28 t H locs ht _ h hB1 _ _ hS => ?_)
        have hW := hw_back hF ht hB1
        clear h9
        refine lv_dstore_n (lv' := [(3, .double r27), (8, .ref b25), (0, .ref l0b84), (5, .ref l5b84), (6, .int l6b84), (7, .int l7b84)]) hx hb d_Ha_nextMoment_113 rfl hl (by decide) rfl (fun ls hl => ?_)
        exact l_Ha_nextMoment_114 C0 hk_43 l0b84 r27 l5b84 l6b84 l7b84 h hW hS (lv_sub hl [2, 0, 3, 4, 5] rfl)
set_option maxHeartbeats 1000000 in
set_option maxRecDepth 20000 in
theorem l_Ha_nextMoment_64 {p : Program} {l : Launch} {e : Env} {s : State} {m : MethodId} {args : Array Value} {below : List Frame} {meth : Method} {c : Code} {D : va_G} {ca G : Nat → Nat} {A : Nat → Prop} (C0 : hC p s m args meth c D ca G prog_1_method_26_code 9 (some .double) "ChannelHall" A) {post : UInt64 → hM → Prop} {k_12 : hM → Nat → UInt64 → Nat → Int32 → Int32 → Prop} (hk_12 : ∀ (M : hM) (H : Heap) (locs : List Loc) (ls : Array Slot) (l0b18 : Nat) (l3b18 : UInt64) (l5b18 : Nat) (l6b18 : Int32) (l7b18 : Int32), k_12 M l0b18 l3b18 l5b18 l6b18 l7b18 → hw D wCl A M H → va_S A s.heap H locs → lv_has ls 9 [(0, .ref l0b18), (3, .double l3b18), (5, .ref l5b18), (6, .int l6b18), (7, .int l7b18)] → W p l e rm_Ha_nextMoment s m args below meth c H locs 0 0 (MQ below (va_Qd post (fun M' t => hw D wCl A M' t.heap) A) args s 0 0 A) (F0 m 18 ls [])) {M : hM} {H : Heap} {locs : List Loc} {ls : Array Slot} (l0b64 : Nat) (l3b64 : UInt64) (l5b64 : Nat) (l6b64 : Int32) (l7b64 : Int32) (h : wp_Ha_nextMoment_64 G ca post k_12 M l0b64 l3b64 l5b64 l6b64 l7b64) (hW : hw D wCl A M H) (hS : va_S A s.heap H locs) (hl : lv_has ls 9 [(0, .ref l0b64), (3, .double l3b64), (5, .ref l5b64), (6, .int l6b64), (7, .int l7b64)]) : W p l e rm_Ha_nextMoment s m args below meth c H locs 0 0 (MQ below (va_Qd post (fun M' t => hw D wCl A M' t.heap) A) args s 0 0 A) (F0 m 64 ls []) := by
  obtain ⟨hx, hb, hr, hml, hown, hts, hlocks, hK, hA, hZ0⟩ := id C0
  refine lv_iinc (v := l7b64 + 1) (lv' := [(7, .int (l7b64 + 1)), (0, .ref l0b64), (3, .double l3b64), (5, .ref l5b64), (6, .int l6b64)]) hx hb d_Ha_nextMoment_64 hl (k := 4) rfl rfl (by decide) rfl (fun ls hl => ?_)
  refine lv_goto (tgt := 18) hx hb d_Ha_nextMoment_67 (by decide) ?_
  exact hk_12 _ _ _ _ l0b64 l3b64 l5b64 l6b64 (l7b64 + 1) h hW hS (lv_sub hl [1, 2, 3, 4, 0] rfl)
set_option maxHeartbeats 1000000 in
set_option maxRecDepth 20000 in
theorem l_Ha_nextMoment_18 {p : Program} {l : Launch} {e : Env} {s : State} {m : MethodId} {args : Array Value} {below : List Frame} {meth : Method} {c : Code} {D : va_G} {ca G : Nat → Nat} {A : Nat → Prop} (C0 : hC p s m args meth c D ca G prog_1_method_26_code 9 (some .double) "ChannelHall" A) {post : UInt64 → hM → Prop} : ∀ (n : Nat) {M : hM} {H : Heap} {locs : List Loc} {ls : Array Slot} (l0b18 : Nat) (l3b18 : UInt64) (l5b18 : Nat) (l6b18 : Int32) (l7b18 : Int32) (h : wp_Ha_nextMoment_18 G ca post n M l0b18 l3b18 l5b18 l6b18 l7b18) (hW : hw D wCl A M H) (hS : va_S A s.heap H locs) (hl : lv_has ls 9 [(0, .ref l0b18), (3, .double l3b18), (5, .ref l5b18), (6, .int l6b18), (7, .int l7b18)]), W p l e rm_Ha_nextMoment s m args below meth c H locs 0 0 (MQ below (va_Qd post (fun M' t => hw D wCl A M' t.heap) A) args s 0 0 A) (F0 m 18 ls []) := by
  obtain ⟨hx, hb, hr, hml, hown, hts, hlocks, hK, hA, hZ0⟩ := id C0
  intro n
  induction n with
  | zero =>
    intro M H locs ls l0b18 l3b18 l5b18 l6b18 l7b18 h
    exact False.elim h
  | succ n ih =>
    intro M H locs ls l0b18 l3b18 l5b18 l6b18 l7b18 h hW hS hl
    have hk_12 := fun M H locs ls l0b18 l3b18 l5b18 l6b18 l7b18 h hW hS hl => @ih M H locs ls l0b18 l3b18 l5b18 l6b18 l7b18 h hW hS hl
    refine lv_iload hx hb d_Ha_nextMoment_18 (lv_at hl 4 rfl) ?_
    refine lv_iload hx hb d_Ha_nextMoment_20 (lv_at hl 3 rfl) ?_
    obtain ⟨h0, h1⟩ := h
    refine lv_icmp_ge (tgt := 70) hx hb d_Ha_nextMoment_22 (by decide) (fun c29 => ?_) (fun c29 => ?_)
    · have h := h0 c29
      refine lv_aload_n hx hb d_Ha_nextMoment_70 rfl (lv_at hl 0 rfl) ?_
      obtain ⟨fs, v30, h1, h2, h⟩ := h
      refine va_get (D := D) (ci := 3) (v := va_rf v30) (C := "ChannelHall") (T := THa) (N := 4) hx hb hts uHa hown hK (hw_one hW h1) 0 rfl rfl 1 (by decide) (hts _ bw_101) (fun _ h9 => h9) h2 d_Ha_nextMoment_71 ?_
      refine lq_store (lv' := [(5, va_rf v30), (0, .ref l0b18), (3, .double l3b18), (6, .int l6b18), (7, .int l7b18)]) hx hb d_Ha_nextMoment_74 hl (by decide) rfl (fun ls hl => ?_)
      refine lq_load hx hb d_Ha_nextMoment_76 (lv_at hl 0 rfl) ?_
      obtain ⟨b31, rfl, h⟩ := h
      obtain ⟨x, h1, h⟩ := h
      refine va_alen hx hb hK (hw_one hW h1) 0 1 rfl rfl rfl d_Ha_nextMoment_78 ?_
      generalize Int32.ofNat x.1 = v32 at h ⊢
      refine lv_istore (lv' := [(6, .int v32), (5, .ref b31), (0, .ref l0b18), (3, .double l3b18), (7, .int l7b18)]) hx hb d_Ha_nextMoment_79 hl (by decide) rfl (fun ls hl => ?_)
      refine lv_iconst (v := 0) hx hb d_Ha_nextMoment_81 (by decide) ?_
      refine lv_istore (lv' := [(7, .int 0), (6, .int v32), (5, .ref b31), (0, .ref l0b18), (3, .double l3b18)]) hx hb d_Ha_nextMoment_82 hl (by decide) rfl (fun ls hl => ?_)
      obtain ⟨n, h⟩ := h
      exact l_Ha_nextMoment_84 C0 n l0b18 l3b18 b31 v32 0 h hW hS (lv_sub hl [3, 4, 2, 1, 0] rfl)
    · have h := h1 c29
      refine lv_aload hx hb d_Ha_nextMoment_25 (lv_at hl 2 rfl) ?_
      refine lv_iload hx hb d_Ha_nextMoment_27 (lv_at hl 4 rfl) ?_
      obtain ⟨n, f, h1, h2, h⟩ := h
      refine va_aldq hx hb hK (hw_one hW h1) 0 0 rfl rfl h2 d_Ha_nextMoment_29 ?_
      generalize f (l7b18).toNatClampNeg = v33 at h ⊢
      refine lq_store (lv' := [(8, va_rf v33), (0, .ref l0b18), (3, .double l3b18), (5, .ref l5b18), (6, .int l6b18), (7, .int l7b18)]) hx hb d_Ha_nextMoment_30 hl (by decide) rfl (fun ls hl => ?_)
      refine lq_load hx hb d_Ha_nextMoment_32 (lv_at hl 0 rfl) ?_
      obtain ⟨b34, rfl, h⟩ := h
      obtain ⟨fs, v35, h1, h2, h⟩ := h
      refine va_get (D := D) (ci := 2) (v := va_rf v35) (C := "ChannelHall$Worker") (T := TWo) (N := 11) hx hb hts uWo hown hK (hw_one hW h1) 0 rfl rfl 5 (by decide) (hts _ bw_63) (fun _ h9 => h9) h2 d_Ha_nextMoment_34 ?_
      obtain ⟨h0, h1⟩ := h
      cases v35 with
      | none =>
        have h := h0 rfl
        refine lv_ifnullN (tgt := 64) hx hb d_Ha_nextMoment_37 (by decide) ?_
        exact l_Ha_nextMoment_64 C0 hk_12 l0b18 l3b18 l5b18 l6b18 l7b18 h hW hS (lv_sub hl [1, 2, 3, 4, 5] rfl)
      | some b36 =>
        have h := h1 b36 rfl
        refine lv_ifnull hx hb d_Ha_nextMoment_37 ?_
        refine lv_aload hx hb d_Ha_nextMoment_40 (lv_at hl 0 rfl) ?_
        obtain ⟨fs, v37, h1, h2, h⟩ := h
        refine va_get (D := D) (ci := 2) (v := .int v37) (C := "ChannelHall$Worker") (T := TWo) (N := 11) hx hb hts uWo hown hK (hw_one hW h1) 0 rfl rfl 9 (by decide) (hts _ bw_74) (fun _ h9 => h9) h2 d_Ha_nextMoment_42 ?_
        obtain ⟨h0, h1⟩ := h
        refine lv_if_eq (tgt := 64) hx hb d_Ha_nextMoment_45 (by decide) (fun c38 => ?_) (fun c38 => ?_)
        · have h := h0 c38
          exact l_Ha_nextMoment_64 C0 hk_12 l0b18 l3b18 l5b18 l6b18 l7b18 h hW hS (lv_sub hl [1, 2, 3, 4, 5] rfl)
        · have h := h1 c38
          refine lv_aload hx hb d_Ha_nextMoment_48 (lv_at hl 0 rfl) ?_
          obtain ⟨fs, v39, h1, h2, h⟩ := h
          refine va_get (D := D) (ci := 2) (v := .double v39) (C := "ChannelHall$Worker") (T := TWo) (N := 11) hx hb hts uWo hown hK (hw_one hW h1) 0 rfl rfl 10 (by decide) (hts _ bw_76) (fun _ h9 => h9) h2 d_Ha_nextMoment_50 ?_
          refine lv_dload_n hx hb d_Ha_nextMoment_53 rfl (lv_at hl 2 rfl) ?_
          refine lv_dcmp hx hb d_Ha_nextMoment_54 ?_
          obtain ⟨h0, h1⟩ := h
          refine lv_if_ge (tgt := 64) hx hb d_Ha_nextMoment_55 (by decide) (fun c40 => ?_) (fun c40 => ?_)
          · have h := h0 c40
            exact l_Ha_nextMoment_64 C0 hk_12 l0b18 l3b18 l5b18 l6b18 l7b18 h hW hS (lv_sub hl [1, 2, 3, 4, 5] rfl)
          · have h := h1 c40
            refine lv_aload hx hb d_Ha_nextMoment_58 (lv_at hl 0 rfl) ?_
            obtain ⟨fs, v41, h1, h2, h⟩ := h
            refine va_get (D := D) (ci := 2) (v := .double v41) (C := "ChannelHall$Worker") (T := TWo) (N := 11) hx hb hts uWo hown hK (hw_one hW h1) 0 rfl rfl 10 (by decide) (hts _ bw_76) (fun _ h9 => h9) h2 d_Ha_nextMoment_60 ?_
            refine lv_dstore_n (lv' := [(3, .double v41), (8, .ref b34), (0, .ref l0b18), (5, .ref l5b18), (6, .int l6b18), (7, .int l7b18)]) hx hb d_Ha_nextMoment_63 rfl hl (by decide) rfl (fun ls hl => ?_)
            exact l_Ha_nextMoment_64 C0 hk_12 l0b18 v41 l5b18 l6b18 l7b18 h hW hS (lv_sub hl [2, 0, 3, 4, 5] rfl)
set_option maxHeartbeats 1000000 in
set_option maxRecDepth 20000 in
theorem l_Ha_nextMoment_e {p : Program} {l : Launch} {e : Env} {s : State} {m : MethodId} {args : Array Value} {below : List Frame} {meth : Method} {c : Code} {D : va_G} {ca G : Nat → Nat} {A : Nat → Prop} (C0 : hC p s m args meth c D ca G prog_1_method_26_code 9 (some .double) "ChannelHall" A) {post : UInt64 → hM → Prop} {M : hM} {H : Heap} {locs : List Loc} {ls : Array Slot} (a0 : Nat) (x1 : UInt64) (h : wp_Ha_nextMoment G ca post M a0 x1) (hW : hw D wCl A M H) (hS : va_S A s.heap H locs) (hl : lv_has ls 9 [(0, .ref a0), (1, .double x1)]) : W p l e rm_Ha_nextMoment s m args below meth c H locs 0 0 (MQ below (va_Qd post (fun M' t => hw D wCl A M' t.heap) A) args s 0 0 A) (F0 m 0 ls []) := by
  obtain ⟨hx, hb, hr, hml, hown, hts, hlocks, hK, hA, hZ0⟩ := id C0
  refine lv_dload_n hx hb d_Ha_nextMoment_0 rfl (lv_at hl 1 rfl) ?_
  refine lv_dconst1 hx hb d_Ha_nextMoment_1 ?_
  obtain ⟨hn, h⟩ := h
  refine lv_dadd hx hb d_Ha_nextMoment_2 hn ?_
  refine lv_dstore_n (lv' := [(3, .double (FP.dadd x1 FP.dconst1)), (0, .ref a0), (1, .double x1)]) hx hb d_Ha_nextMoment_3 rfl hl (by decide) rfl (fun ls hl => ?_)
  refine lv_aload_n hx hb d_Ha_nextMoment_4 rfl (lv_at hl 1 rfl) ?_
  obtain ⟨fs, v42, h1, h2, h⟩ := h
  refine va_get (D := D) (ci := 3) (v := va_rf v42) (C := "ChannelHall") (T := THa) (N := 4) hx hb hts uHa hown hK (hw_one hW h1) 0 rfl rfl 0 (by decide) (hts _ bw_100) (fun _ h9 => h9) h2 d_Ha_nextMoment_5 ?_
  refine lq_store (lv' := [(5, va_rf v42), (3, .double (FP.dadd x1 FP.dconst1)), (0, .ref a0), (1, .double x1)]) hx hb d_Ha_nextMoment_8 hl (by decide) rfl (fun ls hl => ?_)
  refine lq_load hx hb d_Ha_nextMoment_10 (lv_at hl 0 rfl) ?_
  obtain ⟨b43, rfl, h⟩ := h
  obtain ⟨x, h1, h⟩ := h
  refine va_alen hx hb hK (hw_one hW h1) 0 0 rfl rfl rfl d_Ha_nextMoment_12 ?_
  generalize Int32.ofNat x.1 = v44 at h ⊢
  refine lv_istore (lv' := [(6, .int v44), (5, .ref b43), (3, .double (FP.dadd x1 FP.dconst1)), (0, .ref a0), (1, .double x1)]) hx hb d_Ha_nextMoment_13 hl (by decide) rfl (fun ls hl => ?_)
  refine lv_iconst (v := 0) hx hb d_Ha_nextMoment_15 (by decide) ?_
  refine lv_istore (lv' := [(7, .int 0), (6, .int v44), (5, .ref b43), (3, .double (FP.dadd x1 FP.dconst1)), (0, .ref a0), (1, .double x1)]) hx hb d_Ha_nextMoment_16 hl (by decide) rfl (fun ls hl => ?_)
  obtain ⟨n, h⟩ := h
  exact l_Ha_nextMoment_18 C0 n a0 (FP.dadd x1 FP.dconst1) b43 v44 0 h hW hS (lv_sub hl [4, 3, 2, 1, 0] rfl)
set_option maxRecDepth 20000 in
theorem c_Ha_nextMoment {l : Launch} {D : va_G} {ca G : Nat → Nat} (post : UInt64 → hM → Prop) {M : hM} {sz : Nat} {a0 : Nat} {x1 : UInt64} (h : wp_Ha_nextMoment G ca post M a0 x1) : Met l y_Ha_nextMoment (wz y_Ha_nextMoment prog_1_method_26_code 9 (some .double)) rm_Ha_nextMoment (va_Pc [.ref a0, .double x1] (hI D ca G sz M)) (va_Qd post (hB D M sz) (hp_A M sz)) 0 0 (hp_A M sz) := by
  refine Met.ofW (cc := prog_1_method_26_code) (maxL := 9) (ret := some .double) (by decide) rfl ?_
  intro p e s m args below meth c s₁ B hml hv
  obtain ⟨rfl, hsz, hW, hK, hZ0⟩ := hv
  have hts := fun w hw => atoms_spec (ws := wz y_Ha_nextMoment prog_1_method_26_code 9 (some .double)) B.pre w (List.mem_cons_of_mem _ hw)
  have hown : s.vm.findClass "ChannelHall" = some m.cls := findClass_of_methodNamed B.named
  subst hsz
  have hl := lv_entry [.ref a0, .double x1] (n := 9) (Nat.le_of_ble_eq_true rfl)
  rw [lg_entry_eq]
  exact l_Ha_nextMoment_e ⟨B.exec, B.bytes, B.returns, hml, hown, hts, B.notSynchronized, hK, fun q h => Or.inr h, hZ0⟩ a0 x1 h hW va_S.rf hl

theorem d_Ha_serveDelayed_0 : decode prog_1_method_27_code 0 = .ok (.aload_n 0, 1) := by decide +kernel
theorem d_Ha_serveDelayed_1 : decode prog_1_method_27_code 1 = .ok (.getfield 17, 3) := by decide +kernel
theorem d_Ha_serveDelayed_4 : decode prog_1_method_27_code 4 = .ok (.astore_n 1, 1) := by decide +kernel
theorem d_Ha_serveDelayed_5 : decode prog_1_method_27_code 5 = .ok (.aload_n 1, 1) := by decide +kernel
theorem d_Ha_serveDelayed_6 : decode prog_1_method_27_code 6 = .ok (.arraylength, 1) := by decide +kernel
theorem d_Ha_serveDelayed_7 : decode prog_1_method_27_code 7 = .ok (.istore_n 2, 1) := by decide +kernel
theorem d_Ha_serveDelayed_8 : decode prog_1_method_27_code 8 = .ok (.iconst 0, 1) := by decide +kernel
theorem d_Ha_serveDelayed_9 : decode prog_1_method_27_code 9 = .ok (.istore_n 3, 1) := by decide +kernel
theorem d_Ha_serveDelayed_10 : decode prog_1_method_27_code 10 = .ok (.iload_n 3, 1) := by decide +kernel
theorem d_Ha_serveDelayed_11 : decode prog_1_method_27_code 11 = .ok (.iload_n 2, 1) := by decide +kernel
theorem d_Ha_serveDelayed_12 : decode prog_1_method_27_code 12 = .ok (.if_icmp .ge 37, 3) := by decide +kernel
theorem d_Ha_serveDelayed_15 : decode prog_1_method_27_code 15 = .ok (.aload_n 1, 1) := by decide +kernel
theorem d_Ha_serveDelayed_16 : decode prog_1_method_27_code 16 = .ok (.iload_n 3, 1) := by decide +kernel
theorem d_Ha_serveDelayed_17 : decode prog_1_method_27_code 17 = .ok (.aaload, 1) := by decide +kernel
theorem d_Ha_serveDelayed_18 : decode prog_1_method_27_code 18 = .ok (.astore 4, 2) := by decide +kernel
theorem d_Ha_serveDelayed_20 : decode prog_1_method_27_code 20 = .ok (.aload 4, 2) := by decide +kernel
theorem d_Ha_serveDelayed_22 : decode prog_1_method_27_code 22 = .ok (.ifnull 21, 3) := by decide +kernel
theorem d_Ha_serveDelayed_25 : decode prog_1_method_27_code 25 = .ok (.aload 4, 2) := by decide +kernel
theorem d_Ha_serveDelayed_27 : decode prog_1_method_27_code 27 = .ok (.getfield 122, 3) := by decide +kernel
theorem d_Ha_serveDelayed_30 : decode prog_1_method_27_code 30 = .ok (.iconst 4, 1) := by decide +kernel
theorem d_Ha_serveDelayed_31 : decode prog_1_method_27_code 31 = .ok (.if_icmp .ne 12, 3) := by decide +kernel
theorem d_Ha_serveDelayed_34 : decode prog_1_method_27_code 34 = .ok (.aload 4, 2) := by decide +kernel
theorem d_Ha_serveDelayed_36 : decode prog_1_method_27_code 36 = .ok (.aload_n 0, 1) := by decide +kernel
theorem d_Ha_serveDelayed_37 : decode prog_1_method_27_code 37 = .ok (.getfield 25, 3) := by decide +kernel
theorem d_Ha_serveDelayed_40 : decode prog_1_method_27_code 40 = .ok (.invokevirtual 108, 3) := by decide +kernel
theorem d_Ha_serveDelayed_43 : decode prog_1_method_27_code 43 = .ok (.iinc 3 1, 3) := by decide +kernel
theorem d_Ha_serveDelayed_46 : decode prog_1_method_27_code 46 = .ok (.goto (-36), 3) := by decide +kernel
theorem d_Ha_serveDelayed_49 : decode prog_1_method_27_code 49 = .ok (.return_, 1) := by decide +kernel
def y_Ha_serveDelayed : MethodName := ⟨"ChannelHall", "serveDelayed", "()V"⟩
abbrev rm_Ha_serveDelayed : Room := { frames := 9, cells := 96, slots := 1200, locals := 224 }
def wp_Ha_serveDelayed_43 (G ca : Nat → Nat) (post : hM → Prop) (k_8 : hM → Nat → Nat → Int32 → Int32 → Prop) (M : hM) (l0b43 : Nat) (l1b43 : Nat) (l2b43 : Int32) (l3b43 : Int32) : Prop := k_8 M l0b43 l1b43 l2b43 (l3b43 + 1)
def wp_Ha_serveDelayed_10 (G ca : Nat → Nat) (post : hM → Prop) : Nat → hM → Nat → Nat → Int32 → Int32 → Prop
  | 0, _, _, _, _, _ => False
  | n + 1, M, l0b10, l1b10, l2b10, l3b10 => (l2b10 ≤ l3b10 → post M) ∧ (¬ l2b10 ≤ l3b10 → 0 < n ∧ aR M l1b10 (ca 1) l3b10 fun v12 => (v12 = none → wp_Ha_serveDelayed_43 G ca post (wp_Ha_serveDelayed_10 G ca post n) M l0b10 l1b10 l2b10 l3b10) ∧ (∀ b13 : Nat, v12 = some b13 → gI M b13 0 1 fun v14 => (¬ v14 = 4 → wp_Ha_serveDelayed_43 G ca post (wp_Ha_serveDelayed_10 G ca post n) M l0b10 l1b10 l2b10 l3b10) ∧ (v14 = 4 → gD M l0b10 3 3 fun v16 => rC M b13 0 (wp_Ch_serve G ca (fun M17 => wp_Ha_serveDelayed_43 G ca post (wp_Ha_serveDelayed_10 G ca post n) M17 l0b10 l1b10 l2b10 l3b10) M b13 v16))))
def wp_Ha_serveDelayed (G ca : Nat → Nat) (post : hM → Prop) (M : hM) (a0 : Nat) : Prop := gR M a0 3 1 fun v18 => nN v18 fun b19 => aL M b19 (ca 1) fun v20 => ∃ n, n ≤ 9 ∧ wp_Ha_serveDelayed_10 G ca post n M a0 b19 v20 0
set_option maxHeartbeats 1000000 in
set_option maxRecDepth 20000 in
theorem l_Ha_serveDelayed_43 {p : Program} {l : Launch} {e : Env} {s : State} {m : MethodId} {args : Array Value} {below : List Frame} {meth : Method} {c : Code} {D : va_G} {ca G : Nat → Nat} {A : Nat → Prop} (C0 : hC p s m args meth c D ca G prog_1_method_27_code 5 (none) "ChannelHall" A) {post : hM → Prop} {k_8 : hM → Nat → Nat → Int32 → Int32 → Prop} {n_8 : Nat} (hk_8 : ∀ (M : hM) (H : Heap) (locs : List Loc) (ls : Array Slot) (cells slots : Nat) (l0b10 : Nat) (l1b10 : Nat) (l2b10 : Int32) (l3b10 : Int32), cells + n_8 * 12 ≤ 108 → slots + n_8 * 150 ≤ 1350 → k_8 M l0b10 l1b10 l2b10 l3b10 → hw D wCl A M H → va_S A s.heap H locs → lv_has ls 5 [(0, .ref l0b10), (1, .ref l1b10), (2, .int l2b10), (3, .int l3b10)] → W p l e rm_Ha_serveDelayed s m args below meth c H locs cells slots (MQ below (va_Qv post (fun M' t => hw D wCl A M' t.heap) A) args s 96 1200 A) (F0 m 10 ls [])) (hn_8 : 0 < n_8) {M : hM} {H : Heap} {locs : List Loc} {ls : Array Slot} {cells slots : Nat} (l0b43 : Nat) (l1b43 : Nat) (l2b43 : Int32) (l3b43 : Int32) (hc : cells + n_8 * 12 ≤ 108) (hs : slots + n_8 * 150 ≤ 1350) (h : wp_Ha_serveDelayed_43 G ca post k_8 M l0b43 l1b43 l2b43 l3b43) (hW : hw D wCl A M H) (hS : va_S A s.heap H locs) (hl : lv_has ls 5 [(0, .ref l0b43), (1, .ref l1b43), (2, .int l2b43), (3, .int l3b43)]) : W p l e rm_Ha_serveDelayed s m args below meth c H locs cells slots (MQ below (va_Qv post (fun M' t => hw D wCl A M' t.heap) A) args s 96 1200 A) (F0 m 43 ls []) := by
  obtain ⟨hx, hb, hr, hml, hown, hts, hlocks, hK, hA, hZ0⟩ := id C0
  refine lv_iinc (v := l3b43 + 1) (lv' := [(3, .int (l3b43 + 1)), (0, .ref l0b43), (1, .ref l1b43), (2, .int l2b43)]) hx hb d_Ha_serveDelayed_43 hl (k := 3) rfl rfl (by decide) rfl (fun ls hl => ?_)
  refine lv_goto (tgt := 10) hx hb d_Ha_serveDelayed_46 (by decide) ?_
  exact hk_8 _ _ _ _ _ _ l0b43 l1b43 l2b43 (l3b43 + 1) (by omega) (by omega) h hW hS (lv_sub hl [1, 2, 3, 0] rfl)
set_option maxHeartbeats 1000000 in
set_option maxRecDepth 20000 in
theorem l_Ha_serveDelayed_10 {p : Program} {l : Launch} {e : Env} {s : State} {m : MethodId} {args : Array Value} {below : List Frame} {meth : Method} {c : Code} {D : va_G} {ca G : Nat → Nat} {A : Nat → Prop} (C0 : hC p s m args meth c D ca G prog_1_method_27_code 5 (none) "ChannelHall" A) {post : hM → Prop} : ∀ (n : Nat) {M : hM} {H : Heap} {locs : List Loc} {ls : Array Slot} {cells slots : Nat} (l0b10 : Nat) (l1b10 : Nat) (l2b10 : Int32) (l3b10 : Int32) (hc : cells + n * 12 ≤ 108) (hs : slots + n * 150 ≤ 1350) (h : wp_Ha_serveDelayed_10 G ca post n M l0b10 l1b10 l2b10 l3b10) (hW : hw D wCl A M H) (hS : va_S A s.heap H locs) (hl : lv_has ls 5 [(0, .ref l0b10), (1, .ref l1b10), (2, .int l2b10), (3, .int l3b10)]), W p l e rm_Ha_serveDelayed s m args below meth c H locs cells slots (MQ below (va_Qv post (fun M' t => hw D wCl A M' t.heap) A) args s 96 1200 A) (F0 m 10 ls []) := by
  obtain ⟨hx, hb, hr, hml, hown, hts, hlocks, hK, hA, hZ0⟩ := id C0
  intro n
  induction n with
  | zero =>
    intro M H locs ls cells slots l0b10 l1b10 l2b10 l3b10 hc hs h
    exact False.elim h
  | succ n ih =>
    intro M H locs ls cells slots l0b10 l1b10 l2b10 l3b10 hc hs h hW hS hl
    have hk_8 := fun M H locs ls cells slots l0b10 l1b10 l2b10 l3b10 hc hs h hW hS hl => @ih M H locs ls cells slots l0b10 l1b10 l2b10 l3b10 hc hs h hW hS hl
    refine lv_iload_n hx hb d_Ha_serveDelayed_10 rfl (lv_at hl 3 rfl) ?_
    refine lv_iload_n hx hb d_Ha_serveDelayed_11 rfl (lv_at hl 2 rfl) ?_
    obtain ⟨h0, h1⟩ := h
    refine lv_icmp_ge (tgt := 49) hx hb d_Ha_serveDelayed_12 (by decide) (fun c11 => ?_) (fun c11 => ?_)
    · have h := h0 c11
      refine W.widen (k := 96) (n := 1200) (by omega) (by omega) ?_
      exact W.vret hx hb hr (fun t ht hWm => ⟨⟨_, rfl, h, hw_t ht hW⟩, hS.F ht⟩) hS.2.2 d_Ha_serveDelayed_49
    · have h := h1 c11
      obtain ⟨hn_8, h⟩ := h
      refine lv_aload_n hx hb d_Ha_serveDelayed_15 rfl (lv_at hl 1 rfl) ?_
      refine lv_iload_n hx hb d_Ha_serveDelayed_16 rfl (lv_at hl 3 rfl) ?_
      obtain ⟨n, f, h1, h2, h⟩ := h
      refine va_aldq hx hb hK (hw_one hW h1) 0 1 rfl rfl h2 d_Ha_serveDelayed_17 ?_
      generalize f (l3b10).toNatClampNeg = v12 at h ⊢
      refine lq_store (lv' := [(4, va_rf v12), (0, .ref l0b10), (1, .ref l1b10), (2, .int l2b10), (3, .int l3b10)]) hx hb d_Ha_serveDelayed_18 hl (by decide) rfl (fun ls hl => ?_)
      refine lq_load hx hb d_Ha_serveDelayed_20 (lv_at hl 0 rfl) ?_
      obtain ⟨h0, h1⟩ := h
      cases v12 with
      | none =>
        have h := h0 rfl
        refine lv_ifnullN (tgt := 43) hx hb d_Ha_serveDelayed_22 (by decide) ?_
        exact l_Ha_serveDelayed_43 C0 hk_8 hn_8 l0b10 l1b10 l2b10 l3b10 (by omega) (by omega) h hW hS (lv_sub hl [1, 2, 3, 4] rfl)
      | some b13 =>
        have h := h1 b13 rfl
        refine lv_ifnull hx hb d_Ha_serveDelayed_22 ?_
        refine lv_aload hx hb d_Ha_serveDelayed_25 (lv_at hl 0 rfl) ?_
        obtain ⟨fs, v14, h1, h2, h⟩ := h
        refine va_get (D := D) (ci := 0) (v := .int v14) (C := "ChannelHall$Channel") (T := TCh) (N := 10) hx hb hts uCh hown hK (hw_one hW h1) 0 rfl rfl 1 (by decide) (hts _ bw_254) (fun _ h9 => h9) h2 d_Ha_serveDelayed_27 ?_
        refine lv_iconst (v := 4) hx hb d_Ha_serveDelayed_30 (by decide) ?_
        obtain ⟨h0, h1⟩ := h
        refine lv_icmp_ne (tgt := 43) hx hb d_Ha_serveDelayed_31 (by decide) (fun c15 => ?_) (fun c15 => ?_)
        · have h := h0 c15
          exact l_Ha_serveDelayed_43 C0 hk_8 hn_8 l0b10 l1b10 l2b10 l3b10 (by omega) (by omega) h hW hS (lv_sub hl [1, 2, 3, 4] rfl)
        · have h := h1 c15
          refine lv_aload hx hb d_Ha_serveDelayed_34 (lv_at hl 0 rfl) ?_
          refine lv_aload_n hx hb d_Ha_serveDelayed_36 rfl (lv_at hl 1 rfl) ?_
          obtain ⟨fs, v16, h1, h2, h⟩ := h
          refine va_get (D := D) (ci := 3) (v := .double v16) (C := "ChannelHall") (T := THa) (N := 4) hx hb hts uHa hown hK (hw_one hW h1) 0 rfl rfl 3 (by decide) (hts _ bw_103) (fun _ h9 => h9) h2 d_Ha_serveDelayed_37 ?_
          obtain ⟨⟨fs, h1⟩, h⟩ := h
          have h9 := h
          clear h
          have hF := hW.free hS hA
          refine va_callv (va_runV (As := [.double v16]) (rest := []) ⟨hx, hb, hml, hown, hts⟩ (c_Ch_serve _ h9) (cwV 1 hts (gi_V bw_791 bw_792 bw_793 bw_11 bw_794) rfl rfl rfl (by decide +kernel) ⟨Nat.le_of_ble_eq_true rfl, Nat.le_of_ble_eq_true rfl⟩) ⟨hI.blind, hw_recv hK hW h1 rfl, hI.give hW hS hA hK hZ0⟩ rfl rfl hl.1 rfl (lv_room (Nat.le_of_ble_eq_true rfl)) d_Ha_serveDelayed_40 ⟨(show _ ≤ 96 by omega), (show _ ≤ 1200 by omega)⟩) hS (fun q _ z => hF q z) hF (fun M17 t H locs ht _ h hB1 _ _ hS => ?_)
          have hW := hw_back hF ht hB1
          clear h9
          exact l_Ha_serveDelayed_43 C0 hk_8 hn_8 l0b10 l1b10 l2b10 l3b10 (by omega) (by omega) h hW hS (lv_sub hl [1, 2, 3, 4] rfl)
set_option maxHeartbeats 1000000 in
set_option maxRecDepth 20000 in
theorem l_Ha_serveDelayed_e {p : Program} {l : Launch} {e : Env} {s : State} {m : MethodId} {args : Array Value} {below : List Frame} {meth : Method} {c : Code} {D : va_G} {ca G : Nat → Nat} {A : Nat → Prop} (C0 : hC p s m args meth c D ca G prog_1_method_27_code 5 (none) "ChannelHall" A) {post : hM → Prop} {M : hM} {H : Heap} {locs : List Loc} {ls : Array Slot} {cells slots : Nat} (a0 : Nat) (hc : cells ≤ 0) (hs : slots ≤ 0) (h : wp_Ha_serveDelayed G ca post M a0) (hW : hw D wCl A M H) (hS : va_S A s.heap H locs) (hl : lv_has ls 5 [(0, .ref a0)]) : W p l e rm_Ha_serveDelayed s m args below meth c H locs cells slots (MQ below (va_Qv post (fun M' t => hw D wCl A M' t.heap) A) args s 96 1200 A) (F0 m 0 ls []) := by
  obtain ⟨hx, hb, hr, hml, hown, hts, hlocks, hK, hA, hZ0⟩ := id C0
  refine lv_aload_n hx hb d_Ha_serveDelayed_0 rfl (lv_at hl 0 rfl) ?_
  obtain ⟨fs, v18, h1, h2, h⟩ := h
  refine va_get (D := D) (ci := 3) (v := va_rf v18) (C := "ChannelHall") (T := THa) (N := 4) hx hb hts uHa hown hK (hw_one hW h1) 0 rfl rfl 1 (by decide) (hts _ bw_101) (fun _ h9 => h9) h2 d_Ha_serveDelayed_1 ?_
  refine lq_store_n (lv' := [(1, va_rf v18), (0, .ref a0)]) hx hb d_Ha_serveDelayed_4 rfl hl (by decide) rfl (fun ls hl => ?_)
  refine lq_load_n hx hb d_Ha_serveDelayed_5 rfl (lv_at hl 0 rfl) ?_
  obtain ⟨b19, rfl, h⟩ := h
  obtain ⟨x, h1, h⟩ := h
  refine va_alen hx hb hK (hw_one hW h1) 0 1 rfl rfl rfl d_Ha_serveDelayed_6 ?_
  generalize Int32.ofNat x.1 = v20 at h ⊢
  refine lv_istore_n (lv' := [(2, .int v20), (1, .ref b19), (0, .ref a0)]) hx hb d_Ha_serveDelayed_7 rfl hl (by decide) rfl (fun ls hl => ?_)
  refine lv_iconst (v := 0) hx hb d_Ha_serveDelayed_8 (by decide) ?_
  refine lv_istore_n (lv' := [(3, .int 0), (2, .int v20), (1, .ref b19), (0, .ref a0)]) hx hb d_Ha_serveDelayed_9 rfl hl (by decide) rfl (fun ls hl => ?_)
  obtain ⟨n, hn0, h⟩ := h
  exact l_Ha_serveDelayed_10 C0 n a0 b19 v20 0 (by omega) (by omega) h hW hS (lv_sub hl [3, 2, 1, 0] rfl)
set_option maxRecDepth 20000 in
theorem c_Ha_serveDelayed {l : Launch} {D : va_G} {ca G : Nat → Nat} (post : hM → Prop) {M : hM} {sz : Nat} {a0 : Nat} (h : wp_Ha_serveDelayed G ca post M a0) : Met l y_Ha_serveDelayed (wz y_Ha_serveDelayed prog_1_method_27_code 5 (none)) rm_Ha_serveDelayed (va_Pc [.ref a0] (hI D ca G sz M)) (va_Qv post (hB D M sz) (hp_A M sz)) 96 1200 (hp_A M sz) := by
  refine Met.ofW (cc := prog_1_method_27_code) (maxL := 5) (ret := none) (by decide) rfl ?_
  intro p e s m args below meth c s₁ B hml hv
  obtain ⟨rfl, hsz, hW, hK, hZ0⟩ := hv
  have hts := fun w hw => atoms_spec (ws := wz y_Ha_serveDelayed prog_1_method_27_code 5 (none)) B.pre w (List.mem_cons_of_mem _ hw)
  have hown : s.vm.findClass "ChannelHall" = some m.cls := findClass_of_methodNamed B.named
  subst hsz
  have hl := lv_entry [.ref a0] (n := 5) (Nat.le_of_ble_eq_true rfl)
  rw [lg_entry_eq]
  exact l_Ha_serveDelayed_e ⟨B.exec, B.bytes, B.returns, hml, hown, hts, B.notSynchronized, hK, fun q h => Or.inr h, hZ0⟩ a0 (Nat.zero_le _) (Nat.zero_le _) h hW va_S.rf hl

theorem d_Ha_endLateWaits_0 : decode prog_1_method_28_code 0 = .ok (.iconst 0, 1) := by decide +kernel
theorem d_Ha_endLateWaits_1 : decode prog_1_method_28_code 1 = .ok (.istore_n 1, 1) := by decide +kernel
theorem d_Ha_endLateWaits_2 : decode prog_1_method_28_code 2 = .ok (.aload_n 0, 1) := by decide +kernel
theorem d_Ha_endLateWaits_3 : decode prog_1_method_28_code 3 = .ok (.getfield 11, 3) := by decide +kernel
theorem d_Ha_endLateWaits_6 : decode prog_1_method_28_code 6 = .ok (.astore_n 2, 1) := by decide +kernel
theorem d_Ha_endLateWaits_7 : decode prog_1_method_28_code 7 = .ok (.aload_n 2, 1) := by decide +kernel
theorem d_Ha_endLateWaits_8 : decode prog_1_method_28_code 8 = .ok (.arraylength, 1) := by decide +kernel
theorem d_Ha_endLateWaits_9 : decode prog_1_method_28_code 9 = .ok (.istore_n 3, 1) := by decide +kernel
theorem d_Ha_endLateWaits_10 : decode prog_1_method_28_code 10 = .ok (.iconst 0, 1) := by decide +kernel
theorem d_Ha_endLateWaits_11 : decode prog_1_method_28_code 11 = .ok (.istore 4, 2) := by decide +kernel
theorem d_Ha_endLateWaits_13 : decode prog_1_method_28_code 13 = .ok (.iload 4, 2) := by decide +kernel
theorem d_Ha_endLateWaits_15 : decode prog_1_method_28_code 15 = .ok (.iload_n 3, 1) := by decide +kernel
theorem d_Ha_endLateWaits_16 : decode prog_1_method_28_code 16 = .ok (.if_icmp .ge 54, 3) := by decide +kernel
theorem d_Ha_endLateWaits_19 : decode prog_1_method_28_code 19 = .ok (.aload_n 2, 1) := by decide +kernel
theorem d_Ha_endLateWaits_20 : decode prog_1_method_28_code 20 = .ok (.iload 4, 2) := by decide +kernel
theorem d_Ha_endLateWaits_22 : decode prog_1_method_28_code 22 = .ok (.aaload, 1) := by decide +kernel
theorem d_Ha_endLateWaits_23 : decode prog_1_method_28_code 23 = .ok (.astore 5, 2) := by decide +kernel
theorem d_Ha_endLateWaits_25 : decode prog_1_method_28_code 25 = .ok (.aload 5, 2) := by decide +kernel
theorem d_Ha_endLateWaits_27 : decode prog_1_method_28_code 27 = .ok (.getfield 171, 3) := by decide +kernel
theorem d_Ha_endLateWaits_30 : decode prog_1_method_28_code 30 = .ok (.ifnull 34, 3) := by decide +kernel
theorem d_Ha_endLateWaits_33 : decode prog_1_method_28_code 33 = .ok (.aload 5, 2) := by decide +kernel
theorem d_Ha_endLateWaits_35 : decode prog_1_method_28_code 35 = .ok (.getfield 244, 3) := by decide +kernel
theorem d_Ha_endLateWaits_38 : decode prog_1_method_28_code 38 = .ok (.ifCond .eq 26, 3) := by decide +kernel
theorem d_Ha_endLateWaits_41 : decode prog_1_method_28_code 41 = .ok (.aload 5, 2) := by decide +kernel
theorem d_Ha_endLateWaits_43 : decode prog_1_method_28_code 43 = .ok (.getfield 247, 3) := by decide +kernel
theorem d_Ha_endLateWaits_46 : decode prog_1_method_28_code 46 = .ok (.aload_n 0, 1) := by decide +kernel
theorem d_Ha_endLateWaits_47 : decode prog_1_method_28_code 47 = .ok (.getfield 25, 3) := by decide +kernel
theorem d_Ha_endLateWaits_50 : decode prog_1_method_28_code 50 = .ok (.dcmp .g, 1) := by decide +kernel
theorem d_Ha_endLateWaits_51 : decode prog_1_method_28_code 51 = .ok (.ifCond .gt 13, 3) := by decide +kernel
theorem d_Ha_endLateWaits_54 : decode prog_1_method_28_code 54 = .ok (.aload_n 0, 1) := by decide +kernel
theorem d_Ha_endLateWaits_55 : decode prog_1_method_28_code 55 = .ok (.aload 5, 2) := by decide +kernel
theorem d_Ha_endLateWaits_57 : decode prog_1_method_28_code 57 = .ok (.iconst 2, 1) := by decide +kernel
theorem d_Ha_endLateWaits_58 : decode prog_1_method_28_code 58 = .ok (.invokevirtual 178, 3) := by decide +kernel
theorem d_Ha_endLateWaits_61 : decode prog_1_method_28_code 61 = .ok (.iinc 1 1, 3) := by decide +kernel
theorem d_Ha_endLateWaits_64 : decode prog_1_method_28_code 64 = .ok (.iinc 4 1, 3) := by decide +kernel
theorem d_Ha_endLateWaits_67 : decode prog_1_method_28_code 67 = .ok (.goto (-54), 3) := by decide +kernel
theorem d_Ha_endLateWaits_70 : decode prog_1_method_28_code 70 = .ok (.iload_n 1, 1) := by decide +kernel
theorem d_Ha_endLateWaits_71 : decode prog_1_method_28_code 71 = .ok (.ireturn, 1) := by decide +kernel
def y_Ha_endLateWaits : MethodName := ⟨"ChannelHall", "endLateWaits", "()I"⟩
abbrev rm_Ha_endLateWaits : Room := { frames := 10, cells := 72, slots := 900, locals := 247 }
def wp_Ha_endLateWaits_64 (G ca : Nat → Nat) (post : Int32 → hM → Prop) (k_10 : hM → Nat → Int32 → Nat → Int32 → Int32 → Prop) (M : hM) (l0b64 : Nat) (l1b64 : Int32) (l2b64 : Nat) (l3b64 : Int32) (l4b64 : Int32) : Prop := k_10 M l0b64 l1b64 l2b64 l3b64 (l4b64 + 1)
def wp_Ha_endLateWaits_13 (G ca : Nat → Nat) (post : Int32 → hM → Prop) : Nat → hM → Nat → Int32 → Nat → Int32 → Int32 → Prop
  | 0, _, _, _, _, _, _ => False
  | n + 1, M, l0b13, l1b13, l2b13, l3b13, l4b13 => (l3b13 ≤ l4b13 → post l1b13 M) ∧ (¬ l3b13 ≤ l4b13 → 0 < n ∧ aR M l2b13 (ca 0) l4b13 fun v16 => nN v16 fun b17 => gR M b17 2 5 fun v18 => (v18 = none → wp_Ha_endLateWaits_64 G ca post (wp_Ha_endLateWaits_13 G ca post n) M l0b13 l1b13 l2b13 l3b13 l4b13) ∧ (∀ b19 : Nat, v18 = some b19 → gI M b17 2 9 fun v20 => (v20 = 0 → wp_Ha_endLateWaits_64 G ca post (wp_Ha_endLateWaits_13 G ca post n) M l0b13 l1b13 l2b13 l3b13 l4b13) ∧ (¬ v20 = 0 → gD M b17 2 10 fun v22 => gD M l0b13 3 3 fun v23 => (0 < (Op.cmpValue (FP.dcmp v22 v23) .g) → wp_Ha_endLateWaits_64 G ca post (wp_Ha_endLateWaits_13 G ca post n) M l0b13 l1b13 l2b13 l3b13 l4b13) ∧ (¬ 0 < (Op.cmpValue (FP.dcmp v22 v23) .g) → rC M l0b13 3 (wp_Ha_giveUp G ca (fun M25 => wp_Ha_endLateWaits_64 G ca post (wp_Ha_endLateWaits_13 G ca post n) M25 l0b13 (l1b13 + 1) l2b13 l3b13 l4b13) M l0b13 (some b17) 2)))))
def wp_Ha_endLateWaits (G ca : Nat → Nat) (post : Int32 → hM → Prop) (M : hM) (a0 : Nat) : Prop := gR M a0 3 0 fun v26 => nN v26 fun b27 => aL M b27 (ca 0) fun v28 => ∃ n, n ≤ 7 ∧ wp_Ha_endLateWaits_13 G ca post n M a0 0 b27 v28 0
set_option maxHeartbeats 1000000 in
set_option maxRecDepth 20000 in
theorem l_Ha_endLateWaits_64 {p : Program} {l : Launch} {e : Env} {s : State} {m : MethodId} {args : Array Value} {below : List Frame} {meth : Method} {c : Code} {D : va_G} {ca G : Nat → Nat} {A : Nat → Prop} (C0 : hC p s m args meth c D ca G prog_1_method_28_code 6 (some .int) "ChannelHall" A) {post : Int32 → hM → Prop} {k_10 : hM → Nat → Int32 → Nat → Int32 → Int32 → Prop} {n_10 : Nat} (hk_10 : ∀ (M : hM) (H : Heap) (locs : List Loc) (ls : Array Slot) (cells slots : Nat) (l0b13 : Nat) (l1b13 : Int32) (l2b13 : Nat) (l3b13 : Int32) (l4b13 : Int32), cells + n_10 * 12 ≤ 84 → slots + n_10 * 150 ≤ 1050 → k_10 M l0b13 l1b13 l2b13 l3b13 l4b13 → hw D wCl A M H → va_S A s.heap H locs → lv_has ls 6 [(0, .ref l0b13), (1, .int l1b13), (2, .ref l2b13), (3, .int l3b13), (4, .int l4b13)] → W p l e rm_Ha_endLateWaits s m args below meth c H locs cells slots (MQ below (va_Qi post (fun M' t => hw D wCl A M' t.heap) A) args s 72 900 A) (F0 m 13 ls [])) (hn_10 : 0 < n_10) {M : hM} {H : Heap} {locs : List Loc} {ls : Array Slot} {cells slots : Nat} (l0b64 : Nat) (l1b64 : Int32) (l2b64 : Nat) (l3b64 : Int32) (l4b64 : Int32) (hc : cells + n_10 * 12 ≤ 84) (hs : slots + n_10 * 150 ≤ 1050) (h : wp_Ha_endLateWaits_64 G ca post k_10 M l0b64 l1b64 l2b64 l3b64 l4b64) (hW : hw D wCl A M H) (hS : va_S A s.heap H locs) (hl : lv_has ls 6 [(0, .ref l0b64), (1, .int l1b64), (2, .ref l2b64), (3, .int l3b64), (4, .int l4b64)]) : W p l e rm_Ha_endLateWaits s m args below meth c H locs cells slots (MQ below (va_Qi post (fun M' t => hw D wCl A M' t.heap) A) args s 72 900 A) (F0 m 64 ls []) := by
  obtain ⟨hx, hb, hr, hml, hown, hts, hlocks, hK, hA, hZ0⟩ := id C0
  refine lv_iinc (v := l4b64 + 1) (lv' := [(4, .int (l4b64 + 1)), (0, .ref l0b64), (1, .int l1b64), (2, .ref l2b64), (3, .int l3b64)]) hx hb d_Ha_endLateWaits_64 hl (k := 4) rfl rfl (by decide) rfl (fun ls hl => ?_)
  refine lv_goto (tgt := 13) hx hb d_Ha_endLateWaits_67 (by decide) ?_
  exact hk_10 _ _ _ _ _ _ l0b64 l1b64 l2b64 l3b64 (l4b64 + 1) (by omega) (by omega) h hW hS (lv_sub hl [1, 2, 3, 4, 0] rfl)
set_option maxHeartbeats 1000000 in
set_option maxRecDepth 20000 in
theorem l_Ha_endLateWaits_13 {p : Program} {l : Launch} {e : Env} {s : State} {m : MethodId} {args : Array Value} {below : List Frame} {meth : Method} {c : Code} {D : va_G} {ca G : Nat → Nat} {A : Nat → Prop} (C0 : hC p s m args meth c D ca G prog_1_method_28_code 6 (some .int) "ChannelHall" A) {post : Int32 → hM → Prop} : ∀ (n : Nat) {M : hM} {H : Heap} {locs : List Loc} {ls : Array Slot} {cells slots : Nat} (l0b13 : Nat) (l1b13 : Int32) (l2b13 : Nat) (l3b13 : Int32) (l4b13 : Int32) (hc : cells + n * 12 ≤ 84) (hs : slots + n * 150 ≤ 1050) (h : wp_Ha_endLateWaits_13 G ca post n M l0b13 l1b13 l2b13 l3b13 l4b13) (hW : hw D wCl A M H) (hS : va_S A s.heap H locs) (hl : lv_has ls 6 [(0, .ref l0b13), (1, .int l1b13), (2, .ref l2b13), (3, .int l3b13), (4, .int l4b13)]), W p l e rm_Ha_endLateWaits s m args below meth c H locs cells slots (MQ below (va_Qi post (fun M' t => hw D wCl A M' t.heap) A) args s 72 900 A) (F0 m 13 ls []) := by
  obtain ⟨hx, hb, hr, hml, hown, hts, hlocks, hK, hA, hZ0⟩ := id C0
  intro n
  induction n with
  | zero =>
    intro M H locs ls cells slots l0b13 l1b13 l2b13 l3b13 l4b13 hc hs h
    exact False.elim h
  | succ n ih =>
    intro M H locs ls cells slots l0b13 l1b13 l2b13 l3b13 l4b13 hc hs h hW hS hl
    have hk_10 := fun M H locs ls cells slots l0b13 l1b13 l2b13 l3b13 l4b13 hc hs h hW hS hl => @ih M H locs ls cells slots l0b13 l1b13 l2b13 l3b13 l4b13 hc hs h hW hS hl
    refine lv_iload hx hb d_Ha_endLateWaits_13 (lv_at hl 4 rfl) ?_
    refine lv_iload_n hx hb d_Ha_endLateWaits_15 rfl (lv_at hl 3 rfl) ?_
    obtain ⟨h0, h1⟩ := h
    refine lv_icmp_ge (tgt := 70) hx hb d_Ha_endLateWaits_16 (by decide) (fun c15 => ?_) (fun c15 => ?_)
    · have h := h0 c15
      refine lv_iload_n hx hb d_Ha_endLateWaits_70 rfl (lv_at hl 1 rfl) ?_
      refine W.widen (k := 72) (n := 900) (by omega) (by omega) ?_
      exact W.iret hx hb hr (fun t ht hWm => ⟨⟨_, _, rfl, h, hw_t ht hW⟩, hS.F ht⟩) hS.2.2 d_Ha_endLateWaits_71
    · have h := h1 c15
      obtain ⟨hn_10, h⟩ := h
      refine lv_aload_n hx hb d_Ha_endLateWaits_19 rfl (lv_at hl 2 rfl) ?_
      refine lv_iload hx hb d_Ha_endLateWaits_20 (lv_at hl 4 rfl) ?_
      obtain ⟨n, f, h1, h2, h⟩ := h
      refine va_aldq hx hb hK (hw_one hW h1) 0 0 rfl rfl h2 d_Ha_endLateWaits_22 ?_
      generalize f (l4b13).toNatClampNeg = v16 at h ⊢
      refine lq_store (lv' := [(5, va_rf v16), (0, .ref l0b13), (1, .int l1b13), (2, .ref l2b13), (3, .int l3b13), (4, .int l4b13)]) hx hb d_Ha_endLateWaits_23 hl (by decide) rfl (fun ls hl => ?_)
      refine lq_load hx hb d_Ha_endLateWaits_25 (lv_at hl 0 rfl) ?_
      obtain ⟨b17, rfl, h⟩ := h
      obtain ⟨fs, v18, h1, h2, h⟩ := h
      refine va_get (D := D) (ci := 2) (v := va_rf v18) (C := "ChannelHall$Worker") (T := TWo) (N := 11) hx hb hts uWo hown hK (hw_one hW h1) 0 rfl rfl 5 (by decide) (hts _ bw_63) (fun _ h9 => h9) h2 d_Ha_endLateWaits_27 ?_
      obtain ⟨h0, h1⟩ := h
      cases v18 with
      | none =>
        have h := h0 rfl
        refine lv_ifnullN (tgt := 64) hx hb d_Ha_endLateWaits_30 (by decide) ?_
        exact l_Ha_endLateWaits_64 C0 hk_10 hn_10 l0b13 l1b13 l2b13 l3b13 l4b13 (by omega) (by omega) h hW hS (lv_sub hl [1, 2, 3, 4, 5] rfl)
      | some b19 =>
        have h := h1 b19 rfl
        refine lv_ifnull hx hb d_Ha_endLateWaits_30 ?_
        refine lv_aload hx hb d_Ha_endLateWaits_33 (lv_at hl 0 rfl) ?_
        obtain ⟨fs, v20, h1, h2, h⟩ := h
        refine va_get (D := D) (ci := 2) (v := .int v20) (C := "ChannelHall$Worker") (T := TWo) (N := 11) hx hb hts uWo hown hK (hw_one hW h1) 0 rfl rfl 9 (by decide) (hts _ bw_74) (fun _ h9 => h9) h2 d_Ha_endLateWaits_35 ?_
        obtain ⟨h0, h1⟩ := h
        refine lv_if_eq (tgt := 64) hx hb d_Ha_endLateWaits_38 (by decide) (fun c21 => ?_) (fun c21 => ?_)
        · have h := h0 c21
          exact l_Ha_endLateWaits_64 C0 hk_10 hn_10 l0b13 l1b13 l2b13 l3b13 l4b13 (by omega) (by omega) h hW hS (lv_sub hl [1, 2, 3, 4, 5] rfl)
        · have h := h1 c21
          refine lv_aload hx hb d_Ha_endLateWaits_41 (lv_at hl 0 rfl) ?_
          obtain ⟨fs, v22, h1, h2, h⟩ := h
          refine va_get (D := D) (ci := 2) (v := .double v22) (C := "ChannelHall$Worker") (T := TWo) (N := 11) hx hb hts uWo hown hK (hw_one hW h1) 0 rfl rfl 10 (by decide) (hts _ bw_76) (fun _ h9 => h9) h2 d_Ha_endLateWaits_43 ?_
          refine lv_aload_n hx hb d_Ha_endLateWaits_46 rfl (lv_at hl 1 rfl) ?_
          obtain ⟨fs, v23, h1, h2, h⟩ := h
          refine va_get (D := D) (ci := 3) (v := .double v23) (C := "ChannelHall") (T := THa) (N := 4) hx hb hts uHa hown hK (hw_one hW h1) 0 rfl rfl 3 (by decide) (hts _ bw_103) (fun _ h9 => h9) h2 d_Ha_endLateWaits_47 ?_
          refine lv_dcmp hx hb d_Ha_endLateWaits_50 ?_
          obtain ⟨h0, h1⟩ := h
          refine lv_if_gt (tgt := 64) hx hb d_Ha_endLateWaits_51 (by decide) (fun c24 => ?_) (fun c24 => ?_)
          · have h := h0 c24
            exact l_Ha_endLateWaits_64 C0 hk_10 hn_10 l0b13 l1b13 l2b13 l3b13 l4b13 (by omega) (by omega) h hW hS (lv_sub hl [1, 2, 3, 4, 5] rfl)
          · have h := h1 c24
            refine lv_aload_n hx hb d_Ha_endLateWaits_54 rfl (lv_at hl 1 rfl) ?_
            refine lv_aload hx hb d_Ha_endLateWaits_55 (lv_at hl 0 rfl) ?_
            refine lv_iconst (v := 2) hx hb d_Ha_endLateWaits_57 (by decide) ?_
            obtain ⟨⟨fs, h1⟩, h⟩ := h
            have h9 := h
            clear h
            have hF := hW.free hS hA
            refine va_callv (va_runV (As := [.ref b17, .int 2]) (rest := []) ⟨hx, hb, hml, hown, hts⟩ (c_Ha_giveUp _ h9) (cwV 2 hts (gi_V bw_889 bw_891 bs_15 bw_1 bw_892) rfl rfl rfl (by decide +kernel) ⟨Nat.le_of_ble_eq_true rfl, Nat.le_of_ble_eq_true rfl⟩) ⟨hI.blind, hw_recv hK hW h1 rfl, hI.give hW hS hA hK hZ0⟩ rfl rfl hl.1 rfl (lv_room (Nat.le_of_ble_eq_true rfl)) d_Ha_endLateWaits_58 ⟨(show _ ≤ 72 by omega), (show _ ≤ 900 by omega)⟩) hS (fun q _ z => hF q z) hF (fun M25 t H locs ht _ h hB1 _ _ hS => ?_)
            have hW := hw_back hF ht hB1
            clear h9
            refine lv_iinc (v := l1b13 + 1) (lv' := [(1, .int (l1b13 + 1)), (5, .ref b17), (0, .ref l0b13), (2, .ref l2b13), (3, .int l3b13), (4, .int l4b13)]) hx hb d_Ha_endLateWaits_61 hl (k := 2) rfl rfl (by decide) rfl (fun ls hl => ?_)
            exact l_Ha_endLateWaits_64 C0 hk_10 hn_10 l0b13 (l1b13 + 1) l2b13 l3b13 l4b13 (by omega) (by omega) h hW hS (lv_sub hl [2, 0, 3, 4, 5] rfl)
set_option maxHeartbeats 1000000 in
set_option maxRecDepth 20000 in
theorem l_Ha_endLateWaits_e {p : Program} {l : Launch} {e : Env} {s : State} {m : MethodId} {args : Array Value} {below : List Frame} {meth : Method} {c : Code} {D : va_G} {ca G : Nat → Nat} {A : Nat → Prop} (C0 : hC p s m args meth c D ca G prog_1_method_28_code 6 (some .int) "ChannelHall" A) {post : Int32 → hM → Prop} {M : hM} {H : Heap} {locs : List Loc} {ls : Array Slot} {cells slots : Nat} (a0 : Nat) (hc : cells ≤ 0) (hs : slots ≤ 0) (h : wp_Ha_endLateWaits G ca post M a0) (hW : hw D wCl A M H) (hS : va_S A s.heap H locs) (hl : lv_has ls 6 [(0, .ref a0)]) : W p l e rm_Ha_endLateWaits s m args below meth c H locs cells slots (MQ below (va_Qi post (fun M' t => hw D wCl A M' t.heap) A) args s 72 900 A) (F0 m 0 ls []) := by
  obtain ⟨hx, hb, hr, hml, hown, hts, hlocks, hK, hA, hZ0⟩ := id C0
  refine lv_iconst (v := 0) hx hb d_Ha_endLateWaits_0 (by decide) ?_
  refine lv_istore_n (lv' := [(1, .int 0), (0, .ref a0)]) hx hb d_Ha_endLateWaits_1 rfl hl (by decide) rfl (fun ls hl => ?_)
  refine lv_aload_n hx hb d_Ha_endLateWaits_2 rfl (lv_at hl 1 rfl) ?_
  obtain ⟨fs, v26, h1, h2, h⟩ := h
  refine va_get (D := D) (ci := 3) (v := va_rf v26) (C := "ChannelHall") (T := THa) (N := 4) hx hb hts uHa hown hK (hw_one hW h1) 0 rfl rfl 0 (by decide) (hts _ bw_100) (fun _ h9 => h9) h2 d_Ha_endLateWaits_3 ?_
  refine lq_store_n (lv' := [(2, va_rf v26), (1, .int 0), (0, .ref a0)]) hx hb d_Ha_endLateWaits_6 rfl hl (by decide) rfl (fun ls hl => ?_)
  refine lq_load_n hx hb d_Ha_endLateWaits_7 rfl (lv_at hl 0 rfl) ?_
  obtain ⟨b27, rfl, h⟩ := h
  obtain ⟨x, h1, h⟩ := h
  refine va_alen hx hb hK (hw_one hW h1) 0 0 rfl rfl rfl d_Ha_endLateWaits_8 ?_
  generalize Int32.ofNat x.1 = v28 at h ⊢
  refine lv_istore_n (lv' := [(3, .int v28), (2, .ref b27), (1, .int 0), (0, .ref a0)]) hx hb d_Ha_endLateWaits_9 rfl hl (by decide) rfl (fun ls hl => ?_)
  refine lv_iconst (v := 0) hx hb d_Ha_endLateWaits_10 (by decide) ?_
  refine lv_istore (lv' := [(4, .int 0), (3, .int v28), (2, .ref b27), (1, .int 0), (0, .ref a0)]) hx hb d_Ha_endLateWaits_11 hl (by decide) rfl (fun ls hl => ?_)
  obtain ⟨n, hn0, h⟩ := h
  exact l_Ha_endLateWaits_13 C0 n a0 0 b27 v28 0 (by omega) (by omega) h hW hS (lv_sub hl [4, 3, 2, 1, 0] rfl)
set_option maxRecDepth 20000 in
theorem c_Ha_endLateWaits {l : Launch} {D : va_G} {ca G : Nat → Nat} (post : Int32 → hM → Prop) {M : hM} {sz : Nat} {a0 : Nat} (h : wp_Ha_endLateWaits G ca post M a0) : Met l y_Ha_endLateWaits (wz y_Ha_endLateWaits prog_1_method_28_code 6 (some .int)) rm_Ha_endLateWaits (va_Pc [.ref a0] (hI D ca G sz M)) (va_Qi post (hB D M sz) (hp_A M sz)) 72 900 (hp_A M sz) := by
  refine Met.ofW (cc := prog_1_method_28_code) (maxL := 6) (ret := some .int) (by decide) rfl ?_
  intro p e s m args below meth c s₁ B hml hv
  obtain ⟨rfl, hsz, hW, hK, hZ0⟩ := hv
  have hts := fun w hw => atoms_spec (ws := wz y_Ha_endLateWaits prog_1_method_28_code 6 (some .int)) B.pre w (List.mem_cons_of_mem _ hw)
  have hown : s.vm.findClass "ChannelHall" = some m.cls := findClass_of_methodNamed B.named
  subst hsz
  have hl := lv_entry [.ref a0] (n := 6) (Nat.le_of_ble_eq_true rfl)
  rw [lg_entry_eq]
  exact l_Ha_endLateWaits_e ⟨B.exec, B.bytes, B.returns, hml, hown, hts, B.notSynchronized, hK, fun q h => Or.inr h, hZ0⟩ a0 (Nat.zero_le _) (Nat.zero_le _) h hW va_S.rf hl

theorem d_Ha_make_0 : decode prog_1_method_2_code 0 = .ok (.iload_n 1, 1) := by decide +kernel
theorem d_Ha_make_1 : decode prog_1_method_2_code 1 = .ok (.invokestatic 32, 3) := by decide +kernel
theorem d_Ha_make_4 : decode prog_1_method_2_code 4 = .ok (.ifCond .eq 15, 3) := by decide +kernel
theorem d_Ha_make_7 : decode prog_1_method_2_code 7 = .ok (.iload_n 2, 1) := by decide +kernel
theorem d_Ha_make_8 : decode prog_1_method_2_code 8 = .ok (.iload_n 3, 1) := by decide +kernel
theorem d_Ha_make_9 : decode prog_1_method_2_code 9 = .ok (.invokestatic 36, 3) := by decide +kernel
theorem d_Ha_make_12 : decode prog_1_method_2_code 12 = .ok (.ifCond .eq 7, 3) := by decide +kernel
theorem d_Ha_make_15 : decode prog_1_method_2_code 15 = .ok (.iconst 1, 1) := by decide +kernel
theorem d_Ha_make_16 : decode prog_1_method_2_code 16 = .ok (.goto 4, 3) := by decide +kernel
theorem d_Ha_make_19 : decode prog_1_method_2_code 19 = .ok (.iconst 0, 1) := by decide +kernel
theorem d_Ha_make_20 : decode prog_1_method_2_code 20 = .ok (.invokestatic 40, 3) := by decide +kernel
theorem d_Ha_make_23 : decode prog_1_method_2_code 23 = .ok (.aload_n 0, 1) := by decide +kernel
theorem d_Ha_make_24 : decode prog_1_method_2_code 24 = .ok (.getfield 17, 3) := by decide +kernel
theorem d_Ha_make_27 : decode prog_1_method_2_code 27 = .ok (.iload_n 1, 1) := by decide +kernel
theorem d_Ha_make_28 : decode prog_1_method_2_code 28 = .ok (.aaload, 1) := by decide +kernel
theorem d_Ha_make_29 : decode prog_1_method_2_code 29 = .ok (.ifnull 11, 3) := by decide +kernel
theorem d_Ha_make_32 : decode prog_1_method_2_code 32 = .ok (.new 44, 3) := by decide +kernel
theorem d_Ha_make_35 : decode prog_1_method_2_code 35 = .ok (.dup, 1) := by decide +kernel
theorem d_Ha_make_36 : decode prog_1_method_2_code 36 = .ok (.invokespecial 46, 3) := by decide +kernel
theorem d_Ha_make_39 : decode prog_1_method_2_code 39 = .ok (.athrow, 1) := by decide +kernel
theorem d_Ha_make_40 : decode prog_1_method_2_code 40 = .ok (.aload_n 0, 1) := by decide +kernel
theorem d_Ha_make_41 : decode prog_1_method_2_code 41 = .ok (.getfield 17, 3) := by decide +kernel
theorem d_Ha_make_44 : decode prog_1_method_2_code 44 = .ok (.iload_n 1, 1) := by decide +kernel
theorem d_Ha_make_45 : decode prog_1_method_2_code 45 = .ok (.new 15, 3) := by decide +kernel
theorem d_Ha_make_48 : decode prog_1_method_2_code 48 = .ok (.dup, 1) := by decide +kernel
theorem d_Ha_make_49 : decode prog_1_method_2_code 49 = .ok (.iload_n 1, 1) := by decide +kernel
theorem d_Ha_make_50 : decode prog_1_method_2_code 50 = .ok (.iload_n 2, 1) := by decide +kernel
theorem d_Ha_make_51 : decode prog_1_method_2_code 51 = .ok (.iload_n 3, 1) := by decide +kernel
theorem d_Ha_make_52 : decode prog_1_method_2_code 52 = .ok (.invokespecial 47, 3) := by decide +kernel
theorem d_Ha_make_55 : decode prog_1_method_2_code 55 = .ok (.aastore, 1) := by decide +kernel
theorem d_Ha_make_56 : decode prog_1_method_2_code 56 = .ok (.aload_n 0, 1) := by decide +kernel
theorem d_Ha_make_57 : decode prog_1_method_2_code 57 = .ok (.dup, 1) := by decide +kernel
theorem d_Ha_make_58 : decode prog_1_method_2_code 58 = .ok (.getfield 21, 3) := by decide +kernel
theorem d_Ha_make_61 : decode prog_1_method_2_code 61 = .ok (.iconst 1, 1) := by decide +kernel
theorem d_Ha_make_62 : decode prog_1_method_2_code 62 = .ok (.iadd, 1) := by decide +kernel
theorem d_Ha_make_63 : decode prog_1_method_2_code 63 = .ok (.putfield 21, 3) := by decide +kernel
theorem d_Ha_make_66 : decode prog_1_method_2_code 66 = .ok (.aload_n 0, 1) := by decide +kernel
theorem d_Ha_make_67 : decode prog_1_method_2_code 67 = .ok (.getfield 21, 3) := by decide +kernel
theorem d_Ha_make_70 : decode prog_1_method_2_code 70 = .ok (.ireturn, 1) := by decide +kernel
def y_Ha_make : MethodName := ⟨"ChannelHall", "make", "(III)I"⟩
abbrev rm_Ha_make : Room := { frames := 7, cells := 4, slots := 22, locals := 101 }
def wp_Ha_make_20 (G ca : Nat → Nat) (post : Int32 → hM → Prop) (xp : String → hM → Prop) (M : hM) (l0b20 : Nat) (l1b20 : Int32) (l2b20 : Int32) (l3b20 : Int32) (s0b20 : Int32) : Prop := wp_Ha_require G ca (fun M21 => gR M21 l0b20 3 1 fun v22 => nN v22 fun b23 => aR M21 b23 (ca 1) l1b20 fun v24 => (v24 = none → gR M21 l0b20 3 1 fun v26 => nO M21 (.inr (0, [.int 0, .int 0, .int 0, .int 0, .null, .null, .int 0, .int 0, .double FP.dconst0, .int 0])) fun q27 M28 => wp_Ch_init G ca (fun M29 => nN v26 fun b30 => sR M29 b30 (ca 1) l1b20 (some q27) (fun z => z = 0) fun M31 => gI M31 l0b20 3 2 fun v32 => pF M31 l0b20 3 2 (.int (v32 + 1)) fun M33 => gI M33 l0b20 3 2 fun v34 => post v34 M33) M28 q27 l1b20 l2b20 l3b20) ∧ (∀ b25 : Nat, v24 = some b25 → xp "java/lang/IllegalStateException" M21)) xp M s0b20
def wp_Ha_make_19 (G ca : Nat → Nat) (post : Int32 → hM → Prop) (xp : String → hM → Prop) (M : hM) (l0b19 : Nat) (l1b19 : Int32) (l2b19 : Int32) (l3b19 : Int32) : Prop := wp_Ha_make_20 G ca post xp M l0b19 l1b19 l2b19 l3b19 0
def wp_Ha_make (G ca : Nat → Nat) (post : Int32 → hM → Prop) (xp : String → hM → Prop) (M : hM) (a0 : Nat) (x1 : Int32) (x2 : Int32) (x3 : Int32) : Prop := wp_Ha_isChannel G ca (fun r35 M36 => (r35 = 0 → wp_Ha_make_19 G ca post xp M36 a0 x1 x2 x3) ∧ (¬ r35 = 0 → wp_Ha_isSize G ca (fun r38 M39 => (r38 = 0 → wp_Ha_make_19 G ca post xp M39 a0 x1 x2 x3) ∧ (¬ r38 = 0 → wp_Ha_make_20 G ca post xp M39 a0 x1 x2 x3 1)) M36 x2 x3)) M x1
set_option maxHeartbeats 1000000 in
set_option maxRecDepth 20000 in
theorem l_Ha_make_20 {p : Program} {l : Launch} {e : Env} {s : State} {m : MethodId} {args : Array Value} {below : List Frame} {meth : Method} {c : Code} {D : va_G} {ca G : Nat → Nat} {A : Nat → Prop} (C0 : hC p s m args meth c D ca G prog_1_method_2_code 4 (some .int) "ChannelHall" A) (hl0 : l.stackTraces = false) (hout : ∀ x ∈ c.exceptionTable.toList, False) {post : Int32 → hM → Prop} {xp : String → hM → Prop} {M : hM} {H : Heap} {locs : List Loc} {ls : Array Slot} {cells slots : Nat} (l0b20 : Nat) (l1b20 : Int32) (l2b20 : Int32) (l3b20 : Int32) (s0b20 : Int32) (hc : cells ≤ 0) (hs : slots ≤ 0) (h : wp_Ha_make_20 G ca post xp M l0b20 l1b20 l2b20 l3b20 s0b20) (hW : hw D wCl A M H) (hS : va_S A s.heap H locs) (hl : lv_has ls 4 [(0, .ref l0b20), (1, .int l1b20), (2, .int l2b20), (3, .int l3b20)]) : W p l e rm_Ha_make s m args below meth c H locs cells slots (vx_MQ below (va_Qi post (fun M' t => hw D wCl A M' t.heap) A) (hX D xp A) args s 4 22 A) (F0 m 20 ls [.int s0b20]) := by
  obtain ⟨hx, hb, hr, hml, hown, hts, hlocks, hK, hA, hZ0⟩ := id C0
  have h9 := h
  clear h
  have hF := hW.free hS hA
  refine vx_callv (vx_runS (As := [.int s0b20]) (rest := []) ⟨hx, hb, hml, hown, hts⟩ (c_Ha_require hl0 _ _ h9) (va_cwS 1 hts (gi_S bw_132 bw_133 bw_1 bw_134) rfl rfl rfl (by decide +kernel) ⟨Nat.le_of_ble_eq_true rfl, Nat.le_of_ble_eq_true rfl⟩) ⟨hI.blind, hI.give hW hS hA hK hZ0⟩ rfl rfl hl.1 rfl (lv_room (Nat.le_of_ble_eq_true rfl)) d_Ha_make_20 ⟨(show _ ≤ 4 by omega), (show _ ≤ 22 by omega)⟩) hS (fun q _ z => hF q z) hF (fun q _ z => hF q z) (fun E ce q9 M9 t H locs ht _ _ h8 _ _ hS hce hcv hcl => hq_out hout hlocks (hw_back hF ht h8.2) hS h8.1 hce hcv hcl (by omega) (by omega)) (fun M21 t H locs ht _ h hB1 _ _ hS => ?_)
  have hW := hw_back hF ht hB1
  clear h9
  refine lv_aload_n hx hb d_Ha_make_23 rfl (lv_at hl 0 rfl) ?_
  obtain ⟨fs, v22, h1, h2, h⟩ := h
  refine va_get (D := D) (ci := 3) (v := va_rf v22) (C := "ChannelHall") (T := THa) (N := 4) hx hb hts uHa hown hK (hw_one hW h1) 0 rfl rfl 1 (by decide) (hts _ bw_101) (fun _ h9 => h9) h2 d_Ha_make_24 ?_
  refine lv_iload_n hx hb d_Ha_make_27 rfl (lv_at hl 1 rfl) ?_
  obtain ⟨b23, rfl, h⟩ := h
  obtain ⟨n, f, h1, h2, h⟩ := h
  refine va_aldq hx hb hK (hw_one hW h1) 0 1 rfl rfl h2 d_Ha_make_28 ?_
  generalize f (l1b20).toNatClampNeg = v24 at h ⊢
  obtain ⟨h0, h1⟩ := h
  cases v24 with
  | none =>
    have h := h0 rfl
    refine lv_ifnullN (tgt := 40) hx hb d_Ha_make_29 (by decide) ?_
    refine lv_aload_n hx hb d_Ha_make_40 rfl (lv_at hl 0 rfl) ?_
    obtain ⟨fs, v26, h1, h2, h⟩ := h
    refine va_get (D := D) (ci := 3) (v := va_rf v26) (C := "ChannelHall") (T := THa) (N := 4) hx hb hts uHa hown hK (hw_one hW h1) 0 rfl rfl 1 (by decide) (hts _ bw_101) (fun _ h9 => h9) h2 d_Ha_make_41 ?_
    refine lv_iload_n hx hb d_Ha_make_44 rfl (lv_at hl 1 rfl) ?_
    obtain ⟨ws, hP, hD, hmake⟩ := hw_make hW
    refine va_new (ci := 0) (fs := [.int 0, .int 0, .int 0, .int 0, .null, .null, .int 0, .int 0, .double FP.dconst0, .int 0]) (C := "ChannelHall$Channel") (T := TCh) (N := 10) hx hb hts uCh tCh tCh_ok hown (hts _ bw_42) (hts _ bw_217) (hts _ bw_11) hK hP hD hS hA rfl (by decide) (show _ ≤ 4 by omega) (show _ ≤ 22 by omega) d_Ha_make_45 (fun q27 H hP hD hS => ?_)
    obtain ⟨hfr, hW⟩ := hmake _ _ _ hP hD
    replace h := h q27 hfr
    generalize va_up M21 q27 _ = M28 at h hW
    refine lv_dup hx hb d_Ha_make_48 rfl ?_
    refine lv_iload_n hx hb d_Ha_make_49 rfl (lv_at hl 1 rfl) ?_
    refine lv_iload_n hx hb d_Ha_make_50 rfl (lv_at hl 2 rfl) ?_
    refine lv_iload_n hx hb d_Ha_make_51 rfl (lv_at hl 3 rfl) ?_
    have h9 := h
    clear h
    have hF := hW.free hS hA
    refine va_callv (va_runI (As := [.int l1b20, .int l2b20, .int l3b20]) (rest := [.ref q27, .int l1b20, va_rf v26]) ⟨hx, hb, hml, hown, hts⟩ (c_Ch_init _ h9) (cwI 3 hts (gi_z bw_220) rfl rfl rfl (hts _ bw_11) (hts _ bw_218) (hts _ bw_219) rfl (by decide +kernel) ⟨Nat.le_of_ble_eq_true rfl, Nat.le_of_ble_eq_true rfl⟩) ⟨hI.blind, hI.give hW hS hA hK hZ0⟩ rfl rfl hl.1 rfl (lv_room (by cases v26 <;> exact Nat.le_of_ble_eq_true rfl)) d_Ha_make_52 ⟨(show _ ≤ 4 by omega), (show _ ≤ 22 by omega)⟩) hS (fun q _ z => hF q z) hF (fun M29 t H locs ht _ h hB1 _ _ hS => ?_)
    have hW := hw_back hF ht hB1
    clear h9
    obtain ⟨b30, rfl, h⟩ := h
    have h9 := h
    clear h
    refine hq_ast 1 0 (r := (some q27)) hx hb hK hW hS h9 rfl rfl d_Ha_make_55 (fun M31 H locs h hW hS => ?_)
    clear h9
    refine lv_aload_n hx hb d_Ha_make_56 rfl (lv_at hl 0 rfl) ?_
    refine lv_dup hx hb d_Ha_make_57 rfl ?_
    obtain ⟨fs, v32, h1, h2, h⟩ := h
    refine va_get (D := D) (ci := 3) (v := .int v32) (C := "ChannelHall") (T := THa) (N := 4) hx hb hts uHa hown hK (hw_one hW h1) 0 rfl rfl 2 (by decide) (hts _ bw_102) (fun _ h9 => h9) h2 d_Ha_make_58 ?_
    refine lv_iconst (v := 1) hx hb d_Ha_make_61 (by decide) ?_
    refine lv_iadd hx hb d_Ha_make_62 ?_
    obtain ⟨fs, h1, h2, h⟩ := h
    obtain ⟨ws, q0, hq, hP, hD, hback, -⟩ := hw_open hW h1
    refine va_put (D := D) (ci := 3) (v := .int (v32 + 1)) (ty := .int) (C := "ChannelHall") (T := THa) (N := 4) hx hb hts uHa tHa tHa_ok nHa hown hK hP hD hS q0 hq rfl 2 (by decide) (hts _ bw_102) (fun _ h9 => h9) rfl (by decide +kernel) rfl rfl h2 d_Ha_make_63 (fun H locs hP hD hS => ?_)
    have hW := hback _ _ hP hD
    generalize (va_up M31 l0b20 (some (.inr (3, fs.set 2 (.int (v32 + 1)))))) = M33 at h hW
    refine lv_aload_n hx hb d_Ha_make_66 rfl (lv_at hl 0 rfl) ?_
    obtain ⟨fs, v34, h1, h2, h⟩ := h
    refine va_get (D := D) (ci := 3) (v := .int v34) (C := "ChannelHall") (T := THa) (N := 4) hx hb hts uHa hown hK (hw_one hW h1) 0 rfl rfl 2 (by decide) (hts _ bw_102) (fun _ h9 => h9) h2 d_Ha_make_67 ?_
    refine W.widen (k := 4) (n := 22) (by omega) (by omega) ?_
    exact vx_ret (W.iret hx hb hr (fun t ht hWm => ⟨⟨_, _, rfl, h, hw_t ht hW⟩, hS.F ht⟩) hS.2.2 d_Ha_make_70)
  | some b25 =>
    have h := h1 b25 rfl
    refine lv_ifnull hx hb d_Ha_make_29 ?_
    exact hq_throw (names := ["java/lang/RuntimeException", "java/lang/Exception"]) hx hb hl0 hout hown (by decide) (by decide) hts bw_202 bw_10 xg_Ha_IllegalStateException xn_Ha_IllegalStateException xo_Ha_IllegalStateException hZ0 hW hS (hl.1.trans hml.symm) h d_Ha_make_32 d_Ha_make_35 d_Ha_make_36 d_Ha_make_39 (by decide) (Nat.le_of_ble_eq_true rfl) (show _ ≤ 4 by omega) (show _ ≤ 22 by omega) hlocks (by omega) (by omega)
set_option maxHeartbeats 1000000 in
set_option maxRecDepth 20000 in
theorem l_Ha_make_19 {p : Program} {l : Launch} {e : Env} {s : State} {m : MethodId} {args : Array Value} {below : List Frame} {meth : Method} {c : Code} {D : va_G} {ca G : Nat → Nat} {A : Nat → Prop} (C0 : hC p s m args meth c D ca G prog_1_method_2_code 4 (some .int) "ChannelHall" A) (hl0 : l.stackTraces = false) (hout : ∀ x ∈ c.exceptionTable.toList, False) {post : Int32 → hM → Prop} {xp : String → hM → Prop} {M : hM} {H : Heap} {locs : List Loc} {ls : Array Slot} {cells slots : Nat} (l0b19 : Nat) (l1b19 : Int32) (l2b19 : Int32) (l3b19 : Int32) (hc : cells ≤ 0) (hs : slots ≤ 0) (h : wp_Ha_make_19 G ca post xp M l0b19 l1b19 l2b19 l3b19) (hW : hw D wCl A M H) (hS : va_S A s.heap H locs) (hl : lv_has ls 4 [(0, .ref l0b19), (1, .int l1b19), (2, .int l2b19), (3, .int l3b19)]) : W p l e rm_Ha_make s m args below meth c H locs cells slots (vx_MQ below (va_Qi post (fun M' t => hw D wCl A M' t.heap) A) (hX D xp A) args s 4 22 A) (F0 m 19 ls []) := by
  obtain ⟨hx, hb, hr, hml, hown, hts, hlocks, hK, hA, hZ0⟩ := id C0
  refine lv_iconst (v := 0) hx hb d_Ha_make_19 (by decide) ?_
  exact l_Ha_make_20 C0 hl0 hout l0b19 l1b19 l2b19 l3b19 0 (by omega) (by omega) h hW hS (lv_sub hl [0, 1, 2, 3] rfl)
set_option maxHeartbeats 1000000 in
set_option maxRecDepth 20000 in
theorem l_Ha_make_e {p : Program} {l : Launch} {e : Env} {s : State} {m : MethodId} {args : Array Value} {below : List Frame} {meth : Method} {c : Code} {D : va_G} {ca G : Nat → Nat} {A : Nat → Prop} (C0 : hC p s m args meth c D ca G prog_1_method_2_code 4 (some .int) "ChannelHall" A) (hl0 : l.stackTraces = false) (hout : ∀ x ∈ c.exceptionTable.toList, False) {post : Int32 → hM → Prop} {xp : String → hM → Prop} {M : hM} {H : Heap} {locs : List Loc} {ls : Array Slot} {cells slots : Nat} (a0 : Nat) (x1 : Int32) (x2 : Int32) (x3 : Int32) (hc : cells ≤ 0) (hs : slots ≤ 0) (h : wp_Ha_make G ca post xp M a0 x1 x2 x3) (hW : hw D wCl A M H) (hS : va_S A s.heap H locs) (hl : lv_has ls 4 [(0, .ref a0), (1, .int x1), (2, .int x2), (3, .int x3)]) : W p l e rm_Ha_make s m args below meth c H locs cells slots (vx_MQ below (va_Qi post (fun M' t => hw D wCl A M' t.heap) A) (hX D xp A) args s 4 22 A) (F0 m 0 ls []) := by
  obtain ⟨hx, hb, hr, hml, hown, hts, hlocks, hK, hA, hZ0⟩ := id C0
  refine lv_iload_n hx hb d_Ha_make_0 rfl (lv_at hl 1 rfl) ?_
  have h9 := h
  clear h
  have hF := hW.free hS hA
  refine va_calli (va_runS (As := [.int x1]) (rest := []) ⟨hx, hb, hml, hown, hts⟩ (c_Ha_isChannel _ h9) (va_cwS 1 hts (gi_S bw_126 bw_127 bw_1 bw_128) rfl rfl rfl (by decide +kernel) ⟨Nat.le_of_ble_eq_true rfl, Nat.le_of_ble_eq_true rfl⟩) ⟨hI.blind, hI.give hW hS hA hK hZ0⟩ rfl rfl hl.1 rfl (lv_room (Nat.le_of_ble_eq_true rfl)) d_Ha_make_1 ⟨(show _ ≤ 4 by omega), (show _ ≤ 22 by omega)⟩) hS (fun q _ z => hF q z) hF (fun r35 M36 t H locs ht _ h hB1 _ _ hS => ?_)
  have hW := hw_back hF ht hB1
  clear h9
  obtain ⟨h0, h1⟩ := h
  refine lv_if_eq (tgt := 19) hx hb d_Ha_make_4 (by decide) (fun c37 => ?_) (fun c37 => ?_)
  · have h := h0 c37
    exact l_Ha_make_19 C0 hl0 hout a0 x1 x2 x3 (by omega) (by omega) h hW hS (lv_sub hl [0, 1, 2, 3] rfl)
  · have h := h1 c37
    refine lv_iload_n hx hb d_Ha_make_7 rfl (lv_at hl 2 rfl) ?_
    refine lv_iload_n hx hb d_Ha_make_8 rfl (lv_at hl 3 rfl) ?_
    have h9 := h
    clear h
    have hF := hW.free hS hA
    refine va_calli (va_runS (As := [.int x2, .int x3]) (rest := []) ⟨hx, hb, hml, hown, hts⟩ (c_Ha_isSize _ h9) (va_cwS 2 hts (gi_S bw_129 bw_130 bw_1 bw_131) rfl rfl rfl (by decide +kernel) ⟨Nat.le_of_ble_eq_true rfl, Nat.le_of_ble_eq_true rfl⟩) ⟨hI.blind, hI.give hW hS hA hK hZ0⟩ rfl rfl hl.1 rfl (lv_room (Nat.le_of_ble_eq_true rfl)) d_Ha_make_9 ⟨(show _ ≤ 4 by omega), (show _ ≤ 22 by omega)⟩) hS (fun q _ z => hF q z) hF (fun r38 M39 t H locs ht _ h hB1 _ _ hS => ?_)
    have hW := hw_back hF ht hB1
    clear h9
    obtain ⟨h0, h1⟩ := h
    refine lv_if_eq (tgt := 19) hx hb d_Ha_make_12 (by decide) (fun c40 => ?_) (fun c40 => ?_)
    · have h := h0 c40
      exact l_Ha_make_19 C0 hl0 hout a0 x1 x2 x3 (by omega) (by omega) h hW hS (lv_sub hl [0, 1, 2, 3] rfl)
    · have h := h1 c40
      refine lv_iconst (v := 1) hx hb d_Ha_make_15 (by decide) ?_
      refine lv_goto (tgt := 20) hx hb d_Ha_make_16 (by decide) ?_
      exact l_Ha_make_20 C0 hl0 hout a0 x1 x2 x3 1 (by omega) (by omega) h hW hS (lv_sub hl [0, 1, 2, 3] rfl)
set_option maxRecDepth 20000 in
theorem c_Ha_make {l : Launch} (hl0 : l.stackTraces = false) {D : va_G} {ca G : Nat → Nat} (post : Int32 → hM → Prop) (xp : String → hM → Prop) {M : hM} {sz : Nat} {a0 : Nat} {x1 : Int32} {x2 : Int32} {x3 : Int32} (h : wp_Ha_make G ca post xp M a0 x1 x2 x3) : vx_Met l y_Ha_make (wz y_Ha_make prog_1_method_2_code 4 (some .int)) rm_Ha_make (va_Pc [.ref a0, .int x1, .int x2, .int x3] (hI D ca G sz M)) (va_Qi post (hB D M sz) (hp_A M sz)) (hX D xp (hp_A M sz)) 4 22 (hp_A M sz) := by
  refine vx_ofW (cc := prog_1_method_2_code) (maxL := 4) (ret := some .int) (by decide) rfl ?_
  intro p e s m args below meth c s₁ B hml hout hv
  obtain ⟨rfl, hsz, hW, hK, hZ0⟩ := hv
  have hts := fun w hw => atoms_spec (ws := wz y_Ha_make prog_1_method_2_code 4 (some .int)) B.pre w (List.mem_cons_of_mem _ hw)
  have hown : s.vm.findClass "ChannelHall" = some m.cls := findClass_of_methodNamed B.named
  subst hsz
  have hl := lv_entry [.ref a0, .int x1, .int x2, .int x3] (n := 4) (Nat.le_of_ble_eq_true rfl)
  rw [lg_entry_eq]
  exact l_Ha_make_e ⟨B.exec, B.bytes, B.returns, hml, hown, hts, B.notSynchronized, hK, fun q h => Or.inr h, hZ0⟩ hl0 hout a0 x1 x2 x3 (Nat.zero_le _) (Nat.zero_le _) h hW va_S.rf hl

theorem d_Ha_give_0 : decode prog_1_method_3_code 0 = .ok (.iload_n 1, 1) := by decide +kernel
theorem d_Ha_give_1 : decode prog_1_method_3_code 1 = .ok (.invokestatic 50, 3) := by decide +kernel
theorem d_Ha_give_4 : decode prog_1_method_3_code 4 = .ok (.ifCond .eq 40, 3) := by decide +kernel
theorem d_Ha_give_7 : decode prog_1_method_3_code 7 = .ok (.iload_n 2, 1) := by decide +kernel
theorem d_Ha_give_8 : decode prog_1_method_3_code 8 = .ok (.invokestatic 32, 3) := by decide +kernel
theorem d_Ha_give_11 : decode prog_1_method_3_code 11 = .ok (.ifCond .eq 33, 3) := by decide +kernel
theorem d_Ha_give_14 : decode prog_1_method_3_code 14 = .ok (.dload 4, 2) := by decide +kernel
theorem d_Ha_give_16 : decode prog_1_method_3_code 16 = .ok (.ldc2_w 53, 3) := by decide +kernel
theorem d_Ha_give_19 : decode prog_1_method_3_code 19 = .ok (.dcmp .l, 1) := by decide +kernel
theorem d_Ha_give_20 : decode prog_1_method_3_code 20 = .ok (.ifCond .lt 24, 3) := by decide +kernel
theorem d_Ha_give_23 : decode prog_1_method_3_code 23 = .ok (.dload 4, 2) := by decide +kernel
theorem d_Ha_give_25 : decode prog_1_method_3_code 25 = .ok (.ldc2_w 55, 3) := by decide +kernel
theorem d_Ha_give_28 : decode prog_1_method_3_code 28 = .ok (.dcmp .g, 1) := by decide +kernel
theorem d_Ha_give_29 : decode prog_1_method_3_code 29 = .ok (.ifCond .gt 15, 3) := by decide +kernel
theorem d_Ha_give_32 : decode prog_1_method_3_code 32 = .ok (.dload 6, 2) := by decide +kernel
theorem d_Ha_give_34 : decode prog_1_method_3_code 34 = .ok (.invokestatic 57, 3) := by decide +kernel
theorem d_Ha_give_37 : decode prog_1_method_3_code 37 = .ok (.ifCond .eq 7, 3) := by decide +kernel
theorem d_Ha_give_40 : decode prog_1_method_3_code 40 = .ok (.iconst 1, 1) := by decide +kernel
theorem d_Ha_give_41 : decode prog_1_method_3_code 41 = .ok (.goto 4, 3) := by decide +kernel
theorem d_Ha_give_44 : decode prog_1_method_3_code 44 = .ok (.iconst 0, 1) := by decide +kernel
theorem d_Ha_give_45 : decode prog_1_method_3_code 45 = .ok (.invokestatic 40, 3) := by decide +kernel
theorem d_Ha_give_48 : decode prog_1_method_3_code 48 = .ok (.aload_n 0, 1) := by decide +kernel
theorem d_Ha_give_49 : decode prog_1_method_3_code 49 = .ok (.iload_n 2, 1) := by decide +kernel
theorem d_Ha_give_50 : decode prog_1_method_3_code 50 = .ok (.invokevirtual 61, 3) := by decide +kernel
theorem d_Ha_give_53 : decode prog_1_method_3_code 53 = .ok (.astore 8, 2) := by decide +kernel
theorem d_Ha_give_55 : decode prog_1_method_3_code 55 = .ok (.aload_n 0, 1) := by decide +kernel
theorem d_Ha_give_56 : decode prog_1_method_3_code 56 = .ok (.iload_n 1, 1) := by decide +kernel
theorem d_Ha_give_57 : decode prog_1_method_3_code 57 = .ok (.invokevirtual 65, 3) := by decide +kernel
theorem d_Ha_give_60 : decode prog_1_method_3_code 60 = .ok (.astore 9, 2) := by decide +kernel
theorem d_Ha_give_62 : decode prog_1_method_3_code 62 = .ok (.aload 8, 2) := by decide +kernel
theorem d_Ha_give_64 : decode prog_1_method_3_code 64 = .ok (.invokevirtual 69, 3) := by decide +kernel
theorem d_Ha_give_67 : decode prog_1_method_3_code 67 = .ok (.invokestatic 73, 3) := by decide +kernel
theorem d_Ha_give_70 : decode prog_1_method_3_code 70 = .ok (.aload 9, 2) := by decide +kernel
theorem d_Ha_give_72 : decode prog_1_method_3_code 72 = .ok (.invokevirtual 76, 3) := by decide +kernel
theorem d_Ha_give_75 : decode prog_1_method_3_code 75 = .ok (.ifCond .eq 10, 3) := by decide +kernel
theorem d_Ha_give_78 : decode prog_1_method_3_code 78 = .ok (.aload 9, 2) := by decide +kernel
theorem d_Ha_give_80 : decode prog_1_method_3_code 80 = .ok (.iconst 3, 1) := by decide +kernel
theorem d_Ha_give_81 : decode prog_1_method_3_code 81 = .ok (.invokevirtual 79, 3) := by decide +kernel
theorem d_Ha_give_84 : decode prog_1_method_3_code 84 = .ok (.ireturn, 1) := by decide +kernel
theorem d_Ha_give_85 : decode prog_1_method_3_code 85 = .ok (.aload 8, 2) := by decide +kernel
theorem d_Ha_give_87 : decode prog_1_method_3_code 87 = .ok (.dload 4, 2) := by decide +kernel
theorem d_Ha_give_89 : decode prog_1_method_3_code 89 = .ok (.aload_n 0, 1) := by decide +kernel
theorem d_Ha_give_90 : decode prog_1_method_3_code 90 = .ok (.getfield 25, 3) := by decide +kernel
theorem d_Ha_give_93 : decode prog_1_method_3_code 93 = .ok (.invokevirtual 83, 3) := by decide +kernel
theorem d_Ha_give_96 : decode prog_1_method_3_code 96 = .ok (.dstore 10, 2) := by decide +kernel
theorem d_Ha_give_98 : decode prog_1_method_3_code 98 = .ok (.aload 8, 2) := by decide +kernel
theorem d_Ha_give_100 : decode prog_1_method_3_code 100 = .ok (.invokevirtual 87, 3) := by decide +kernel
theorem d_Ha_give_103 : decode prog_1_method_3_code 103 = .ok (.ifCond .ne 25, 3) := by decide +kernel
theorem d_Ha_give_106 : decode prog_1_method_3_code 106 = .ok (.aload 9, 2) := by decide +kernel
theorem d_Ha_give_108 : decode prog_1_method_3_code 108 = .ok (.iload_n 3, 1) := by decide +kernel
theorem d_Ha_give_109 : decode prog_1_method_3_code 109 = .ok (.dload 10, 2) := by decide +kernel
theorem d_Ha_give_111 : decode prog_1_method_3_code 111 = .ok (.invokevirtual 90, 3) := by decide +kernel
theorem d_Ha_give_114 : decode prog_1_method_3_code 114 = .ok (.aload_n 0, 1) := by decide +kernel
theorem d_Ha_give_115 : decode prog_1_method_3_code 115 = .ok (.aload 9, 2) := by decide +kernel
theorem d_Ha_give_117 : decode prog_1_method_3_code 117 = .ok (.aload 8, 2) := by decide +kernel
theorem d_Ha_give_119 : decode prog_1_method_3_code 119 = .ok (.getstatic 94, 3) := by decide +kernel
theorem d_Ha_give_122 : decode prog_1_method_3_code 122 = .ok (.dload 6, 2) := by decide +kernel
theorem d_Ha_give_124 : decode prog_1_method_3_code 124 = .ok (.invokevirtual 100, 3) := by decide +kernel
theorem d_Ha_give_127 : decode prog_1_method_3_code 127 = .ok (.ireturn, 1) := by decide +kernel
theorem d_Ha_give_128 : decode prog_1_method_3_code 128 = .ok (.aload 8, 2) := by decide +kernel
theorem d_Ha_give_130 : decode prog_1_method_3_code 130 = .ok (.iload_n 3, 1) := by decide +kernel
theorem d_Ha_give_131 : decode prog_1_method_3_code 131 = .ok (.dload 10, 2) := by decide +kernel
theorem d_Ha_give_133 : decode prog_1_method_3_code 133 = .ok (.aload_n 0, 1) := by decide +kernel
theorem d_Ha_give_134 : decode prog_1_method_3_code 134 = .ok (.getfield 25, 3) := by decide +kernel
theorem d_Ha_give_137 : decode prog_1_method_3_code 137 = .ok (.invokevirtual 104, 3) := by decide +kernel
theorem d_Ha_give_140 : decode prog_1_method_3_code 140 = .ok (.aload 8, 2) := by decide +kernel
theorem d_Ha_give_142 : decode prog_1_method_3_code 142 = .ok (.aload_n 0, 1) := by decide +kernel
theorem d_Ha_give_143 : decode prog_1_method_3_code 143 = .ok (.getfield 25, 3) := by decide +kernel
theorem d_Ha_give_146 : decode prog_1_method_3_code 146 = .ok (.invokevirtual 108, 3) := by decide +kernel
theorem d_Ha_give_149 : decode prog_1_method_3_code 149 = .ok (.aload 9, 2) := by decide +kernel
theorem d_Ha_give_151 : decode prog_1_method_3_code 151 = .ok (.iconst 1, 1) := by decide +kernel
theorem d_Ha_give_152 : decode prog_1_method_3_code 152 = .ok (.invokevirtual 79, 3) := by decide +kernel
theorem d_Ha_give_155 : decode prog_1_method_3_code 155 = .ok (.ireturn, 1) := by decide +kernel
def y_Ha_give : MethodName := ⟨"ChannelHall", "give", "(IIIDD)I"⟩
abbrev rm_Ha_give : Room := { frames := 9, cells := 18, slots := 199, locals := 224 }
def wp_Ha_give_45 (G ca : Nat → Nat) (post : Int32 → hM → Prop) (xp : String → hM → Prop) (M : hM) (l0b45 : Nat) (l1b45 : Int32) (l2b45 : Int32) (l3b45 : Int32) (l4b45 : UInt64) (l6b45 : UInt64) (s0b45 : Int32) : Prop := wp_Ha_require G ca (fun M42 => rC M42 l0b45 3 (wp_Ha_presentChannel G ca (fun r43 M44 => rC M44 l0b45 3 (wp_Ha_runningWorker G ca (fun r45 M46 => nN r43 fun b47 => rC M46 b47 0 (wp_Ch_holdsItems G ca (fun r48 M49 => wp_Ha_requireKind G ca (fun M50 => nN r45 fun b51 => rC M50 b51 2 (wp_Wo_losesFlag G ca (fun r52 M53 => (r52 = 0 → gD M53 l0b45 3 3 fun v55 => rC M53 b47 0 (wp_Ch_keyOf G ca (fun r56 M57 => rC M57 b47 0 (wp_Ch_acceptsAtOnce G ca (fun r58 M59 => (¬ r58 = 0 → gD M59 l0b45 3 3 fun v61 => rC M59 b47 0 (wp_Ch_accept G ca (fun M62 => gD M62 l0b45 3 3 fun v63 => rC M62 b47 0 (wp_Ch_serve G ca (fun M64 => rC M64 b51 2 (wp_Wo_endWith G ca (fun r65 M66 => post r65 M66) M64 b51 1)) M62 b47 v63)) M59 b47 l3b45 r56 v61)) ∧ (r58 = 0 → rC M59 b51 2 (wp_Wo_offer G ca (fun M67 => rC M67 l0b45 3 (wp_Ha_startWait G ca (fun r68 M69 => post r68 M69) M67 l0b45 (some b51) (some b47) (some (G 0)) l6b45)) M59 b51 l3b45 r56))) M57 b47)) M53 b47 l4b45 v55)) ∧ (¬ r52 = 0 → rC M53 b51 2 (wp_Wo_endWith G ca (fun r70 M71 => post r70 M71) M53 b51 3))) M50 b51)) xp M49 r48) M46 b47)) xp M44 l0b45 l1b45)) xp M42 l0b45 l2b45)) xp M s0b45
def wp_Ha_give_44 (G ca : Nat → Nat) (post : Int32 → hM → Prop) (xp : String → hM → Prop) (M : hM) (l0b44 : Nat) (l1b44 : Int32) (l2b44 : Int32) (l3b44 : Int32) (l4b44 : UInt64) (l6b44 : UInt64) : Prop := wp_Ha_give_45 G ca post xp M l0b44 l1b44 l2b44 l3b44 l4b44 l6b44 0
def wp_Ha_give (G ca : Nat → Nat) (post : Int32 → hM → Prop) (xp : String → hM → Prop) (M : hM) (a0 : Nat) (x1 : Int32) (x2 : Int32) (x3 : Int32) (x4 : UInt64) (x6 : UInt64) : Prop := wp_Ha_isThread G ca (fun r72 M73 => (r72 = 0 → wp_Ha_give_44 G ca post xp M73 a0 x1 x2 x3 x4 x6) ∧ (¬ r72 = 0 → wp_Ha_isChannel G ca (fun r75 M76 => (r75 = 0 → wp_Ha_give_44 G ca post xp M76 a0 x1 x2 x3 x4 x6) ∧ (¬ r75 = 0 → ((Op.cmpValue (FP.dcmp x4 13875379345695965184) .l) < 0 → wp_Ha_give_44 G ca post xp M76 a0 x1 x2 x3 x4 x6) ∧ (¬ (Op.cmpValue (FP.dcmp x4 13875379345695965184) .l) < 0 → (0 < (Op.cmpValue (FP.dcmp x4 4652007308841189376) .g) → wp_Ha_give_44 G ca post xp M76 a0 x1 x2 x3 x4 x6) ∧ (¬ 0 < (Op.cmpValue (FP.dcmp x4 4652007308841189376) .g) → wp_Ha_isLimit G ca (fun r80 M81 => (r80 = 0 → wp_Ha_give_44 G ca post xp M81 a0 x1 x2 x3 x4 x6) ∧ (¬ r80 = 0 → wp_Ha_give_45 G ca post xp M81 a0 x1 x2 x3 x4 x6 1)) M76 x6)))) M73 x2)) M x1
set_option maxHeartbeats 1000000 in
set_option maxRecDepth 20000 in
theorem l_Ha_give_45 {p : Program} {l : Launch} {e : Env} {s : State} {m : MethodId} {args : Array Value} {below : List Frame} {meth : Method} {c : Code} {D : va_G} {ca G : Nat → Nat} {A : Nat → Prop} (C0 : hC p s m args meth c D ca G prog_1_method_3_code 12 (some .int) "ChannelHall" A) (hl0 : l.stackTraces = false) (hout : ∀ x ∈ c.exceptionTable.toList, False) {post : Int32 → hM → Prop} {xp : String → hM → Prop} {M : hM} {H : Heap} {locs : List Loc} {ls : Array Slot} {cells slots : Nat} (l0b45 : Nat) (l1b45 : Int32) (l2b45 : Int32) (l3b45 : Int32) (l4b45 : UInt64) (l6b45 : UInt64) (s0b45 : Int32) (hc : cells ≤ 0) (hs : slots ≤ 0) (h : wp_Ha_give_45 G ca post xp M l0b45 l1b45 l2b45 l3b45 l4b45 l6b45 s0b45) (hW : hw D wCl A M H) (hS : va_S A s.heap H locs) (hl : lv_has ls 12 [(0, .ref l0b45), (1, .int l1b45), (2, .int l2b45), (3, .int l3b45), (4, .double l4b45), (6, .double l6b45)]) : W p l e rm_Ha_give s m args below meth c H locs cells slots (vx_MQ below (va_Qi post (fun M' t => hw D wCl A M' t.heap) A) (hX D xp A) args s 18 199 A) (F0 m 45 ls [.int s0b45]) := by
  obtain ⟨hx, hb, hr, hml, hown, hts, hlocks, hK, hA, hZ0⟩ := id C0
  have h9 := h
  clear h
  have hF := hW.free hS hA
  refine vx_callv (vx_runS (As := [.int s0b45]) (rest := []) ⟨hx, hb, hml, hown, hts⟩ (c_Ha_require hl0 _ _ h9) (va_cwS 1 hts (gi_S bw_132 bw_133 bw_1 bw_134) rfl rfl rfl (by decide +kernel) ⟨Nat.le_of_ble_eq_true rfl, Nat.le_of_ble_eq_true rfl⟩) ⟨hI.blind, hI.give hW hS hA hK hZ0⟩ rfl rfl hl.1 rfl (lv_room (Nat.le_of_ble_eq_true rfl)) d_Ha_give_45 ⟨(show _ ≤ 18 by omega), (show _ ≤ 199 by omega)⟩) hS (fun q _ z => hF q z) hF (fun q _ z => hF q z) (fun E ce q9 M9 t H locs ht _ _ h8 _ _ hS hce hcv hcl => hq_out hout hlocks (hw_back hF ht h8.2) hS h8.1 hce hcv hcl (by omega) (by omega)) (fun M42 t H locs ht _ h hB1 _ _ hS => ?_)
  have hW := hw_back hF ht hB1
  clear h9
  refine lv_aload_n hx hb d_Ha_give_48 rfl (lv_at hl 0 rfl) ?_
  refine lv_iload_n hx hb d_Ha_give_49 rfl (lv_at hl 2 rfl) ?_
  obtain ⟨⟨fs, h1⟩, h⟩ := h
  have h9 := h
  clear h
  have hF := hW.free hS hA
  refine hx_callq (vx_runV (As := [.int l2b45]) (rest := []) ⟨hx, hb, hml, hown, hts⟩ (c_Ha_presentChannel hl0 _ _ h9) (cwV 1 hts (gi_V bw_309 bw_311 bs_1 bw_1 bw_312) rfl rfl rfl (by decide +kernel) ⟨Nat.le_of_ble_eq_true rfl, Nat.le_of_ble_eq_true rfl⟩) ⟨hI.blind, hw_recv hK hW h1 rfl, hI.give hW hS hA hK hZ0⟩ rfl rfl hl.1 rfl (lv_room (Nat.le_of_ble_eq_true rfl)) d_Ha_give_50 ⟨(show _ ≤ 18 by omega), (show _ ≤ 199 by omega)⟩) hS (fun q _ z => hF q z) hF (fun q _ z => hF q z) (fun E ce q9 M9 t H locs ht _ _ h8 _ _ hS hce hcv hcl => hq_out hout hlocks (hw_back hF ht h8.2) hS h8.1 hce hcv hcl (by omega) (by omega)) (fun r43 M44 t H locs ht _ h hB1 _ _ hS => ?_)
  have hW := hw_back hF ht hB1
  clear h9
  refine lq_store (lv' := [(8, va_rf r43), (0, .ref l0b45), (1, .int l1b45), (2, .int l2b45), (3, .int l3b45), (4, .double l4b45), (6, .double l6b45)]) hx hb d_Ha_give_53 hl (by decide) rfl (fun ls hl => ?_)
  refine lv_aload_n hx hb d_Ha_give_55 rfl (lv_at hl 1 rfl) ?_
  refine lv_iload_n hx hb d_Ha_give_56 rfl (lv_at hl 2 rfl) ?_
  obtain ⟨⟨fs, h1⟩, h⟩ := h
  have h9 := h
  clear h
  have hF := hW.free hS hA
  refine hx_callq (vx_runV (As := [.int l1b45]) (rest := []) ⟨hx, hb, hml, hown, hts⟩ (c_Ha_runningWorker hl0 _ _ h9) (cwV 1 hts (gi_V bw_328 bw_330 bs_2 bw_1 bw_331) rfl rfl rfl (by decide +kernel) ⟨Nat.le_of_ble_eq_true rfl, Nat.le_of_ble_eq_true rfl⟩) ⟨hI.blind, hw_recv hK hW h1 rfl, hI.give hW hS hA hK hZ0⟩ rfl rfl hl.1 rfl (lv_room (Nat.le_of_ble_eq_true rfl)) d_Ha_give_57 ⟨(show _ ≤ 18 by omega), (show _ ≤ 199 by omega)⟩) hS (fun q _ z => hF q z) hF (fun q _ z => hF q z) (fun E ce q9 M9 t H locs ht _ _ h8 _ _ hS hce hcv hcl => hq_out hout hlocks (hw_back hF ht h8.2) hS h8.1 hce hcv hcl (by omega) (by omega)) (fun r45 M46 t H locs ht _ h hB1 _ _ hS => ?_)
  have hW := hw_back hF ht hB1
  clear h9
  refine lq_store (lv' := [(9, va_rf r45), (8, va_rf r43), (0, .ref l0b45), (1, .int l1b45), (2, .int l2b45), (3, .int l3b45), (4, .double l4b45), (6, .double l6b45)]) hx hb d_Ha_give_60 hl (by decide) (by cases r43 <;> rfl) (fun ls hl => ?_)
  refine lq_load hx hb d_Ha_give_62 (lv_at hl 1 rfl) ?_
  obtain ⟨b47, rfl, h⟩ := h
  obtain ⟨⟨fs, h1⟩, h⟩ := h
  have h9 := h
  clear h
  have hF := hW.free hS hA
  refine va_calli (va_runV (As := []) (rest := []) ⟨hx, hb, hml, hown, hts⟩ (c_Ch_holdsItems _ h9) (cwV 0 hts (gi_V bw_332 bw_333 bw_334 bw_11 bw_335) rfl rfl rfl (by decide +kernel) ⟨Nat.le_of_ble_eq_true rfl, Nat.le_of_ble_eq_true rfl⟩) ⟨hI.blind, hw_recv hK hW h1 rfl, hI.give hW hS hA hK hZ0⟩ rfl rfl hl.1 rfl (lv_room (Nat.le_of_ble_eq_true rfl)) d_Ha_give_64 ⟨(show _ ≤ 18 by omega), (show _ ≤ 199 by omega)⟩) hS (fun q _ z => hF q z) hF (fun r48 M49 t H locs ht _ h hB1 _ _ hS => ?_)
  have hW := hw_back hF ht hB1
  clear h9
  have h9 := h
  clear h
  have hF := hW.free hS hA
  refine vx_callv (vx_runS (As := [.int r48]) (rest := []) ⟨hx, hb, hml, hown, hts⟩ (c_Ha_requireKind hl0 _ _ h9) (va_cwS 1 hts (gi_S bw_336 bw_337 bw_1 bw_338) rfl rfl rfl (by decide +kernel) ⟨Nat.le_of_ble_eq_true rfl, Nat.le_of_ble_eq_true rfl⟩) ⟨hI.blind, hI.give hW hS hA hK hZ0⟩ rfl rfl hl.1 rfl (lv_room (Nat.le_of_ble_eq_true rfl)) d_Ha_give_67 ⟨(show _ ≤ 18 by omega), (show _ ≤ 199 by omega)⟩) hS (fun q _ z => hF q z) hF (fun q _ z => hF q z) (fun E ce q9 M9 t H locs ht _ _ h8 _ _ hS hce hcv hcl => hq_out hout hlocks (hw_back hF ht h8.2) hS h8.1 hce hcv hcl (by omega) (by omega)) (fun M50 t H locs ht _ h hB1 _ _ hS => ?_)
  have hW := hw_back hF ht hB1
  clear h9
  refine lq_load hx hb d_Ha_give_70 (lv_at hl 0 rfl) ?_
  obtain ⟨b51, rfl, h⟩ := h
  obtain ⟨⟨fs, h1⟩, h⟩ := h
  have h9 := h
  clear h
  have hF := hW.free hS hA
  refine va_calli (va_runV (As := []) (rest := []) ⟨hx, hb, hml, hown, hts⟩ (c_Wo_losesFlag _ h9) (cwV 0 hts (gi_V bw_354 bw_355 bw_356 bw_2 bw_357) rfl rfl rfl (by decide +kernel) ⟨Nat.le_of_ble_eq_true rfl, Nat.le_of_ble_eq_true rfl⟩) ⟨hI.blind, hw_recv hK hW h1 rfl, hI.give hW hS hA hK hZ0⟩ rfl rfl hl.1 rfl (lv_room (Nat.le_of_ble_eq_true rfl)) d_Ha_give_72 ⟨(show _ ≤ 18 by omega), (show _ ≤ 199 by omega)⟩) hS (fun q _ z => hF q z) hF (fun r52 M53 t H locs ht _ h hB1 _ _ hS => ?_)
  have hW := hw_back hF ht hB1
  clear h9
  obtain ⟨h0, h1⟩ := h
  refine lv_if_eq (tgt := 85) hx hb d_Ha_give_75 (by decide) (fun c54 => ?_) (fun c54 => ?_)
  · have h := h0 c54
    refine lv_aload hx hb d_Ha_give_85 (lv_at hl 1 rfl) ?_
    refine lv_dload hx hb d_Ha_give_87 (lv_at hl 6 rfl) ?_
    refine lv_aload_n hx hb d_Ha_give_89 rfl (lv_at hl 2 rfl) ?_
    obtain ⟨fs, v55, h1, h2, h⟩ := h
    refine va_get (D := D) (ci := 3) (v := .double v55) (C := "ChannelHall") (T := THa) (N := 4) hx hb hts uHa hown hK (hw_one hW h1) 0 rfl rfl 3 (by decide) (hts _ bw_103) (fun _ h9 => h9) h2 d_Ha_give_90 ?_
    obtain ⟨⟨fs, h1⟩, h⟩ := h
    have h9 := h
    clear h
    have hF := hW.free hS hA
    refine va_calld (va_runV (As := [.double l4b45, .double v55]) (rest := []) ⟨hx, hb, hml, hown, hts⟩ (c_Ch_keyOf _ h9) (cwV 2 hts (gi_V bw_362 bw_363 bw_364 bw_11 bw_365) rfl rfl rfl (by decide +kernel) ⟨Nat.le_of_ble_eq_true rfl, Nat.le_of_ble_eq_true rfl⟩) ⟨hI.blind, hw_recv hK hW h1 rfl, hI.give hW hS hA hK hZ0⟩ rfl rfl hl.1 rfl (lv_room (Nat.le_of_ble_eq_true rfl)) d_Ha_give_93 ⟨(show _ ≤ 18 by omega), (show _ ≤ 199 by omega)⟩) hS (fun q _ z => hF q z) hF (fun r56 M57 t H locs ht _ h hB1 _ _ hS => ?_)
    have hW := hw_back hF ht hB1
    clear h9
    refine lv_dstore (lv' := [(10, .double r56), (9, .ref b51), (8, .ref b47), (0, .ref l0b45), (1, .int l1b45), (2, .int l2b45), (3, .int l3b45), (4, .double l4b45), (6, .double l6b45)]) hx hb d_Ha_give_96 hl (by decide) rfl (fun ls hl => ?_)
    refine lv_aload hx hb d_Ha_give_98 (lv_at hl 2 rfl) ?_
    obtain ⟨⟨fs, h1⟩, h⟩ := h
    have h9 := h
    clear h
    have hF := hW.free hS hA
    refine va_calli (va_runV (As := []) (rest := []) ⟨hx, hb, hml, hown, hts⟩ (c_Ch_acceptsAtOnce _ h9) (cwV 0 hts (gi_V bw_366 bw_367 bw_368 bw_11 bw_369) rfl rfl rfl (by decide +kernel) ⟨Nat.le_of_ble_eq_true rfl, Nat.le_of_ble_eq_true rfl⟩) ⟨hI.blind, hw_recv hK hW h1 rfl, hI.give hW hS hA hK hZ0⟩ rfl rfl hl.1 rfl (lv_room (Nat.le_of_ble_eq_true rfl)) d_Ha_give_100 ⟨(show _ ≤ 18 by omega), (show _ ≤ 199 by omega)⟩) hS (fun q _ z => hF q z) hF (fun r58 M59 t H locs ht _ h hB1 _ _ hS => ?_)
    have hW := hw_back hF ht hB1
    clear h9
    obtain ⟨h0, h1⟩ := h
    refine lv_if_ne (tgt := 128) hx hb d_Ha_give_103 (by decide) (fun c60 => ?_) (fun c60 => ?_)
    · have h := h0 c60
      refine lv_aload hx hb d_Ha_give_128 (lv_at hl 2 rfl) ?_
      refine lv_iload_n hx hb d_Ha_give_130 rfl (lv_at hl 6 rfl) ?_
      refine lv_dload hx hb d_Ha_give_131 (lv_at hl 0 rfl) ?_
      refine lv_aload_n hx hb d_Ha_give_133 rfl (lv_at hl 3 rfl) ?_
      obtain ⟨fs, v61, h1, h2, h⟩ := h
      refine va_get (D := D) (ci := 3) (v := .double v61) (C := "ChannelHall") (T := THa) (N := 4) hx hb hts uHa hown hK (hw_one hW h1) 0 rfl rfl 3 (by decide) (hts _ bw_103) (fun _ h9 => h9) h2 d_Ha_give_134 ?_
      obtain ⟨⟨fs, h1⟩, h⟩ := h
      have h9 := h
      clear h
      have hF := hW.free hS hA
      refine va_callv (va_runV (As := [.int l3b45, .double r56, .double v61]) (rest := []) ⟨hx, hb, hml, hown, hts⟩ (c_Ch_accept _ h9) (cwV 3 hts (gi_V bw_468 bw_469 bw_470 bw_11 bw_471) rfl rfl rfl (by decide +kernel) ⟨Nat.le_of_ble_eq_true rfl, Nat.le_of_ble_eq_true rfl⟩) ⟨hI.blind, hw_recv hK hW h1 rfl, hI.give hW hS hA hK hZ0⟩ rfl rfl hl.1 rfl (lv_room (Nat.le_of_ble_eq_true rfl)) d_Ha_give_137 ⟨(show _ ≤ 18 by omega), (show _ ≤ 199 by omega)⟩) hS (fun q _ z => hF q z) hF (fun M62 t H locs ht _ h hB1 _ _ hS => ?_)
      have hW := hw_back hF ht hB1
      clear h9
      refine lv_aload hx hb d_Ha_give_140 (lv_at hl 2 rfl) ?_
      refine lv_aload_n hx hb d_Ha_give_142 rfl (lv_at hl 3 rfl) ?_
      obtain ⟨fs, v63, h1, h2, h⟩ := h
      refine va_get (D := D) (ci := 3) (v := .double v63) (C := "ChannelHall") (T := THa) (N := 4) hx hb hts uHa hown hK (hw_one hW h1) 0 rfl rfl 3 (by decide) (hts _ bw_103) (fun _ h9 => h9) h2 d_Ha_give_143 ?_
      obtain ⟨⟨fs, h1⟩, h⟩ := h
      have h9 := h
      clear h
      have hF := hW.free hS hA
      refine va_callv (va_runV (As := [.double v63]) (rest := []) ⟨hx, hb, hml, hown, hts⟩ (c_Ch_serve _ h9) (cwV 1 hts (gi_V bw_791 bw_792 bw_793 bw_11 bw_794) rfl rfl rfl (by decide +kernel) ⟨Nat.le_of_ble_eq_true rfl, Nat.le_of_ble_eq_true rfl⟩) ⟨hI.blind, hw_recv hK hW h1 rfl, hI.give hW hS hA hK hZ0⟩ rfl rfl hl.1 rfl (lv_room (Nat.le_of_ble_eq_true rfl)) d_Ha_give_146 ⟨(show _ ≤ 18 by omega), (show _ ≤ 199 by omega)⟩) hS (fun q _ z => hF q z) hF (fun M64 t H locs ht _ h hB1 _ _ hS => ?_)
      have hW := hw_back hF ht hB1
      clear h9
      refine lv_aload hx hb d_Ha_give_149 (lv_at hl 1 rfl) ?_
      refine lv_iconst (v := 1) hx hb d_Ha_give_151 (by decide) ?_
      obtain ⟨⟨fs, h1⟩, h⟩ := h
      have h9 := h
      clear h
      have hF := hW.free hS hA
      refine va_calli (va_runV (As := [.int 1]) (rest := []) ⟨hx, hb, hml, hown, hts⟩ (c_Wo_endWith _ h9) (cwV 1 hts (gi_V bw_358 bw_359 bw_360 bw_2 bw_361) rfl rfl rfl (by decide +kernel) ⟨Nat.le_of_ble_eq_true rfl, Nat.le_of_ble_eq_true rfl⟩) ⟨hI.blind, hw_recv hK hW h1 rfl, hI.give hW hS hA hK hZ0⟩ rfl rfl hl.1 rfl (lv_room (Nat.le_of_ble_eq_true rfl)) d_Ha_give_152 ⟨(show _ ≤ 18 by omega), (show _ ≤ 199 by omega)⟩) hS (fun q _ z => hF q z) hF (fun r65 M66 t H locs ht _ h hB1 _ _ hS => ?_)
      have hW := hw_back hF ht hB1
      clear h9
      refine W.widen (k := 18) (n := 199) (by omega) (by omega) ?_
      exact vx_ret (W.iret hx hb hr (fun t ht hWm => ⟨⟨_, _, rfl, h, hw_t ht hW⟩, hS.F ht⟩) hS.2.2 d_Ha_give_155)
    · have h := h1 c60
      refine lv_aload hx hb d_Ha_give_106 (lv_at hl 1 rfl) ?_
      refine lv_iload_n hx hb d_Ha_give_108 rfl (lv_at hl 6 rfl) ?_
      refine lv_dload hx hb d_Ha_give_109 (lv_at hl 0 rfl) ?_
      obtain ⟨⟨fs, h1⟩, h⟩ := h
      have h9 := h
      clear h
      have hF := hW.free hS hA
      refine va_callv (va_runV (As := [.int l3b45, .double r56]) (rest := []) ⟨hx, hb, hml, hown, hts⟩ (c_Wo_offer _ h9) (cwV 2 hts (gi_V bw_397 bw_398 bw_399 bw_2 bw_400) rfl rfl rfl (by decide +kernel) ⟨Nat.le_of_ble_eq_true rfl, Nat.le_of_ble_eq_true rfl⟩) ⟨hI.blind, hw_recv hK hW h1 rfl, hI.give hW hS hA hK hZ0⟩ rfl rfl hl.1 rfl (lv_room (Nat.le_of_ble_eq_true rfl)) d_Ha_give_111 ⟨(show _ ≤ 18 by omega), (show _ ≤ 199 by omega)⟩) hS (fun q _ z => hF q z) hF (fun M67 t H locs ht _ h hB1 _ _ hS => ?_)
      have hW := hw_back hF ht hB1
      clear h9
      refine lv_aload_n hx hb d_Ha_give_114 rfl (lv_at hl 3 rfl) ?_
      refine lv_aload hx hb d_Ha_give_115 (lv_at hl 1 rfl) ?_
      refine lv_aload hx hb d_Ha_give_117 (lv_at hl 2 rfl) ?_
      refine va_gets (v := .ref (G 0)) hx hb (hZ0.1) hS hown (hts _ bw_401) (fun _ h9 => h9) d_Ha_give_119 ?_
      refine lv_dload hx hb d_Ha_give_122 (lv_at hl 8 rfl) ?_
      obtain ⟨⟨fs, h1⟩, h⟩ := h
      have h9 := h
      clear h
      have hF := hW.free hS hA
      refine va_calli (va_runV (As := [.ref b51, .ref b47, .ref (G 0), .double l6b45]) (rest := []) ⟨hx, hb, hml, hown, hts⟩ (c_Ha_startWait _ h9) (cwV 4 hts (gi_V bw_402 bw_404 bs_3 bw_1 bw_405) rfl rfl rfl (by decide +kernel) ⟨Nat.le_of_ble_eq_true rfl, Nat.le_of_ble_eq_true rfl⟩) ⟨hI.blind, hw_recv hK hW h1 rfl, hI.give hW hS hA hK hZ0⟩ rfl rfl hl.1 rfl (lv_room (Nat.le_of_ble_eq_true rfl)) d_Ha_give_124 ⟨(show _ ≤ 18 by omega), (show _ ≤ 199 by omega)⟩) hS (fun q _ z => hF q z) hF (fun r68 M69 t H locs ht _ h hB1 _ _ hS => ?_)
      have hW := hw_back hF ht hB1
      clear h9
      refine W.widen (k := 18) (n := 199) (by omega) (by omega) ?_
      exact vx_ret (W.iret hx hb hr (fun t ht hWm => ⟨⟨_, _, rfl, h, hw_t ht hW⟩, hS.F ht⟩) hS.2.2 d_Ha_give_127)
  · have h := h1 c54
    refine lv_aload hx hb d_Ha_give_78 (lv_at hl 0 rfl) ?_
    refine lv_iconst (v := 3) hx hb d_Ha_give_80 (by decide) ?_
    obtain ⟨⟨fs, h1⟩, h⟩ := h
    have h9 := h
    clear h
    have hF := hW.free hS hA
    refine va_calli (va_runV (As := [.int 3]) (rest := []) ⟨hx, hb, hml, hown, hts⟩ (c_Wo_endWith _ h9) (cwV 1 hts (gi_V bw_358 bw_359 bw_360 bw_2 bw_361) rfl rfl rfl (by decide +kernel) ⟨Nat.le_of_ble_eq_true rfl, Nat.le_of_ble_eq_true rfl⟩) ⟨hI.blind, hw_recv hK hW h1 rfl, hI.give hW hS hA hK hZ0⟩ rfl rfl hl.1 rfl (lv_room (Nat.le_of_ble_eq_true rfl)) d_Ha_give_81 ⟨(show _ ≤ 18 by omega), (show _ ≤ 199 by omega)⟩) hS (fun q _ z => hF q z) hF (fun r70 M71 t H locs ht _ h hB1 _ _ hS => ?_)
    have hW := hw_back hF ht hB1
    clear h9
    refine W.widen (k := 18) (n := 199) (by omega) (by omega) ?_
    exact vx_ret (W.iret hx hb hr (fun t ht hWm => ⟨⟨_, _, rfl, h, hw_t ht hW⟩, hS.F ht⟩) hS.2.2 d_Ha_give_84)
set_option maxHeartbeats 1000000 in
set_option maxRecDepth 20000 in
theorem l_Ha_give_44 {p : Program} {l : Launch} {e : Env} {s : State} {m : MethodId} {args : Array Value} {below : List Frame} {meth : Method} {c : Code} {D : va_G} {ca G : Nat → Nat} {A : Nat → Prop} (C0 : hC p s m args meth c D ca G prog_1_method_3_code 12 (some .int) "ChannelHall" A) (hl0 : l.stackTraces = false) (hout : ∀ x ∈ c.exceptionTable.toList, False) {post : Int32 → hM → Prop} {xp : String → hM → Prop} {M : hM} {H : Heap} {locs : List Loc} {ls : Array Slot} {cells slots : Nat} (l0b44 : Nat) (l1b44 : Int32) (l2b44 : Int32) (l3b44 : Int32) (l4b44 : UInt64) (l6b44 : UInt64) (hc : cells ≤ 0) (hs : slots ≤ 0) (h : wp_Ha_give_44 G ca post xp M l0b44 l1b44 l2b44 l3b44 l4b44 l6b44) (hW : hw D wCl A M H) (hS : va_S A s.heap H locs) (hl : lv_has ls 12 [(0, .ref l0b44), (1, .int l1b44), (2, .int l2b44), (3, .int l3b44), (4, .double l4b44), (6, .double l6b44)]) : W p l e rm_Ha_give s m args below meth c H locs cells slots (vx_MQ below (va_Qi post (fun M' t => hw D wCl A M' t.heap) A) (hX D xp A) args s 18 199 A) (F0 m 44 ls []) := by
  obtain ⟨hx, hb, hr, hml, hown, hts, hlocks, hK, hA, hZ0⟩ := id C0
  refine lv_iconst (v := 0) hx hb d_Ha_give_44 (by decide) ?_
  exact l_Ha_give_45 C0 hl0 hout l0b44 l1b44 l2b44 l3b44 l4b44 l6b44 0 (by omega) (by omega) h hW hS (lv_sub hl [0, 1, 2, 3, 4, 5] rfl)
set_option maxHeartbeats 1000000 in
set_option maxRecDepth 20000 in
theorem l_Ha_give_e {p : Program} {l : Launch} {e : Env} {s : State} {m : MethodId} {args : Array Value} {below : List Frame} {meth : Method} {c : Code} {D : va_G} {ca G : Nat → Nat} {A : Nat → Prop} (C0 : hC p s m args meth c D ca G prog_1_method_3_code 12 (some .int) "ChannelHall" A) (hl0 : l.stackTraces = false) (hout : ∀ x ∈ c.exceptionTable.toList, False) {post : Int32 → hM → Prop} {xp : String → hM → Prop} {M : hM} {H : Heap} {locs : List Loc} {ls : Array Slot} {cells slots : Nat} (a0 : Nat) (x1 : Int32) (x2 : Int32) (x3 : Int32) (x4 : UInt64) (x6 : UInt64) (hc : cells ≤ 0) (hs : slots ≤ 0) (h : wp_Ha_give G ca post xp M a0 x1 x2 x3 x4 x6) (hW : hw D wCl A M H) (hS : va_S A s.heap H locs) (hl : lv_has ls 12 [(0, .ref a0), (1, .int x1), (2, .int x2), (3, .int x3), (4, .double x4), (6, .double x6)]) : W p l e rm_Ha_give s m args below meth c H locs cells slots (vx_MQ below (va_Qi post (fun M' t => hw D wCl A M' t.heap) A) (hX D xp A) args s 18 199 A) (F0 m 0 ls []) := by
  obtain ⟨hx, hb, hr, hml, hown, hts, hlocks, hK, hA, hZ0⟩ := id C0
  refine lv_iload_n hx hb d_Ha_give_0 rfl (lv_at hl 1 rfl) ?_
  have h9 := h
  clear h
  have hF := hW.free hS hA
  refine va_calli (va_runS (As := [.int x1]) (rest := []) ⟨hx, hb, hml, hown, hts⟩ (c_Ha_isThread _ h9) (va_cwS 1 hts (gi_S bw_300 bw_301 bw_1 bw_302) rfl rfl rfl (by decide +kernel) ⟨Nat.le_of_ble_eq_true rfl, Nat.le_of_ble_eq_true rfl⟩) ⟨hI.blind, hI.give hW hS hA hK hZ0⟩ rfl rfl hl.1 rfl (lv_room (Nat.le_of_ble_eq_true rfl)) d_Ha_give_1 ⟨(show _ ≤ 18 by omega), (show _ ≤ 199 by omega)⟩) hS (fun q _ z => hF q z) hF (fun r72 M73 t H locs ht _ h hB1 _ _ hS => ?_)
  have hW := hw_back hF ht hB1
  clear h9
  obtain ⟨h0, h1⟩ := h
  refine lv_if_eq (tgt := 44) hx hb d_Ha_give_4 (by decide) (fun c74 => ?_) (fun c74 => ?_)
  · have h := h0 c74
    exact l_Ha_give_44 C0 hl0 hout a0 x1 x2 x3 x4 x6 (by omega) (by omega) h hW hS (lv_sub hl [0, 1, 2, 3, 4, 5] rfl)
  · have h := h1 c74
    refine lv_iload_n hx hb d_Ha_give_7 rfl (lv_at hl 2 rfl) ?_
    have h9 := h
    clear h
    have hF := hW.free hS hA
    refine va_calli (va_runS (As := [.int x2]) (rest := []) ⟨hx, hb, hml, hown, hts⟩ (c_Ha_isChannel _ h9) (va_cwS 1 hts (gi_S bw_126 bw_127 bw_1 bw_128) rfl rfl rfl (by decide +kernel) ⟨Nat.le_of_ble_eq_true rfl, Nat.le_of_ble_eq_true rfl⟩) ⟨hI.blind, hI.give hW hS hA hK hZ0⟩ rfl rfl hl.1 rfl (lv_room (Nat.le_of_ble_eq_true rfl)) d_Ha_give_8 ⟨(show _ ≤ 18 by omega), (show _ ≤ 199 by omega)⟩) hS (fun q _ z => hF q z) hF (fun r75 M76 t H locs ht _ h hB1 _ _ hS => ?_)
    have hW := hw_back hF ht hB1
    clear h9
    obtain ⟨h0, h1⟩ := h
    refine lv_if_eq (tgt := 44) hx hb d_Ha_give_11 (by decide) (fun c77 => ?_) (fun c77 => ?_)
    · have h := h0 c77
      exact l_Ha_give_44 C0 hl0 hout a0 x1 x2 x3 x4 x6 (by omega) (by omega) h hW hS (lv_sub hl [0, 1, 2, 3, 4, 5] rfl)
    · have h := h1 c77
      refine lv_dload hx hb d_Ha_give_14 (lv_at hl 4 rfl) ?_
      refine lv_ldc2d (v := 13875379345695965184) hx hb hown (hts _ bw_303) d_Ha_give_16 ?_
      refine lv_dcmp hx hb d_Ha_give_19 ?_
      obtain ⟨h0, h1⟩ := h
      refine lv_if_lt (tgt := 44) hx hb d_Ha_give_20 (by decide) (fun c78 => ?_) (fun c78 => ?_)
      · have h := h0 c78
        exact l_Ha_give_44 C0 hl0 hout a0 x1 x2 x3 x4 x6 (by omega) (by omega) h hW hS (lv_sub hl [0, 1, 2, 3, 4, 5] rfl)
      · have h := h1 c78
        refine lv_dload hx hb d_Ha_give_23 (lv_at hl 4 rfl) ?_
        refine lv_ldc2d (v := 4652007308841189376) hx hb hown (hts _ bw_304) d_Ha_give_25 ?_
        refine lv_dcmp hx hb d_Ha_give_28 ?_
        obtain ⟨h0, h1⟩ := h
        refine lv_if_gt (tgt := 44) hx hb d_Ha_give_29 (by decide) (fun c79 => ?_) (fun c79 => ?_)
        · have h := h0 c79
          exact l_Ha_give_44 C0 hl0 hout a0 x1 x2 x3 x4 x6 (by omega) (by omega) h hW hS (lv_sub hl [0, 1, 2, 3, 4, 5] rfl)
        · have h := h1 c79
          refine lv_dload hx hb d_Ha_give_32 (lv_at hl 5 rfl) ?_
          have h9 := h
          clear h
          have hF := hW.free hS hA
          refine va_calli (va_runS (As := [.double x6]) (rest := []) ⟨hx, hb, hml, hown, hts⟩ (c_Ha_isLimit _ h9) (va_cwS 1 hts (gi_S bw_305 bw_306 bw_1 bw_307) rfl rfl rfl (by decide +kernel) ⟨Nat.le_of_ble_eq_true rfl, Nat.le_of_ble_eq_true rfl⟩) ⟨hI.blind, hI.give hW hS hA hK hZ0⟩ rfl rfl hl.1 rfl (lv_room (Nat.le_of_ble_eq_true rfl)) d_Ha_give_34 ⟨(show _ ≤ 18 by omega), (show _ ≤ 199 by omega)⟩) hS (fun q _ z => hF q z) hF (fun r80 M81 t H locs ht _ h hB1 _ _ hS => ?_)
          have hW := hw_back hF ht hB1
          clear h9
          obtain ⟨h0, h1⟩ := h
          refine lv_if_eq (tgt := 44) hx hb d_Ha_give_37 (by decide) (fun c82 => ?_) (fun c82 => ?_)
          · have h := h0 c82
            exact l_Ha_give_44 C0 hl0 hout a0 x1 x2 x3 x4 x6 (by omega) (by omega) h hW hS (lv_sub hl [0, 1, 2, 3, 4, 5] rfl)
          · have h := h1 c82
            refine lv_iconst (v := 1) hx hb d_Ha_give_40 (by decide) ?_
            refine lv_goto (tgt := 45) hx hb d_Ha_give_41 (by decide) ?_
            exact l_Ha_give_45 C0 hl0 hout a0 x1 x2 x3 x4 x6 1 (by omega) (by omega) h hW hS (lv_sub hl [0, 1, 2, 3, 4, 5] rfl)
set_option maxRecDepth 20000 in
theorem c_Ha_give {l : Launch} (hl0 : l.stackTraces = false) {D : va_G} {ca G : Nat → Nat} (post : Int32 → hM → Prop) (xp : String → hM → Prop) {M : hM} {sz : Nat} {a0 : Nat} {x1 : Int32} {x2 : Int32} {x3 : Int32} {x4 : UInt64} {x6 : UInt64} (h : wp_Ha_give G ca post xp M a0 x1 x2 x3 x4 x6) : vx_Met l y_Ha_give (wz y_Ha_give prog_1_method_3_code 12 (some .int)) rm_Ha_give (va_Pc [.ref a0, .int x1, .int x2, .int x3, .double x4, .double x6] (hI D ca G sz M)) (va_Qi post (hB D M sz) (hp_A M sz)) (hX D xp (hp_A M sz)) 18 199 (hp_A M sz) := by
  refine vx_ofW (cc := prog_1_method_3_code) (maxL := 12) (ret := some .int) (by decide) rfl ?_
  intro p e s m args below meth c s₁ B hml hout hv
  obtain ⟨rfl, hsz, hW, hK, hZ0⟩ := hv
  have hts := fun w hw => atoms_spec (ws := wz y_Ha_give prog_1_method_3_code 12 (some .int)) B.pre w (List.mem_cons_of_mem _ hw)
  have hown : s.vm.findClass "ChannelHall" = some m.cls := findClass_of_methodNamed B.named
  subst hsz
  have hl := lv_entry [.ref a0, .int x1, .int x2, .int x3, .double x4, .double x6] (n := 12) (Nat.le_of_ble_eq_true rfl)
  rw [lg_entry_eq]
  exact l_Ha_give_e ⟨B.exec, B.bytes, B.returns, hml, hown, hts, B.notSynchronized, hK, fun q h => Or.inr h, hZ0⟩ hl0 hout a0 x1 x2 x3 x4 x6 (Nat.zero_le _) (Nat.zero_le _) h hW va_S.rf hl

theorem d_Ha_take_0 : decode prog_1_method_4_code 0 = .ok (.iload_n 1, 1) := by decide +kernel
theorem d_Ha_take_1 : decode prog_1_method_4_code 1 = .ok (.invokestatic 50, 3) := by decide +kernel
theorem d_Ha_take_4 : decode prog_1_method_4_code 4 = .ok (.ifCond .eq 21, 3) := by decide +kernel
theorem d_Ha_take_7 : decode prog_1_method_4_code 7 = .ok (.iload_n 2, 1) := by decide +kernel
theorem d_Ha_take_8 : decode prog_1_method_4_code 8 = .ok (.invokestatic 32, 3) := by decide +kernel
theorem d_Ha_take_11 : decode prog_1_method_4_code 11 = .ok (.ifCond .eq 14, 3) := by decide +kernel
theorem d_Ha_take_14 : decode prog_1_method_4_code 14 = .ok (.dload_n 3, 1) := by decide +kernel
theorem d_Ha_take_15 : decode prog_1_method_4_code 15 = .ok (.invokestatic 57, 3) := by decide +kernel
theorem d_Ha_take_18 : decode prog_1_method_4_code 18 = .ok (.ifCond .eq 7, 3) := by decide +kernel
theorem d_Ha_take_21 : decode prog_1_method_4_code 21 = .ok (.iconst 1, 1) := by decide +kernel
theorem d_Ha_take_22 : decode prog_1_method_4_code 22 = .ok (.goto 4, 3) := by decide +kernel
theorem d_Ha_take_25 : decode prog_1_method_4_code 25 = .ok (.iconst 0, 1) := by decide +kernel
theorem d_Ha_take_26 : decode prog_1_method_4_code 26 = .ok (.invokestatic 40, 3) := by decide +kernel
theorem d_Ha_take_29 : decode prog_1_method_4_code 29 = .ok (.aload_n 0, 1) := by decide +kernel
theorem d_Ha_take_30 : decode prog_1_method_4_code 30 = .ok (.iload_n 2, 1) := by decide +kernel
theorem d_Ha_take_31 : decode prog_1_method_4_code 31 = .ok (.invokevirtual 61, 3) := by decide +kernel
theorem d_Ha_take_34 : decode prog_1_method_4_code 34 = .ok (.astore 5, 2) := by decide +kernel
theorem d_Ha_take_36 : decode prog_1_method_4_code 36 = .ok (.aload_n 0, 1) := by decide +kernel
theorem d_Ha_take_37 : decode prog_1_method_4_code 37 = .ok (.iload_n 1, 1) := by decide +kernel
theorem d_Ha_take_38 : decode prog_1_method_4_code 38 = .ok (.invokevirtual 65, 3) := by decide +kernel
theorem d_Ha_take_41 : decode prog_1_method_4_code 41 = .ok (.astore 6, 2) := by decide +kernel
theorem d_Ha_take_43 : decode prog_1_method_4_code 43 = .ok (.aload 5, 2) := by decide +kernel
theorem d_Ha_take_45 : decode prog_1_method_4_code 45 = .ok (.invokevirtual 69, 3) := by decide +kernel
theorem d_Ha_take_48 : decode prog_1_method_4_code 48 = .ok (.invokestatic 73, 3) := by decide +kernel
theorem d_Ha_take_51 : decode prog_1_method_4_code 51 = .ok (.aload 6, 2) := by decide +kernel
theorem d_Ha_take_53 : decode prog_1_method_4_code 53 = .ok (.invokevirtual 76, 3) := by decide +kernel
theorem d_Ha_take_56 : decode prog_1_method_4_code 56 = .ok (.ifCond .eq 10, 3) := by decide +kernel
theorem d_Ha_take_59 : decode prog_1_method_4_code 59 = .ok (.aload 6, 2) := by decide +kernel
theorem d_Ha_take_61 : decode prog_1_method_4_code 61 = .ok (.iconst 3, 1) := by decide +kernel
theorem d_Ha_take_62 : decode prog_1_method_4_code 62 = .ok (.invokevirtual 79, 3) := by decide +kernel
theorem d_Ha_take_65 : decode prog_1_method_4_code 65 = .ok (.ireturn, 1) := by decide +kernel
theorem d_Ha_take_66 : decode prog_1_method_4_code 66 = .ok (.aload 5, 2) := by decide +kernel
theorem d_Ha_take_68 : decode prog_1_method_4_code 68 = .ok (.aload_n 0, 1) := by decide +kernel
theorem d_Ha_take_69 : decode prog_1_method_4_code 69 = .ok (.getfield 25, 3) := by decide +kernel
theorem d_Ha_take_72 : decode prog_1_method_4_code 72 = .ok (.invokevirtual 112, 3) := by decide +kernel
theorem d_Ha_take_75 : decode prog_1_method_4_code 75 = .ok (.ifCond .ne 16, 3) := by decide +kernel
theorem d_Ha_take_78 : decode prog_1_method_4_code 78 = .ok (.aload_n 0, 1) := by decide +kernel
theorem d_Ha_take_79 : decode prog_1_method_4_code 79 = .ok (.aload 6, 2) := by decide +kernel
theorem d_Ha_take_81 : decode prog_1_method_4_code 81 = .ok (.aload 5, 2) := by decide +kernel
theorem d_Ha_take_83 : decode prog_1_method_4_code 83 = .ok (.getstatic 115, 3) := by decide +kernel
theorem d_Ha_take_86 : decode prog_1_method_4_code 86 = .ok (.dload_n 3, 1) := by decide +kernel
theorem d_Ha_take_87 : decode prog_1_method_4_code 87 = .ok (.invokevirtual 100, 3) := by decide +kernel
theorem d_Ha_take_90 : decode prog_1_method_4_code 90 = .ok (.ireturn, 1) := by decide +kernel
theorem d_Ha_take_91 : decode prog_1_method_4_code 91 = .ok (.aload 5, 2) := by decide +kernel
theorem d_Ha_take_93 : decode prog_1_method_4_code 93 = .ok (.aload 6, 2) := by decide +kernel
theorem d_Ha_take_95 : decode prog_1_method_4_code 95 = .ok (.aload_n 0, 1) := by decide +kernel
theorem d_Ha_take_96 : decode prog_1_method_4_code 96 = .ok (.getfield 25, 3) := by decide +kernel
theorem d_Ha_take_99 : decode prog_1_method_4_code 99 = .ok (.invokevirtual 118, 3) := by decide +kernel
theorem d_Ha_take_102 : decode prog_1_method_4_code 102 = .ok (.aload 5, 2) := by decide +kernel
theorem d_Ha_take_104 : decode prog_1_method_4_code 104 = .ok (.aload_n 0, 1) := by decide +kernel
theorem d_Ha_take_105 : decode prog_1_method_4_code 105 = .ok (.getfield 25, 3) := by decide +kernel
theorem d_Ha_take_108 : decode prog_1_method_4_code 108 = .ok (.invokevirtual 108, 3) := by decide +kernel
theorem d_Ha_take_111 : decode prog_1_method_4_code 111 = .ok (.aload 6, 2) := by decide +kernel
theorem d_Ha_take_113 : decode prog_1_method_4_code 113 = .ok (.iconst 1, 1) := by decide +kernel
theorem d_Ha_take_114 : decode prog_1_method_4_code 114 = .ok (.invokevirtual 79, 3) := by decide +kernel
theorem d_Ha_take_117 : decode prog_1_method_4_code 117 = .ok (.ireturn, 1) := by decide +kernel
def y_Ha_take : MethodName := ⟨"ChannelHall", "take", "(IID)I"⟩
abbrev rm_Ha_take : Room := { frames := 9, cells := 16, slots := 174, locals := 224 }
def wp_Ha_take_26 (G ca : Nat → Nat) (post : Int32 → hM → Prop) (xp : String → hM → Prop) (M : hM) (l0b26 : Nat) (l1b26 : Int32) (l2b26 : Int32) (l3b26 : UInt64) (s0b26 : Int32) : Prop := wp_Ha_require G ca (fun M37 => rC M37 l0b26 3 (wp_Ha_presentChannel G ca (fun r38 M39 => rC M39 l0b26 3 (wp_Ha_runningWorker G ca (fun r40 M41 => nN r38 fun b42 => rC M41 b42 0 (wp_Ch_holdsItems G ca (fun r43 M44 => wp_Ha_requireKind G ca (fun M45 => nN r40 fun b46 => rC M45 b46 2 (wp_Wo_losesFlag G ca (fun r47 M48 => (r47 = 0 → gD M48 l0b26 3 3 fun v50 => rC M48 b42 0 (wp_Ch_yieldsAtOnce G ca (fun r51 M52 => (¬ r51 = 0 → gD M52 l0b26 3 3 fun v54 => rC M52 b42 0 (wp_Ch_yieldTo G ca (fun M55 => gD M55 l0b26 3 3 fun v56 => rC M55 b42 0 (wp_Ch_serve G ca (fun M57 => rC M57 b46 2 (wp_Wo_endWith G ca (fun r58 M59 => post r58 M59) M57 b46 1)) M55 b42 v56)) M52 b42 (some b46) v54)) ∧ (r51 = 0 → rC M52 l0b26 3 (wp_Ha_startWait G ca (fun r60 M61 => post r60 M61) M52 l0b26 (some b46) (some b42) (some (G 1)) l3b26))) M48 b42 v50)) ∧ (¬ r47 = 0 → rC M48 b46 2 (wp_Wo_endWith G ca (fun r62 M63 => post r62 M63) M48 b46 3))) M45 b46)) xp M44 r43) M41 b42)) xp M39 l0b26 l1b26)) xp M37 l0b26 l2b26)) xp M s0b26
def wp_Ha_take_25 (G ca : Nat → Nat) (post : Int32 → hM → Prop) (xp : String → hM → Prop) (M : hM) (l0b25 : Nat) (l1b25 : Int32) (l2b25 : Int32) (l3b25 : UInt64) : Prop := wp_Ha_take_26 G ca post xp M l0b25 l1b25 l2b25 l3b25 0
def wp_Ha_take (G ca : Nat → Nat) (post : Int32 → hM → Prop) (xp : String → hM → Prop) (M : hM) (a0 : Nat) (x1 : Int32) (x2 : Int32) (x3 : UInt64) : Prop := wp_Ha_isThread G ca (fun r64 M65 => (r64 = 0 → wp_Ha_take_25 G ca post xp M65 a0 x1 x2 x3) ∧ (¬ r64 = 0 → wp_Ha_isChannel G ca (fun r67 M68 => (r67 = 0 → wp_Ha_take_25 G ca post xp M68 a0 x1 x2 x3) ∧ (¬ r67 = 0 → wp_Ha_isLimit G ca (fun r70 M71 => (r70 = 0 → wp_Ha_take_25 G ca post xp M71 a0 x1 x2 x3) ∧ (¬ r70 = 0 → wp_Ha_take_26 G ca post xp M71 a0 x1 x2 x3 1)) M68 x3)) M65 x2)) M x1
set_option maxHeartbeats 1000000 in
set_option maxRecDepth 20000 in
theorem l_Ha_take_26 {p : Program} {l : Launch} {e : Env} {s : State} {m : MethodId} {args : Array Value} {below : List Frame} {meth : Method} {c : Code} {D : va_G} {ca G : Nat → Nat} {A : Nat → Prop} (C0 : hC p s m args meth c D ca G prog_1_method_4_code 7 (some .int) "ChannelHall" A) (hl0 : l.stackTraces = false) (hout : ∀ x ∈ c.exceptionTable.toList, False) {post : Int32 → hM → Prop} {xp : String → hM → Prop} {M : hM} {H : Heap} {locs : List Loc} {ls : Array Slot} {cells slots : Nat} (l0b26 : Nat) (l1b26 : Int32) (l2b26 : Int32) (l3b26 : UInt64) (s0b26 : Int32) (hc : cells ≤ 0) (hs : slots ≤ 0) (h : wp_Ha_take_26 G ca post xp M l0b26 l1b26 l2b26 l3b26 s0b26) (hW : hw D wCl A M H) (hS : va_S A s.heap H locs) (hl : lv_has ls 7 [(0, .ref l0b26), (1, .int l1b26), (2, .int l2b26), (3, .double l3b26)]) : W p l e rm_Ha_take s m args below meth c H locs cells slots (vx_MQ below (va_Qi post (fun M' t => hw D wCl A M' t.heap) A) (hX D xp A) args s 16 174 A) (F0 m 26 ls [.int s0b26]) := by
  obtain ⟨hx, hb, hr, hml, hown, hts, hlocks, hK, hA, hZ0⟩ := id C0
  have h9 := h
  clear h
  have hF := hW.free hS hA
  refine vx_callv (vx_runS (As := [.int s0b26]) (rest := []) ⟨hx, hb, hml, hown, hts⟩ (c_Ha_require hl0 _ _ h9) (va_cwS 1 hts (gi_S bw_132 bw_133 bw_1 bw_134) rfl rfl rfl (by decide +kernel) ⟨Nat.le_of_ble_eq_true rfl, Nat.le_of_ble_eq_true rfl⟩) ⟨hI.blind, hI.give hW hS hA hK hZ0⟩ rfl rfl hl.1 rfl (lv_room (Nat.le_of_ble_eq_true rfl)) d_Ha_take_26 ⟨(show _ ≤ 16 by omega), (show _ ≤ 174 by omega)⟩) hS (fun q _ z => hF q z) hF (fun q _ z => hF q z) (fun E ce q9 M9 t H locs ht _ _ h8 _ _ hS hce hcv hcl => hq_out hout hlocks (hw_back hF ht h8.2) hS h8.1 hce hcv hcl (by omega) (by omega)) (fun M37 t H locs ht _ h hB1 _ _ hS => ?_)
  have hW := hw_back hF ht hB1
  clear h9
  refine lv_aload_n hx hb d_Ha_take_29 rfl (lv_at hl 0 rfl) ?_
  refine lv_iload_n hx hb d_Ha_take_30 rfl (lv_at hl 2 rfl) ?_
  obtain ⟨⟨fs, h1⟩, h⟩ := h
  have h9 := h
  clear h
  have hF := hW.free hS hA
  refine hx_callq (vx_runV (As := [.int l2b26]) (rest := []) ⟨hx, hb, hml, hown, hts⟩ (c_Ha_presentChannel hl0 _ _ h9) (cwV 1 hts (gi_V bw_309 bw_311 bs_1 bw_1 bw_312) rfl rfl rfl (by decide +kernel) ⟨Nat.le_of_ble_eq_true rfl, Nat.le_of_ble_eq_true rfl⟩) ⟨hI.blind, hw_recv hK hW h1 rfl, hI.give hW hS hA hK hZ0⟩ rfl rfl hl.1 rfl (lv_room (Nat.le_of_ble_eq_true rfl)) d_Ha_take_31 ⟨(show _ ≤ 16 by omega), (show _ ≤ 174 by omega)⟩) hS (fun q _ z => hF q z) hF (fun q _ z => hF q z) (fun E ce q9 M9 t H locs ht _ _ h8 _ _ hS hce hcv hcl => hq_out hout hlocks (hw_back hF ht h8.2) hS h8.1 hce hcv hcl (by omega) (by omega)) (fun r38 M39 t H locs ht _ h hB1 _ _ hS => ?_)
  have hW := hw_back hF ht hB1
  clear h9
  refine lq_store (lv' := [(5, va_rf r38), (0, .ref l0b26), (1, .int l1b26), (2, .int l2b26), (3, .double l3b26)]) hx hb d_Ha_take_34 hl (by decide) rfl (fun ls hl => ?_)
  refine lv_aload_n hx hb d_Ha_take_36 rfl (lv_at hl 1 rfl) ?_
  refine lv_iload_n hx hb d_Ha_take_37 rfl (lv_at hl 2 rfl) ?_
  obtain ⟨⟨fs, h1⟩, h⟩ := h
  have h9 := h
  clear h
  have hF := hW.free hS hA
  refine hx_callq (vx_runV (As := [.int l1b26]) (rest := []) ⟨hx, hb, hml, hown, hts⟩ (c_Ha_runningWorker hl0 _ _ h9) (cwV 1 hts (gi_V bw_328 bw_330 bs_2 bw_1 bw_331) rfl rfl rfl (by decide +kernel) ⟨Nat.le_of_ble_eq_true rfl, Nat.le_of_ble_eq_true rfl⟩) ⟨hI.blind, hw_recv hK hW h1 rfl, hI.give hW hS hA hK hZ0⟩ rfl rfl hl.1 rfl (lv_room (Nat.le_of_ble_eq_true rfl)) d_Ha_take_38 ⟨(show _ ≤ 16 by omega), (show _ ≤ 174 by omega)⟩) hS (fun q _ z => hF q z) hF (fun q _ z => hF q z) (fun E ce q9 M9 t H locs ht _ _ h8 _ _ hS hce hcv hcl => hq_out hout hlocks (hw_back hF ht h8.2) hS h8.1 hce hcv hcl (by omega) (by omega)) (fun r40 M41 t H locs ht _ h hB1 _ _ hS => ?_)
  have hW := hw_back hF ht hB1
  clear h9
  refine lq_store (lv' := [(6, va_rf r40), (5, va_rf r38), (0, .ref l0b26), (1, .int l1b26), (2, .int l2b26), (3, .double l3b26)]) hx hb d_Ha_take_41 hl (by decide) (by cases r38 <;> rfl) (fun ls hl => ?_)
  refine lq_load hx hb d_Ha_take_43 (lv_at hl 1 rfl) ?_
  obtain ⟨b42, rfl, h⟩ := h
  obtain ⟨⟨fs, h1⟩, h⟩ := h
  have h9 := h
  clear h
  have hF := hW.free hS hA
  refine va_calli (va_runV (As := []) (rest := []) ⟨hx, hb, hml, hown, hts⟩ (c_Ch_holdsItems _ h9) (cwV 0 hts (gi_V bw_332 bw_333 bw_334 bw_11 bw_335) rfl rfl rfl (by decide +kernel) ⟨Nat.le_of_ble_eq_true rfl, Nat.le_of_ble_eq_true rfl⟩) ⟨hI.blind, hw_recv hK hW h1 rfl, hI.give hW hS hA hK hZ0⟩ rfl rfl hl.1 rfl (lv_room (Nat.le_of_ble_eq_true rfl)) d_Ha_take_45 ⟨(show _ ≤ 16 by omega), (show _ ≤ 174 by omega)⟩) hS (fun q _ z => hF q z) hF (fun r43 M44 t H locs ht _ h hB1 _ _ hS => ?_)
  have hW := hw_back hF ht hB1
  clear h9
  have h9 := h
  clear h
  have hF := hW.free hS hA
  refine vx_callv (vx_runS (As := [.int r43]) (rest := []) ⟨hx, hb, hml, hown, hts⟩ (c_Ha_requireKind hl0 _ _ h9) (va_cwS 1 hts (gi_S bw_336 bw_337 bw_1 bw_338) rfl rfl rfl (by decide +kernel) ⟨Nat.le_of_ble_eq_true rfl, Nat.le_of_ble_eq_true rfl⟩) ⟨hI.blind, hI.give hW hS hA hK hZ0⟩ rfl rfl hl.1 rfl (lv_room (Nat.le_of_ble_eq_true rfl)) d_Ha_take_48 ⟨(show _ ≤ 16 by omega), (show _ ≤ 174 by omega)⟩) hS (fun q _ z => hF q z) hF (fun q _ z => hF q z) (fun E ce q9 M9 t H locs ht _ _ h8 _ _ hS hce hcv hcl => hq_out hout hlocks (hw_back hF ht h8.2) hS h8.1 hce hcv hcl (by omega) (by omega)) (fun M45 t H locs ht _ h hB1 _ _ hS => ?_)
  have hW := hw_back hF ht hB1
  clear h9
  refine lq_load hx hb d_Ha_take_51 (lv_at hl 0 rfl) ?_
  obtain ⟨b46, rfl, h⟩ := h
  obtain ⟨⟨fs, h1⟩, h⟩ := h
  have h9 := h
  clear h
  have hF := hW.free hS hA
  refine va_calli (va_runV (As := []) (rest := []) ⟨hx, hb, hml, hown, hts⟩ (c_Wo_losesFlag _ h9) (cwV 0 hts (gi_V bw_354 bw_355 bw_356 bw_2 bw_357) rfl rfl rfl (by decide +kernel) ⟨Nat.le_of_ble_eq_true rfl, Nat.le_of_ble_eq_true rfl⟩) ⟨hI.blind, hw_recv hK hW h1 rfl, hI.give hW hS hA hK hZ0⟩ rfl rfl hl.1 rfl (lv_room (Nat.le_of_ble_eq_true rfl)) d_Ha_take_53 ⟨(show _ ≤ 16 by omega), (show _ ≤ 174 by omega)⟩) hS (fun q _ z => hF q z) hF (fun r47 M48 t H locs ht _ h hB1 _ _ hS => ?_)
  have hW := hw_back hF ht hB1
  clear h9
  obtain ⟨h0, h1⟩ := h
  refine lv_if_eq (tgt := 66) hx hb d_Ha_take_56 (by decide) (fun c49 => ?_) (fun c49 => ?_)
  · have h := h0 c49
    refine lv_aload hx hb d_Ha_take_66 (lv_at hl 1 rfl) ?_
    refine lv_aload_n hx hb d_Ha_take_68 rfl (lv_at hl 2 rfl) ?_
    obtain ⟨fs, v50, h1, h2, h⟩ := h
    refine va_get (D := D) (ci := 3) (v := .double v50) (C := "ChannelHall") (T := THa) (N := 4) hx hb hts uHa hown hK (hw_one hW h1) 0 rfl rfl 3 (by decide) (hts _ bw_103) (fun _ h9 => h9) h2 d_Ha_take_69 ?_
    obtain ⟨⟨fs, h1⟩, h⟩ := h
    have h9 := h
    clear h
    have hF := hW.free hS hA
    refine va_calli (va_runV (As := [.double v50]) (rest := []) ⟨hx, hb, hml, hown, hts⟩ (c_Ch_yieldsAtOnce _ h9) (cwV 1 hts (gi_V bw_818 bw_819 bw_820 bw_11 bw_821) rfl rfl rfl (by decide +kernel) ⟨Nat.le_of_ble_eq_true rfl, Nat.le_of_ble_eq_true rfl⟩) ⟨hI.blind, hw_recv hK hW h1 rfl, hI.give hW hS hA hK hZ0⟩ rfl rfl hl.1 rfl (lv_room (Nat.le_of_ble_eq_true rfl)) d_Ha_take_72 ⟨(show _ ≤ 16 by omega), (show _ ≤ 174 by omega)⟩) hS (fun q _ z => hF q z) hF (fun r51 M52 t H locs ht _ h hB1 _ _ hS => ?_)
    have hW := hw_back hF ht hB1
    clear h9
    obtain ⟨h0, h1⟩ := h
    refine lv_if_ne (tgt := 91) hx hb d_Ha_take_75 (by decide) (fun c53 => ?_) (fun c53 => ?_)
    · have h := h0 c53
      refine lv_aload hx hb d_Ha_take_91 (lv_at hl 1 rfl) ?_
      refine lv_aload hx hb d_Ha_take_93 (lv_at hl 0 rfl) ?_
      refine lv_aload_n hx hb d_Ha_take_95 rfl (lv_at hl 2 rfl) ?_
      obtain ⟨fs, v54, h1, h2, h⟩ := h
      refine va_get (D := D) (ci := 3) (v := .double v54) (C := "ChannelHall") (T := THa) (N := 4) hx hb hts uHa hown hK (hw_one hW h1) 0 rfl rfl 3 (by decide) (hts _ bw_103) (fun _ h9 => h9) h2 d_Ha_take_96 ?_
      obtain ⟨⟨fs, h1⟩, h⟩ := h
      have h9 := h
      clear h
      have hF := hW.free hS hA
      refine va_callv (va_runV (As := [.ref b46, .double v54]) (rest := []) ⟨hx, hb, hml, hown, hts⟩ (c_Ch_yieldTo _ h9) (cwV 2 hts (gi_V bw_823 bw_824 bw_825 bw_11 bw_826) rfl rfl rfl (by decide +kernel) ⟨Nat.le_of_ble_eq_true rfl, Nat.le_of_ble_eq_true rfl⟩) ⟨hI.blind, hw_recv hK hW h1 rfl, hI.give hW hS hA hK hZ0⟩ rfl rfl hl.1 rfl (lv_room (Nat.le_of_ble_eq_true rfl)) d_Ha_take_99 ⟨(show _ ≤ 16 by omega), (show _ ≤ 174 by omega)⟩) hS (fun q _ z => hF q z) hF (fun M55 t H locs ht _ h hB1 _ _ hS => ?_)
      have hW := hw_back hF ht hB1
      clear h9
      refine lv_aload hx hb d_Ha_take_102 (lv_at hl 1 rfl) ?_
      refine lv_aload_n hx hb d_Ha_take_104 rfl (lv_at hl 2 rfl) ?_
      obtain ⟨fs, v56, h1, h2, h⟩ := h
      refine va_get (D := D) (ci := 3) (v := .double v56) (C := "ChannelHall") (T := THa) (N := 4) hx hb hts uHa hown hK (hw_one hW h1) 0 rfl rfl 3 (by decide) (hts _ bw_103) (fun _ h9 => h9) h2 d_Ha_take_105 ?_
      obtain ⟨⟨fs, h1⟩, h⟩ := h
      have h9 := h
      clear h
      have hF := hW.free hS hA
      refine va_callv (va_runV (As := [.double v56]) (rest := []) ⟨hx, hb, hml, hown, hts⟩ (c_Ch_serve _ h9) (cwV 1 hts (gi_V bw_791 bw_792 bw_793 bw_11 bw_794) rfl rfl rfl (by decide +kernel) ⟨Nat.le_of_ble_eq_true rfl, Nat.le_of_ble_eq_true rfl⟩) ⟨hI.blind, hw_recv hK hW h1 rfl, hI.give hW hS hA hK hZ0⟩ rfl rfl hl.1 rfl (lv_room (Nat.le_of_ble_eq_true rfl)) d_Ha_take_108 ⟨(show _ ≤ 16 by omega), (show _ ≤ 174 by omega)⟩) hS (fun q _ z => hF q z) hF (fun M57 t H locs ht _ h hB1 _ _ hS => ?_)
      have hW := hw_back hF ht hB1
      clear h9
      refine lv_aload hx hb d_Ha_take_111 (lv_at hl 0 rfl) ?_
      refine lv_iconst (v := 1) hx hb d_Ha_take_113 (by decide) ?_
      obtain ⟨⟨fs, h1⟩, h⟩ := h
      have h9 := h
      clear h
      have hF := hW.free hS hA
      refine va_calli (va_runV (As := [.int 1]) (rest := []) ⟨hx, hb, hml, hown, hts⟩ (c_Wo_endWith _ h9) (cwV 1 hts (gi_V bw_358 bw_359 bw_360 bw_2 bw_361) rfl rfl rfl (by decide +kernel) ⟨Nat.le_of_ble_eq_true rfl, Nat.le_of_ble_eq_true rfl⟩) ⟨hI.blind, hw_recv hK hW h1 rfl, hI.give hW hS hA hK hZ0⟩ rfl rfl hl.1 rfl (lv_room (Nat.le_of_ble_eq_true rfl)) d_Ha_take_114 ⟨(show _ ≤ 16 by omega), (show _ ≤ 174 by omega)⟩) hS (fun q _ z => hF q z) hF (fun r58 M59 t H locs ht _ h hB1 _ _ hS => ?_)
      have hW := hw_back hF ht hB1
      clear h9
      refine W.widen (k := 16) (n := 174) (by omega) (by omega) ?_
      exact vx_ret (W.iret hx hb hr (fun t ht hWm => ⟨⟨_, _, rfl, h, hw_t ht hW⟩, hS.F ht⟩) hS.2.2 d_Ha_take_117)
    · have h := h1 c53
      refine lv_aload_n hx hb d_Ha_take_78 rfl (lv_at hl 2 rfl) ?_
      refine lv_aload hx hb d_Ha_take_79 (lv_at hl 0 rfl) ?_
      refine lv_aload hx hb d_Ha_take_81 (lv_at hl 1 rfl) ?_
      refine va_gets (v := .ref (G 1)) hx hb (hZ0.2.1) hS hown (hts _ bw_822) (fun _ h9 => h9) d_Ha_take_83 ?_
      refine lv_dload_n hx hb d_Ha_take_86 rfl (lv_at hl 5 rfl) ?_
      obtain ⟨⟨fs, h1⟩, h⟩ := h
      have h9 := h
      clear h
      have hF := hW.free hS hA
      refine va_calli (va_runV (As := [.ref b46, .ref b42, .ref (G 1), .double l3b26]) (rest := []) ⟨hx, hb, hml, hown, hts⟩ (c_Ha_startWait _ h9) (cwV 4 hts (gi_V bw_402 bw_404 bs_3 bw_1 bw_405) rfl rfl rfl (by decide +kernel) ⟨Nat.le_of_ble_eq_true rfl, Nat.le_of_ble_eq_true rfl⟩) ⟨hI.blind, hw_recv hK hW h1 rfl, hI.give hW hS hA hK hZ0⟩ rfl rfl hl.1 rfl (lv_room (Nat.le_of_ble_eq_true rfl)) d_Ha_take_87 ⟨(show _ ≤ 16 by omega), (show _ ≤ 174 by omega)⟩) hS (fun q _ z => hF q z) hF (fun r60 M61 t H locs ht _ h hB1 _ _ hS => ?_)
      have hW := hw_back hF ht hB1
      clear h9
      refine W.widen (k := 16) (n := 174) (by omega) (by omega) ?_
      exact vx_ret (W.iret hx hb hr (fun t ht hWm => ⟨⟨_, _, rfl, h, hw_t ht hW⟩, hS.F ht⟩) hS.2.2 d_Ha_take_90)
  · have h := h1 c49
    refine lv_aload hx hb d_Ha_take_59 (lv_at hl 0 rfl) ?_
    refine lv_iconst (v := 3) hx hb d_Ha_take_61 (by decide) ?_
    obtain ⟨⟨fs, h1⟩, h⟩ := h
    have h9 := h
    clear h
    have hF := hW.free hS hA
    refine va_calli (va_runV (As := [.int 3]) (rest := []) ⟨hx, hb, hml, hown, hts⟩ (c_Wo_endWith _ h9) (cwV 1 hts (gi_V bw_358 bw_359 bw_360 bw_2 bw_361) rfl rfl rfl (by decide +kernel) ⟨Nat.le_of_ble_eq_true rfl, Nat.le_of_ble_eq_true rfl⟩) ⟨hI.blind, hw_recv hK hW h1 rfl, hI.give hW hS hA hK hZ0⟩ rfl rfl hl.1 rfl (lv_room (Nat.le_of_ble_eq_true rfl)) d_Ha_take_62 ⟨(show _ ≤ 16 by omega), (show _ ≤ 174 by omega)⟩) hS (fun q _ z => hF q z) hF (fun r62 M63 t H locs ht _ h hB1 _ _ hS => ?_)
    have hW := hw_back hF ht hB1
    clear h9
    refine W.widen (k := 16) (n := 174) (by omega) (by omega) ?_
    exact vx_ret (W.iret hx hb hr (fun t ht hWm => ⟨⟨_, _, rfl, h, hw_t ht hW⟩, hS.F ht⟩) hS.2.2 d_Ha_take_65)
set_option maxHeartbeats 1000000 in
set_option maxRecDepth 20000 in
theorem l_Ha_take_25 {p : Program} {l : Launch} {e : Env} {s : State} {m : MethodId} {args : Array Value} {below : List Frame} {meth : Method} {c : Code} {D : va_G} {ca G : Nat → Nat} {A : Nat → Prop} (C0 : hC p s m args meth c D ca G prog_1_method_4_code 7 (some .int) "ChannelHall" A) (hl0 : l.stackTraces = false) (hout : ∀ x ∈ c.exceptionTable.toList, False) {post : Int32 → hM → Prop} {xp : String → hM → Prop} {M : hM} {H : Heap} {locs : List Loc} {ls : Array Slot} {cells slots : Nat} (l0b25 : Nat) (l1b25 : Int32) (l2b25 : Int32) (l3b25 : UInt64) (hc : cells ≤ 0) (hs : slots ≤ 0) (h : wp_Ha_take_25 G ca post xp M l0b25 l1b25 l2b25 l3b25) (hW : hw D wCl A M H) (hS : va_S A s.heap H locs) (hl : lv_has ls 7 [(0, .ref l0b25), (1, .int l1b25), (2, .int l2b25), (3, .double l3b25)]) : W p l e rm_Ha_take s m args below meth c H locs cells slots (vx_MQ below (va_Qi post (fun M' t => hw D wCl A M' t.heap) A) (hX D xp A) args s 16 174 A) (F0 m 25 ls []) := by
  obtain ⟨hx, hb, hr, hml, hown, hts, hlocks, hK, hA, hZ0⟩ := id C0
  refine lv_iconst (v := 0) hx hb d_Ha_take_25 (by decide) ?_
  exact l_Ha_take_26 C0 hl0 hout l0b25 l1b25 l2b25 l3b25 0 (by omega) (by omega) h hW hS (lv_sub hl [0, 1, 2, 3] rfl)
set_option maxHeartbeats 1000000 in
set_option maxRecDepth 20000 in
theorem l_Ha_take_e {p : Program} {l : Launch} {e : Env} {s : State} {m : MethodId} {args : Array Value} {below : List Frame} {meth : Method} {c : Code} {D : va_G} {ca G : Nat → Nat} {A : Nat → Prop} (C0 : hC p s m args meth c D ca G prog_1_method_4_code 7 (some .int) "ChannelHall" A) (hl0 : l.stackTraces = false) (hout : ∀ x ∈ c.exceptionTable.toList, False) {post : Int32 → hM → Prop} {xp : String → hM → Prop} {M : hM} {H : Heap} {locs : List Loc} {ls : Array Slot} {cells slots : Nat} (a0 : Nat) (x1 : Int32) (x2 : Int32) (x3 : UInt64) (hc : cells ≤ 0) (hs : slots ≤ 0) (h : wp_Ha_take G ca post xp M a0 x1 x2 x3) (hW : hw D wCl A M H) (hS : va_S A s.heap H locs) (hl : lv_has ls 7 [(0, .ref a0), (1, .int x1), (2, .int x2), (3, .double x3)]) : W p l e rm_Ha_take s m args below meth c H locs cells slots (vx_MQ below (va_Qi post (fun M' t => hw D wCl A M' t.heap) A) (hX D xp A) args s 16 174 A) (F0 m 0 ls []) := by
  obtain ⟨hx, hb, hr, hml, hown, hts, hlocks, hK, hA, hZ0⟩ := id C0
  refine lv_iload_n hx hb d_Ha_take_0 rfl (lv_at hl 1 rfl) ?_
  have h9 := h
  clear h
  have hF := hW.free hS hA
  refine va_calli (va_runS (As := [.int x1]) (rest := []) ⟨hx, hb, hml, hown, hts⟩ (c_Ha_isThread _ h9) (va_cwS 1 hts (gi_S bw_300 bw_301 bw_1 bw_302) rfl rfl rfl (by decide +kernel) ⟨Nat.le_of_ble_eq_true rfl, Nat.le_of_ble_eq_true rfl⟩) ⟨hI.blind, hI.give hW hS hA hK hZ0⟩ rfl rfl hl.1 rfl (lv_room (Nat.le_of_ble_eq_true rfl)) d_Ha_take_1 ⟨(show _ ≤ 16 by omega), (show _ ≤ 174 by omega)⟩) hS (fun q _ z => hF q z) hF (fun r64 M65 t H locs ht _ h hB1 _ _ hS => ?_)
  have hW := hw_back hF ht hB1
  clear h9
  obtain ⟨h0, h1⟩ := h
  refine lv_if_eq (tgt := 25) hx hb d_Ha_take_4 (by decide) (fun c66 => ?_) (fun c66 => ?_)
  · have h := h0 c66
    exact l_Ha_take_25 C0 hl0 hout a0 x1 x2 x3 (by omega) (by omega) h hW hS (lv_sub hl [0, 1, 2, 3] rfl)
  · have h := h1 c66
    refine lv_iload_n hx hb d_Ha_take_7 rfl (lv_at hl 2 rfl) ?_
    have h9 := h
    clear h
    have hF := hW.free hS hA
    refine va_calli (va_runS (As := [.int x2]) (rest := []) ⟨hx, hb, hml, hown, hts⟩ (c_Ha_isChannel _ h9) (va_cwS 1 hts (gi_S bw_126 bw_127 bw_1 bw_128) rfl rfl rfl (by decide +kernel) ⟨Nat.le_of_ble_eq_true rfl, Nat.le_of_ble_eq_true rfl⟩) ⟨hI.blind, hI.give hW hS hA hK hZ0⟩ rfl rfl hl.1 rfl (lv_room (Nat.le_of_ble_eq_true rfl)) d_Ha_take_8 ⟨(show _ ≤ 16 by omega), (show _ ≤ 174 by omega)⟩) hS (fun q _ z => hF q z) hF (fun r67 M68 t H locs ht _ h hB1 _ _ hS => ?_)
    have hW := hw_back hF ht hB1
    clear h9
    obtain ⟨h0, h1⟩ := h
    refine lv_if_eq (tgt := 25) hx hb d_Ha_take_11 (by decide) (fun c69 => ?_) (fun c69 => ?_)
    · have h := h0 c69
      exact l_Ha_take_25 C0 hl0 hout a0 x1 x2 x3 (by omega) (by omega) h hW hS (lv_sub hl [0, 1, 2, 3] rfl)
    · have h := h1 c69
      refine lv_dload_n hx hb d_Ha_take_14 rfl (lv_at hl 3 rfl) ?_
      have h9 := h
      clear h
      have hF := hW.free hS hA
      refine va_calli (va_runS (As := [.double x3]) (rest := []) ⟨hx, hb, hml, hown, hts⟩ (c_Ha_isLimit _ h9) (va_cwS 1 hts (gi_S bw_305 bw_306 bw_1 bw_307) rfl rfl rfl (by decide +kernel) ⟨Nat.le_of_ble_eq_true rfl, Nat.le_of_ble_eq_true rfl⟩) ⟨hI.blind, hI.give hW hS hA hK hZ0⟩ rfl rfl hl.1 rfl (lv_room (Nat.le_of_ble_eq_true rfl)) d_Ha_take_15 ⟨(show _ ≤ 16 by omega), (show _ ≤ 174 by omega)⟩) hS (fun q _ z => hF q z) hF (fun r70 M71 t H locs ht _ h hB1 _ _ hS => ?_)
      have hW := hw_back hF ht hB1
      clear h9
      obtain ⟨h0, h1⟩ := h
      refine lv_if_eq (tgt := 25) hx hb d_Ha_take_18 (by decide) (fun c72 => ?_) (fun c72 => ?_)
      · have h := h0 c72
        exact l_Ha_take_25 C0 hl0 hout a0 x1 x2 x3 (by omega) (by omega) h hW hS (lv_sub hl [0, 1, 2, 3] rfl)
      · have h := h1 c72
        refine lv_iconst (v := 1) hx hb d_Ha_take_21 (by decide) ?_
        refine lv_goto (tgt := 26) hx hb d_Ha_take_22 (by decide) ?_
        exact l_Ha_take_26 C0 hl0 hout a0 x1 x2 x3 1 (by omega) (by omega) h hW hS (lv_sub hl [0, 1, 2, 3] rfl)
set_option maxRecDepth 20000 in
theorem c_Ha_take {l : Launch} (hl0 : l.stackTraces = false) {D : va_G} {ca G : Nat → Nat} (post : Int32 → hM → Prop) (xp : String → hM → Prop) {M : hM} {sz : Nat} {a0 : Nat} {x1 : Int32} {x2 : Int32} {x3 : UInt64} (h : wp_Ha_take G ca post xp M a0 x1 x2 x3) : vx_Met l y_Ha_take (wz y_Ha_take prog_1_method_4_code 7 (some .int)) rm_Ha_take (va_Pc [.ref a0, .int x1, .int x2, .double x3] (hI D ca G sz M)) (va_Qi post (hB D M sz) (hp_A M sz)) (hX D xp (hp_A M sz)) 16 174 (hp_A M sz) := by
  refine vx_ofW (cc := prog_1_method_4_code) (maxL := 7) (ret := some .int) (by decide) rfl ?_
  intro p e s m args below meth c s₁ B hml hout hv
  obtain ⟨rfl, hsz, hW, hK, hZ0⟩ := hv
  have hts := fun w hw => atoms_spec (ws := wz y_Ha_take prog_1_method_4_code 7 (some .int)) B.pre w (List.mem_cons_of_mem _ hw)
  have hown : s.vm.findClass "ChannelHall" = some m.cls := findClass_of_methodNamed B.named
  subst hsz
  have hl := lv_entry [.ref a0, .int x1, .int x2, .double x3] (n := 7) (Nat.le_of_ble_eq_true rfl)
  rw [lg_entry_eq]
  exact l_Ha_take_e ⟨B.exec, B.bytes, B.returns, hml, hown, hts, B.notSynchronized, hK, fun q h => Or.inr h, hZ0⟩ hl0 hout a0 x1 x2 x3 (Nat.zero_le _) (Nat.zero_le _) h hW va_S.rf hl

theorem d_Ha_swap_0 : decode prog_1_method_5_code 0 = .ok (.iload_n 1, 1) := by decide +kernel
theorem d_Ha_swap_1 : decode prog_1_method_5_code 1 = .ok (.invokestatic 50, 3) := by decide +kernel
theorem d_Ha_swap_4 : decode prog_1_method_5_code 4 = .ok (.ifCond .eq 22, 3) := by decide +kernel
theorem d_Ha_swap_7 : decode prog_1_method_5_code 7 = .ok (.iload_n 2, 1) := by decide +kernel
theorem d_Ha_swap_8 : decode prog_1_method_5_code 8 = .ok (.invokestatic 32, 3) := by decide +kernel
theorem d_Ha_swap_11 : decode prog_1_method_5_code 11 = .ok (.ifCond .eq 15, 3) := by decide +kernel
theorem d_Ha_swap_14 : decode prog_1_method_5_code 14 = .ok (.dload 4, 2) := by decide +kernel
theorem d_Ha_swap_16 : decode prog_1_method_5_code 16 = .ok (.invokestatic 57, 3) := by decide +kernel
theorem d_Ha_swap_19 : decode prog_1_method_5_code 19 = .ok (.ifCond .eq 7, 3) := by decide +kernel
theorem d_Ha_swap_22 : decode prog_1_method_5_code 22 = .ok (.iconst 1, 1) := by decide +kernel
theorem d_Ha_swap_23 : decode prog_1_method_5_code 23 = .ok (.goto 4, 3) := by decide +kernel
theorem d_Ha_swap_26 : decode prog_1_method_5_code 26 = .ok (.iconst 0, 1) := by decide +kernel
theorem d_Ha_swap_27 : decode prog_1_method_5_code 27 = .ok (.invokestatic 40, 3) := by decide +kernel
theorem d_Ha_swap_30 : decode prog_1_method_5_code 30 = .ok (.aload_n 0, 1) := by decide +kernel
theorem d_Ha_swap_31 : decode prog_1_method_5_code 31 = .ok (.iload_n 2, 1) := by decide +kernel
theorem d_Ha_swap_32 : decode prog_1_method_5_code 32 = .ok (.invokevirtual 61, 3) := by decide +kernel
theorem d_Ha_swap_35 : decode prog_1_method_5_code 35 = .ok (.astore 6, 2) := by decide +kernel
theorem d_Ha_swap_37 : decode prog_1_method_5_code 37 = .ok (.aload_n 0, 1) := by decide +kernel
theorem d_Ha_swap_38 : decode prog_1_method_5_code 38 = .ok (.iload_n 1, 1) := by decide +kernel
theorem d_Ha_swap_39 : decode prog_1_method_5_code 39 = .ok (.invokevirtual 65, 3) := by decide +kernel
theorem d_Ha_swap_42 : decode prog_1_method_5_code 42 = .ok (.astore 7, 2) := by decide +kernel
theorem d_Ha_swap_44 : decode prog_1_method_5_code 44 = .ok (.aload 6, 2) := by decide +kernel
theorem d_Ha_swap_46 : decode prog_1_method_5_code 46 = .ok (.getfield 122, 3) := by decide +kernel
theorem d_Ha_swap_49 : decode prog_1_method_5_code 49 = .ok (.iconst 5, 1) := by decide +kernel
theorem d_Ha_swap_50 : decode prog_1_method_5_code 50 = .ok (.if_icmp .ne 7, 3) := by decide +kernel
theorem d_Ha_swap_53 : decode prog_1_method_5_code 53 = .ok (.iconst 1, 1) := by decide +kernel
theorem d_Ha_swap_54 : decode prog_1_method_5_code 54 = .ok (.goto 4, 3) := by decide +kernel
theorem d_Ha_swap_57 : decode prog_1_method_5_code 57 = .ok (.iconst 0, 1) := by decide +kernel
theorem d_Ha_swap_58 : decode prog_1_method_5_code 58 = .ok (.invokestatic 73, 3) := by decide +kernel
theorem d_Ha_swap_61 : decode prog_1_method_5_code 61 = .ok (.aload 7, 2) := by decide +kernel
theorem d_Ha_swap_63 : decode prog_1_method_5_code 63 = .ok (.invokevirtual 76, 3) := by decide +kernel
theorem d_Ha_swap_66 : decode prog_1_method_5_code 66 = .ok (.ifCond .eq 10, 3) := by decide +kernel
theorem d_Ha_swap_69 : decode prog_1_method_5_code 69 = .ok (.aload 7, 2) := by decide +kernel
theorem d_Ha_swap_71 : decode prog_1_method_5_code 71 = .ok (.iconst 3, 1) := by decide +kernel
theorem d_Ha_swap_72 : decode prog_1_method_5_code 72 = .ok (.invokevirtual 79, 3) := by decide +kernel
theorem d_Ha_swap_75 : decode prog_1_method_5_code 75 = .ok (.ireturn, 1) := by decide +kernel
theorem d_Ha_swap_76 : decode prog_1_method_5_code 76 = .ok (.aload 6, 2) := by decide +kernel
theorem d_Ha_swap_78 : decode prog_1_method_5_code 78 = .ok (.getstatic 125, 3) := by decide +kernel
theorem d_Ha_swap_81 : decode prog_1_method_5_code 81 = .ok (.invokevirtual 128, 3) := by decide +kernel
theorem d_Ha_swap_84 : decode prog_1_method_5_code 84 = .ok (.astore 8, 2) := by decide +kernel
theorem d_Ha_swap_86 : decode prog_1_method_5_code 86 = .ok (.aload 8, 2) := by decide +kernel
theorem d_Ha_swap_88 : decode prog_1_method_5_code 88 = .ok (.ifnonnull 24, 3) := by decide +kernel
theorem d_Ha_swap_91 : decode prog_1_method_5_code 91 = .ok (.aload 7, 2) := by decide +kernel
theorem d_Ha_swap_93 : decode prog_1_method_5_code 93 = .ok (.iload_n 3, 1) := by decide +kernel
theorem d_Ha_swap_94 : decode prog_1_method_5_code 94 = .ok (.dconst 0, 1) := by decide +kernel
theorem d_Ha_swap_95 : decode prog_1_method_5_code 95 = .ok (.invokevirtual 90, 3) := by decide +kernel
theorem d_Ha_swap_98 : decode prog_1_method_5_code 98 = .ok (.aload_n 0, 1) := by decide +kernel
theorem d_Ha_swap_99 : decode prog_1_method_5_code 99 = .ok (.aload 7, 2) := by decide +kernel
theorem d_Ha_swap_101 : decode prog_1_method_5_code 101 = .ok (.aload 6, 2) := by decide +kernel
theorem d_Ha_swap_103 : decode prog_1_method_5_code 103 = .ok (.getstatic 125, 3) := by decide +kernel
theorem d_Ha_swap_106 : decode prog_1_method_5_code 106 = .ok (.dload 4, 2) := by decide +kernel
theorem d_Ha_swap_108 : decode prog_1_method_5_code 108 = .ok (.invokevirtual 100, 3) := by decide +kernel
theorem d_Ha_swap_111 : decode prog_1_method_5_code 111 = .ok (.ireturn, 1) := by decide +kernel
theorem d_Ha_swap_112 : decode prog_1_method_5_code 112 = .ok (.aload 7, 2) := by decide +kernel
theorem d_Ha_swap_114 : decode prog_1_method_5_code 114 = .ok (.aload 8, 2) := by decide +kernel
theorem d_Ha_swap_116 : decode prog_1_method_5_code 116 = .ok (.getfield 132, 3) := by decide +kernel
theorem d_Ha_swap_119 : decode prog_1_method_5_code 119 = .ok (.invokevirtual 135, 3) := by decide +kernel
theorem d_Ha_swap_122 : decode prog_1_method_5_code 122 = .ok (.aload 8, 2) := by decide +kernel
theorem d_Ha_swap_124 : decode prog_1_method_5_code 124 = .ok (.iload_n 3, 1) := by decide +kernel
theorem d_Ha_swap_125 : decode prog_1_method_5_code 125 = .ok (.invokevirtual 135, 3) := by decide +kernel
theorem d_Ha_swap_128 : decode prog_1_method_5_code 128 = .ok (.aload 6, 2) := by decide +kernel
theorem d_Ha_swap_130 : decode prog_1_method_5_code 130 = .ok (.aload 8, 2) := by decide +kernel
theorem d_Ha_swap_132 : decode prog_1_method_5_code 132 = .ok (.iconst 1, 1) := by decide +kernel
theorem d_Ha_swap_133 : decode prog_1_method_5_code 133 = .ok (.invokevirtual 138, 3) := by decide +kernel
theorem d_Ha_swap_136 : decode prog_1_method_5_code 136 = .ok (.aload 7, 2) := by decide +kernel
theorem d_Ha_swap_138 : decode prog_1_method_5_code 138 = .ok (.iconst 1, 1) := by decide +kernel
theorem d_Ha_swap_139 : decode prog_1_method_5_code 139 = .ok (.invokevirtual 79, 3) := by decide +kernel
theorem d_Ha_swap_142 : decode prog_1_method_5_code 142 = .ok (.ireturn, 1) := by decide +kernel
def y_Ha_swap : MethodName := ⟨"ChannelHall", "swap", "(IIID)I"⟩
abbrev rm_Ha_swap : Room := { frames := 8, cells := 5, slots := 46, locals := 196 }
def wp_Ha_swap_58 (G ca : Nat → Nat) (post : Int32 → hM → Prop) (xp : String → hM → Prop) (M : hM) (l0b58 : Nat) (l3b58 : Int32) (l4b58 : UInt64) (l6b58 : Nat) (l7b58 : Option Nat) (s0b58 : Int32) : Prop := wp_Ha_requireKind G ca (fun M37 => nN l7b58 fun b38 => rC M37 b38 2 (wp_Wo_losesFlag G ca (fun r39 M40 => (r39 = 0 → rC M40 l6b58 0 (wp_Ch_firstWaiter G ca (fun r42 M43 => (r42 = none → rC M43 b38 2 (wp_Wo_offer G ca (fun M45 => rC M45 l0b58 3 (wp_Ha_startWait G ca (fun r46 M47 => post r46 M47) M45 l0b58 (some b38) (some l6b58) (some (G 2)) l4b58)) M43 b38 l3b58 FP.dconst0)) ∧ (∀ b44 : Nat, r42 = some b44 → gI M43 b44 2 7 fun v48 => rC M43 b38 2 (wp_Wo_receive G ca (fun M49 => rC M49 b44 2 (wp_Wo_receive G ca (fun M50 => rC M50 l6b58 0 (wp_Ch_release G ca (fun M51 => rC M51 b38 2 (wp_Wo_endWith G ca (fun r52 M53 => post r52 M53) M51 b38 1)) M50 l6b58 (some b44) 1)) M49 b44 l3b58)) M43 b38 v48))) M40 l6b58 (some (G 2)))) ∧ (¬ r39 = 0 → rC M40 b38 2 (wp_Wo_endWith G ca (fun r54 M55 => post r54 M55) M40 b38 3))) M37 b38)) xp M s0b58
def wp_Ha_swap_27 (G ca : Nat → Nat) (post : Int32 → hM → Prop) (xp : String → hM → Prop) (M : hM) (l0b27 : Nat) (l1b27 : Int32) (l2b27 : Int32) (l3b27 : Int32) (l4b27 : UInt64) (s0b27 : Int32) : Prop := wp_Ha_require G ca (fun M56 => rC M56 l0b27 3 (wp_Ha_presentChannel G ca (fun r57 M58 => rC M58 l0b27 3 (wp_Ha_runningWorker G ca (fun r59 M60 => nN r57 fun b61 => gI M60 b61 0 1 fun v62 => (¬ v62 = 5 → wp_Ha_swap_58 G ca post xp M60 l0b27 l3b27 l4b27 b61 r59 0) ∧ (v62 = 5 → wp_Ha_swap_58 G ca post xp M60 l0b27 l3b27 l4b27 b61 r59 1)) xp M58 l0b27 l1b27)) xp M56 l0b27 l2b27)) xp M s0b27
def wp_Ha_swap_26 (G ca : Nat → Nat) (post : Int32 → hM → Prop) (xp : String → hM → Prop) (M : hM) (l0b26 : Nat) (l1b26 : Int32) (l2b26 : Int32) (l3b26 : Int32) (l4b26 : UInt64) : Prop := wp_Ha_swap_27 G ca post xp M l0b26 l1b26 l2b26 l3b26 l4b26 0
def wp_Ha_swap (G ca : Nat → Nat) (post : Int32 → hM → Prop) (xp : String → hM → Prop) (M : hM) (a0 : Nat) (x1 : Int32) (x2 : Int32) (x3 : Int32) (x4 : UInt64) : Prop := wp_Ha_isThread G ca (fun r64 M65 => (r64 = 0 → wp_Ha_swap_26 G ca post xp M65 a0 x1 x2 x3 x4) ∧ (¬ r64 = 0 → wp_Ha_isChannel G ca (fun r67 M68 => (r67 = 0 → wp_Ha_swap_26 G ca post xp M68 a0 x1 x2 x3 x4) ∧ (¬ r67 = 0 → wp_Ha_isLimit G ca (fun r70 M71 => (r70 = 0 → wp_Ha_swap_26 G ca post xp M71 a0 x1 x2 x3 x4) ∧ (¬ r70 = 0 → wp_Ha_swap_27 G ca post xp M71 a0 x1 x2 x3 x4 1)) M68 x4)) M65 x2)) M x1
set_option maxHeartbeats 1000000 in
set_option maxRecDepth 20000 in
theorem l_Ha_swap_58 {p : Program} {l : Launch} {e : Env} {s : State} {m : MethodId} {args : Array Value} {below : List Frame} {meth : Method} {c : Code} {D : va_G} {ca G : Nat → Nat} {A : Nat → Prop} (C0 : hC p s m args meth c D ca G prog_1_method_5_code 9 (some .int) "ChannelHall" A) (hl0 : l.stackTraces = false) (hout : ∀ x ∈ c.exceptionTable.toList, False) {post : Int32 → hM → Prop} {xp : String → hM → Prop} {M : hM} {H : Heap} {locs : List Loc} {ls : Array Slot} {cells slots : Nat} (l0b58 : Nat) (l3b58 : Int32) (l4b58 : UInt64) (l6b58 : Nat) (l7b58 : Option Nat) (s0b58 : Int32) (hc : cells ≤ 3) (hs : slots ≤ 18) (h : wp_Ha_swap_58 G ca post xp M l0b58 l3b58 l4b58 l6b58 l7b58 s0b58) (hW : hw D wCl A M H) (hS : va_S A s.heap H locs) (hl : lv_has ls 9 [(0, .ref l0b58), (3, .int l3b58), (4, .double l4b58), (6, .ref l6b58), (7, va_rf l7b58)]) : W p l e rm_Ha_swap s m args below meth c H locs cells slots (vx_MQ below (va_Qi post (fun M' t => hw D wCl A M' t.heap) A) (hX D xp A) args s 5 46 A) (F0 m 58 ls [.int s0b58]) := by
  obtain ⟨hx, hb, hr, hml, hown, hts, hlocks, hK, hA, hZ0⟩ := id C0
  have h9 := h
  clear h
  have hF := hW.free hS hA
  refine vx_callv (vx_runS (As := [.int s0b58]) (rest := []) ⟨hx, hb, hml, hown, hts⟩ (c_Ha_requireKind hl0 _ _ h9) (va_cwS 1 hts (gi_S bw_336 bw_337 bw_1 bw_338) rfl rfl rfl (by decide +kernel) ⟨Nat.le_of_ble_eq_true rfl, Nat.le_of_ble_eq_true rfl⟩) ⟨hI.blind, hI.give hW hS hA hK hZ0⟩ rfl rfl hl.1 rfl (lv_room (Nat.le_of_ble_eq_true rfl)) d_Ha_swap_58 ⟨(show _ ≤ 5 by omega), (show _ ≤ 46 by omega)⟩) hS (fun q _ z => hF q z) hF (fun q _ z => hF q z) (fun E ce q9 M9 t H locs ht _ _ h8 _ _ hS hce hcv hcl => hq_out hout hlocks (hw_back hF ht h8.2) hS h8.1 hce hcv hcl (by omega) (by omega)) (fun M37 t H locs ht _ h hB1 _ _ hS => ?_)
  have hW := hw_back hF ht hB1
  clear h9
  refine lq_load hx hb d_Ha_swap_61 (lv_at hl 4 rfl) ?_
  obtain ⟨b38, rfl, h⟩ := h
  obtain ⟨⟨fs, h1⟩, h⟩ := h
  have h9 := h
  clear h
  have hF := hW.free hS hA
  refine va_calli (va_runV (As := []) (rest := []) ⟨hx, hb, hml, hown, hts⟩ (c_Wo_losesFlag _ h9) (cwV 0 hts (gi_V bw_354 bw_355 bw_356 bw_2 bw_357) rfl rfl rfl (by decide +kernel) ⟨Nat.le_of_ble_eq_true rfl, Nat.le_of_ble_eq_true rfl⟩) ⟨hI.blind, hw_recv hK hW h1 rfl, hI.give hW hS hA hK hZ0⟩ rfl rfl hl.1 rfl (lv_room (Nat.le_of_ble_eq_true rfl)) d_Ha_swap_63 ⟨(show _ ≤ 5 by omega), (show _ ≤ 46 by omega)⟩) hS (fun q _ z => hF q z) hF (fun r39 M40 t H locs ht _ h hB1 _ _ hS => ?_)
  have hW := hw_back hF ht hB1
  clear h9
  obtain ⟨h0, h1⟩ := h
  refine lv_if_eq (tgt := 76) hx hb d_Ha_swap_66 (by decide) (fun c41 => ?_) (fun c41 => ?_)
  · have h := h0 c41
    refine lv_aload hx hb d_Ha_swap_76 (lv_at hl 3 rfl) ?_
    refine va_gets (v := .ref (G 2)) hx hb (hZ0.2.2.1) hS hown (hts _ bw_834) (fun _ h9 => h9) d_Ha_swap_78 ?_
    obtain ⟨⟨fs, h1⟩, h⟩ := h
    have h9 := h
    clear h
    have hF := hW.free hS hA
    refine va_callq (va_runV (As := [.ref (G 2)]) (rest := []) ⟨hx, hb, hml, hown, hts⟩ (c_Ch_firstWaiter _ h9) (cwV 1 hts (gi_V bw_835 bw_373 bw_374 bw_11 bw_375) rfl rfl rfl (by decide +kernel) ⟨Nat.le_of_ble_eq_true rfl, Nat.le_of_ble_eq_true rfl⟩) ⟨hI.blind, hw_recv hK hW h1 rfl, hI.give hW hS hA hK hZ0⟩ rfl rfl hl.1 rfl (lv_room (Nat.le_of_ble_eq_true rfl)) d_Ha_swap_81 ⟨(show _ ≤ 5 by omega), (show _ ≤ 46 by omega)⟩) hS (fun q _ z => hF q z) hF (fun r42 M43 t H locs ht _ h hB1 _ _ hS => ?_)
    have hW := hw_back hF ht hB1
    clear h9
    refine lq_store (lv' := [(8, va_rf r42), (0, .ref l0b58), (3, .int l3b58), (4, .double l4b58), (6, .ref l6b58), (7, .ref b38)]) hx hb d_Ha_swap_84 hl (by decide) rfl (fun ls hl => ?_)
    refine lq_load hx hb d_Ha_swap_86 (lv_at hl 0 rfl) ?_
    obtain ⟨h0, h1⟩ := h
    cases r42 with
    | none =>
      have h := h0 rfl
      refine lv_ifnonnullN hx hb d_Ha_swap_88 ?_
      refine lv_aload hx hb d_Ha_swap_91 (lv_at hl 5 rfl) ?_
      refine lv_iload_n hx hb d_Ha_swap_93 rfl (lv_at hl 2 rfl) ?_
      refine lv_dconst0 hx hb d_Ha_swap_94 ?_
      obtain ⟨⟨fs, h1⟩, h⟩ := h
      have h9 := h
      clear h
      have hF := hW.free hS hA
      refine va_callv (va_runV (As := [.int l3b58, .double FP.dconst0]) (rest := []) ⟨hx, hb, hml, hown, hts⟩ (c_Wo_offer _ h9) (cwV 2 hts (gi_V bw_397 bw_398 bw_399 bw_2 bw_400) rfl rfl rfl (by decide +kernel) ⟨Nat.le_of_ble_eq_true rfl, Nat.le_of_ble_eq_true rfl⟩) ⟨hI.blind, hw_recv hK hW h1 rfl, hI.give hW hS hA hK hZ0⟩ rfl rfl hl.1 rfl (lv_room (Nat.le_of_ble_eq_true rfl)) d_Ha_swap_95 ⟨(show _ ≤ 5 by omega), (show _ ≤ 46 by omega)⟩) hS (fun q _ z => hF q z) hF (fun M45 t H locs ht _ h hB1 _ _ hS => ?_)
      have hW := hw_back hF ht hB1
      clear h9
      refine lv_aload_n hx hb d_Ha_swap_98 rfl (lv_at hl 1 rfl) ?_
      refine lv_aload hx hb d_Ha_swap_99 (lv_at hl 5 rfl) ?_
      refine lv_aload hx hb d_Ha_swap_101 (lv_at hl 4 rfl) ?_
      refine va_gets (v := .ref (G 2)) hx hb (hZ0.2.2.1) hS hown (hts _ bw_834) (fun _ h9 => h9) d_Ha_swap_103 ?_
      refine lv_dload hx hb d_Ha_swap_106 (lv_at hl 3 rfl) ?_
      obtain ⟨⟨fs, h1⟩, h⟩ := h
      have h9 := h
      clear h
      have hF := hW.free hS hA
      refine va_calli (va_runV (As := [.ref b38, .ref l6b58, .ref (G 2), .double l4b58]) (rest := []) ⟨hx, hb, hml, hown, hts⟩ (c_Ha_startWait _ h9) (cwV 4 hts (gi_V bw_402 bw_404 bs_3 bw_1 bw_405) rfl rfl rfl (by decide +kernel) ⟨Nat.le_of_ble_eq_true rfl, Nat.le_of_ble_eq_true rfl⟩) ⟨hI.blind, hw_recv hK hW h1 rfl, hI.give hW hS hA hK hZ0⟩ rfl rfl hl.1 rfl (lv_room (Nat.le_of_ble_eq_true rfl)) d_Ha_swap_108 ⟨(show _ ≤ 5 by omega), (show _ ≤ 46 by omega)⟩) hS (fun q _ z => hF q z) hF (fun r46 M47 t H locs ht _ h hB1 _ _ hS => ?_)
      have hW := hw_back hF ht hB1
      clear h9
      refine W.widen (k := 5) (n := 46) (by omega) (by omega) ?_
      exact vx_ret (W.iret hx hb hr (fun t ht hWm => ⟨⟨_, _, rfl, h, hw_t ht hW⟩, hS.F ht⟩) hS.2.2 d_Ha_swap_111)
    | some b44 =>
      have h := h1 b44 rfl
      refine lv_ifnonnull (tgt := 112) hx hb d_Ha_swap_88 (by decide) ?_
      refine lv_aload hx hb d_Ha_swap_112 (lv_at hl 5 rfl) ?_
      refine lv_aload hx hb d_Ha_swap_114 (lv_at hl 0 rfl) ?_
      obtain ⟨fs, v48, h1, h2, h⟩ := h
      refine va_get (D := D) (ci := 2) (v := .int v48) (C := "ChannelHall$Worker") (T := TWo) (N := 11) hx hb hts uWo hown hK (hw_one hW h1) 0 rfl rfl 7 (by decide) (hts _ bw_69) (fun _ h9 => h9) h2 d_Ha_swap_116 ?_
      obtain ⟨⟨fs, h1⟩, h⟩ := h
      have h9 := h
      clear h
      have hF := hW.free hS hA
      refine va_callv (va_runV (As := [.int v48]) (rest := []) ⟨hx, hb, hml, hown, hts⟩ (c_Wo_receive _ h9) (cwV 1 hts (gi_V bw_836 bw_772 bw_773 bw_2 bw_774) rfl rfl rfl (by decide +kernel) ⟨Nat.le_of_ble_eq_true rfl, Nat.le_of_ble_eq_true rfl⟩) ⟨hI.blind, hw_recv hK hW h1 rfl, hI.give hW hS hA hK hZ0⟩ rfl rfl hl.1 rfl (lv_room (Nat.le_of_ble_eq_true rfl)) d_Ha_swap_119 ⟨(show _ ≤ 5 by omega), (show _ ≤ 46 by omega)⟩) hS (fun q _ z => hF q z) hF (fun M49 t H locs ht _ h hB1 _ _ hS => ?_)
      have hW := hw_back hF ht hB1
      clear h9
      refine lv_aload hx hb d_Ha_swap_122 (lv_at hl 0 rfl) ?_
      refine lv_iload_n hx hb d_Ha_swap_124 rfl (lv_at hl 2 rfl) ?_
      obtain ⟨⟨fs, h1⟩, h⟩ := h
      have h9 := h
      clear h
      have hF := hW.free hS hA
      refine va_callv (va_runV (As := [.int l3b58]) (rest := []) ⟨hx, hb, hml, hown, hts⟩ (c_Wo_receive _ h9) (cwV 1 hts (gi_V bw_836 bw_772 bw_773 bw_2 bw_774) rfl rfl rfl (by decide +kernel) ⟨Nat.le_of_ble_eq_true rfl, Nat.le_of_ble_eq_true rfl⟩) ⟨hI.blind, hw_recv hK hW h1 rfl, hI.give hW hS hA hK hZ0⟩ rfl rfl hl.1 rfl (lv_room (Nat.le_of_ble_eq_true rfl)) d_Ha_swap_125 ⟨(show _ ≤ 5 by omega), (show _ ≤ 46 by omega)⟩) hS (fun q _ z => hF q z) hF (fun M50 t H locs ht _ h hB1 _ _ hS => ?_)
      have hW := hw_back hF ht hB1
      clear h9
      refine lv_aload hx hb d_Ha_swap_128 (lv_at hl 4 rfl) ?_
      refine lv_aload hx hb d_Ha_swap_130 (lv_at hl 0 rfl) ?_
      refine lv_iconst (v := 1) hx hb d_Ha_swap_132 (by decide) ?_
      obtain ⟨⟨fs, h1⟩, h⟩ := h
      have h9 := h
      clear h
      have hF := hW.free hS hA
      refine va_callv (va_runV (As := [.ref b44, .int 1]) (rest := []) ⟨hx, hb, hml, hown, hts⟩ (c_Ch_release _ h9) (cwV 2 hts (gi_V bw_837 bw_780 bw_781 bw_11 bw_782) rfl rfl rfl (by decide +kernel) ⟨Nat.le_of_ble_eq_true rfl, Nat.le_of_ble_eq_true rfl⟩) ⟨hI.blind, hw_recv hK hW h1 rfl, hI.give hW hS hA hK hZ0⟩ rfl rfl hl.1 rfl (lv_room (Nat.le_of_ble_eq_true rfl)) d_Ha_swap_133 ⟨(show _ ≤ 5 by omega), (show _ ≤ 46 by omega)⟩) hS (fun q _ z => hF q z) hF (fun M51 t H locs ht _ h hB1 _ _ hS => ?_)
      have hW := hw_back hF ht hB1
      clear h9
      refine lv_aload hx hb d_Ha_swap_136 (lv_at hl 5 rfl) ?_
      refine lv_iconst (v := 1) hx hb d_Ha_swap_138 (by decide) ?_
      obtain ⟨⟨fs, h1⟩, h⟩ := h
      have h9 := h
      clear h
      have hF := hW.free hS hA
      refine va_calli (va_runV (As := [.int 1]) (rest := []) ⟨hx, hb, hml, hown, hts⟩ (c_Wo_endWith _ h9) (cwV 1 hts (gi_V bw_358 bw_359 bw_360 bw_2 bw_361) rfl rfl rfl (by decide +kernel) ⟨Nat.le_of_ble_eq_true rfl, Nat.le_of_ble_eq_true rfl⟩) ⟨hI.blind, hw_recv hK hW h1 rfl, hI.give hW hS hA hK hZ0⟩ rfl rfl hl.1 rfl (lv_room (Nat.le_of_ble_eq_true rfl)) d_Ha_swap_139 ⟨(show _ ≤ 5 by omega), (show _ ≤ 46 by omega)⟩) hS (fun q _ z => hF q z) hF (fun r52 M53 t H locs ht _ h hB1 _ _ hS => ?_)
      have hW := hw_back hF ht hB1
      clear h9
      refine W.widen (k := 5) (n := 46) (by omega) (by omega) ?_
      exact vx_ret (W.iret hx hb hr (fun t ht hWm => ⟨⟨_, _, rfl, h, hw_t ht hW⟩, hS.F ht⟩) hS.2.2 d_Ha_swap_142)
  · have h := h1 c41
    refine lv_aload hx hb d_Ha_swap_69 (lv_at hl 4 rfl) ?_
    refine lv_iconst (v := 3) hx hb d_Ha_swap_71 (by decide) ?_
    obtain ⟨⟨fs, h1⟩, h⟩ := h
    have h9 := h
    clear h
    have hF := hW.free hS hA
    refine va_calli (va_runV (As := [.int 3]) (rest := []) ⟨hx, hb, hml, hown, hts⟩ (c_Wo_endWith _ h9) (cwV 1 hts (gi_V bw_358 bw_359 bw_360 bw_2 bw_361) rfl rfl rfl (by decide +kernel) ⟨Nat.le_of_ble_eq_true rfl, Nat.le_of_ble_eq_true rfl⟩) ⟨hI.blind, hw_recv hK hW h1 rfl, hI.give hW hS hA hK hZ0⟩ rfl rfl hl.1 rfl (lv_room (Nat.le_of_ble_eq_true rfl)) d_Ha_swap_72 ⟨(show _ ≤ 5 by omega), (show _ ≤ 46 by omega)⟩) hS (fun q _ z => hF q z) hF (fun r54 M55 t H locs ht _ h hB1 _ _ hS => ?_)
    have hW := hw_back hF ht hB1
    clear h9
    refine W.widen (k := 5) (n := 46) (by omega) (by omega) ?_
    exact vx_ret (W.iret hx hb hr (fun t ht hWm => ⟨⟨_, _, rfl, h, hw_t ht hW⟩, hS.F ht⟩) hS.2.2 d_Ha_swap_75)
set_option maxHeartbeats 1000000 in
set_option maxRecDepth 20000 in
theorem l_Ha_swap_27 {p : Program} {l : Launch} {e : Env} {s : State} {m : MethodId} {args : Array Value} {below : List Frame} {meth : Method} {c : Code} {D : va_G} {ca G : Nat → Nat} {A : Nat → Prop} (C0 : hC p s m args meth c D ca G prog_1_method_5_code 9 (some .int) "ChannelHall" A) (hl0 : l.stackTraces = false) (hout : ∀ x ∈ c.exceptionTable.toList, False) {post : Int32 → hM → Prop} {xp : String → hM → Prop} {M : hM} {H : Heap} {locs : List Loc} {ls : Array Slot} {cells slots : Nat} (l0b27 : Nat) (l1b27 : Int32) (l2b27 : Int32) (l3b27 : Int32) (l4b27 : UInt64) (s0b27 : Int32) (hc : cells ≤ 0) (hs : slots ≤ 0) (h : wp_Ha_swap_27 G ca post xp M l0b27 l1b27 l2b27 l3b27 l4b27 s0b27) (hW : hw D wCl A M H) (hS : va_S A s.heap H locs) (hl : lv_has ls 9 [(0, .ref l0b27), (1, .int l1b27), (2, .int l2b27), (3, .int l3b27), (4, .double l4b27)]) : W p l e rm_Ha_swap s m args below meth c H locs cells slots (vx_MQ below (va_Qi post (fun M' t => hw D wCl A M' t.heap) A) (hX D xp A) args s 5 46 A) (F0 m 27 ls [.int s0b27]) := by
  obtain ⟨hx, hb, hr, hml, hown, hts, hlocks, hK, hA, hZ0⟩ := id C0
  have h9 := h
  clear h
  have hF := hW.free hS hA
  refine vx_callv (vx_runS (As := [.int s0b27]) (rest := []) ⟨hx, hb, hml, hown, hts⟩ (c_Ha_require hl0 _ _ h9) (va_cwS 1 hts (gi_S bw_132 bw_133 bw_1 bw_134) rfl rfl rfl (by decide +kernel) ⟨Nat.le_of_ble_eq_true rfl, Nat.le_of_ble_eq_true rfl⟩) ⟨hI.blind, hI.give hW hS hA hK hZ0⟩ rfl rfl hl.1 rfl (lv_room (Nat.le_of_ble_eq_true rfl)) d_Ha_swap_27 ⟨(show _ ≤ 5 by omega), (show _ ≤ 46 by omega)⟩) hS (fun q _ z => hF q z) hF (fun q _ z => hF q z) (fun E ce q9 M9 t H locs ht _ _ h8 _ _ hS hce hcv hcl => hq_out hout hlocks (hw_back hF ht h8.2) hS h8.1 hce hcv hcl (by omega) (by omega)) (fun M56 t H locs ht _ h hB1 _ _ hS => ?_)
  have hW := hw_back hF ht hB1
  clear h9
  refine lv_aload_n hx hb d_Ha_swap_30 rfl (lv_at hl 0 rfl) ?_
  refine lv_iload_n hx hb d_Ha_swap_31 rfl (lv_at hl 2 rfl) ?_
  obtain ⟨⟨fs, h1⟩, h⟩ := h
  have h9 := h
  clear h
  have hF := hW.free hS hA
  refine hx_callq (vx_runV (As := [.int l2b27]) (rest := []) ⟨hx, hb, hml, hown, hts⟩ (c_Ha_presentChannel hl0 _ _ h9) (cwV 1 hts (gi_V bw_309 bw_311 bs_1 bw_1 bw_312) rfl rfl rfl (by decide +kernel) ⟨Nat.le_of_ble_eq_true rfl, Nat.le_of_ble_eq_true rfl⟩) ⟨hI.blind, hw_recv hK hW h1 rfl, hI.give hW hS hA hK hZ0⟩ rfl rfl hl.1 rfl (lv_room (Nat.le_of_ble_eq_true rfl)) d_Ha_swap_32 ⟨(show _ ≤ 5 by omega), (show _ ≤ 46 by omega)⟩) hS (fun q _ z => hF q z) hF (fun q _ z => hF q z) (fun E ce q9 M9 t H locs ht _ _ h8 _ _ hS hce hcv hcl => hq_out hout hlocks (hw_back hF ht h8.2) hS h8.1 hce hcv hcl (by omega) (by omega)) (fun r57 M58 t H locs ht _ h hB1 _ _ hS => ?_)
  have hW := hw_back hF ht hB1
  clear h9
  refine lq_store (lv' := [(6, va_rf r57), (0, .ref l0b27), (1, .int l1b27), (2, .int l2b27), (3, .int l3b27), (4, .double l4b27)]) hx hb d_Ha_swap_35 hl (by decide) rfl (fun ls hl => ?_)
  refine lv_aload_n hx hb d_Ha_swap_37 rfl (lv_at hl 1 rfl) ?_
  refine lv_iload_n hx hb d_Ha_swap_38 rfl (lv_at hl 2 rfl) ?_
  obtain ⟨⟨fs, h1⟩, h⟩ := h
  have h9 := h
  clear h
  have hF := hW.free hS hA
  refine hx_callq (vx_runV (As := [.int l1b27]) (rest := []) ⟨hx, hb, hml, hown, hts⟩ (c_Ha_runningWorker hl0 _ _ h9) (cwV 1 hts (gi_V bw_328 bw_330 bs_2 bw_1 bw_331) rfl rfl rfl (by decide +kernel) ⟨Nat.le_of_ble_eq_true rfl, Nat.le_of_ble_eq_true rfl⟩) ⟨hI.blind, hw_recv hK hW h1 rfl, hI.give hW hS hA hK hZ0⟩ rfl rfl hl.1 rfl (lv_room (Nat.le_of_ble_eq_true rfl)) d_Ha_swap_39 ⟨(show _ ≤ 5 by omega), (show _ ≤ 46 by omega)⟩) hS (fun q _ z => hF q z) hF (fun q _ z => hF q z) (fun E ce q9 M9 t H locs ht _ _ h8 _ _ hS hce hcv hcl => hq_out hout hlocks (hw_back hF ht h8.2) hS h8.1 hce hcv hcl (by omega) (by omega)) (fun r59 M60 t H locs ht _ h hB1 _ _ hS => ?_)
  have hW := hw_back hF ht hB1
  clear h9
  refine lq_store (lv' := [(7, va_rf r59), (6, va_rf r57), (0, .ref l0b27), (1, .int l1b27), (2, .int l2b27), (3, .int l3b27), (4, .double l4b27)]) hx hb d_Ha_swap_42 hl (by decide) (by cases r57 <;> rfl) (fun ls hl => ?_)
  refine lq_load hx hb d_Ha_swap_44 (lv_at hl 1 rfl) ?_
  obtain ⟨b61, rfl, h⟩ := h
  obtain ⟨fs, v62, h1, h2, h⟩ := h
  refine va_get (D := D) (ci := 0) (v := .int v62) (C := "ChannelHall$Channel") (T := TCh) (N := 10) hx hb hts uCh hown hK (hw_one hW h1) 0 rfl rfl 1 (by decide) (hts _ bw_254) (fun _ h9 => h9) h2 d_Ha_swap_46 ?_
  refine lv_iconst (v := 5) hx hb d_Ha_swap_49 (by decide) ?_
  obtain ⟨h0, h1⟩ := h
  refine lv_icmp_ne (tgt := 57) hx hb d_Ha_swap_50 (by decide) (fun c63 => ?_) (fun c63 => ?_)
  · have h := h0 c63
    refine lv_iconst (v := 0) hx hb d_Ha_swap_57 (by decide) ?_
    exact l_Ha_swap_58 C0 hl0 hout l0b27 l3b27 l4b27 b61 r59 0 (by omega) (by omega) h hW hS (lv_sub hl [2, 5, 6, 1, 0] rfl)
  · have h := h1 c63
    refine lv_iconst (v := 1) hx hb d_Ha_swap_53 (by decide) ?_
    refine lv_goto (tgt := 58) hx hb d_Ha_swap_54 (by decide) ?_
    exact l_Ha_swap_58 C0 hl0 hout l0b27 l3b27 l4b27 b61 r59 1 (by omega) (by omega) h hW hS (lv_sub hl [2, 5, 6, 1, 0] rfl)
set_option maxHeartbeats 1000000 in
set_option maxRecDepth 20000 in
theorem l_Ha_swap_26 {p : Program} {l : Launch} {e : Env} {s : State} {m : MethodId} {args : Array Value} {below : List Frame} {meth : Method} {c : Code} {D : va_G} {ca G : Nat → Nat} {A : Nat → Prop} (C0 : hC p s m args meth c D ca G prog_1_method_5_code 9 (some .int) "ChannelHall" A) (hl0 : l.stackTraces = false) (hout : ∀ x ∈ c.exceptionTable.toList, False) {post : Int32 → hM → Prop} {xp : String → hM → Prop} {M : hM} {H : Heap} {locs : List Loc} {ls : Array Slot} {cells slots : Nat} (l0b26 : Nat) (l1b26 : Int32) (l2b26 : Int32) (l3b26 : Int32) (l4b26 : UInt64) (hc : cells ≤ 0) (hs : slots ≤ 0) (h : wp_Ha_swap_26 G ca post xp M l0b26 l1b26 l2b26 l3b26 l4b26) (hW : hw D wCl A M H) (hS : va_S A s.heap H locs) (hl : lv_has ls 9 [(0, .ref l0b26), (1, .int l1b26), (2, .int l2b26), (3, .int l3b26), (4, .double l4b26)]) : W p l e rm_Ha_swap s m args below meth c H locs cells slots (vx_MQ below (va_Qi post (fun M' t => hw D wCl A M' t.heap) A) (hX D xp A) args s 5 46 A) (F0 m 26 ls []) := by
  obtain ⟨hx, hb, hr, hml, hown, hts, hlocks, hK, hA, hZ0⟩ := id C0
  refine lv_iconst (v := 0) hx hb d_Ha_swap_26 (by decide) ?_
  exact l_Ha_swap_27 C0 hl0 hout l0b26 l1b26 l2b26 l3b26 l4b26 0 (by omega) (by omega) h hW hS (lv_sub hl [0, 1, 2, 3, 4] rfl)
set_option maxHeartbeats 1000000 in
set_option maxRecDepth 20000 in
theorem l_Ha_swap_e {p : Program} {l : Launch} {e : Env} {s : State} {m : MethodId} {args : Array Value} {below : List Frame} {meth : Method} {c : Code} {D : va_G} {ca G : Nat → Nat} {A : Nat → Prop} (C0 : hC p s m args meth c D ca G prog_1_method_5_code 9 (some .int) "ChannelHall" A) (hl0 : l.stackTraces = false) (hout : ∀ x ∈ c.exceptionTable.toList, False) {post : Int32 → hM → Prop} {xp : String → hM → Prop} {M : hM} {H : Heap} {locs : List Loc} {ls : Array Slot} {cells slots : Nat} (a0 : Nat) (x1 : Int32) (x2 : Int32) (x3 : Int32) (x4 : UInt64) (hc : cells ≤ 0) (hs : slots ≤ 0) (h : wp_Ha_swap G ca post xp M a0 x1 x2 x3 x4) (hW : hw D wCl A M H) (hS : va_S A s.heap H locs) (hl : lv_has ls 9 [(0, .ref a0), (1, .int x1), (2, .int x2), (3, .int x3), (4, .double x4)]) : W p l e rm_Ha_swap s m args below meth c H locs cells slots (vx_MQ below (va_Qi post (fun M' t => hw D wCl A M' t.heap) A) (hX D xp A) args s 5 46 A) (F0 m 0 ls []) := by
  obtain ⟨hx, hb, hr, hml, hown, hts, hlocks, hK, hA, hZ0⟩ := id C0
  refine lv_iload_n hx hb d_Ha_swap_0 rfl (lv_at hl 1 rfl) ?_
  have h9 := h
  clear h
  have hF := hW.free hS hA
  refine va_calli (va_runS (As := [.int x1]) (rest := []) ⟨hx, hb, hml, hown, hts⟩ (c_Ha_isThread _ h9) (va_cwS 1 hts (gi_S bw_300 bw_301 bw_1 bw_302) rfl rfl rfl (by decide +kernel) ⟨Nat.le_of_ble_eq_true rfl, Nat.le_of_ble_eq_true rfl⟩) ⟨hI.blind, hI.give hW hS hA hK hZ0⟩ rfl rfl hl.1 rfl (lv_room (Nat.le_of_ble_eq_true rfl)) d_Ha_swap_1 ⟨(show _ ≤ 5 by omega), (show _ ≤ 46 by omega)⟩) hS (fun q _ z => hF q z) hF (fun r64 M65 t H locs ht _ h hB1 _ _ hS => ?_)
  have hW := hw_back hF ht hB1
  clear h9
  obtain ⟨h0, h1⟩ := h
  refine lv_if_eq (tgt := 26) hx hb d_Ha_swap_4 (by decide) (fun c66 => ?_) (fun c66 => ?_)
  · have h := h0 c66
    exact l_Ha_swap_26 C0 hl0 hout a0 x1 x2 x3 x4 (by omega) (by omega) h hW hS (lv_sub hl [0, 1, 2, 3, 4] rfl)
  · have h := h1 c66
    refine lv_iload_n hx hb d_Ha_swap_7 rfl (lv_at hl 2 rfl) ?_
    have h9 := h
    clear h
    have hF := hW.free hS hA
    refine va_calli (va_runS (As := [.int x2]) (rest := []) ⟨hx, hb, hml, hown, hts⟩ (c_Ha_isChannel _ h9) (va_cwS 1 hts (gi_S bw_126 bw_127 bw_1 bw_128) rfl rfl rfl (by decide +kernel) ⟨Nat.le_of_ble_eq_true rfl, Nat.le_of_ble_eq_true rfl⟩) ⟨hI.blind, hI.give hW hS hA hK hZ0⟩ rfl rfl hl.1 rfl (lv_room (Nat.le_of_ble_eq_true rfl)) d_Ha_swap_8 ⟨(show _ ≤ 5 by omega), (show _ ≤ 46 by omega)⟩) hS (fun q _ z => hF q z) hF (fun r67 M68 t H locs ht _ h hB1 _ _ hS => ?_)
    have hW := hw_back hF ht hB1
    clear h9
    obtain ⟨h0, h1⟩ := h
    refine lv_if_eq (tgt := 26) hx hb d_Ha_swap_11 (by decide) (fun c69 => ?_) (fun c69 => ?_)
    · have h := h0 c69
      exact l_Ha_swap_26 C0 hl0 hout a0 x1 x2 x3 x4 (by omega) (by omega) h hW hS (lv_sub hl [0, 1, 2, 3, 4] rfl)
    · have h := h1 c69
      refine lv_dload hx hb d_Ha_swap_14 (lv_at hl 4 rfl) ?_
      have h9 := h
      clear h
      have hF := hW.free hS hA
      refine va_calli (va_runS (As := [.double x4]) (rest := []) ⟨hx, hb, hml, hown, hts⟩ (c_Ha_isLimit _ h9) (va_cwS 1 hts (gi_S bw_305 bw_306 bw_1 bw_307) rfl rfl rfl (by decide +kernel) ⟨Nat.le_of_ble_eq_true rfl, Nat.le_of_ble_eq_true rfl⟩) ⟨hI.blind, hI.give hW hS hA hK hZ0⟩ rfl rfl hl.1 rfl (lv_room (Nat.le_of_ble_eq_true rfl)) d_Ha_swap_16 ⟨(show _ ≤ 5 by omega), (show _ ≤ 46 by omega)⟩) hS (fun q _ z => hF q z) hF (fun r70 M71 t H locs ht _ h hB1 _ _ hS => ?_)
      have hW := hw_back hF ht hB1
      clear h9
      obtain ⟨h0, h1⟩ := h
      refine lv_if_eq (tgt := 26) hx hb d_Ha_swap_19 (by decide) (fun c72 => ?_) (fun c72 => ?_)
      · have h := h0 c72
        exact l_Ha_swap_26 C0 hl0 hout a0 x1 x2 x3 x4 (by omega) (by omega) h hW hS (lv_sub hl [0, 1, 2, 3, 4] rfl)
      · have h := h1 c72
        refine lv_iconst (v := 1) hx hb d_Ha_swap_22 (by decide) ?_
        refine lv_goto (tgt := 27) hx hb d_Ha_swap_23 (by decide) ?_
        exact l_Ha_swap_27 C0 hl0 hout a0 x1 x2 x3 x4 1 (by omega) (by omega) h hW hS (lv_sub hl [0, 1, 2, 3, 4] rfl)
set_option maxRecDepth 20000 in
theorem c_Ha_swap {l : Launch} (hl0 : l.stackTraces = false) {D : va_G} {ca G : Nat → Nat} (post : Int32 → hM → Prop) (xp : String → hM → Prop) {M : hM} {sz : Nat} {a0 : Nat} {x1 : Int32} {x2 : Int32} {x3 : Int32} {x4 : UInt64} (h : wp_Ha_swap G ca post xp M a0 x1 x2 x3 x4) : vx_Met l y_Ha_swap (wz y_Ha_swap prog_1_method_5_code 9 (some .int)) rm_Ha_swap (va_Pc [.ref a0, .int x1, .int x2, .int x3, .double x4] (hI D ca G sz M)) (va_Qi post (hB D M sz) (hp_A M sz)) (hX D xp (hp_A M sz)) 5 46 (hp_A M sz) := by
  refine vx_ofW (cc := prog_1_method_5_code) (maxL := 9) (ret := some .int) (by decide) rfl ?_
  intro p e s m args below meth c s₁ B hml hout hv
  obtain ⟨rfl, hsz, hW, hK, hZ0⟩ := hv
  have hts := fun w hw => atoms_spec (ws := wz y_Ha_swap prog_1_method_5_code 9 (some .int)) B.pre w (List.mem_cons_of_mem _ hw)
  have hown : s.vm.findClass "ChannelHall" = some m.cls := findClass_of_methodNamed B.named
  subst hsz
  have hl := lv_entry [.ref a0, .int x1, .int x2, .int x3, .double x4] (n := 9) (Nat.le_of_ble_eq_true rfl)
  rw [lg_entry_eq]
  exact l_Ha_swap_e ⟨B.exec, B.bytes, B.returns, hml, hown, hts, B.notSynchronized, hK, fun q h => Or.inr h, hZ0⟩ hl0 hout a0 x1 x2 x3 x4 (Nat.zero_le _) (Nat.zero_le _) h hW va_S.rf hl

theorem d_Ha_arrive_0 : decode prog_1_method_6_code 0 = .ok (.iload_n 1, 1) := by decide +kernel
theorem d_Ha_arrive_1 : decode prog_1_method_6_code 1 = .ok (.invokestatic 50, 3) := by decide +kernel
theorem d_Ha_arrive_4 : decode prog_1_method_6_code 4 = .ok (.ifCond .eq 21, 3) := by decide +kernel
theorem d_Ha_arrive_7 : decode prog_1_method_6_code 7 = .ok (.iload_n 2, 1) := by decide +kernel
theorem d_Ha_arrive_8 : decode prog_1_method_6_code 8 = .ok (.invokestatic 32, 3) := by decide +kernel
theorem d_Ha_arrive_11 : decode prog_1_method_6_code 11 = .ok (.ifCond .eq 14, 3) := by decide +kernel
theorem d_Ha_arrive_14 : decode prog_1_method_6_code 14 = .ok (.dload_n 3, 1) := by decide +kernel
theorem d_Ha_arrive_15 : decode prog_1_method_6_code 15 = .ok (.invokestatic 57, 3) := by decide +kernel
theorem d_Ha_arrive_18 : decode prog_1_method_6_code 18 = .ok (.ifCond .eq 7, 3) := by decide +kernel
theorem d_Ha_arrive_21 : decode prog_1_method_6_code 21 = .ok (.iconst 1, 1) := by decide +kernel
theorem d_Ha_arrive_22 : decode prog_1_method_6_code 22 = .ok (.goto 4, 3) := by decide +kernel
theorem d_Ha_arrive_25 : decode prog_1_method_6_code 25 = .ok (.iconst 0, 1) := by decide +kernel
theorem d_Ha_arrive_26 : decode prog_1_method_6_code 26 = .ok (.invokestatic 40, 3) := by decide +kernel
theorem d_Ha_arrive_29 : decode prog_1_method_6_code 29 = .ok (.aload_n 0, 1) := by decide +kernel
theorem d_Ha_arrive_30 : decode prog_1_method_6_code 30 = .ok (.iload_n 2, 1) := by decide +kernel
theorem d_Ha_arrive_31 : decode prog_1_method_6_code 31 = .ok (.invokevirtual 61, 3) := by decide +kernel
theorem d_Ha_arrive_34 : decode prog_1_method_6_code 34 = .ok (.astore 5, 2) := by decide +kernel
theorem d_Ha_arrive_36 : decode prog_1_method_6_code 36 = .ok (.aload_n 0, 1) := by decide +kernel
theorem d_Ha_arrive_37 : decode prog_1_method_6_code 37 = .ok (.iload_n 1, 1) := by decide +kernel
theorem d_Ha_arrive_38 : decode prog_1_method_6_code 38 = .ok (.invokevirtual 65, 3) := by decide +kernel
theorem d_Ha_arrive_41 : decode prog_1_method_6_code 41 = .ok (.astore 6, 2) := by decide +kernel
theorem d_Ha_arrive_43 : decode prog_1_method_6_code 43 = .ok (.aload 5, 2) := by decide +kernel
theorem d_Ha_arrive_45 : decode prog_1_method_6_code 45 = .ok (.getfield 122, 3) := by decide +kernel
theorem d_Ha_arrive_48 : decode prog_1_method_6_code 48 = .ok (.bipush 6, 2) := by decide +kernel
theorem d_Ha_arrive_50 : decode prog_1_method_6_code 50 = .ok (.if_icmp .ne 7, 3) := by decide +kernel
theorem d_Ha_arrive_53 : decode prog_1_method_6_code 53 = .ok (.iconst 1, 1) := by decide +kernel
theorem d_Ha_arrive_54 : decode prog_1_method_6_code 54 = .ok (.goto 4, 3) := by decide +kernel
theorem d_Ha_arrive_57 : decode prog_1_method_6_code 57 = .ok (.iconst 0, 1) := by decide +kernel
theorem d_Ha_arrive_58 : decode prog_1_method_6_code 58 = .ok (.invokestatic 73, 3) := by decide +kernel
theorem d_Ha_arrive_61 : decode prog_1_method_6_code 61 = .ok (.aload 5, 2) := by decide +kernel
theorem d_Ha_arrive_63 : decode prog_1_method_6_code 63 = .ok (.getfield 142, 3) := by decide +kernel
theorem d_Ha_arrive_66 : decode prog_1_method_6_code 66 = .ok (.ifCond .eq 11, 3) := by decide +kernel
theorem d_Ha_arrive_69 : decode prog_1_method_6_code 69 = .ok (.new 146, 3) := by decide +kernel
theorem d_Ha_arrive_72 : decode prog_1_method_6_code 72 = .ok (.dup, 1) := by decide +kernel
theorem d_Ha_arrive_73 : decode prog_1_method_6_code 73 = .ok (.invokespecial 148, 3) := by decide +kernel
theorem d_Ha_arrive_76 : decode prog_1_method_6_code 76 = .ok (.athrow, 1) := by decide +kernel
theorem d_Ha_arrive_77 : decode prog_1_method_6_code 77 = .ok (.aload 6, 2) := by decide +kernel
theorem d_Ha_arrive_79 : decode prog_1_method_6_code 79 = .ok (.invokevirtual 76, 3) := by decide +kernel
theorem d_Ha_arrive_82 : decode prog_1_method_6_code 82 = .ok (.ifCond .eq 15, 3) := by decide +kernel
theorem d_Ha_arrive_85 : decode prog_1_method_6_code 85 = .ok (.aload 5, 2) := by decide +kernel
theorem d_Ha_arrive_87 : decode prog_1_method_6_code 87 = .ok (.invokevirtual 149, 3) := by decide +kernel
theorem d_Ha_arrive_90 : decode prog_1_method_6_code 90 = .ok (.aload 6, 2) := by decide +kernel
theorem d_Ha_arrive_92 : decode prog_1_method_6_code 92 = .ok (.iconst 3, 1) := by decide +kernel
theorem d_Ha_arrive_93 : decode prog_1_method_6_code 93 = .ok (.invokevirtual 79, 3) := by decide +kernel
theorem d_Ha_arrive_96 : decode prog_1_method_6_code 96 = .ok (.ireturn, 1) := by decide +kernel
theorem d_Ha_arrive_97 : decode prog_1_method_6_code 97 = .ok (.aload 5, 2) := by decide +kernel
theorem d_Ha_arrive_99 : decode prog_1_method_6_code 99 = .ok (.getfield 152, 3) := by decide +kernel
theorem d_Ha_arrive_102 : decode prog_1_method_6_code 102 = .ok (.invokevirtual 156, 3) := by decide +kernel
theorem d_Ha_arrive_105 : decode prog_1_method_6_code 105 = .ok (.istore 7, 2) := by decide +kernel
theorem d_Ha_arrive_107 : decode prog_1_method_6_code 107 = .ok (.iload 7, 2) := by decide +kernel
theorem d_Ha_arrive_109 : decode prog_1_method_6_code 109 = .ok (.aload 5, 2) := by decide +kernel
theorem d_Ha_arrive_111 : decode prog_1_method_6_code 111 = .ok (.getfield 162, 3) := by decide +kernel
theorem d_Ha_arrive_114 : decode prog_1_method_6_code 114 = .ok (.iconst 1, 1) := by decide +kernel
theorem d_Ha_arrive_115 : decode prog_1_method_6_code 115 = .ok (.isub, 1) := by decide +kernel
theorem d_Ha_arrive_116 : decode prog_1_method_6_code 116 = .ok (.if_icmp .ne 27, 3) := by decide +kernel
theorem d_Ha_arrive_119 : decode prog_1_method_6_code 119 = .ok (.aload 5, 2) := by decide +kernel
theorem d_Ha_arrive_121 : decode prog_1_method_6_code 121 = .ok (.iconst 1, 1) := by decide +kernel
theorem d_Ha_arrive_122 : decode prog_1_method_6_code 122 = .ok (.invokevirtual 165, 3) := by decide +kernel
theorem d_Ha_arrive_125 : decode prog_1_method_6_code 125 = .ok (.aload 5, 2) := by decide +kernel
theorem d_Ha_arrive_127 : decode prog_1_method_6_code 127 = .ok (.dup, 1) := by decide +kernel
theorem d_Ha_arrive_128 : decode prog_1_method_6_code 128 = .ok (.getfield 168, 3) := by decide +kernel
theorem d_Ha_arrive_131 : decode prog_1_method_6_code 131 = .ok (.iconst 1, 1) := by decide +kernel
theorem d_Ha_arrive_132 : decode prog_1_method_6_code 132 = .ok (.iadd, 1) := by decide +kernel
theorem d_Ha_arrive_133 : decode prog_1_method_6_code 133 = .ok (.putfield 168, 3) := by decide +kernel
theorem d_Ha_arrive_136 : decode prog_1_method_6_code 136 = .ok (.aload 6, 2) := by decide +kernel
theorem d_Ha_arrive_138 : decode prog_1_method_6_code 138 = .ok (.iconst 1, 1) := by decide +kernel
theorem d_Ha_arrive_139 : decode prog_1_method_6_code 139 = .ok (.invokevirtual 79, 3) := by decide +kernel
theorem d_Ha_arrive_142 : decode prog_1_method_6_code 142 = .ok (.ireturn, 1) := by decide +kernel
theorem d_Ha_arrive_143 : decode prog_1_method_6_code 143 = .ok (.aload 6, 2) := by decide +kernel
theorem d_Ha_arrive_145 : decode prog_1_method_6_code 145 = .ok (.iload 7, 2) := by decide +kernel
theorem d_Ha_arrive_147 : decode prog_1_method_6_code 147 = .ok (.invokevirtual 135, 3) := by decide +kernel
theorem d_Ha_arrive_150 : decode prog_1_method_6_code 150 = .ok (.aload_n 0, 1) := by decide +kernel
theorem d_Ha_arrive_151 : decode prog_1_method_6_code 151 = .ok (.aload 6, 2) := by decide +kernel
theorem d_Ha_arrive_153 : decode prog_1_method_6_code 153 = .ok (.aload 5, 2) := by decide +kernel
theorem d_Ha_arrive_155 : decode prog_1_method_6_code 155 = .ok (.getstatic 125, 3) := by decide +kernel
theorem d_Ha_arrive_158 : decode prog_1_method_6_code 158 = .ok (.dload_n 3, 1) := by decide +kernel
theorem d_Ha_arrive_159 : decode prog_1_method_6_code 159 = .ok (.invokevirtual 100, 3) := by decide +kernel
theorem d_Ha_arrive_162 : decode prog_1_method_6_code 162 = .ok (.istore 8, 2) := by decide +kernel
theorem d_Ha_arrive_164 : decode prog_1_method_6_code 164 = .ok (.iload 8, 2) := by decide +kernel
theorem d_Ha_arrive_166 : decode prog_1_method_6_code 166 = .ok (.iconst 2, 1) := by decide +kernel
theorem d_Ha_arrive_167 : decode prog_1_method_6_code 167 = .ok (.if_icmp .ne 8, 3) := by decide +kernel
theorem d_Ha_arrive_170 : decode prog_1_method_6_code 170 = .ok (.aload 5, 2) := by decide +kernel
theorem d_Ha_arrive_172 : decode prog_1_method_6_code 172 = .ok (.invokevirtual 149, 3) := by decide +kernel
theorem d_Ha_arrive_175 : decode prog_1_method_6_code 175 = .ok (.iload 8, 2) := by decide +kernel
theorem d_Ha_arrive_177 : decode prog_1_method_6_code 177 = .ok (.ireturn, 1) := by decide +kernel
def y_Ha_arrive : MethodName := ⟨"ChannelHall", "arrive", "(IID)I"⟩
abbrev rm_Ha_arrive : Room := { frames := 8, cells := 5, slots := 46, locals := 196 }
def wp_Ha_arrive_175 (G ca : Nat → Nat) (post : Int32 → hM → Prop) (xp : String → hM → Prop) (M : hM) (l8b175 : Int32) : Prop := post l8b175 M
def wp_Ha_arrive_58 (G ca : Nat → Nat) (post : Int32 → hM → Prop) (xp : String → hM → Prop) (M : hM) (l0b58 : Nat) (l3b58 : UInt64) (l5b58 : Nat) (l6b58 : Option Nat) (s0b58 : Int32) : Prop := wp_Ha_requireKind G ca (fun M44 => gI M44 l5b58 0 6 fun v45 => (v45 = 0 → nN l6b58 fun b47 => rC M44 b47 2 (wp_Wo_losesFlag G ca (fun r48 M49 => (r48 = 0 → gR M49 l5b58 0 5 fun v51 => nN v51 fun b52 => rC M49 b52 4 (wp_Al_size G ca (fun r53 M54 => gI M54 l5b58 0 3 fun v55 => (¬ r53 = (v55 - 1) → rC M54 b47 2 (wp_Wo_receive G ca (fun M57 => rC M57 l0b58 3 (wp_Ha_startWait G ca (fun r58 M59 => (¬ r58 = 2 → wp_Ha_arrive_175 G ca post xp M59 r58) ∧ (r58 = 2 → rC M59 l5b58 0 (wp_Ch_breakUp G ca (fun M61 => wp_Ha_arrive_175 G ca post xp M61 r58) M59 l5b58))) M57 l0b58 (some b47) (some l5b58) (some (G 2)) l3b58)) M54 b47 r53)) ∧ (r53 = (v55 - 1) → rC M54 l5b58 0 (wp_Ch_releaseAll G ca (fun M62 => gI M62 l5b58 0 7 fun v63 => pF M62 l5b58 0 7 (.int (v63 + 1)) fun M64 => rC M64 b47 2 (wp_Wo_endWith G ca (fun r65 M66 => post r65 M66) M64 b47 1)) M54 l5b58 1))) M49 b52)) ∧ (¬ r48 = 0 → rC M49 l5b58 0 (wp_Ch_breakUp G ca (fun M67 => rC M67 b47 2 (wp_Wo_endWith G ca (fun r68 M69 => post r68 M69) M67 b47 3)) M49 l5b58))) M44 b47)) ∧ (¬ v45 = 0 → xp "java/lang/ArithmeticException" M44)) xp M s0b58
def wp_Ha_arrive_26 (G ca : Nat → Nat) (post : Int32 → hM → Prop) (xp : String → hM → Prop) (M : hM) (l0b26 : Nat) (l1b26 : Int32) (l2b26 : Int32) (l3b26 : UInt64) (s0b26 : Int32) : Prop := wp_Ha_require G ca (fun M70 => rC M70 l0b26 3 (wp_Ha_presentChannel G ca (fun r71 M72 => rC M72 l0b26 3 (wp_Ha_runningWorker G ca (fun r73 M74 => nN r71 fun b75 => gI M74 b75 0 1 fun v76 => (¬ v76 = 6 → wp_Ha_arrive_58 G ca post xp M74 l0b26 l3b26 b75 r73 0) ∧ (v76 = 6 → wp_Ha_arrive_58 G ca post xp M74 l0b26 l3b26 b75 r73 1)) xp M72 l0b26 l1b26)) xp M70 l0b26 l2b26)) xp M s0b26
def wp_Ha_arrive_25 (G ca : Nat → Nat) (post : Int32 → hM → Prop) (xp : String → hM → Prop) (M : hM) (l0b25 : Nat) (l1b25 : Int32) (l2b25 : Int32) (l3b25 : UInt64) : Prop := wp_Ha_arrive_26 G ca post xp M l0b25 l1b25 l2b25 l3b25 0
def wp_Ha_arrive (G ca : Nat → Nat) (post : Int32 → hM → Prop) (xp : String → hM → Prop) (M : hM) (a0 : Nat) (x1 : Int32) (x2 : Int32) (x3 : UInt64) : Prop := wp_Ha_isThread G ca (fun r78 M79 => (r78 = 0 → wp_Ha_arrive_25 G ca post xp M79 a0 x1 x2 x3) ∧ (¬ r78 = 0 → wp_Ha_isChannel G ca (fun r81 M82 => (r81 = 0 → wp_Ha_arrive_25 G ca post xp M82 a0 x1 x2 x3) ∧ (¬ r81 = 0 → wp_Ha_isLimit G ca (fun r84 M85 => (r84 = 0 → wp_Ha_arrive_25 G ca post xp M85 a0 x1 x2 x3) ∧ (¬ r84 = 0 → wp_Ha_arrive_26 G ca post xp M85 a0 x1 x2 x3 1)) M82 x3)) M79 x2)) M x1
set_option maxHeartbeats 1000000 in
set_option maxRecDepth 20000 in
theorem l_Ha_arrive_175 {p : Program} {l : Launch} {e : Env} {s : State} {m : MethodId} {args : Array Value} {below : List Frame} {meth : Method} {c : Code} {D : va_G} {ca G : Nat → Nat} {A : Nat → Prop} (C0 : hC p s m args meth c D ca G prog_1_method_6_code 9 (some .int) "ChannelHall" A) (hl0 : l.stackTraces = false) (hout : ∀ x ∈ c.exceptionTable.toList, False) {post : Int32 → hM → Prop} {xp : String → hM → Prop} {M : hM} {H : Heap} {locs : List Loc} {ls : Array Slot} {cells slots : Nat} (l8b175 : Int32) (hc : cells ≤ 5) (hs : slots ≤ 46) (h : wp_Ha_arrive_175 G ca post xp M l8b175) (hW : hw D wCl A M H) (hS : va_S A s.heap H locs) (hl : lv_has ls 9 [(8, .int l8b175)]) : W p l e rm_Ha_arrive s m args below meth c H locs cells slots (vx_MQ below (va_Qi post (fun M' t => hw D wCl A M' t.heap) A) (hX D xp A) args s 5 46 A) (F0 m 175 ls []) := by
  obtain ⟨hx, hb, hr, hml, hown, hts, hlocks, hK, hA, hZ0⟩ := id C0
  refine lv_iload hx hb d_Ha_arrive_175 (lv_at hl 0 rfl) ?_
  refine W.widen (k := 5) (n := 46) (by omega) (by omega) ?_
  exact vx_ret (W.iret hx hb hr (fun t ht hWm => ⟨⟨_, _, rfl, h, hw_t ht hW⟩, hS.F ht⟩) hS.2.2 d_Ha_arrive_177)
set_option maxHeartbeats 1000000 in
set_option maxRecDepth 20000 in
theorem l_Ha_arrive_58 {p : Program} {l : Launch} {e : Env} {s : State} {m : MethodId} {args : Array Value} {below : List Frame} {meth : Method} {c : Code} {D : va_G} {ca G : Nat → Nat} {A : Nat → Prop} (C0 : hC p s m args meth c D ca G prog_1_method_6_code 9 (some .int) "ChannelHall" A) (hl0 : l.stackTraces = false) (hout : ∀ x ∈ c.exceptionTable.toList, False) {post : Int32 → hM → Prop} {xp : String → hM → Prop} {M : hM} {H : Heap} {locs : List Loc} {ls : Array Slot} {cells slots : Nat} (l0b58 : Nat) (l3b58 : UInt64) (l5b58 : Nat) (l6b58 : Option Nat) (s0b58 : Int32) (hc : cells ≤ 3) (hs : slots ≤ 18) (h : wp_Ha_arrive_58 G ca post xp M l0b58 l3b58 l5b58 l6b58 s0b58) (hW : hw D wCl A M H) (hS : va_S A s.heap H locs) (hl : lv_has ls 9 [(0, .ref l0b58), (3, .double l3b58), (5, .ref l5b58), (6, va_rf l6b58)]) : W p l e rm_Ha_arrive s m args below meth c H locs cells slots (vx_MQ below (va_Qi post (fun M' t => hw D wCl A M' t.heap) A) (hX D xp A) args s 5 46 A) (F0 m 58 ls [.int s0b58]) := by
  obtain ⟨hx, hb, hr, hml, hown, hts, hlocks, hK, hA, hZ0⟩ := id C0
  have h9 := h
  clear h
  have hF := hW.free hS hA
  refine vx_callv (vx_runS (As := [.int s0b58]) (rest := []) ⟨hx, hb, hml, hown, hts⟩ (c_Ha_requireKind hl0 _ _ h9) (va_cwS 1 hts (gi_S bw_336 bw_337 bw_1 bw_338) rfl rfl rfl (by decide +kernel) ⟨Nat.le_of_ble_eq_true rfl, Nat.le_of_ble_eq_true rfl⟩) ⟨hI.blind, hI.give hW hS hA hK hZ0⟩ rfl rfl hl.1 rfl (lv_room (Nat.le_of_ble_eq_true rfl)) d_Ha_arrive_58 ⟨(show _ ≤ 5 by omega), (show _ ≤ 46 by omega)⟩) hS (fun q _ z => hF q z) hF (fun q _ z => hF q z) (fun E ce q9 M9 t H locs ht _ _ h8 _ _ hS hce hcv hcl => hq_out hout hlocks (hw_back hF ht h8.2) hS h8.1 hce hcv hcl (by omega) (by omega)) (fun M44 t H locs ht _ h hB1 _ _ hS => ?_)
  have hW := hw_back hF ht hB1
  clear h9
  refine lv_aload hx hb d_Ha_arrive_61 (lv_at hl 2 rfl) ?_
  obtain ⟨fs, v45, h1, h2, h⟩ := h
  refine va_get (D := D) (ci := 0) (v := .int v45) (C := "ChannelHall$Channel") (T := TCh) (N := 10) hx hb hts uCh hown hK (hw_one hW h1) 0 rfl rfl 6 (by decide) (hts _ bw_263) (fun _ h9 => h9) h2 d_Ha_arrive_63 ?_
  obtain ⟨h0, h1⟩ := h
  refine lv_if_eq (tgt := 77) hx hb d_Ha_arrive_66 (by decide) (fun c46 => ?_) (fun c46 => ?_)
  · have h := h0 c46
    refine lq_load hx hb d_Ha_arrive_77 (lv_at hl 3 rfl) ?_
    obtain ⟨b47, rfl, h⟩ := h
    obtain ⟨⟨fs, h1⟩, h⟩ := h
    have h9 := h
    clear h
    have hF := hW.free hS hA
    refine va_calli (va_runV (As := []) (rest := []) ⟨hx, hb, hml, hown, hts⟩ (c_Wo_losesFlag _ h9) (cwV 0 hts (gi_V bw_354 bw_355 bw_356 bw_2 bw_357) rfl rfl rfl (by decide +kernel) ⟨Nat.le_of_ble_eq_true rfl, Nat.le_of_ble_eq_true rfl⟩) ⟨hI.blind, hw_recv hK hW h1 rfl, hI.give hW hS hA hK hZ0⟩ rfl rfl hl.1 rfl (lv_room (Nat.le_of_ble_eq_true rfl)) d_Ha_arrive_79 ⟨(show _ ≤ 5 by omega), (show _ ≤ 46 by omega)⟩) hS (fun q _ z => hF q z) hF (fun r48 M49 t H locs ht _ h hB1 _ _ hS => ?_)
    have hW := hw_back hF ht hB1
    clear h9
    obtain ⟨h0, h1⟩ := h
    refine lv_if_eq (tgt := 97) hx hb d_Ha_arrive_82 (by decide) (fun c50 => ?_) (fun c50 => ?_)
    · have h := h0 c50
      refine lv_aload hx hb d_Ha_arrive_97 (lv_at hl 2 rfl) ?_
      obtain ⟨fs, v51, h1, h2, h⟩ := h
      refine va_get (D := D) (ci := 0) (v := va_rf v51) (C := "ChannelHall$Channel") (T := TCh) (N := 10) hx hb hts uCh hown hK (hw_one hW h1) 0 rfl rfl 5 (by decide) (hts _ bw_261) (fun _ h9 => h9) h2 d_Ha_arrive_99 ?_
      obtain ⟨b52, rfl, h⟩ := h
      obtain ⟨⟨fs, h1⟩, h⟩ := h
      have h9 := h
      clear h
      have hF := hW.free hS hA
      refine va_calli (va_runV (As := []) (rest := []) ⟨hx, hb, hml, hown, hts⟩ (c_Al_size _ h9) (cwV 0 hts (gi_V bw_873 bw_377 bw_378 bw_14 bw_379) rfl rfl rfl (by decide +kernel) ⟨Nat.le_of_ble_eq_true rfl, Nat.le_of_ble_eq_true rfl⟩) ⟨hI.blind, hw_recv hK hW h1 rfl, hI.give hW hS hA hK hZ0⟩ rfl rfl hl.1 rfl (lv_room (Nat.le_of_ble_eq_true rfl)) d_Ha_arrive_102 ⟨(show _ ≤ 5 by omega), (show _ ≤ 46 by omega)⟩) hS (fun q _ z => hF q z) hF (fun r53 M54 t H locs ht _ h hB1 _ _ hS => ?_)
      have hW := hw_back hF ht hB1
      clear h9
      refine lv_istore (lv' := [(7, .int r53), (0, .ref l0b58), (3, .double l3b58), (5, .ref l5b58), (6, .ref b47)]) hx hb d_Ha_arrive_105 hl (by decide) rfl (fun ls hl => ?_)
      refine lv_iload hx hb d_Ha_arrive_107 (lv_at hl 0 rfl) ?_
      refine lv_aload hx hb d_Ha_arrive_109 (lv_at hl 3 rfl) ?_
      obtain ⟨fs, v55, h1, h2, h⟩ := h
      refine va_get (D := D) (ci := 0) (v := .int v55) (C := "ChannelHall$Channel") (T := TCh) (N := 10) hx hb hts uCh hown hK (hw_one hW h1) 0 rfl rfl 3 (by decide) (hts _ bw_257) (fun _ h9 => h9) h2 d_Ha_arrive_111 ?_
      refine lv_iconst (v := 1) hx hb d_Ha_arrive_114 (by decide) ?_
      refine lv_isub hx hb d_Ha_arrive_115 ?_
      obtain ⟨h0, h1⟩ := h
      refine lv_icmp_ne (tgt := 143) hx hb d_Ha_arrive_116 (by decide) (fun c56 => ?_) (fun c56 => ?_)
      · have h := h0 c56
        refine lv_aload hx hb d_Ha_arrive_143 (lv_at hl 4 rfl) ?_
        refine lv_iload hx hb d_Ha_arrive_145 (lv_at hl 0 rfl) ?_
        obtain ⟨⟨fs, h1⟩, h⟩ := h
        have h9 := h
        clear h
        have hF := hW.free hS hA
        refine va_callv (va_runV (As := [.int r53]) (rest := []) ⟨hx, hb, hml, hown, hts⟩ (c_Wo_receive _ h9) (cwV 1 hts (gi_V bw_836 bw_772 bw_773 bw_2 bw_774) rfl rfl rfl (by decide +kernel) ⟨Nat.le_of_ble_eq_true rfl, Nat.le_of_ble_eq_true rfl⟩) ⟨hI.blind, hw_recv hK hW h1 rfl, hI.give hW hS hA hK hZ0⟩ rfl rfl hl.1 rfl (lv_room (Nat.le_of_ble_eq_true rfl)) d_Ha_arrive_147 ⟨(show _ ≤ 5 by omega), (show _ ≤ 46 by omega)⟩) hS (fun q _ z => hF q z) hF (fun M57 t H locs ht _ h hB1 _ _ hS => ?_)
        have hW := hw_back hF ht hB1
        clear h9
        refine lv_aload_n hx hb d_Ha_arrive_150 rfl (lv_at hl 1 rfl) ?_
        refine lv_aload hx hb d_Ha_arrive_151 (lv_at hl 4 rfl) ?_
        refine lv_aload hx hb d_Ha_arrive_153 (lv_at hl 3 rfl) ?_
        refine va_gets (v := .ref (G 2)) hx hb (hZ0.2.2.1) hS hown (hts _ bw_834) (fun _ h9 => h9) d_Ha_arrive_155 ?_
        refine lv_dload_n hx hb d_Ha_arrive_158 rfl (lv_at hl 2 rfl) ?_
        obtain ⟨⟨fs, h1⟩, h⟩ := h
        have h9 := h
        clear h
        have hF := hW.free hS hA
        refine va_calli (va_runV (As := [.ref b47, .ref l5b58, .ref (G 2), .double l3b58]) (rest := []) ⟨hx, hb, hml, hown, hts⟩ (c_Ha_startWait _ h9) (cwV 4 hts (gi_V bw_402 bw_404 bs_3 bw_1 bw_405) rfl rfl rfl (by decide +kernel) ⟨Nat.le_of_ble_eq_true rfl, Nat.le_of_ble_eq_true rfl⟩) ⟨hI.blind, hw_recv hK hW h1 rfl, hI.give hW hS hA hK hZ0⟩ rfl rfl hl.1 rfl (lv_room (Nat.le_of_ble_eq_true rfl)) d_Ha_arrive_159 ⟨(show _ ≤ 5 by omega), (show _ ≤ 46 by omega)⟩) hS (fun q _ z => hF q z) hF (fun r58 M59 t H locs ht _ h hB1 _ _ hS => ?_)
        have hW := hw_back hF ht hB1
        clear h9
        refine lv_istore (lv' := [(8, .int r58), (7, .int r53), (0, .ref l0b58), (3, .double l3b58), (5, .ref l5b58), (6, .ref b47)]) hx hb d_Ha_arrive_162 hl (by decide) rfl (fun ls hl => ?_)
        refine lv_iload hx hb d_Ha_arrive_164 (lv_at hl 0 rfl) ?_
        refine lv_iconst (v := 2) hx hb d_Ha_arrive_166 (by decide) ?_
        obtain ⟨h0, h1⟩ := h
        refine lv_icmp_ne (tgt := 175) hx hb d_Ha_arrive_167 (by decide) (fun c60 => ?_) (fun c60 => ?_)
        · have h := h0 c60
          exact l_Ha_arrive_175 C0 hl0 hout r58 (by omega) (by omega) h hW hS (lv_sub hl [0] rfl)
        · have h := h1 c60
          refine lv_aload hx hb d_Ha_arrive_170 (lv_at hl 4 rfl) ?_
          obtain ⟨⟨fs, h1⟩, h⟩ := h
          have h9 := h
          clear h
          have hF := hW.free hS hA
          refine va_callv (va_runV (As := []) (rest := []) ⟨hx, hb, hml, hown, hts⟩ (c_Ch_breakUp _ h9) (cwV 0 hts (gi_V bw_861 bw_862 bw_863 bw_11 bw_864) rfl rfl rfl (by decide +kernel) ⟨Nat.le_of_ble_eq_true rfl, Nat.le_of_ble_eq_true rfl⟩) ⟨hI.blind, hw_recv hK hW h1 rfl, hI.give hW hS hA hK hZ0⟩ rfl rfl hl.1 rfl (lv_room (Nat.le_of_ble_eq_true rfl)) d_Ha_arrive_172 ⟨(show _ ≤ 5 by omega), (show _ ≤ 46 by omega)⟩) hS (fun q _ z => hF q z) hF (fun M61 t H locs ht _ h hB1 _ _ hS => ?_)
          have hW := hw_back hF ht hB1
          clear h9
          exact l_Ha_arrive_175 C0 hl0 hout r58 (by omega) (by omega) h hW hS (lv_sub hl [0] rfl)
      · have h := h1 c56
        refine lv_aload hx hb d_Ha_arrive_119 (lv_at hl 3 rfl) ?_
        refine lv_iconst (v := 1) hx hb d_Ha_arrive_121 (by decide) ?_
        obtain ⟨⟨fs, h1⟩, h⟩ := h
        have h9 := h
        clear h
        have hF := hW.free hS hA
        refine va_callv (va_runV (As := [.int 1]) (rest := []) ⟨hx, hb, hml, hown, hts⟩ (c_Ch_releaseAll _ h9) (cwV 1 hts (gi_V bw_874 bw_866 bw_867 bw_11 bw_868) rfl rfl rfl (by decide +kernel) ⟨Nat.le_of_ble_eq_true rfl, Nat.le_of_ble_eq_true rfl⟩) ⟨hI.blind, hw_recv hK hW h1 rfl, hI.give hW hS hA hK hZ0⟩ rfl rfl hl.1 rfl (lv_room (Nat.le_of_ble_eq_true rfl)) d_Ha_arrive_122 ⟨(show _ ≤ 5 by omega), (show _ ≤ 46 by omega)⟩) hS (fun q _ z => hF q z) hF (fun M62 t H locs ht _ h hB1 _ _ hS => ?_)
        have hW := hw_back hF ht hB1
        clear h9
        refine lv_aload hx hb d_Ha_arrive_125 (lv_at hl 3 rfl) ?_
        refine lv_dup hx hb d_Ha_arrive_127 rfl ?_
        obtain ⟨fs, v63, h1, h2, h⟩ := h
        refine va_get (D := D) (ci := 0) (v := .int v63) (C := "ChannelHall$Channel") (T := TCh) (N := 10) hx hb hts uCh hown hK (hw_one hW h1) 0 rfl rfl 7 (by decide) (hts _ bw_265) (fun _ h9 => h9) h2 d_Ha_arrive_128 ?_
        refine lv_iconst (v := 1) hx hb d_Ha_arrive_131 (by decide) ?_
        refine lv_iadd hx hb d_Ha_arrive_132 ?_
        obtain ⟨fs, h1, h2, h⟩ := h
        obtain ⟨ws, q0, hq, hP, hD, hback, -⟩ := hw_open hW h1
        refine va_put (D := D) (ci := 0) (v := .int (v63 + 1)) (ty := .int) (C := "ChannelHall$Channel") (T := TCh) (N := 10) hx hb hts uCh tCh tCh_ok nCh hown hK hP hD hS q0 hq rfl 7 (by decide) (hts _ bw_265) (fun _ h9 => h9) rfl (by decide +kernel) rfl rfl h2 d_Ha_arrive_133 (fun H locs hP hD hS => ?_)
        have hW := hback _ _ hP hD
        generalize (va_up M62 l5b58 (some (.inr (0, fs.set 7 (.int (v63 + 1)))))) = M64 at h hW
        refine lv_aload hx hb d_Ha_arrive_136 (lv_at hl 4 rfl) ?_
        refine lv_iconst (v := 1) hx hb d_Ha_arrive_138 (by decide) ?_
        obtain ⟨⟨fs, h1⟩, h⟩ := h
        have h9 := h
        clear h
        have hF := hW.free hS hA
        refine va_calli (va_runV (As := [.int 1]) (rest := []) ⟨hx, hb, hml, hown, hts⟩ (c_Wo_endWith _ h9) (cwV 1 hts (gi_V bw_358 bw_359 bw_360 bw_2 bw_361) rfl rfl rfl (by decide +kernel) ⟨Nat.le_of_ble_eq_true rfl, Nat.le_of_ble_eq_true rfl⟩) ⟨hI.blind, hw_recv hK hW h1 rfl, hI.give hW hS hA hK hZ0⟩ rfl rfl hl.1 rfl (lv_room (Nat.le_of_ble_eq_true rfl)) d_Ha_arrive_139 ⟨(show _ ≤ 5 by omega), (show _ ≤ 46 by omega)⟩) hS (fun q _ z => hF q z) hF (fun r65 M66 t H locs ht _ h hB1 _ _ hS => ?_)
        have hW := hw_back hF ht hB1
        clear h9
        refine W.widen (k := 5) (n := 46) (by omega) (by omega) ?_
        exact vx_ret (W.iret hx hb hr (fun t ht hWm => ⟨⟨_, _, rfl, h, hw_t ht hW⟩, hS.F ht⟩) hS.2.2 d_Ha_arrive_142)
    · have h := h1 c50
      refine lv_aload hx hb d_Ha_arrive_85 (lv_at hl 2 rfl) ?_
      obtain ⟨⟨fs, h1⟩, h⟩ := h
      have h9 := h
      clear h
      have hF := hW.free hS hA
      refine va_callv (va_runV (As := []) (rest := []) ⟨hx, hb, hml, hown, hts⟩ (c_Ch_breakUp _ h9) (cwV 0 hts (gi_V bw_861 bw_862 bw_863 bw_11 bw_864) rfl rfl rfl (by decide +kernel) ⟨Nat.le_of_ble_eq_true rfl, Nat.le_of_ble_eq_true rfl⟩) ⟨hI.blind, hw_recv hK hW h1 rfl, hI.give hW hS hA hK hZ0⟩ rfl rfl hl.1 rfl (lv_room (Nat.le_of_ble_eq_true rfl)) d_Ha_arrive_87 ⟨(show _ ≤ 5 by omega), (show _ ≤ 46 by omega)⟩) hS (fun q _ z => hF q z) hF (fun M67 t H locs ht _ h hB1 _ _ hS => ?_)
      have hW := hw_back hF ht hB1
      clear h9
      refine lv_aload hx hb d_Ha_arrive_90 (lv_at hl 3 rfl) ?_
      refine lv_iconst (v := 3) hx hb d_Ha_arrive_92 (by decide) ?_
      obtain ⟨⟨fs, h1⟩, h⟩ := h
      have h9 := h
      clear h
      have hF := hW.free hS hA
      refine va_calli (va_runV (As := [.int 3]) (rest := []) ⟨hx, hb, hml, hown, hts⟩ (c_Wo_endWith _ h9) (cwV 1 hts (gi_V bw_358 bw_359 bw_360 bw_2 bw_361) rfl rfl rfl (by decide +kernel) ⟨Nat.le_of_ble_eq_true rfl, Nat.le_of_ble_eq_true rfl⟩) ⟨hI.blind, hw_recv hK hW h1 rfl, hI.give hW hS hA hK hZ0⟩ rfl rfl hl.1 rfl (lv_room (Nat.le_of_ble_eq_true rfl)) d_Ha_arrive_93 ⟨(show _ ≤ 5 by omega), (show _ ≤ 46 by omega)⟩) hS (fun q _ z => hF q z) hF (fun r68 M69 t H locs ht _ h hB1 _ _ hS => ?_)
      have hW := hw_back hF ht hB1
      clear h9
      refine W.widen (k := 5) (n := 46) (by omega) (by omega) ?_
      exact vx_ret (W.iret hx hb hr (fun t ht hWm => ⟨⟨_, _, rfl, h, hw_t ht hW⟩, hS.F ht⟩) hS.2.2 d_Ha_arrive_96)
  · have h := h1 c46
    exact hq_throw (names := ["java/lang/RuntimeException", "java/lang/Exception"]) hx hb hl0 hout hown (by decide) (by decide) hts bw_846 bw_31 xg_Ha_ArithmeticException xn_Ha_ArithmeticException xo_Ha_ArithmeticException hZ0 hW hS (hl.1.trans hml.symm) h d_Ha_arrive_69 d_Ha_arrive_72 d_Ha_arrive_73 d_Ha_arrive_76 (by decide) (Nat.le_of_ble_eq_true rfl) (show _ ≤ 5 by omega) (show _ ≤ 46 by omega) hlocks (by omega) (by omega)
set_option maxHeartbeats 1000000 in
set_option maxRecDepth 20000 in
theorem l_Ha_arrive_26 {p : Program} {l : Launch} {e : Env} {s : State} {m : MethodId} {args : Array Value} {below : List Frame} {meth : Method} {c : Code} {D : va_G} {ca G : Nat → Nat} {A : Nat → Prop} (C0 : hC p s m args meth c D ca G prog_1_method_6_code 9 (some .int) "ChannelHall" A) (hl0 : l.stackTraces = false) (hout : ∀ x ∈ c.exceptionTable.toList, False) {post : Int32 → hM → Prop} {xp : String → hM → Prop} {M : hM} {H : Heap} {locs : List Loc} {ls : Array Slot} {cells slots : Nat} (l0b26 : Nat) (l1b26 : Int32) (l2b26 : Int32) (l3b26 : UInt64) (s0b26 : Int32) (hc : cells ≤ 0) (hs : slots ≤ 0) (h : wp_Ha_arrive_26 G ca post xp M l0b26 l1b26 l2b26 l3b26 s0b26) (hW : hw D wCl A M H) (hS : va_S A s.heap H locs) (hl : lv_has ls 9 [(0, .ref l0b26), (1, .int l1b26), (2, .int l2b26), (3, .double l3b26)]) : W p l e rm_Ha_arrive s m args below meth c H locs cells slots (vx_MQ below (va_Qi post (fun M' t => hw D wCl A M' t.heap) A) (hX D xp A) args s 5 46 A) (F0 m 26 ls [.int s0b26]) := by
  obtain ⟨hx, hb, hr, hml, hown, hts, hlocks, hK, hA, hZ0⟩ := id C0
  have h9 := h
  clear h
  have hF := hW.free hS hA
  refine vx_callv (vx_runS (As := [.int s0b26]) (rest := []) ⟨hx, hb, hml, hown, hts⟩ (c_Ha_require hl0 _ _ h9) (va_cwS 1 hts (gi_S bw_132 bw_133 bw_1 bw_134) rfl rfl rfl (by decide +kernel) ⟨Nat.le_of_ble_eq_true rfl, Nat.le_of_ble_eq_true rfl⟩) ⟨hI.blind, hI.give hW hS hA hK hZ0⟩ rfl rfl hl.1 rfl (lv_room (Nat.le_of_ble_eq_true rfl)) d_Ha_arrive_26 ⟨(show _ ≤ 5 by omega), (show _ ≤ 46 by omega)⟩) hS (fun q _ z => hF q z) hF (fun q _ z => hF q z) (fun E ce q9 M9 t H locs ht _ _ h8 _ _ hS hce hcv hcl => hq_out hout hlocks (hw_back hF ht h8.2) hS h8.1 hce hcv hcl (by omega) (by omega)) (fun M70 t H locs ht _ h hB1 _ _ hS => ?_)
  have hW := hw_back hF ht hB1
  clear h9
  refine lv_aload_n hx hb d_Ha_arrive_29 rfl (lv_at hl 0 rfl) ?_
  refine lv_iload_n hx hb d_Ha_arrive_30 rfl (lv_at hl 2 rfl) ?_
  obtain ⟨⟨fs, h1⟩, h⟩ := h
  have h9 := h
  clear h
  have hF := hW.free hS hA
  refine hx_callq (vx_runV (As := [.int l2b26]) (rest := []) ⟨hx, hb, hml, hown, hts⟩ (c_Ha_presentChannel hl0 _ _ h9) (cwV 1 hts (gi_V bw_309 bw_311 bs_1 bw_1 bw_312) rfl rfl rfl (by decide +kernel) ⟨Nat.le_of_ble_eq_true rfl, Nat.le_of_ble_eq_true rfl⟩) ⟨hI.blind, hw_recv hK hW h1 rfl, hI.give hW hS hA hK hZ0⟩ rfl rfl hl.1 rfl (lv_room (Nat.le_of_ble_eq_true rfl)) d_Ha_arrive_31 ⟨(show _ ≤ 5 by omega), (show _ ≤ 46 by omega)⟩) hS (fun q _ z => hF q z) hF (fun q _ z => hF q z) (fun E ce q9 M9 t H locs ht _ _ h8 _ _ hS hce hcv hcl => hq_out hout hlocks (hw_back hF ht h8.2) hS h8.1 hce hcv hcl (by omega) (by omega)) (fun r71 M72 t H locs ht _ h hB1 _ _ hS => ?_)
  have hW := hw_back hF ht hB1
  clear h9
  refine lq_store (lv' := [(5, va_rf r71), (0, .ref l0b26), (1, .int l1b26), (2, .int l2b26), (3, .double l3b26)]) hx hb d_Ha_arrive_34 hl (by decide) rfl (fun ls hl => ?_)
  refine lv_aload_n hx hb d_Ha_arrive_36 rfl (lv_at hl 1 rfl) ?_
  refine lv_iload_n hx hb d_Ha_arrive_37 rfl (lv_at hl 2 rfl) ?_
  obtain ⟨⟨fs, h1⟩, h⟩ := h
  have h9 := h
  clear h
  have hF := hW.free hS hA
  refine hx_callq (vx_runV (As := [.int l1b26]) (rest := []) ⟨hx, hb, hml, hown, hts⟩ (c_Ha_runningWorker hl0 _ _ h9) (cwV 1 hts (gi_V bw_328 bw_330 bs_2 bw_1 bw_331) rfl rfl rfl (by decide +kernel) ⟨Nat.le_of_ble_eq_true rfl, Nat.le_of_ble_eq_true rfl⟩) ⟨hI.blind, hw_recv hK hW h1 rfl, hI.give hW hS hA hK hZ0⟩ rfl rfl hl.1 rfl (lv_room (Nat.le_of_ble_eq_true rfl)) d_Ha_arrive_38 ⟨(show _ ≤ 5 by omega), (show _ ≤ 46 by omega)⟩) hS (fun q _ z => hF q z) hF (fun q _ z => hF q z) (fun E ce q9 M9 t H locs ht _ _ h8 _ _ hS hce hcv hcl => hq_out hout hlocks (hw_back hF ht h8.2) hS h8.1 hce hcv hcl (by omega) (by omega)) (fun r73 M74 t H locs ht _ h hB1 _ _ hS => ?_)
  have hW := hw_back hF ht hB1
  clear h9
  refine lq_store (lv' := [(6, va_rf r73), (5, va_rf r71), (0, .ref l0b26), (1, .int l1b26), (2, .int l2b26), (3, .double l3b26)]) hx hb d_Ha_arrive_41 hl (by decide) (by cases r71 <;> rfl) (fun ls hl => ?_)
  refine lq_load hx hb d_Ha_arrive_43 (lv_at hl 1 rfl) ?_
  obtain ⟨b75, rfl, h⟩ := h
  obtain ⟨fs, v76, h1, h2, h⟩ := h
  refine va_get (D := D) (ci := 0) (v := .int v76) (C := "ChannelHall$Channel") (T := TCh) (N := 10) hx hb hts uCh hown hK (hw_one hW h1) 0 rfl rfl 1 (by decide) (hts _ bw_254) (fun _ h9 => h9) h2 d_Ha_arrive_45 ?_
  refine lv_bipush (v := 6) hx hb d_Ha_arrive_48 (by decide) ?_
  obtain ⟨h0, h1⟩ := h
  refine lv_icmp_ne (tgt := 57) hx hb d_Ha_arrive_50 (by decide) (fun c77 => ?_) (fun c77 => ?_)
  · have h := h0 c77
    refine lv_iconst (v := 0) hx hb d_Ha_arrive_57 (by decide) ?_
    exact l_Ha_arrive_58 C0 hl0 hout l0b26 l3b26 b75 r73 0 (by omega) (by omega) h hW hS (lv_sub hl [2, 5, 1, 0] rfl)
  · have h := h1 c77
    refine lv_iconst (v := 1) hx hb d_Ha_arrive_53 (by decide) ?_
    refine lv_goto (tgt := 58) hx hb d_Ha_arrive_54 (by decide) ?_
    exact l_Ha_arrive_58 C0 hl0 hout l0b26 l3b26 b75 r73 1 (by omega) (by omega) h hW hS (lv_sub hl [2, 5, 1, 0] rfl)
set_option maxHeartbeats 1000000 in
set_option maxRecDepth 20000 in
theorem l_Ha_arrive_25 {p : Program} {l : Launch} {e : Env} {s : State} {m : MethodId} {args : Array Value} {below : List Frame} {meth : Method} {c : Code} {D : va_G} {ca G : Nat → Nat} {A : Nat → Prop} (C0 : hC p s m args meth c D ca G prog_1_method_6_code 9 (some .int) "ChannelHall" A) (hl0 : l.stackTraces = false) (hout : ∀ x ∈ c.exceptionTable.toList, False) {post : Int32 → hM → Prop} {xp : String → hM → Prop} {M : hM} {H : Heap} {locs : List Loc} {ls : Array Slot} {cells slots : Nat} (l0b25 : Nat) (l1b25 : Int32) (l2b25 : Int32) (l3b25 : UInt64) (hc : cells ≤ 0) (hs : slots ≤ 0) (h : wp_Ha_arrive_25 G ca post xp M l0b25 l1b25 l2b25 l3b25) (hW : hw D wCl A M H) (hS : va_S A s.heap H locs) (hl : lv_has ls 9 [(0, .ref l0b25), (1, .int l1b25), (2, .int l2b25), (3, .double l3b25)]) : W p l e rm_Ha_arrive s m args below meth c H locs cells slots (vx_MQ below (va_Qi post (fun M' t => hw D wCl A M' t.heap) A) (hX D xp A) args s 5 46 A) (F0 m 25 ls []) := by
  obtain ⟨hx, hb, hr, hml, hown, hts, hlocks, hK, hA, hZ0⟩ := id C0
  refine lv_iconst (v := 0) hx hb d_Ha_arrive_25 (by decide) ?_
  exact l_Ha_arrive_26 C0 hl0 hout l0b25 l1b25 l2b25 l3b25 0 (by omega) (by omega) h hW hS (lv_sub hl [0, 1, 2, 3] rfl)
set_option maxHeartbeats 1000000 in
set_option maxRecDepth 20000 in
theorem l_Ha_arrive_e {p : Program} {l : Launch} {e : Env} {s : State} {m : MethodId} {args : Array Value} {below : List Frame} {meth : Method} {c : Code} {D : va_G} {ca G : Nat → Nat} {A : Nat → Prop} (C0 : hC p s m args meth c D ca G prog_1_method_6_code 9 (some .int) "ChannelHall" A) (hl0 : l.stackTraces = false) (hout : ∀ x ∈ c.exceptionTable.toList, False) {post : Int32 → hM → Prop} {xp : String → hM → Prop} {M : hM} {H : Heap} {locs : List Loc} {ls : Array Slot} {cells slots : Nat} (a0 : Nat) (x1 : Int32) (x2 : Int32) (x3 : UInt64) (hc : cells ≤ 0) (hs : slots ≤ 0) (h : wp_Ha_arrive G ca post xp M a0 x1 x2 x3) (hW : hw D wCl A M H) (hS : va_S A s.heap H locs) (hl : lv_has ls 9 [(0, .ref a0), (1, .int x1), (2, .int x2), (3, .double x3)]) : W p l e rm_Ha_arrive s m args below meth c H locs cells slots (vx_MQ below (va_Qi post (fun M' t => hw D wCl A M' t.heap) A) (hX D xp A) args s 5 46 A) (F0 m 0 ls []) := by
  obtain ⟨hx, hb, hr, hml, hown, hts, hlocks, hK, hA, hZ0⟩ := id C0
  refine lv_iload_n hx hb d_Ha_arrive_0 rfl (lv_at hl 1 rfl) ?_
  have h9 := h
  clear h
  have hF := hW.free hS hA
  refine va_calli (va_runS (As := [.int x1]) (rest := []) ⟨hx, hb, hml, hown, hts⟩ (c_Ha_isThread _ h9) (va_cwS 1 hts (gi_S bw_300 bw_301 bw_1 bw_302) rfl rfl rfl (by decide +kernel) ⟨Nat.le_of_ble_eq_true rfl, Nat.le_of_ble_eq_true rfl⟩) ⟨hI.blind, hI.give hW hS hA hK hZ0⟩ rfl rfl hl.1 rfl (lv_room (Nat.le_of_ble_eq_true rfl)) d_Ha_arrive_1 ⟨(show _ ≤ 5 by omega), (show _ ≤ 46 by omega)⟩) hS (fun q _ z => hF q z) hF (fun r78 M79 t H locs ht _ h hB1 _ _ hS => ?_)
  have hW := hw_back hF ht hB1
  clear h9
  obtain ⟨h0, h1⟩ := h
  refine lv_if_eq (tgt := 25) hx hb d_Ha_arrive_4 (by decide) (fun c80 => ?_) (fun c80 => ?_)
  · have h := h0 c80
    exact l_Ha_arrive_25 C0 hl0 hout a0 x1 x2 x3 (by omega) (by omega) h hW hS (lv_sub hl [0, 1, 2, 3] rfl)
  · have h := h1 c80
    refine lv_iload_n hx hb d_Ha_arrive_7 rfl (lv_at hl 2 rfl) ?_
    have h9 := h
    clear h
    have hF := hW.free hS hA
    refine va_calli (va_runS (As := [.int x2]) (rest := []) ⟨hx, hb, hml, hown, hts⟩ (c_Ha_isChannel _ h9) (va_cwS 1 hts (gi_S bw_126 bw_127 bw_1 bw_128) rfl rfl rfl (by decide +kernel) ⟨Nat.le_of_ble_eq_true rfl, Nat.le_of_ble_eq_true rfl⟩) ⟨hI.blind, hI.give hW hS hA hK hZ0⟩ rfl rfl hl.1 rfl (lv_room (Nat.le_of_ble_eq_true rfl)) d_Ha_arrive_8 ⟨(show _ ≤ 5 by omega), (show _ ≤ 46 by omega)⟩) hS (fun q _ z => hF q z) hF (fun r81 M82 t H locs ht _ h hB1 _ _ hS => ?_)
    have hW := hw_back hF ht hB1
    clear h9
    obtain ⟨h0, h1⟩ := h
    refine lv_if_eq (tgt := 25) hx hb d_Ha_arrive_11 (by decide) (fun c83 => ?_) (fun c83 => ?_)
    · have h := h0 c83
      exact l_Ha_arrive_25 C0 hl0 hout a0 x1 x2 x3 (by omega) (by omega) h hW hS (lv_sub hl [0, 1, 2, 3] rfl)
    · have h := h1 c83
      refine lv_dload_n hx hb d_Ha_arrive_14 rfl (lv_at hl 3 rfl) ?_
      have h9 := h
      clear h
      have hF := hW.free hS hA
      refine va_calli (va_runS (As := [.double x3]) (rest := []) ⟨hx, hb, hml, hown, hts⟩ (c_Ha_isLimit _ h9) (va_cwS 1 hts (gi_S bw_305 bw_306 bw_1 bw_307) rfl rfl rfl (by decide +kernel) ⟨Nat.le_of_ble_eq_true rfl, Nat.le_of_ble_eq_true rfl⟩) ⟨hI.blind, hI.give hW hS hA hK hZ0⟩ rfl rfl hl.1 rfl (lv_room (Nat.le_of_ble_eq_true rfl)) d_Ha_arrive_15 ⟨(show _ ≤ 5 by omega), (show _ ≤ 46 by omega)⟩) hS (fun q _ z => hF q z) hF (fun r84 M85 t H locs ht _ h hB1 _ _ hS => ?_)
      have hW := hw_back hF ht hB1
      clear h9
      obtain ⟨h0, h1⟩ := h
      refine lv_if_eq (tgt := 25) hx hb d_Ha_arrive_18 (by decide) (fun c86 => ?_) (fun c86 => ?_)
      · have h := h0 c86
        exact l_Ha_arrive_25 C0 hl0 hout a0 x1 x2 x3 (by omega) (by omega) h hW hS (lv_sub hl [0, 1, 2, 3] rfl)
      · have h := h1 c86
        refine lv_iconst (v := 1) hx hb d_Ha_arrive_21 (by decide) ?_
        refine lv_goto (tgt := 26) hx hb d_Ha_arrive_22 (by decide) ?_
        exact l_Ha_arrive_26 C0 hl0 hout a0 x1 x2 x3 1 (by omega) (by omega) h hW hS (lv_sub hl [0, 1, 2, 3] rfl)
set_option maxRecDepth 20000 in
theorem c_Ha_arrive {l : Launch} (hl0 : l.stackTraces = false) {D : va_G} {ca G : Nat → Nat} (post : Int32 → hM → Prop) (xp : String → hM → Prop) {M : hM} {sz : Nat} {a0 : Nat} {x1 : Int32} {x2 : Int32} {x3 : UInt64} (h : wp_Ha_arrive G ca post xp M a0 x1 x2 x3) : vx_Met l y_Ha_arrive (wz y_Ha_arrive prog_1_method_6_code 9 (some .int)) rm_Ha_arrive (va_Pc [.ref a0, .int x1, .int x2, .double x3] (hI D ca G sz M)) (va_Qi post (hB D M sz) (hp_A M sz)) (hX D xp (hp_A M sz)) 5 46 (hp_A M sz) := by
  refine vx_ofW (cc := prog_1_method_6_code) (maxL := 9) (ret := some .int) (by decide) rfl ?_
  intro p e s m args below meth c s₁ B hml hout hv
  obtain ⟨rfl, hsz, hW, hK, hZ0⟩ := hv
  have hts := fun w hw => atoms_spec (ws := wz y_Ha_arrive prog_1_method_6_code 9 (some .int)) B.pre w (List.mem_cons_of_mem _ hw)
  have hown : s.vm.findClass "ChannelHall" = some m.cls := findClass_of_methodNamed B.named
  subst hsz
  have hl := lv_entry [.ref a0, .int x1, .int x2, .double x3] (n := 9) (Nat.le_of_ble_eq_true rfl)
  rw [lg_entry_eq]
  exact l_Ha_arrive_e ⟨B.exec, B.bytes, B.returns, hml, hown, hts, B.notSynchronized, hK, fun q h => Or.inr h, hZ0⟩ hl0 hout a0 x1 x2 x3 (Nat.zero_le _) (Nat.zero_le _) h hW va_S.rf hl

theorem d_Ha_reset_0 : decode prog_1_method_7_code 0 = .ok (.iload_n 1, 1) := by decide +kernel
theorem d_Ha_reset_1 : decode prog_1_method_7_code 1 = .ok (.invokestatic 32, 3) := by decide +kernel
theorem d_Ha_reset_4 : decode prog_1_method_7_code 4 = .ok (.invokestatic 40, 3) := by decide +kernel
theorem d_Ha_reset_7 : decode prog_1_method_7_code 7 = .ok (.aload_n 0, 1) := by decide +kernel
theorem d_Ha_reset_8 : decode prog_1_method_7_code 8 = .ok (.iload_n 1, 1) := by decide +kernel
theorem d_Ha_reset_9 : decode prog_1_method_7_code 9 = .ok (.invokevirtual 61, 3) := by decide +kernel
theorem d_Ha_reset_12 : decode prog_1_method_7_code 12 = .ok (.astore_n 2, 1) := by decide +kernel
theorem d_Ha_reset_13 : decode prog_1_method_7_code 13 = .ok (.aload_n 2, 1) := by decide +kernel
theorem d_Ha_reset_14 : decode prog_1_method_7_code 14 = .ok (.getfield 122, 3) := by decide +kernel
theorem d_Ha_reset_17 : decode prog_1_method_7_code 17 = .ok (.bipush 6, 2) := by decide +kernel
theorem d_Ha_reset_19 : decode prog_1_method_7_code 19 = .ok (.if_icmp .ne 7, 3) := by decide +kernel
theorem d_Ha_reset_22 : decode prog_1_method_7_code 22 = .ok (.iconst 1, 1) := by decide +kernel
theorem d_Ha_reset_23 : decode prog_1_method_7_code 23 = .ok (.goto 4, 3) := by decide +kernel
theorem d_Ha_reset_26 : decode prog_1_method_7_code 26 = .ok (.iconst 0, 1) := by decide +kernel
theorem d_Ha_reset_27 : decode prog_1_method_7_code 27 = .ok (.invokestatic 73, 3) := by decide +kernel
theorem d_Ha_reset_30 : decode prog_1_method_7_code 30 = .ok (.aload_n 2, 1) := by decide +kernel
theorem d_Ha_reset_31 : decode prog_1_method_7_code 31 = .ok (.getfield 152, 3) := by decide +kernel
theorem d_Ha_reset_34 : decode prog_1_method_7_code 34 = .ok (.invokevirtual 156, 3) := by decide +kernel
theorem d_Ha_reset_37 : decode prog_1_method_7_code 37 = .ok (.istore_n 3, 1) := by decide +kernel
theorem d_Ha_reset_38 : decode prog_1_method_7_code 38 = .ok (.aload_n 2, 1) := by decide +kernel
theorem d_Ha_reset_39 : decode prog_1_method_7_code 39 = .ok (.iconst 4, 1) := by decide +kernel
theorem d_Ha_reset_40 : decode prog_1_method_7_code 40 = .ok (.invokevirtual 165, 3) := by decide +kernel
theorem d_Ha_reset_43 : decode prog_1_method_7_code 43 = .ok (.aload_n 2, 1) := by decide +kernel
theorem d_Ha_reset_44 : decode prog_1_method_7_code 44 = .ok (.iconst 0, 1) := by decide +kernel
theorem d_Ha_reset_45 : decode prog_1_method_7_code 45 = .ok (.putfield 142, 3) := by decide +kernel
theorem d_Ha_reset_48 : decode prog_1_method_7_code 48 = .ok (.iload_n 3, 1) := by decide +kernel
theorem d_Ha_reset_49 : decode prog_1_method_7_code 49 = .ok (.ireturn, 1) := by decide +kernel
def y_Ha_reset : MethodName := ⟨"ChannelHall", "reset", "(I)I"⟩
abbrev rm_Ha_reset : Room := { frames := 7, cells := 3, slots := 18, locals := 103 }
def wp_Ha_reset_27 (G ca : Nat → Nat) (post : Int32 → hM → Prop) (xp : String → hM → Prop) (M : hM) (l2b27 : Nat) (s0b27 : Int32) : Prop := wp_Ha_requireKind G ca (fun M16 => gR M16 l2b27 0 5 fun v17 => nN v17 fun b18 => rC M16 b18 4 (wp_Al_size G ca (fun r19 M20 => rC M20 l2b27 0 (wp_Ch_releaseAll G ca (fun M21 => pF M21 l2b27 0 6 (.int 0) fun M22 => post r19 M22) M20 l2b27 4)) M16 b18)) xp M s0b27
def wp_Ha_reset (G ca : Nat → Nat) (post : Int32 → hM → Prop) (xp : String → hM → Prop) (M : hM) (a0 : Nat) (x1 : Int32) : Prop := wp_Ha_isChannel G ca (fun r23 M24 => wp_Ha_require G ca (fun M25 => rC M25 a0 3 (wp_Ha_presentChannel G ca (fun r26 M27 => nN r26 fun b28 => gI M27 b28 0 1 fun v29 => (¬ v29 = 6 → wp_Ha_reset_27 G ca post xp M27 b28 0) ∧ (v29 = 6 → wp_Ha_reset_27 G ca post xp M27 b28 1)) xp M25 a0 x1)) xp M24 r23) M x1
set_option maxHeartbeats 1000000 in
set_option maxRecDepth 20000 in
theorem l_Ha_reset_27 {p : Program} {l : Launch} {e : Env} {s : State} {m : MethodId} {args : Array Value} {below : List Frame} {meth : Method} {c : Code} {D : va_G} {ca G : Nat → Nat} {A : Nat → Prop} (C0 : hC p s m args meth c D ca G prog_1_method_7_code 4 (some .int) "ChannelHall" A) (hl0 : l.stackTraces = false) (hout : ∀ x ∈ c.exceptionTable.toList, False) {post : Int32 → hM → Prop} {xp : String → hM → Prop} {M : hM} {H : Heap} {locs : List Loc} {ls : Array Slot} {cells slots : Nat} (l2b27 : Nat) (s0b27 : Int32) (hc : cells ≤ 2) (hs : slots ≤ 12) (h : wp_Ha_reset_27 G ca post xp M l2b27 s0b27) (hW : hw D wCl A M H) (hS : va_S A s.heap H locs) (hl : lv_has ls 4 [(2, .ref l2b27)]) : W p l e rm_Ha_reset s m args below meth c H locs cells slots (vx_MQ below (va_Qi post (fun M' t => hw D wCl A M' t.heap) A) (hX D xp A) args s 3 18 A) (F0 m 27 ls [.int s0b27]) := by
  obtain ⟨hx, hb, hr, hml, hown, hts, hlocks, hK, hA, hZ0⟩ := id C0
  have h9 := h
  clear h
  have hF := hW.free hS hA
  refine vx_callv (vx_runS (As := [.int s0b27]) (rest := []) ⟨hx, hb, hml, hown, hts⟩ (c_Ha_requireKind hl0 _ _ h9) (va_cwS 1 hts (gi_S bw_336 bw_337 bw_1 bw_338) rfl rfl rfl (by decide +kernel) ⟨Nat.le_of_ble_eq_true rfl, Nat.le_of_ble_eq_true rfl⟩) ⟨hI.blind, hI.give hW hS hA hK hZ0⟩ rfl rfl hl.1 rfl (lv_room (Nat.le_of_ble_eq_true rfl)) d_Ha_reset_27 ⟨(show _ ≤ 3 by omega), (show _ ≤ 18 by omega)⟩) hS (fun q _ z => hF q z) hF (fun q _ z => hF q z) (fun E ce q9 M9 t H locs ht _ _ h8 _ _ hS hce hcv hcl => hq_out hout hlocks (hw_back hF ht h8.2) hS h8.1 hce hcv hcl (by omega) (by omega)) (fun M16 t H locs ht _ h hB1 _ _ hS => ?_)
  have hW := hw_back hF ht hB1
  clear h9
  refine lv_aload_n hx hb d_Ha_reset_30 rfl (lv_at hl 0 rfl) ?_
  obtain ⟨fs, v17, h1, h2, h⟩ := h
  refine va_get (D := D) (ci := 0) (v := va_rf v17) (C := "ChannelHall$Channel") (T := TCh) (N := 10) hx hb hts uCh hown hK (hw_one hW h1) 0 rfl rfl 5 (by decide) (hts _ bw_261) (fun _ h9 => h9) h2 d_Ha_reset_31 ?_
  obtain ⟨b18, rfl, h⟩ := h
  obtain ⟨⟨fs, h1⟩, h⟩ := h
  have h9 := h
  clear h
  have hF := hW.free hS hA
  refine va_calli (va_runV (As := []) (rest := []) ⟨hx, hb, hml, hown, hts⟩ (c_Al_size _ h9) (cwV 0 hts (gi_V bw_873 bw_377 bw_378 bw_14 bw_379) rfl rfl rfl (by decide +kernel) ⟨Nat.le_of_ble_eq_true rfl, Nat.le_of_ble_eq_true rfl⟩) ⟨hI.blind, hw_recv hK hW h1 rfl, hI.give hW hS hA hK hZ0⟩ rfl rfl hl.1 rfl (lv_room (Nat.le_of_ble_eq_true rfl)) d_Ha_reset_34 ⟨(show _ ≤ 3 by omega), (show _ ≤ 18 by omega)⟩) hS (fun q _ z => hF q z) hF (fun r19 M20 t H locs ht _ h hB1 _ _ hS => ?_)
  have hW := hw_back hF ht hB1
  clear h9
  refine lv_istore_n (lv' := [(3, .int r19), (2, .ref l2b27)]) hx hb d_Ha_reset_37 rfl hl (by decide) rfl (fun ls hl => ?_)
  refine lv_aload_n hx hb d_Ha_reset_38 rfl (lv_at hl 1 rfl) ?_
  refine lv_iconst (v := 4) hx hb d_Ha_reset_39 (by decide) ?_
  obtain ⟨⟨fs, h1⟩, h⟩ := h
  have h9 := h
  clear h
  have hF := hW.free hS hA
  refine va_callv (va_runV (As := [.int 4]) (rest := []) ⟨hx, hb, hml, hown, hts⟩ (c_Ch_releaseAll _ h9) (cwV 1 hts (gi_V bw_874 bw_866 bw_867 bw_11 bw_868) rfl rfl rfl (by decide +kernel) ⟨Nat.le_of_ble_eq_true rfl, Nat.le_of_ble_eq_true rfl⟩) ⟨hI.blind, hw_recv hK hW h1 rfl, hI.give hW hS hA hK hZ0⟩ rfl rfl hl.1 rfl (lv_room (Nat.le_of_ble_eq_true rfl)) d_Ha_reset_40 ⟨(show _ ≤ 3 by omega), (show _ ≤ 18 by omega)⟩) hS (fun q _ z => hF q z) hF (fun M21 t H locs ht _ h hB1 _ _ hS => ?_)
  have hW := hw_back hF ht hB1
  clear h9
  refine lv_aload_n hx hb d_Ha_reset_43 rfl (lv_at hl 1 rfl) ?_
  refine lv_iconst (v := 0) hx hb d_Ha_reset_44 (by decide) ?_
  obtain ⟨fs, h1, h2, h⟩ := h
  obtain ⟨ws, q0, hq, hP, hD, hback, -⟩ := hw_open hW h1
  refine va_put (D := D) (ci := 0) (v := .int 0) (ty := .boolean) (C := "ChannelHall$Channel") (T := TCh) (N := 10) hx hb hts uCh tCh tCh_ok nCh hown hK hP hD hS q0 hq rfl 6 (by decide) (hts _ bw_263) (fun _ h9 => h9) rfl (by decide +kernel) (by decide) (by decide) h2 d_Ha_reset_45 (fun H locs hP hD hS => ?_)
  have hW := hback _ _ hP hD
  generalize (va_up M21 l2b27 (some (.inr (0, fs.set 6 (.int 0))))) = M22 at h hW
  refine lv_iload_n hx hb d_Ha_reset_48 rfl (lv_at hl 0 rfl) ?_
  refine W.widen (k := 3) (n := 18) (by omega) (by omega) ?_
  exact vx_ret (W.iret hx hb hr (fun t ht hWm => ⟨⟨_, _, rfl, h, hw_t ht hW⟩, hS.F ht⟩) hS.2.2 d_Ha_reset_49)
set_option maxHeartbeats 1000000 in
set_option maxRecDepth 20000 in
theorem l_Ha_reset_e {p : Program} {l : Launch} {e : Env} {s : State} {m : MethodId} {args : Array Value} {below : List Frame} {meth : Method} {c : Code} {D : va_G} {ca G : Nat → Nat} {A : Nat → Prop} (C0 : hC p s m args meth c D ca G prog_1_method_7_code 4 (some .int) "ChannelHall" A) (hl0 : l.stackTraces = false) (hout : ∀ x ∈ c.exceptionTable.toList, False) {post : Int32 → hM → Prop} {xp : String → hM → Prop} {M : hM} {H : Heap} {locs : List Loc} {ls : Array Slot} {cells slots : Nat} (a0 : Nat) (x1 : Int32) (hc : cells ≤ 0) (hs : slots ≤ 0) (h : wp_Ha_reset G ca post xp M a0 x1) (hW : hw D wCl A M H) (hS : va_S A s.heap H locs) (hl : lv_has ls 4 [(0, .ref a0), (1, .int x1)]) : W p l e rm_Ha_reset s m args below meth c H locs cells slots (vx_MQ below (va_Qi post (fun M' t => hw D wCl A M' t.heap) A) (hX D xp A) args s 3 18 A) (F0 m 0 ls []) := by
  obtain ⟨hx, hb, hr, hml, hown, hts, hlocks, hK, hA, hZ0⟩ := id C0
  refine lv_iload_n hx hb d_Ha_reset_0 rfl (lv_at hl 1 rfl) ?_
  have h9 := h
  clear h
  have hF := hW.free hS hA
  refine va_calli (va_runS (As := [.int x1]) (rest := []) ⟨hx, hb, hml, hown, hts⟩ (c_Ha_isChannel _ h9) (va_cwS 1 hts (gi_S bw_126 bw_127 bw_1 bw_128) rfl rfl rfl (by decide +kernel) ⟨Nat.le_of_ble_eq_true rfl, Nat.le_of_ble_eq_true rfl⟩) ⟨hI.blind, hI.give hW hS hA hK hZ0⟩ rfl rfl hl.1 rfl (lv_room (Nat.le_of_ble_eq_true rfl)) d_Ha_reset_1 ⟨(show _ ≤ 3 by omega), (show _ ≤ 18 by omega)⟩) hS (fun q _ z => hF q z) hF (fun r23 M24 t H locs ht _ h hB1 _ _ hS => ?_)
  have hW := hw_back hF ht hB1
  clear h9
  have h9 := h
  clear h
  have hF := hW.free hS hA
  refine vx_callv (vx_runS (As := [.int r23]) (rest := []) ⟨hx, hb, hml, hown, hts⟩ (c_Ha_require hl0 _ _ h9) (va_cwS 1 hts (gi_S bw_132 bw_133 bw_1 bw_134) rfl rfl rfl (by decide +kernel) ⟨Nat.le_of_ble_eq_true rfl, Nat.le_of_ble_eq_true rfl⟩) ⟨hI.blind, hI.give hW hS hA hK hZ0⟩ rfl rfl hl.1 rfl (lv_room (Nat.le_of_ble_eq_true rfl)) d_Ha_reset_4 ⟨(show _ ≤ 3 by omega), (show _ ≤ 18 by omega)⟩) hS (fun q _ z => hF q z) hF (fun q _ z => hF q z) (fun E ce q9 M9 t H locs ht _ _ h8 _ _ hS hce hcv hcl => hq_out hout hlocks (hw_back hF ht h8.2) hS h8.1 hce hcv hcl (by omega) (by omega)) (fun M25 t H locs ht _ h hB1 _ _ hS => ?_)
  have hW := hw_back hF ht hB1
  clear h9
  refine lv_aload_n hx hb d_Ha_reset_7 rfl (lv_at hl 0 rfl) ?_
  refine lv_iload_n hx hb d_Ha_reset_8 rfl (lv_at hl 1 rfl) ?_
  obtain ⟨⟨fs, h1⟩, h⟩ := h
  have h9 := h
  clear h
  have hF := hW.free hS hA
  refine hx_callq (vx_runV (As := [.int x1]) (rest := []) ⟨hx, hb, hml, hown, hts⟩ (c_Ha_presentChannel hl0 _ _ h9) (cwV 1 hts (gi_V bw_309 bw_311 bs_1 bw_1 bw_312) rfl rfl rfl (by decide +kernel) ⟨Nat.le_of_ble_eq_true rfl, Nat.le_of_ble_eq_true rfl⟩) ⟨hI.blind, hw_recv hK hW h1 rfl, hI.give hW hS hA hK hZ0⟩ rfl rfl hl.1 rfl (lv_room (Nat.le_of_ble_eq_true rfl)) d_Ha_reset_9 ⟨(show _ ≤ 3 by omega), (show _ ≤ 18 by omega)⟩) hS (fun q _ z => hF q z) hF (fun q _ z => hF q z) (fun E ce q9 M9 t H locs ht _ _ h8 _ _ hS hce hcv hcl => hq_out hout hlocks (hw_back hF ht h8.2) hS h8.1 hce hcv hcl (by omega) (by omega)) (fun r26 M27 t H locs ht _ h hB1 _ _ hS => ?_)
  have hW := hw_back hF ht hB1
  clear h9
  refine lq_store_n (lv' := [(2, va_rf r26), (0, .ref a0), (1, .int x1)]) hx hb d_Ha_reset_12 rfl hl (by decide) rfl (fun ls hl => ?_)
  refine lq_load_n hx hb d_Ha_reset_13 rfl (lv_at hl 0 rfl) ?_
  obtain ⟨b28, rfl, h⟩ := h
  obtain ⟨fs, v29, h1, h2, h⟩ := h
  refine va_get (D := D) (ci := 0) (v := .int v29) (C := "ChannelHall$Channel") (T := TCh) (N := 10) hx hb hts uCh hown hK (hw_one hW h1) 0 rfl rfl 1 (by decide) (hts _ bw_254) (fun _ h9 => h9) h2 d_Ha_reset_14 ?_
  refine lv_bipush (v := 6) hx hb d_Ha_reset_17 (by decide) ?_
  obtain ⟨h0, h1⟩ := h
  refine lv_icmp_ne (tgt := 26) hx hb d_Ha_reset_19 (by decide) (fun c30 => ?_) (fun c30 => ?_)
  · have h := h0 c30
    refine lv_iconst (v := 0) hx hb d_Ha_reset_26 (by decide) ?_
    exact l_Ha_reset_27 C0 hl0 hout b28 0 (by omega) (by omega) h hW hS (lv_sub hl [0] rfl)
  · have h := h1 c30
    refine lv_iconst (v := 1) hx hb d_Ha_reset_22 (by decide) ?_
    refine lv_goto (tgt := 27) hx hb d_Ha_reset_23 (by decide) ?_
    exact l_Ha_reset_27 C0 hl0 hout b28 1 (by omega) (by omega) h hW hS (lv_sub hl [0] rfl)
set_option maxRecDepth 20000 in
theorem c_Ha_reset {l : Launch} (hl0 : l.stackTraces = false) {D : va_G} {ca G : Nat → Nat} (post : Int32 → hM → Prop) (xp : String → hM → Prop) {M : hM} {sz : Nat} {a0 : Nat} {x1 : Int32} (h : wp_Ha_reset G ca post xp M a0 x1) : vx_Met l y_Ha_reset (wz y_Ha_reset prog_1_method_7_code 4 (some .int)) rm_Ha_reset (va_Pc [.ref a0, .int x1] (hI D ca G sz M)) (va_Qi post (hB D M sz) (hp_A M sz)) (hX D xp (hp_A M sz)) 3 18 (hp_A M sz) := by
  refine vx_ofW (cc := prog_1_method_7_code) (maxL := 4) (ret := some .int) (by decide) rfl ?_
  intro p e s m args below meth c s₁ B hml hout hv
  obtain ⟨rfl, hsz, hW, hK, hZ0⟩ := hv
  have hts := fun w hw => atoms_spec (ws := wz y_Ha_reset prog_1_method_7_code 4 (some .int)) B.pre w (List.mem_cons_of_mem _ hw)
  have hown : s.vm.findClass "ChannelHall" = some m.cls := findClass_of_methodNamed B.named
  subst hsz
  have hl := lv_entry [.ref a0, .int x1] (n := 4) (Nat.le_of_ble_eq_true rfl)
  rw [lg_entry_eq]
  exact l_Ha_reset_e ⟨B.exec, B.bytes, B.returns, hml, hown, hts, B.notSynchronized, hK, fun q h => Or.inr h, hZ0⟩ hl0 hout a0 x1 (Nat.zero_le _) (Nat.zero_le _) h hW va_S.rf hl

theorem d_Ha_interrupt_0 : decode prog_1_method_8_code 0 = .ok (.iload_n 1, 1) := by decide +kernel
theorem d_Ha_interrupt_1 : decode prog_1_method_8_code 1 = .ok (.invokestatic 50, 3) := by decide +kernel
theorem d_Ha_interrupt_4 : decode prog_1_method_8_code 4 = .ok (.invokestatic 40, 3) := by decide +kernel
theorem d_Ha_interrupt_7 : decode prog_1_method_8_code 7 = .ok (.aload_n 0, 1) := by decide +kernel
theorem d_Ha_interrupt_8 : decode prog_1_method_8_code 8 = .ok (.getfield 11, 3) := by decide +kernel
theorem d_Ha_interrupt_11 : decode prog_1_method_8_code 11 = .ok (.iload_n 1, 1) := by decide +kernel
theorem d_Ha_interrupt_12 : decode prog_1_method_8_code 12 = .ok (.aaload, 1) := by decide +kernel
theorem d_Ha_interrupt_13 : decode prog_1_method_8_code 13 = .ok (.astore_n 2, 1) := by decide +kernel
theorem d_Ha_interrupt_14 : decode prog_1_method_8_code 14 = .ok (.aload_n 2, 1) := by decide +kernel
theorem d_Ha_interrupt_15 : decode prog_1_method_8_code 15 = .ok (.getfield 171, 3) := by decide +kernel
theorem d_Ha_interrupt_18 : decode prog_1_method_8_code 18 = .ok (.ifnonnull 11, 3) := by decide +kernel
theorem d_Ha_interrupt_21 : decode prog_1_method_8_code 21 = .ok (.aload_n 2, 1) := by decide +kernel
theorem d_Ha_interrupt_22 : decode prog_1_method_8_code 22 = .ok (.iconst 1, 1) := by decide +kernel
theorem d_Ha_interrupt_23 : decode prog_1_method_8_code 23 = .ok (.putfield 175, 3) := by decide +kernel
theorem d_Ha_interrupt_26 : decode prog_1_method_8_code 26 = .ok (.goto 9, 3) := by decide +kernel
theorem d_Ha_interrupt_29 : decode prog_1_method_8_code 29 = .ok (.aload_n 0, 1) := by decide +kernel
theorem d_Ha_interrupt_30 : decode prog_1_method_8_code 30 = .ok (.aload_n 2, 1) := by decide +kernel
theorem d_Ha_interrupt_31 : decode prog_1_method_8_code 31 = .ok (.iconst 3, 1) := by decide +kernel
theorem d_Ha_interrupt_32 : decode prog_1_method_8_code 32 = .ok (.invokevirtual 178, 3) := by decide +kernel
theorem d_Ha_interrupt_35 : decode prog_1_method_8_code 35 = .ok (.aload_n 2, 1) := by decide +kernel
theorem d_Ha_interrupt_36 : decode prog_1_method_8_code 36 = .ok (.getfield 181, 3) := by decide +kernel
theorem d_Ha_interrupt_39 : decode prog_1_method_8_code 39 = .ok (.ireturn, 1) := by decide +kernel
def y_Ha_interrupt : MethodName := ⟨"ChannelHall", "interrupt", "(I)I"⟩
abbrev rm_Ha_interrupt : Room := { frames := 10, cells := 13, slots := 156, locals := 247 }
def wp_Ha_interrupt_35 (G ca : Nat → Nat) (post : Int32 → hM → Prop) (xp : String → hM → Prop) (M : hM) (l2b35 : Nat) : Prop := gI M l2b35 2 2 fun v14 => post v14 M
def wp_Ha_interrupt (G ca : Nat → Nat) (post : Int32 → hM → Prop) (xp : String → hM → Prop) (M : hM) (a0 : Nat) (x1 : Int32) : Prop := wp_Ha_isThread G ca (fun r15 M16 => wp_Ha_require G ca (fun M17 => gR M17 a0 3 0 fun v18 => nN v18 fun b19 => aR M17 b19 (ca 0) x1 fun v20 => nN v20 fun b21 => gR M17 b21 2 5 fun v22 => (v22 = none → pF M17 b21 2 1 (.int 1) fun M24 => wp_Ha_interrupt_35 G ca post xp M24 b21) ∧ (∀ b23 : Nat, v22 = some b23 → rC M17 a0 3 (wp_Ha_giveUp G ca (fun M25 => wp_Ha_interrupt_35 G ca post xp M25 b21) M17 a0 (some b21) 3))) xp M16 r15) M x1
set_option maxHeartbeats 1000000 in
set_option maxRecDepth 20000 in
theorem l_Ha_interrupt_35 {p : Program} {l : Launch} {e : Env} {s : State} {m : MethodId} {args : Array Value} {below : List Frame} {meth : Method} {c : Code} {D : va_G} {ca G : Nat → Nat} {A : Nat → Prop} (C0 : hC p s m args meth c D ca G prog_1_method_8_code 3 (some .int) "ChannelHall" A) (hl0 : l.stackTraces = false) (hout : ∀ x ∈ c.exceptionTable.toList, False) {post : Int32 → hM → Prop} {xp : String → hM → Prop} {M : hM} {H : Heap} {locs : List Loc} {ls : Array Slot} {cells slots : Nat} (l2b35 : Nat) (hc : cells ≤ 13) (hs : slots ≤ 156) (h : wp_Ha_interrupt_35 G ca post xp M l2b35) (hW : hw D wCl A M H) (hS : va_S A s.heap H locs) (hl : lv_has ls 3 [(2, .ref l2b35)]) : W p l e rm_Ha_interrupt s m args below meth c H locs cells slots (vx_MQ below (va_Qi post (fun M' t => hw D wCl A M' t.heap) A) (hX D xp A) args s 13 156 A) (F0 m 35 ls []) := by
  obtain ⟨hx, hb, hr, hml, hown, hts, hlocks, hK, hA, hZ0⟩ := id C0
  refine lv_aload_n hx hb d_Ha_interrupt_35 rfl (lv_at hl 0 rfl) ?_
  obtain ⟨fs, v14, h1, h2, h⟩ := h
  refine va_get (D := D) (ci := 2) (v := .int v14) (C := "ChannelHall$Worker") (T := TWo) (N := 11) hx hb hts uWo hown hK (hw_one hW h1) 0 rfl rfl 2 (by decide) (hts _ bw_56) (fun _ h9 => h9) h2 d_Ha_interrupt_36 ?_
  refine W.widen (k := 13) (n := 156) (by omega) (by omega) ?_
  exact vx_ret (W.iret hx hb hr (fun t ht hWm => ⟨⟨_, _, rfl, h, hw_t ht hW⟩, hS.F ht⟩) hS.2.2 d_Ha_interrupt_39)
set_option maxHeartbeats 1000000 in
set_option maxRecDepth 20000 in
theorem l_Ha_interrupt_e {p : Program} {l : Launch} {e : Env} {s : State} {m : MethodId} {args : Array Value} {below : List Frame} {meth : Method} {c : Code} {D : va_G} {ca G : Nat → Nat} {A : Nat → Prop} (C0 : hC p s m args meth c D ca G prog_1_method_8_code 3 (some .int) "ChannelHall" A) (hl0 : l.stackTraces = false) (hout : ∀ x ∈ c.exceptionTable.toList, False) {post : Int32 → hM → Prop} {xp : String → hM → Prop} {M : hM} {H : Heap} {locs : List Loc} {ls : Array Slot} {cells slots : Nat} (a0 : Nat) (x1 : Int32) (hc : cells ≤ 0) (hs : slots ≤ 0) (h : wp_Ha_interrupt G ca post xp M a0 x1) (hW : hw D wCl A M H) (hS : va_S A s.heap H locs) (hl : lv_has ls 3 [(0, .ref a0), (1, .int x1)]) : W p l e rm_Ha_interrupt s m args below meth c H locs cells slots (vx_MQ below (va_Qi post (fun M' t => hw D wCl A M' t.heap) A) (hX D xp A) args s 13 156 A) (F0 m 0 ls []) := by
  obtain ⟨hx, hb, hr, hml, hown, hts, hlocks, hK, hA, hZ0⟩ := id C0
  refine lv_iload_n hx hb d_Ha_interrupt_0 rfl (lv_at hl 1 rfl) ?_
  have h9 := h
  clear h
  have hF := hW.free hS hA
  refine va_calli (va_runS (As := [.int x1]) (rest := []) ⟨hx, hb, hml, hown, hts⟩ (c_Ha_isThread _ h9) (va_cwS 1 hts (gi_S bw_300 bw_301 bw_1 bw_302) rfl rfl rfl (by decide +kernel) ⟨Nat.le_of_ble_eq_true rfl, Nat.le_of_ble_eq_true rfl⟩) ⟨hI.blind, hI.give hW hS hA hK hZ0⟩ rfl rfl hl.1 rfl (lv_room (Nat.le_of_ble_eq_true rfl)) d_Ha_interrupt_1 ⟨(show _ ≤ 13 by omega), (show _ ≤ 156 by omega)⟩) hS (fun q _ z => hF q z) hF (fun r15 M16 t H locs ht _ h hB1 _ _ hS => ?_)
  have hW := hw_back hF ht hB1
  clear h9
  have h9 := h
  clear h
  have hF := hW.free hS hA
  refine vx_callv (vx_runS (As := [.int r15]) (rest := []) ⟨hx, hb, hml, hown, hts⟩ (c_Ha_require hl0 _ _ h9) (va_cwS 1 hts (gi_S bw_132 bw_133 bw_1 bw_134) rfl rfl rfl (by decide +kernel) ⟨Nat.le_of_ble_eq_true rfl, Nat.le_of_ble_eq_true rfl⟩) ⟨hI.blind, hI.give hW hS hA hK hZ0⟩ rfl rfl hl.1 rfl (lv_room (Nat.le_of_ble_eq_true rfl)) d_Ha_interrupt_4 ⟨(show _ ≤ 13 by omega), (show _ ≤ 156 by omega)⟩) hS (fun q _ z => hF q z) hF (fun q _ z => hF q z) (fun E ce q9 M9 t H locs ht _ _ h8 _ _ hS hce hcv hcl => hq_out hout hlocks (hw_back hF ht h8.2) hS h8.1 hce hcv hcl (by omega) (by omega)) (fun M17 t H locs ht _ h hB1 _ _ hS => ?_)
  have hW := hw_back hF ht hB1
  clear h9
  refine lv_aload_n hx hb d_Ha_interrupt_7 rfl (lv_at hl 0 rfl) ?_
  obtain ⟨fs, v18, h1, h2, h⟩ := h
  refine va_get (D := D) (ci := 3) (v := va_rf v18) (C := "ChannelHall") (T := THa) (N := 4) hx hb hts uHa hown hK (hw_one hW h1) 0 rfl rfl 0 (by decide) (hts _ bw_100) (fun _ h9 => h9) h2 d_Ha_interrupt_8 ?_
  refine lv_iload_n hx hb d_Ha_interrupt_11 rfl (lv_at hl 1 rfl) ?_
  obtain ⟨b19, rfl, h⟩ := h
  obtain ⟨n, f, h1, h2, h⟩ := h
  refine va_aldq hx hb hK (hw_one hW h1) 0 0 rfl rfl h2 d_Ha_interrupt_12 ?_
  generalize f (x1).toNatClampNeg = v20 at h ⊢
  refine lq_store_n (lv' := [(2, va_rf v20), (0, .ref a0), (1, .int x1)]) hx hb d_Ha_interrupt_13 rfl hl (by decide) rfl (fun ls hl => ?_)
  refine lq_load_n hx hb d_Ha_interrupt_14 rfl (lv_at hl 0 rfl) ?_
  obtain ⟨b21, rfl, h⟩ := h
  obtain ⟨fs, v22, h1, h2, h⟩ := h
  refine va_get (D := D) (ci := 2) (v := va_rf v22) (C := "ChannelHall$Worker") (T := TWo) (N := 11) hx hb hts uWo hown hK (hw_one hW h1) 0 rfl rfl 5 (by decide) (hts _ bw_63) (fun _ h9 => h9) h2 d_Ha_interrupt_15 ?_
  obtain ⟨h0, h1⟩ := h
  cases v22 with
  | none =>
    have h := h0 rfl
    refine lv_ifnonnullN hx hb d_Ha_interrupt_18 ?_
    refine lv_aload_n hx hb d_Ha_interrupt_21 rfl (lv_at hl 0 rfl) ?_
    refine lv_iconst (v := 1) hx hb d_Ha_interrupt_22 (by decide) ?_
    obtain ⟨fs, h1, h2, h⟩ := h
    obtain ⟨ws, q0, hq, hP, hD, hback, -⟩ := hw_open hW h1
    refine va_put (D := D) (ci := 2) (v := .int 1) (ty := .boolean) (C := "ChannelHall$Worker") (T := TWo) (N := 11) hx hb hts uWo tWo tWo_ok nWo hown hK hP hD hS q0 hq rfl 1 (by decide) (hts _ bw_54) (fun _ h9 => h9) rfl (by decide +kernel) (by decide) (by decide) h2 d_Ha_interrupt_23 (fun H locs hP hD hS => ?_)
    have hW := hback _ _ hP hD
    generalize (va_up M17 b21 (some (.inr (2, fs.set 1 (.int 1))))) = M24 at h hW
    refine lv_goto (tgt := 35) hx hb d_Ha_interrupt_26 (by decide) ?_
    exact l_Ha_interrupt_35 C0 hl0 hout b21 (by omega) (by omega) h hW hS (lv_sub hl [0] rfl)
  | some b23 =>
    have h := h1 b23 rfl
    refine lv_ifnonnull (tgt := 29) hx hb d_Ha_interrupt_18 (by decide) ?_
    refine lv_aload_n hx hb d_Ha_interrupt_29 rfl (lv_at hl 1 rfl) ?_
    refine lv_aload_n hx hb d_Ha_interrupt_30 rfl (lv_at hl 0 rfl) ?_
    refine lv_iconst (v := 3) hx hb d_Ha_interrupt_31 (by decide) ?_
    obtain ⟨⟨fs, h1⟩, h⟩ := h
    have h9 := h
    clear h
    have hF := hW.free hS hA
    refine va_callv (va_runV (As := [.ref b21, .int 3]) (rest := []) ⟨hx, hb, hml, hown, hts⟩ (c_Ha_giveUp _ h9) (cwV 2 hts (gi_V bw_889 bw_891 bs_15 bw_1 bw_892) rfl rfl rfl (by decide +kernel) ⟨Nat.le_of_ble_eq_true rfl, Nat.le_of_ble_eq_true rfl⟩) ⟨hI.blind, hw_recv hK hW h1 rfl, hI.give hW hS hA hK hZ0⟩ rfl rfl hl.1 rfl (lv_room (Nat.le_of_ble_eq_true rfl)) d_Ha_interrupt_32 ⟨(show _ ≤ 13 by omega), (show _ ≤ 156 by omega)⟩) hS (fun q _ z => hF q z) hF (fun M25 t H locs ht _ h hB1 _ _ hS => ?_)
    have hW := hw_back hF ht hB1
    clear h9
    exact l_Ha_interrupt_35 C0 hl0 hout b21 (by omega) (by omega) h hW hS (lv_sub hl [0] rfl)
set_option maxRecDepth 20000 in
theorem c_Ha_interrupt {l : Launch} (hl0 : l.stackTraces = false) {D : va_G} {ca G : Nat → Nat} (post : Int32 → hM → Prop) (xp : String → hM → Prop) {M : hM} {sz : Nat} {a0 : Nat} {x1 : Int32} (h : wp_Ha_interrupt G ca post xp M a0 x1) : vx_Met l y_Ha_interrupt (wz y_Ha_interrupt prog_1_method_8_code 3 (some .int)) rm_Ha_interrupt (va_Pc [.ref a0, .int x1] (hI D ca G sz M)) (va_Qi post (hB D M sz) (hp_A M sz)) (hX D xp (hp_A M sz)) 13 156 (hp_A M sz) := by
  refine vx_ofW (cc := prog_1_method_8_code) (maxL := 3) (ret := some .int) (by decide) rfl ?_
  intro p e s m args below meth c s₁ B hml hout hv
  obtain ⟨rfl, hsz, hW, hK, hZ0⟩ := hv
  have hts := fun w hw => atoms_spec (ws := wz y_Ha_interrupt prog_1_method_8_code 3 (some .int)) B.pre w (List.mem_cons_of_mem _ hw)
  have hown : s.vm.findClass "ChannelHall" = some m.cls := findClass_of_methodNamed B.named
  subst hsz
  have hl := lv_entry [.ref a0, .int x1] (n := 3) (Nat.le_of_ble_eq_true rfl)
  rw [lg_entry_eq]
  exact l_Ha_interrupt_e ⟨B.exec, B.bytes, B.returns, hml, hown, hts, B.notSynchronized, hK, fun q h => Or.inr h, hZ0⟩ hl0 hout a0 x1 (Nat.zero_le _) (Nat.zero_le _) h hW va_S.rf hl

theorem d_Ha_tick_0 : decode prog_1_method_9_code 0 = .ok (.dload_n 1, 1) := by decide +kernel
theorem d_Ha_tick_1 : decode prog_1_method_9_code 1 = .ok (.dconst 0, 1) := by decide +kernel
theorem d_Ha_tick_2 : decode prog_1_method_9_code 2 = .ok (.dcmp .l, 1) := by decide +kernel
theorem d_Ha_tick_3 : decode prog_1_method_9_code 3 = .ok (.ifCond .lt 15, 3) := by decide +kernel
theorem d_Ha_tick_6 : decode prog_1_method_9_code 6 = .ok (.dload_n 1, 1) := by decide +kernel
theorem d_Ha_tick_7 : decode prog_1_method_9_code 7 = .ok (.ldc2_w 55, 3) := by decide +kernel
theorem d_Ha_tick_10 : decode prog_1_method_9_code 10 = .ok (.dcmp .g, 1) := by decide +kernel
theorem d_Ha_tick_11 : decode prog_1_method_9_code 11 = .ok (.ifCond .gt 7, 3) := by decide +kernel
theorem d_Ha_tick_14 : decode prog_1_method_9_code 14 = .ok (.iconst 1, 1) := by decide +kernel
theorem d_Ha_tick_15 : decode prog_1_method_9_code 15 = .ok (.goto 4, 3) := by decide +kernel
theorem d_Ha_tick_18 : decode prog_1_method_9_code 18 = .ok (.iconst 0, 1) := by decide +kernel
theorem d_Ha_tick_19 : decode prog_1_method_9_code 19 = .ok (.invokestatic 40, 3) := by decide +kernel
theorem d_Ha_tick_22 : decode prog_1_method_9_code 22 = .ok (.aload_n 0, 1) := by decide +kernel
theorem d_Ha_tick_23 : decode prog_1_method_9_code 23 = .ok (.getfield 25, 3) := by decide +kernel
theorem d_Ha_tick_26 : decode prog_1_method_9_code 26 = .ok (.dload_n 1, 1) := by decide +kernel
theorem d_Ha_tick_27 : decode prog_1_method_9_code 27 = .ok (.dadd, 1) := by decide +kernel
theorem d_Ha_tick_28 : decode prog_1_method_9_code 28 = .ok (.dstore_n 3, 1) := by decide +kernel
theorem d_Ha_tick_29 : decode prog_1_method_9_code 29 = .ok (.iconst 0, 1) := by decide +kernel
theorem d_Ha_tick_30 : decode prog_1_method_9_code 30 = .ok (.istore 5, 2) := by decide +kernel
theorem d_Ha_tick_32 : decode prog_1_method_9_code 32 = .ok (.iconst 0, 1) := by decide +kernel
theorem d_Ha_tick_33 : decode prog_1_method_9_code 33 = .ok (.istore 6, 2) := by decide +kernel
theorem d_Ha_tick_35 : decode prog_1_method_9_code 35 = .ok (.iload 6, 2) := by decide +kernel
theorem d_Ha_tick_37 : decode prog_1_method_9_code 37 = .ok (.bipush 6, 2) := by decide +kernel
theorem d_Ha_tick_39 : decode prog_1_method_9_code 39 = .ok (.if_icmp .ge 62, 3) := by decide +kernel
theorem d_Ha_tick_42 : decode prog_1_method_9_code 42 = .ok (.aload_n 0, 1) := by decide +kernel
theorem d_Ha_tick_43 : decode prog_1_method_9_code 43 = .ok (.dload_n 3, 1) := by decide +kernel
theorem d_Ha_tick_44 : decode prog_1_method_9_code 44 = .ok (.invokevirtual 184, 3) := by decide +kernel
theorem d_Ha_tick_47 : decode prog_1_method_9_code 47 = .ok (.dstore 7, 2) := by decide +kernel
theorem d_Ha_tick_49 : decode prog_1_method_9_code 49 = .ok (.dload 7, 2) := by decide +kernel
theorem d_Ha_tick_51 : decode prog_1_method_9_code 51 = .ok (.dload_n 3, 1) := by decide +kernel
theorem d_Ha_tick_52 : decode prog_1_method_9_code 52 = .ok (.dcmp .l, 1) := by decide +kernel
theorem d_Ha_tick_53 : decode prog_1_method_9_code 53 = .ok (.ifCond .le 6, 3) := by decide +kernel
theorem d_Ha_tick_56 : decode prog_1_method_9_code 56 = .ok (.goto 45, 3) := by decide +kernel
theorem d_Ha_tick_59 : decode prog_1_method_9_code 59 = .ok (.aload_n 0, 1) := by decide +kernel
theorem d_Ha_tick_60 : decode prog_1_method_9_code 60 = .ok (.dload 7, 2) := by decide +kernel
theorem d_Ha_tick_62 : decode prog_1_method_9_code 62 = .ok (.aload_n 0, 1) := by decide +kernel
theorem d_Ha_tick_63 : decode prog_1_method_9_code 63 = .ok (.getfield 25, 3) := by decide +kernel
theorem d_Ha_tick_66 : decode prog_1_method_9_code 66 = .ok (.dcmp .l, 1) := by decide +kernel
theorem d_Ha_tick_67 : decode prog_1_method_9_code 67 = .ok (.ifCond .le 8, 3) := by decide +kernel
theorem d_Ha_tick_70 : decode prog_1_method_9_code 70 = .ok (.dload 7, 2) := by decide +kernel
theorem d_Ha_tick_72 : decode prog_1_method_9_code 72 = .ok (.goto 7, 3) := by decide +kernel
theorem d_Ha_tick_75 : decode prog_1_method_9_code 75 = .ok (.aload_n 0, 1) := by decide +kernel
theorem d_Ha_tick_76 : decode prog_1_method_9_code 76 = .ok (.getfield 25, 3) := by decide +kernel
theorem d_Ha_tick_79 : decode prog_1_method_9_code 79 = .ok (.putfield 25, 3) := by decide +kernel
theorem d_Ha_tick_82 : decode prog_1_method_9_code 82 = .ok (.aload_n 0, 1) := by decide +kernel
theorem d_Ha_tick_83 : decode prog_1_method_9_code 83 = .ok (.invokevirtual 188, 3) := by decide +kernel
theorem d_Ha_tick_86 : decode prog_1_method_9_code 86 = .ok (.iload 5, 2) := by decide +kernel
theorem d_Ha_tick_88 : decode prog_1_method_9_code 88 = .ok (.aload_n 0, 1) := by decide +kernel
theorem d_Ha_tick_89 : decode prog_1_method_9_code 89 = .ok (.invokevirtual 191, 3) := by decide +kernel
theorem d_Ha_tick_92 : decode prog_1_method_9_code 92 = .ok (.iadd, 1) := by decide +kernel
theorem d_Ha_tick_93 : decode prog_1_method_9_code 93 = .ok (.istore 5, 2) := by decide +kernel
theorem d_Ha_tick_95 : decode prog_1_method_9_code 95 = .ok (.iinc 6 1, 3) := by decide +kernel
theorem d_Ha_tick_98 : decode prog_1_method_9_code 98 = .ok (.goto (-63), 3) := by decide +kernel
theorem d_Ha_tick_101 : decode prog_1_method_9_code 101 = .ok (.aload_n 0, 1) := by decide +kernel
theorem d_Ha_tick_102 : decode prog_1_method_9_code 102 = .ok (.dload_n 3, 1) := by decide +kernel
theorem d_Ha_tick_103 : decode prog_1_method_9_code 103 = .ok (.putfield 25, 3) := by decide +kernel
theorem d_Ha_tick_106 : decode prog_1_method_9_code 106 = .ok (.iload 5, 2) := by decide +kernel
theorem d_Ha_tick_108 : decode prog_1_method_9_code 108 = .ok (.ireturn, 1) := by decide +kernel
def y_Ha_tick : MethodName := ⟨"ChannelHall", "tick", "(D)I"⟩
abbrev rm_Ha_tick : Room := { frames := 11, cells := 1009, slots := 12606, locals := 272 }
def wp_Ha_tick_101 (G ca : Nat → Nat) (post : Int32 → hM → Prop) (xp : String → hM → Prop) (M : hM) (l0b101 : Nat) (l3b101 : UInt64) (l5b101 : Int32) : Prop := pF M l0b101 3 3 (.double l3b101) fun M17 => post l5b101 M17
def wp_Ha_tick_79 (G ca : Nat → Nat) (post : Int32 → hM → Prop) (xp : String → hM → Prop) (k_21 : hM → Nat → UInt64 → Int32 → Int32 → Prop) (M : hM) (l0b79 : Nat) (l3b79 : UInt64) (l5b79 : Int32) (l6b79 : Int32) (s0b79 : UInt64) (s1b79 : Nat) : Prop := pF M s1b79 3 3 (.double s0b79) fun M18 => rC M18 l0b79 3 (wp_Ha_serveDelayed G ca (fun M19 => rC M19 l0b79 3 (wp_Ha_endLateWaits G ca (fun r20 M21 => k_21 M21 l0b79 l3b79 (l5b79 + r20) (l6b79 + 1)) M19 l0b79)) M18 l0b79)
def wp_Ha_tick_35 (G ca : Nat → Nat) (post : Int32 → hM → Prop) (xp : String → hM → Prop) : Nat → hM → Nat → UInt64 → Int32 → Int32 → Prop
  | 0, _, _, _, _, _ => False
  | n + 1, M, l0b35, l3b35, l5b35, l6b35 => (6 ≤ l6b35 → wp_Ha_tick_101 G ca post xp M l0b35 l3b35 l5b35) ∧ (¬ 6 ≤ l6b35 → 0 < n ∧ rC M l0b35 3 (wp_Ha_nextMoment G ca (fun r23 M24 => ((Op.cmpValue (FP.dcmp r23 l3b35) .l) ≤ 0 → gD M24 l0b35 3 3 fun v26 => ((Op.cmpValue (FP.dcmp r23 v26) .l) ≤ 0 → gD M24 l0b35 3 3 fun v28 => wp_Ha_tick_79 G ca post xp (wp_Ha_tick_35 G ca post xp n) M24 l0b35 l3b35 l5b35 l6b35 v28 l0b35) ∧ (¬ (Op.cmpValue (FP.dcmp r23 v26) .l) ≤ 0 → wp_Ha_tick_79 G ca post xp (wp_Ha_tick_35 G ca post xp n) M24 l0b35 l3b35 l5b35 l6b35 r23 l0b35)) ∧ (¬ (Op.cmpValue (FP.dcmp r23 l3b35) .l) ≤ 0 → wp_Ha_tick_101 G ca post xp M24 l0b35 l3b35 l5b35)) M l0b35 l3b35))
def wp_Ha_tick_19 (G ca : Nat → Nat) (post : Int32 → hM → Prop) (xp : String → hM → Prop) (M : hM) (l0b19 : Nat) (l1b19 : UInt64) (s0b19 : Int32) : Prop := wp_Ha_require G ca (fun M29 => gD M29 l0b19 3 3 fun v30 => nD (FP.dadd v30 l1b19) (∃ n, n ≤ 7 ∧ wp_Ha_tick_35 G ca post xp n M29 l0b19 (FP.dadd v30 l1b19) 0 0)) xp M s0b19
def wp_Ha_tick_18 (G ca : Nat → Nat) (post : Int32 → hM → Prop) (xp : String → hM → Prop) (M : hM) (l0b18 : Nat) (l1b18 : UInt64) : Prop := wp_Ha_tick_19 G ca post xp M l0b18 l1b18 0
def wp_Ha_tick (G ca : Nat → Nat) (post : Int32 → hM → Prop) (xp : String → hM → Prop) (M : hM) (a0 : Nat) (x1 : UInt64) : Prop := ((Op.cmpValue (FP.dcmp x1 FP.dconst0) .l) < 0 → wp_Ha_tick_18 G ca post xp M a0 x1) ∧ (¬ (Op.cmpValue (FP.dcmp x1 FP.dconst0) .l) < 0 → (0 < (Op.cmpValue (FP.dcmp x1 4652007308841189376) .g) → wp_Ha_tick_18 G ca post xp M a0 x1) ∧ (¬ 0 < (Op.cmpValue (FP.dcmp x1 4652007308841189376) .g) → wp_Ha_tick_19 G ca post xp M a0 x1 1))
set_option maxHeartbeats 1000000 in
set_option maxRecDepth 20000 in
theorem l_Ha_tick_101 {p : Program} {l : Launch} {e : Env} {s : State} {m : MethodId} {args : Array Value} {below : List Frame} {meth : Method} {c : Code} {D : va_G} {ca G : Nat → Nat} {A : Nat → Prop} (C0 : hC p s m args meth c D ca G prog_1_method_9_code 9 (some .int) "ChannelHall" A) (hl0 : l.stackTraces = false) (hout : ∀ x ∈ c.exceptionTable.toList, False) {post : Int32 → hM → Prop} {xp : String → hM → Prop} {M : hM} {H : Heap} {locs : List Loc} {ls : Array Slot} {cells slots : Nat} (l0b101 : Nat) (l3b101 : UInt64) (l5b101 : Int32) (hc : cells ≤ 1009) (hs : slots ≤ 12606) (h : wp_Ha_tick_101 G ca post xp M l0b101 l3b101 l5b101) (hW : hw D wCl A M H) (hS : va_S A s.heap H locs) (hl : lv_has ls 9 [(0, .ref l0b101), (3, .double l3b101), (5, .int l5b101)]) : W p l e rm_Ha_tick s m args below meth c H locs cells slots (vx_MQ below (va_Qi post (fun M' t => hw D wCl A M' t.heap) A) (hX D xp A) args s 1009 12606 A) (F0 m 101 ls []) := by
  obtain ⟨hx, hb, hr, hml, hown, hts, hlocks, hK, hA, hZ0⟩ := id C0
  refine lv_aload_n hx hb d_Ha_tick_101 rfl (lv_at hl 0 rfl) ?_
  refine lv_dload_n hx hb d_Ha_tick_102 rfl (lv_at hl 1 rfl) ?_
  obtain ⟨fs, h1, h2, h⟩ := h
  obtain ⟨ws, q0, hq, hP, hD, hback, -⟩ := hw_open hW h1
  refine va_put (D := D) (ci := 3) (v := .double l3b101) (ty := .double) (C := "ChannelHall") (T := THa) (N := 4) hx hb hts uHa tHa tHa_ok nHa hown hK hP hD hS q0 hq rfl 3 (by decide) (hts _ bw_103) (fun _ h9 => h9) rfl (by decide +kernel) rfl rfl h2 d_Ha_tick_103 (fun H locs hP hD hS => ?_)
  have hW := hback _ _ hP hD
  generalize (va_up M l0b101 (some (.inr (3, fs.set 3 (.double l3b101))))) = M17 at h hW
  refine lv_iload hx hb d_Ha_tick_106 (lv_at hl 2 rfl) ?_
  refine W.widen (k := 1009) (n := 12606) (by omega) (by omega) ?_
  exact vx_ret (W.iret hx hb hr (fun t ht hWm => ⟨⟨_, _, rfl, h, hw_t ht hW⟩, hS.F ht⟩) hS.2.2 d_Ha_tick_108)
set_option maxHeartbeats 1000000 in
set_option maxRecDepth 20000 in
theorem l_Ha_tick_79 {p : Program} {l : Launch} {e : Env} {s : State} {m : MethodId} {args : Array Value} {below : List Frame} {meth : Method} {c : Code} {D : va_G} {ca G : Nat → Nat} {A : Nat → Prop} (C0 : hC p s m args meth c D ca G prog_1_method_9_code 9 (some .int) "ChannelHall" A) (hl0 : l.stackTraces = false) (hout : ∀ x ∈ c.exceptionTable.toList, False) {post : Int32 → hM → Prop} {xp : String → hM → Prop} {k_21 : hM → Nat → UInt64 → Int32 → Int32 → Prop} {n_21 : Nat} (hk_21 : ∀ (M : hM) (H : Heap) (locs : List Loc) (ls : Array Slot) (cells slots : Nat) (l0b35 : Nat) (l3b35 : UInt64) (l5b35 : Int32) (l6b35 : Int32), cells + n_21 * 168 ≤ 1177 → slots + n_21 * 2100 ≤ 14706 → k_21 M l0b35 l3b35 l5b35 l6b35 → hw D wCl A M H → va_S A s.heap H locs → lv_has ls 9 [(0, .ref l0b35), (3, .double l3b35), (5, .int l5b35), (6, .int l6b35)] → W p l e rm_Ha_tick s m args below meth c H locs cells slots (vx_MQ below (va_Qi post (fun M' t => hw D wCl A M' t.heap) A) (hX D xp A) args s 1009 12606 A) (F0 m 35 ls [])) (hn_21 : 0 < n_21) {M : hM} {H : Heap} {locs : List Loc} {ls : Array Slot} {cells slots : Nat} (l0b79 : Nat) (l3b79 : UInt64) (l5b79 : Int32) (l6b79 : Int32) (s0b79 : UInt64) (s1b79 : Nat) (hc : cells + n_21 * 168 ≤ 1009) (hs : slots + n_21 * 2100 ≤ 12606) (h : wp_Ha_tick_79 G ca post xp k_21 M l0b79 l3b79 l5b79 l6b79 s0b79 s1b79) (hW : hw D wCl A M H) (hS : va_S A s.heap H locs) (hl : lv_has ls 9 [(0, .ref l0b79), (3, .double l3b79), (5, .int l5b79), (6, .int l6b79)]) : W p l e rm_Ha_tick s m args below meth c H locs cells slots (vx_MQ below (va_Qi post (fun M' t => hw D wCl A M' t.heap) A) (hX D xp A) args s 1009 12606 A) (F0 m 79 ls [.double s0b79, .ref s1b79]) := by
  obtain ⟨hx, hb, hr, hml, hown, hts, hlocks, hK, hA, hZ0⟩ := id C0
  obtain ⟨fs, h1, h2, h⟩ := h
  obtain ⟨ws, q0, hq, hP, hD, hback, -⟩ := hw_open hW h1
  refine va_put (D := D) (ci := 3) (v := .double s0b79) (ty := .double) (C := "ChannelHall") (T := THa) (N := 4) hx hb hts uHa tHa tHa_ok nHa hown hK hP hD hS q0 hq rfl 3 (by decide) (hts _ bw_103) (fun _ h9 => h9) rfl (by decide +kernel) rfl rfl h2 d_Ha_tick_79 (fun H locs hP hD hS => ?_)
  have hW := hback _ _ hP hD
  generalize (va_up M s1b79 (some (.inr (3, fs.set 3 (.double s0b79))))) = M18 at h hW
  refine lv_aload_n hx hb d_Ha_tick_82 rfl (lv_at hl 0 rfl) ?_
  obtain ⟨⟨fs, h1⟩, h⟩ := h
  have h9 := h
  clear h
  have hF := hW.free hS hA
  refine va_callv (va_runV (As := []) (rest := []) ⟨hx, hb, hml, hown, hts⟩ (c_Ha_serveDelayed _ h9) (cwV 0 hts (gi_V bw_908 bw_910 bs_17 bw_1 bw_911) rfl rfl rfl (by decide +kernel) ⟨Nat.le_of_ble_eq_true rfl, Nat.le_of_ble_eq_true rfl⟩) ⟨hI.blind, hw_recv hK hW h1 rfl, hI.give hW hS hA hK hZ0⟩ rfl rfl hl.1 rfl (lv_room (Nat.le_of_ble_eq_true rfl)) d_Ha_tick_83 ⟨(show _ ≤ 1009 by omega), (show _ ≤ 12606 by omega)⟩) hS (fun q _ z => hF q z) hF (fun M19 t H locs ht _ h hB1 _ _ hS => ?_)
  have hW := hw_back hF ht hB1
  clear h9
  refine lv_iload hx hb d_Ha_tick_86 (lv_at hl 2 rfl) ?_
  refine lv_aload_n hx hb d_Ha_tick_88 rfl (lv_at hl 0 rfl) ?_
  obtain ⟨⟨fs, h1⟩, h⟩ := h
  have h9 := h
  clear h
  have hF := hW.free hS hA
  refine va_calli (va_runV (As := []) (rest := [.int l5b79]) ⟨hx, hb, hml, hown, hts⟩ (c_Ha_endLateWaits _ h9) (cwV 0 hts (gi_V bw_912 bw_914 bs_18 bw_1 bw_915) rfl rfl rfl (by decide +kernel) ⟨Nat.le_of_ble_eq_true rfl, Nat.le_of_ble_eq_true rfl⟩) ⟨hI.blind, hw_recv hK hW h1 rfl, hI.give hW hS hA hK hZ0⟩ rfl rfl hl.1 rfl (lv_room (Nat.le_of_ble_eq_true rfl)) d_Ha_tick_89 ⟨(show _ ≤ 1009 by omega), (show _ ≤ 12606 by omega)⟩) hS (fun q _ z => hF q z) hF (fun r20 M21 t H locs ht _ h hB1 _ _ hS => ?_)
  have hW := hw_back hF ht hB1
  clear h9
  refine lv_iadd hx hb d_Ha_tick_92 ?_
  refine lv_istore (lv' := [(5, .int (l5b79 + r20)), (0, .ref l0b79), (3, .double l3b79), (6, .int l6b79)]) hx hb d_Ha_tick_93 hl (by decide) rfl (fun ls hl => ?_)
  refine lv_iinc (v := l6b79 + 1) (lv' := [(6, .int (l6b79 + 1)), (5, .int (l5b79 + r20)), (0, .ref l0b79), (3, .double l3b79)]) hx hb d_Ha_tick_95 hl (k := 3) rfl rfl (by decide) rfl (fun ls hl => ?_)
  refine lv_goto (tgt := 35) hx hb d_Ha_tick_98 (by decide) ?_
  exact hk_21 _ _ _ _ _ _ l0b79 l3b79 (l5b79 + r20) (l6b79 + 1) (by omega) (by omega) h hW hS (lv_sub hl [2, 3, 1, 0] rfl)
set_option maxHeartbeats 1000000 in
set_option maxRecDepth 20000 in
theorem l_Ha_tick_35 {p : Program} {l : Launch} {e : Env} {s : State} {m : MethodId} {args : Array Value} {below : List Frame} {meth : Method} {c : Code} {D : va_G} {ca G : Nat → Nat} {A : Nat → Prop} (C0 : hC p s m args meth c D ca G prog_1_method_9_code 9 (some .int) "ChannelHall" A) (hl0 : l.stackTraces = false) (hout : ∀ x ∈ c.exceptionTable.toList, False) {post : Int32 → hM → Prop} {xp : String → hM → Prop} : ∀ (n : Nat) {M : hM} {H : Heap} {locs : List Loc} {ls : Array Slot} {cells slots : Nat} (l0b35 : Nat) (l3b35 : UInt64) (l5b35 : Int32) (l6b35 : Int32) (hc : cells + n * 168 ≤ 1177) (hs : slots + n * 2100 ≤ 14706) (h : wp_Ha_tick_35 G ca post xp n M l0b35 l3b35 l5b35 l6b35) (hW : hw D wCl A M H) (hS : va_S A s.heap H locs) (hl : lv_has ls 9 [(0, .ref l0b35), (3, .double l3b35), (5, .int l5b35), (6, .int l6b35)]), W p l e rm_Ha_tick s m args below meth c H locs cells slots (vx_MQ below (va_Qi post (fun M' t => hw D wCl A M' t.heap) A) (hX D xp A) args s 1009 12606 A) (F0 m 35 ls []) := by
  obtain ⟨hx, hb, hr, hml, hown, hts, hlocks, hK, hA, hZ0⟩ := id C0
  intro n
  induction n with
  | zero =>
    intro M H locs ls cells slots l0b35 l3b35 l5b35 l6b35 hc hs h
    exact False.elim h
  | succ n ih =>
    intro M H locs ls cells slots l0b35 l3b35 l5b35 l6b35 hc hs h hW hS hl
    have hk_21 := fun M H locs ls cells slots l0b35 l3b35 l5b35 l6b35 hc hs h hW hS hl => @ih M H locs ls cells slots l0b35 l3b35 l5b35 l6b35 hc hs h hW hS hl
    refine lv_iload hx hb d_Ha_tick_35 (lv_at hl 3 rfl) ?_
    refine lv_bipush (v := 6) hx hb d_Ha_tick_37 (by decide) ?_
    obtain ⟨h0, h1⟩ := h
    refine lv_icmp_ge (tgt := 101) hx hb d_Ha_tick_39 (by decide) (fun c22 => ?_) (fun c22 => ?_)
    · have h := h0 c22
      exact l_Ha_tick_101 C0 hl0 hout l0b35 l3b35 l5b35 (by omega) (by omega) h hW hS (lv_sub hl [0, 1, 2] rfl)
    · have h := h1 c22
      obtain ⟨hn_21, h⟩ := h
      refine lv_aload_n hx hb d_Ha_tick_42 rfl (lv_at hl 0 rfl) ?_
      refine lv_dload_n hx hb d_Ha_tick_43 rfl (lv_at hl 1 rfl) ?_
      obtain ⟨⟨fs, h1⟩, h⟩ := h
      have h9 := h
      clear h
      have hF := hW.free hS hA
      refine va_calld (va_runV (As := [.double l3b35]) (rest := []) ⟨hx, hb, hml, hown, hts⟩ (c_Ha_nextMoment _ h9) (cwV 1 hts (gi_V bw_900 bw_902 bs_16 bw_1 bw_903) rfl rfl rfl (by decide +kernel) ⟨Nat.le_of_ble_eq_true rfl, Nat.le_of_ble_eq_true rfl⟩) ⟨hI.blind, hw_recv hK hW h1 rfl, hI.give hW hS hA hK hZ0⟩ rfl rfl hl.1 rfl (lv_room (Nat.le_of_ble_eq_true rfl)) d_Ha_tick_44 ⟨(show _ ≤ 1009 by omega), (show _ ≤ 12606 by omega)⟩) hS (fun q _ z => hF q z) hF (fun r23 M24 t H locs ht _ h hB1 _ _ hS => ?_)
      have hW := hw_back hF ht hB1
      clear h9
      refine lv_dstore (lv' := [(7, .double r23), (0, .ref l0b35), (3, .double l3b35), (5, .int l5b35), (6, .int l6b35)]) hx hb d_Ha_tick_47 hl (by decide) rfl (fun ls hl => ?_)
      refine lv_dload hx hb d_Ha_tick_49 (lv_at hl 0 rfl) ?_
      refine lv_dload_n hx hb d_Ha_tick_51 rfl (lv_at hl 2 rfl) ?_
      refine lv_dcmp hx hb d_Ha_tick_52 ?_
      obtain ⟨h0, h1⟩ := h
      refine lv_if_le (tgt := 59) hx hb d_Ha_tick_53 (by decide) (fun c25 => ?_) (fun c25 => ?_)
      · have h := h0 c25
        refine lv_aload_n hx hb d_Ha_tick_59 rfl (lv_at hl 1 rfl) ?_
        refine lv_dload hx hb d_Ha_tick_60 (lv_at hl 0 rfl) ?_
        refine lv_aload_n hx hb d_Ha_tick_62 rfl (lv_at hl 1 rfl) ?_
        obtain ⟨fs, v26, h1, h2, h⟩ := h
        refine va_get (D := D) (ci := 3) (v := .double v26) (C := "ChannelHall") (T := THa) (N := 4) hx hb hts uHa hown hK (hw_one hW h1) 0 rfl rfl 3 (by decide) (hts _ bw_103) (fun _ h9 => h9) h2 d_Ha_tick_63 ?_
        refine lv_dcmp hx hb d_Ha_tick_66 ?_
        obtain ⟨h0, h1⟩ := h
        refine lv_if_le (tgt := 75) hx hb d_Ha_tick_67 (by decide) (fun c27 => ?_) (fun c27 => ?_)
        · have h := h0 c27
          refine lv_aload_n hx hb d_Ha_tick_75 rfl (lv_at hl 1 rfl) ?_
          obtain ⟨fs, v28, h1, h2, h⟩ := h
          refine va_get (D := D) (ci := 3) (v := .double v28) (C := "ChannelHall") (T := THa) (N := 4) hx hb hts uHa hown hK (hw_one hW h1) 0 rfl rfl 3 (by decide) (hts _ bw_103) (fun _ h9 => h9) h2 d_Ha_tick_76 ?_
          exact l_Ha_tick_79 C0 hl0 hout hk_21 hn_21 l0b35 l3b35 l5b35 l6b35 v28 l0b35 (by omega) (by omega) h hW hS (lv_sub hl [1, 2, 3, 4] rfl)
        · have h := h1 c27
          refine lv_dload hx hb d_Ha_tick_70 (lv_at hl 0 rfl) ?_
          refine lv_goto (tgt := 79) hx hb d_Ha_tick_72 (by decide) ?_
          exact l_Ha_tick_79 C0 hl0 hout hk_21 hn_21 l0b35 l3b35 l5b35 l6b35 r23 l0b35 (by omega) (by omega) h hW hS (lv_sub hl [1, 2, 3, 4] rfl)
      · have h := h1 c25
        refine lv_goto (tgt := 101) hx hb d_Ha_tick_56 (by decide) ?_
        exact l_Ha_tick_101 C0 hl0 hout l0b35 l3b35 l5b35 (by omega) (by omega) h hW hS (lv_sub hl [1, 2, 3] rfl)
set_option maxHeartbeats 1000000 in
set_option maxRecDepth 20000 in
theorem l_Ha_tick_19 {p : Program} {l : Launch} {e : Env} {s : State} {m : MethodId} {args : Array Value} {below : List Frame} {meth : Method} {c : Code} {D : va_G} {ca G : Nat → Nat} {A : Nat → Prop} (C0 : hC p s m args meth c D ca G prog_1_method_9_code 9 (some .int) "ChannelHall" A) (hl0 : l.stackTraces = false) (hout : ∀ x ∈ c.exceptionTable.toList, False) {post : Int32 → hM → Prop} {xp : String → hM → Prop} {M : hM} {H : Heap} {locs : List Loc} {ls : Array Slot} {cells slots : Nat} (l0b19 : Nat) (l1b19 : UInt64) (s0b19 : Int32) (hc : cells ≤ 0) (hs : slots ≤ 0) (h : wp_Ha_tick_19 G ca post xp M l0b19 l1b19 s0b19) (hW : hw D wCl A M H) (hS : va_S A s.heap H locs) (hl : lv_has ls 9 [(0, .ref l0b19), (1, .double l1b19)]) : W p l e rm_Ha_tick s m args below meth c H locs cells slots (vx_MQ below (va_Qi post (fun M' t => hw D wCl A M' t.heap) A) (hX D xp A) args s 1009 12606 A) (F0 m 19 ls [.int s0b19]) := by
  obtain ⟨hx, hb, hr, hml, hown, hts, hlocks, hK, hA, hZ0⟩ := id C0
  have h9 := h
  clear h
  have hF := hW.free hS hA
  refine vx_callv (vx_runS (As := [.int s0b19]) (rest := []) ⟨hx, hb, hml, hown, hts⟩ (c_Ha_require hl0 _ _ h9) (va_cwS 1 hts (gi_S bw_132 bw_133 bw_1 bw_134) rfl rfl rfl (by decide +kernel) ⟨Nat.le_of_ble_eq_true rfl, Nat.le_of_ble_eq_true rfl⟩) ⟨hI.blind, hI.give hW hS hA hK hZ0⟩ rfl rfl hl.1 rfl (lv_room (Nat.le_of_ble_eq_true rfl)) d_Ha_tick_19 ⟨(show _ ≤ 1009 by omega), (show _ ≤ 12606 by omega)⟩) hS (fun q _ z => hF q z) hF (fun q _ z => hF q z) (fun E ce q9 M9 t H locs ht _ _ h8 _ _ hS hce hcv hcl => hq_out hout hlocks (hw_back hF ht h8.2) hS h8.1 hce hcv hcl (by omega) (by omega)) (fun M29 t H locs ht _ h hB1 _ _ hS => ?_)
  have hW := hw_back hF ht hB1
  clear h9
  refine lv_aload_n hx hb d_Ha_tick_22 rfl (lv_at hl 0 rfl) ?_
  obtain ⟨fs, v30, h1, h2, h⟩ := h
  refine va_get (D := D) (ci := 3) (v := .double v30) (C := "ChannelHall") (T := THa) (N := 4) hx hb hts uHa hown hK (hw_one hW h1) 0 rfl rfl 3 (by decide) (hts _ bw_103) (fun _ h9 => h9) h2 d_Ha_tick_23 ?_
  refine lv_dload_n hx hb d_Ha_tick_26 rfl (lv_at hl 1 rfl) ?_
  obtain ⟨hn, h⟩ := h
  refine lv_dadd hx hb d_Ha_tick_27 hn ?_
  refine lv_dstore_n (lv' := [(3, .double (FP.dadd v30 l1b19)), (0, .ref l0b19), (1, .double l1b19)]) hx hb d_Ha_tick_28 rfl hl (by decide) rfl (fun ls hl => ?_)
  refine lv_iconst (v := 0) hx hb d_Ha_tick_29 (by decide) ?_
  refine lv_istore (lv' := [(5, .int 0), (3, .double (FP.dadd v30 l1b19)), (0, .ref l0b19), (1, .double l1b19)]) hx hb d_Ha_tick_30 hl (by decide) rfl (fun ls hl => ?_)
  refine lv_iconst (v := 0) hx hb d_Ha_tick_32 (by decide) ?_
  refine lv_istore (lv' := [(6, .int 0), (5, .int 0), (3, .double (FP.dadd v30 l1b19)), (0, .ref l0b19), (1, .double l1b19)]) hx hb d_Ha_tick_33 hl (by decide) rfl (fun ls hl => ?_)
  obtain ⟨n, hn0, h⟩ := h
  exact l_Ha_tick_35 C0 hl0 hout n l0b19 (FP.dadd v30 l1b19) 0 0 (by omega) (by omega) h hW hS (lv_sub hl [3, 2, 1, 0] rfl)
set_option maxHeartbeats 1000000 in
set_option maxRecDepth 20000 in
theorem l_Ha_tick_18 {p : Program} {l : Launch} {e : Env} {s : State} {m : MethodId} {args : Array Value} {below : List Frame} {meth : Method} {c : Code} {D : va_G} {ca G : Nat → Nat} {A : Nat → Prop} (C0 : hC p s m args meth c D ca G prog_1_method_9_code 9 (some .int) "ChannelHall" A) (hl0 : l.stackTraces = false) (hout : ∀ x ∈ c.exceptionTable.toList, False) {post : Int32 → hM → Prop} {xp : String → hM → Prop} {M : hM} {H : Heap} {locs : List Loc} {ls : Array Slot} {cells slots : Nat} (l0b18 : Nat) (l1b18 : UInt64) (hc : cells ≤ 0) (hs : slots ≤ 0) (h : wp_Ha_tick_18 G ca post xp M l0b18 l1b18) (hW : hw D wCl A M H) (hS : va_S A s.heap H locs) (hl : lv_has ls 9 [(0, .ref l0b18), (1, .double l1b18)]) : W p l e rm_Ha_tick s m args below meth c H locs cells slots (vx_MQ below (va_Qi post (fun M' t => hw D wCl A M' t.heap) A) (hX D xp A) args s 1009 12606 A) (F0 m 18 ls []) := by
  obtain ⟨hx, hb, hr, hml, hown, hts, hlocks, hK, hA, hZ0⟩ := id C0
  refine lv_iconst (v := 0) hx hb d_Ha_tick_18 (by decide) ?_
  exact l_Ha_tick_19 C0 hl0 hout l0b18 l1b18 0 (by omega) (by omega) h hW hS (lv_sub hl [0, 1] rfl)
set_option maxHeartbeats 1000000 in
set_option maxRecDepth 20000 in
theorem l_Ha_tick_e {p : Program} {l : Launch} {e : Env} {s : State} {m : MethodId} {args : Array Value} {below : List Frame} {meth : Method} {c : Code} {D : va_G} {ca G : Nat → Nat} {A : Nat → Prop} (C0 : hC p s m args meth c D ca G prog_1_method_9_code 9 (some .int) "ChannelHall" A) (hl0 : l.stackTraces = false) (hout : ∀ x ∈ c.exceptionTable.toList, False) {post : Int32 → hM → Prop} {xp : String → hM → Prop} {M : hM} {H : Heap} {locs : List Loc} {ls : Array Slot} {cells slots : Nat} (a0 : Nat) (x1 : UInt64) (hc : cells ≤ 0) (hs : slots ≤ 0) (h : wp_Ha_tick G ca post xp M a0 x1) (hW : hw D wCl A M H) (hS : va_S A s.heap H locs) (hl : lv_has ls 9 [(0, .ref a0), (1, .double x1)]) : W p l e rm_Ha_tick s m args below meth c H locs cells slots (vx_MQ below (va_Qi post (fun M' t => hw D wCl A M' t.heap) A) (hX D xp A) args s 1009 12606 A) (F0 m 0 ls []) := by
  obtain ⟨hx, hb, hr, hml, hown, hts, hlocks, hK, hA, hZ0⟩ := id C0
  refine lv_dload_n hx hb d_Ha_tick_0 rfl (lv_at hl 1 rfl) ?_
  refine lv_dconst0 hx hb d_Ha_tick_1 ?_
  refine lv_dcmp hx hb d_Ha_tick_2 ?_
  obtain ⟨h0, h1⟩ := h
  refine lv_if_lt (tgt := 18) hx hb d_Ha_tick_3 (by decide) (fun c31 => ?_) (fun c31 => ?_)
  · have h := h0 c31
    exact l_Ha_tick_18 C0 hl0 hout a0 x1 (by omega) (by omega) h hW hS (lv_sub hl [0, 1] rfl)
  · have h := h1 c31
    refine lv_dload_n hx hb d_Ha_tick_6 rfl (lv_at hl 1 rfl) ?_
    refine lv_ldc2d (v := 4652007308841189376) hx hb hown (hts _ bw_304) d_Ha_tick_7 ?_
    refine lv_dcmp hx hb d_Ha_tick_10 ?_
    obtain ⟨h0, h1⟩ := h
    refine lv_if_gt (tgt := 18) hx hb d_Ha_tick_11 (by decide) (fun c32 => ?_) (fun c32 => ?_)
    · have h := h0 c32
      exact l_Ha_tick_18 C0 hl0 hout a0 x1 (by omega) (by omega) h hW hS (lv_sub hl [0, 1] rfl)
    · have h := h1 c32
      refine lv_iconst (v := 1) hx hb d_Ha_tick_14 (by decide) ?_
      refine lv_goto (tgt := 19) hx hb d_Ha_tick_15 (by decide) ?_
      exact l_Ha_tick_19 C0 hl0 hout a0 x1 1 (by omega) (by omega) h hW hS (lv_sub hl [0, 1] rfl)
set_option maxRecDepth 20000 in
theorem c_Ha_tick {l : Launch} (hl0 : l.stackTraces = false) {D : va_G} {ca G : Nat → Nat} (post : Int32 → hM → Prop) (xp : String → hM → Prop) {M : hM} {sz : Nat} {a0 : Nat} {x1 : UInt64} (h : wp_Ha_tick G ca post xp M a0 x1) : vx_Met l y_Ha_tick (wz y_Ha_tick prog_1_method_9_code 9 (some .int)) rm_Ha_tick (va_Pc [.ref a0, .double x1] (hI D ca G sz M)) (va_Qi post (hB D M sz) (hp_A M sz)) (hX D xp (hp_A M sz)) 1009 12606 (hp_A M sz) := by
  refine vx_ofW (cc := prog_1_method_9_code) (maxL := 9) (ret := some .int) (by decide) rfl ?_
  intro p e s m args below meth c s₁ B hml hout hv
  obtain ⟨rfl, hsz, hW, hK, hZ0⟩ := hv
  have hts := fun w hw => atoms_spec (ws := wz y_Ha_tick prog_1_method_9_code 9 (some .int)) B.pre w (List.mem_cons_of_mem _ hw)
  have hown : s.vm.findClass "ChannelHall" = some m.cls := findClass_of_methodNamed B.named
  subst hsz
  have hl := lv_entry [.ref a0, .double x1] (n := 9) (Nat.le_of_ble_eq_true rfl)
  rw [lg_entry_eq]
  exact l_Ha_tick_e ⟨B.exec, B.bytes, B.returns, hml, hown, hts, B.notSynchronized, hK, fun q h => Or.inr h, hZ0⟩ hl0 hout a0 x1 (Nat.zero_le _) (Nat.zero_le _) h hW va_S.rf hl

theorem d_Ha_got_0 : decode prog_1_method_10_code 0 = .ok (.iload_n 1, 1) := by decide +kernel
theorem d_Ha_got_1 : decode prog_1_method_10_code 1 = .ok (.invokestatic 50, 3) := by decide +kernel
theorem d_Ha_got_4 : decode prog_1_method_10_code 4 = .ok (.invokestatic 40, 3) := by decide +kernel
theorem d_Ha_got_7 : decode prog_1_method_10_code 7 = .ok (.aload_n 0, 1) := by decide +kernel
theorem d_Ha_got_8 : decode prog_1_method_10_code 8 = .ok (.getfield 11, 3) := by decide +kernel
theorem d_Ha_got_11 : decode prog_1_method_10_code 11 = .ok (.iload_n 1, 1) := by decide +kernel
theorem d_Ha_got_12 : decode prog_1_method_10_code 12 = .ok (.aaload, 1) := by decide +kernel
theorem d_Ha_got_13 : decode prog_1_method_10_code 13 = .ok (.astore_n 2, 1) := by decide +kernel
theorem d_Ha_got_14 : decode prog_1_method_10_code 14 = .ok (.aload_n 2, 1) := by decide +kernel
theorem d_Ha_got_15 : decode prog_1_method_10_code 15 = .ok (.getfield 194, 3) := by decide +kernel
theorem d_Ha_got_18 : decode prog_1_method_10_code 18 = .ok (.ifCond .ne 11, 3) := by decide +kernel
theorem d_Ha_got_21 : decode prog_1_method_10_code 21 = .ok (.new 197, 3) := by decide +kernel
theorem d_Ha_got_24 : decode prog_1_method_10_code 24 = .ok (.dup, 1) := by decide +kernel
theorem d_Ha_got_25 : decode prog_1_method_10_code 25 = .ok (.invokespecial 199, 3) := by decide +kernel
theorem d_Ha_got_28 : decode prog_1_method_10_code 28 = .ok (.athrow, 1) := by decide +kernel
theorem d_Ha_got_29 : decode prog_1_method_10_code 29 = .ok (.aload_n 2, 1) := by decide +kernel
theorem d_Ha_got_30 : decode prog_1_method_10_code 30 = .ok (.getfield 200, 3) := by decide +kernel
theorem d_Ha_got_33 : decode prog_1_method_10_code 33 = .ok (.ireturn, 1) := by decide +kernel
def y_Ha_got : MethodName := ⟨"ChannelHall", "got", "(I)I"⟩
abbrev rm_Ha_got : Room := { frames := 7, cells := 2, slots := 12, locals := 101 }
def wp_Ha_got (G ca : Nat → Nat) (post : Int32 → hM → Prop) (xp : String → hM → Prop) (M : hM) (a0 : Nat) (x1 : Int32) : Prop := wp_Ha_isThread G ca (fun r11 M12 => wp_Ha_require G ca (fun M13 => gR M13 a0 3 0 fun v14 => nN v14 fun b15 => aR M13 b15 (ca 0) x1 fun v16 => nN v16 fun b17 => gI M13 b17 2 3 fun v18 => (¬ v18 = 0 → gI M13 b17 2 4 fun v20 => post v20 M13) ∧ (v18 = 0 → xp "java/util/NoSuchElementException" M13)) xp M12 r11) M x1
set_option maxHeartbeats 1000000 in
set_option maxRecDepth 20000 in
theorem l_Ha_got_e {p : Program} {l : Launch} {e : Env} {s : State} {m : MethodId} {args : Array Value} {below : List Frame} {meth : Method} {c : Code} {D : va_G} {ca G : Nat → Nat} {A : Nat → Prop} (C0 : hC p s m args meth c D ca G prog_1_method_10_code 3 (some .int) "ChannelHall" A) (hl0 : l.stackTraces = false) (hout : ∀ x ∈ c.exceptionTable.toList, False) {post : Int32 → hM → Prop} {xp : String → hM → Prop} {M : hM} {H : Heap} {locs : List Loc} {ls : Array Slot} {cells slots : Nat} (a0 : Nat) (x1 : Int32) (hc : cells ≤ 0) (hs : slots ≤ 0) (h : wp_Ha_got G ca post xp M a0 x1) (hW : hw D wCl A M H) (hS : va_S A s.heap H locs) (hl : lv_has ls 3 [(0, .ref a0), (1, .int x1)]) : W p l e rm_Ha_got s m args below meth c H locs cells slots (vx_MQ below (va_Qi post (fun M' t => hw D wCl A M' t.heap) A) (hX D xp A) args s 2 12 A) (F0 m 0 ls []) := by
  obtain ⟨hx, hb, hr, hml, hown, hts, hlocks, hK, hA, hZ0⟩ := id C0
  refine lv_iload_n hx hb d_Ha_got_0 rfl (lv_at hl 1 rfl) ?_
  have h9 := h
  clear h
  have hF := hW.free hS hA
  refine va_calli (va_runS (As := [.int x1]) (rest := []) ⟨hx, hb, hml, hown, hts⟩ (c_Ha_isThread _ h9) (va_cwS 1 hts (gi_S bw_300 bw_301 bw_1 bw_302) rfl rfl rfl (by decide +kernel) ⟨Nat.le_of_ble_eq_true rfl, Nat.le_of_ble_eq_true rfl⟩) ⟨hI.blind, hI.give hW hS hA hK hZ0⟩ rfl rfl hl.1 rfl (lv_room (Nat.le_of_ble_eq_true rfl)) d_Ha_got_1 ⟨(show _ ≤ 2 by omega), (show _ ≤ 12 by omega)⟩) hS (fun q _ z => hF q z) hF (fun r11 M12 t H locs ht _ h hB1 _ _ hS => ?_)
  have hW := hw_back hF ht hB1
  clear h9
  have h9 := h
  clear h
  have hF := hW.free hS hA
  refine vx_callv (vx_runS (As := [.int r11]) (rest := []) ⟨hx, hb, hml, hown, hts⟩ (c_Ha_require hl0 _ _ h9) (va_cwS 1 hts (gi_S bw_132 bw_133 bw_1 bw_134) rfl rfl rfl (by decide +kernel) ⟨Nat.le_of_ble_eq_true rfl, Nat.le_of_ble_eq_true rfl⟩) ⟨hI.blind, hI.give hW hS hA hK hZ0⟩ rfl rfl hl.1 rfl (lv_room (Nat.le_of_ble_eq_true rfl)) d_Ha_got_4 ⟨(show _ ≤ 2 by omega), (show _ ≤ 12 by omega)⟩) hS (fun q _ z => hF q z) hF (fun q _ z => hF q z) (fun E ce q9 M9 t H locs ht _ _ h8 _ _ hS hce hcv hcl => hq_out hout hlocks (hw_back hF ht h8.2) hS h8.1 hce hcv hcl (by omega) (by omega)) (fun M13 t H locs ht _ h hB1 _ _ hS => ?_)
  have hW := hw_back hF ht hB1
  clear h9
  refine lv_aload_n hx hb d_Ha_got_7 rfl (lv_at hl 0 rfl) ?_
  obtain ⟨fs, v14, h1, h2, h⟩ := h
  refine va_get (D := D) (ci := 3) (v := va_rf v14) (C := "ChannelHall") (T := THa) (N := 4) hx hb hts uHa hown hK (hw_one hW h1) 0 rfl rfl 0 (by decide) (hts _ bw_100) (fun _ h9 => h9) h2 d_Ha_got_8 ?_
  refine lv_iload_n hx hb d_Ha_got_11 rfl (lv_at hl 1 rfl) ?_
  obtain ⟨b15, rfl, h⟩ := h
  obtain ⟨n, f, h1, h2, h⟩ := h
  refine va_aldq hx hb hK (hw_one hW h1) 0 0 rfl rfl h2 d_Ha_got_12 ?_
  generalize f (x1).toNatClampNeg = v16 at h ⊢
  refine lq_store_n (lv' := [(2, va_rf v16), (0, .ref a0), (1, .int x1)]) hx hb d_Ha_got_13 rfl hl (by decide) rfl (fun ls hl => ?_)
  refine lq_load_n hx hb d_Ha_got_14 rfl (lv_at hl 0 rfl) ?_
  obtain ⟨b17, rfl, h⟩ := h
  obtain ⟨fs, v18, h1, h2, h⟩ := h
  refine va_get (D := D) (ci := 2) (v := .int v18) (C := "ChannelHall$Worker") (T := TWo) (N := 11) hx hb hts uWo hown hK (hw_one hW h1) 0 rfl rfl 3 (by decide) (hts _ bw_59) (fun _ h9 => h9) h2 d_Ha_got_15 ?_
  obtain ⟨h0, h1⟩ := h
  refine lv_if_ne (tgt := 29) hx hb d_Ha_got_18 (by decide) (fun c19 => ?_) (fun c19 => ?_)
  · have h := h0 c19
    refine lv_aload_n hx hb d_Ha_got_29 rfl (lv_at hl 0 rfl) ?_
    obtain ⟨fs, v20, h1, h2, h⟩ := h
    refine va_get (D := D) (ci := 2) (v := .int v20) (C := "ChannelHall$Worker") (T := TWo) (N := 11) hx hb hts uWo hown hK (hw_one hW h1) 0 rfl rfl 4 (by decide) (hts _ bw_61) (fun _ h9 => h9) h2 d_Ha_got_30 ?_
    refine W.widen (k := 2) (n := 12) (by omega) (by omega) ?_
    exact vx_ret (W.iret hx hb hr (fun t ht hWm => ⟨⟨_, _, rfl, h, hw_t ht hW⟩, hS.F ht⟩) hS.2.2 d_Ha_got_33)
  · have h := h1 c19
    exact hq_throw (names := ["java/lang/RuntimeException", "java/lang/Exception"]) hx hb hl0 hout hown (by decide) (by decide) hts bw_313 bw_15 xg_Ha_NoSuchElementException xn_Ha_NoSuchElementException xo_Ha_NoSuchElementException hZ0 hW hS (hl.1.trans hml.symm) h d_Ha_got_21 d_Ha_got_24 d_Ha_got_25 d_Ha_got_28 (by decide) (Nat.le_of_ble_eq_true rfl) (show _ ≤ 2 by omega) (show _ ≤ 12 by omega) hlocks (by omega) (by omega)
set_option maxRecDepth 20000 in
theorem c_Ha_got {l : Launch} (hl0 : l.stackTraces = false) {D : va_G} {ca G : Nat → Nat} (post : Int32 → hM → Prop) (xp : String → hM → Prop) {M : hM} {sz : Nat} {a0 : Nat} {x1 : Int32} (h : wp_Ha_got G ca post xp M a0 x1) : vx_Met l y_Ha_got (wz y_Ha_got prog_1_method_10_code 3 (some .int)) rm_Ha_got (va_Pc [.ref a0, .int x1] (hI D ca G sz M)) (va_Qi post (hB D M sz) (hp_A M sz)) (hX D xp (hp_A M sz)) 2 12 (hp_A M sz) := by
  refine vx_ofW (cc := prog_1_method_10_code) (maxL := 3) (ret := some .int) (by decide) rfl ?_
  intro p e s m args below meth c s₁ B hml hout hv
  obtain ⟨rfl, hsz, hW, hK, hZ0⟩ := hv
  have hts := fun w hw => atoms_spec (ws := wz y_Ha_got prog_1_method_10_code 3 (some .int)) B.pre w (List.mem_cons_of_mem _ hw)
  have hown : s.vm.findClass "ChannelHall" = some m.cls := findClass_of_methodNamed B.named
  subst hsz
  have hl := lv_entry [.ref a0, .int x1] (n := 3) (Nat.le_of_ble_eq_true rfl)
  rw [lg_entry_eq]
  exact l_Ha_got_e ⟨B.exec, B.bytes, B.returns, hml, hown, hts, B.notSynchronized, hK, fun q h => Or.inr h, hZ0⟩ hl0 hout a0 x1 (Nat.zero_le _) (Nat.zero_le _) h hW va_S.rf hl

theorem d_Ha_thread_0 : decode prog_1_method_11_code 0 = .ok (.iload_n 1, 1) := by decide +kernel
theorem d_Ha_thread_1 : decode prog_1_method_11_code 1 = .ok (.invokestatic 50, 3) := by decide +kernel
theorem d_Ha_thread_4 : decode prog_1_method_11_code 4 = .ok (.ifCond .eq 16, 3) := by decide +kernel
theorem d_Ha_thread_7 : decode prog_1_method_11_code 7 = .ok (.iload_n 2, 1) := by decide +kernel
theorem d_Ha_thread_8 : decode prog_1_method_11_code 8 = .ok (.ifCond .lt 12, 3) := by decide +kernel
theorem d_Ha_thread_11 : decode prog_1_method_11_code 11 = .ok (.iload_n 2, 1) := by decide +kernel
theorem d_Ha_thread_12 : decode prog_1_method_11_code 12 = .ok (.iconst 3, 1) := by decide +kernel
theorem d_Ha_thread_13 : decode prog_1_method_11_code 13 = .ok (.if_icmp .gt 7, 3) := by decide +kernel
theorem d_Ha_thread_16 : decode prog_1_method_11_code 16 = .ok (.iconst 1, 1) := by decide +kernel
theorem d_Ha_thread_17 : decode prog_1_method_11_code 17 = .ok (.goto 4, 3) := by decide +kernel
theorem d_Ha_thread_20 : decode prog_1_method_11_code 20 = .ok (.iconst 0, 1) := by decide +kernel
theorem d_Ha_thread_21 : decode prog_1_method_11_code 21 = .ok (.invokestatic 40, 3) := by decide +kernel
theorem d_Ha_thread_24 : decode prog_1_method_11_code 24 = .ok (.aload_n 0, 1) := by decide +kernel
theorem d_Ha_thread_25 : decode prog_1_method_11_code 25 = .ok (.getfield 11, 3) := by decide +kernel
theorem d_Ha_thread_28 : decode prog_1_method_11_code 28 = .ok (.iload_n 1, 1) := by decide +kernel
theorem d_Ha_thread_29 : decode prog_1_method_11_code 29 = .ok (.aaload, 1) := by decide +kernel
theorem d_Ha_thread_30 : decode prog_1_method_11_code 30 = .ok (.astore_n 3, 1) := by decide +kernel
theorem d_Ha_thread_31 : decode prog_1_method_11_code 31 = .ok (.iload_n 2, 1) := by decide +kernel
theorem d_Ha_thread_32 : decode prog_1_method_11_code 32 = .ok (.tableswitch 59 0 2 #[28, 41, 46], 28) := by decide +kernel
theorem d_Ha_thread_60 : decode prog_1_method_11_code 60 = .ok (.aload_n 3, 1) := by decide +kernel
theorem d_Ha_thread_61 : decode prog_1_method_11_code 61 = .ok (.getfield 171, 3) := by decide +kernel
theorem d_Ha_thread_64 : decode prog_1_method_11_code 64 = .ok (.ifnull 7, 3) := by decide +kernel
theorem d_Ha_thread_67 : decode prog_1_method_11_code 67 = .ok (.iconst 1, 1) := by decide +kernel
theorem d_Ha_thread_68 : decode prog_1_method_11_code 68 = .ok (.goto 4, 3) := by decide +kernel
theorem d_Ha_thread_71 : decode prog_1_method_11_code 71 = .ok (.iconst 0, 1) := by decide +kernel
theorem d_Ha_thread_72 : decode prog_1_method_11_code 72 = .ok (.ireturn, 1) := by decide +kernel
theorem d_Ha_thread_73 : decode prog_1_method_11_code 73 = .ok (.aload_n 3, 1) := by decide +kernel
theorem d_Ha_thread_74 : decode prog_1_method_11_code 74 = .ok (.getfield 181, 3) := by decide +kernel
theorem d_Ha_thread_77 : decode prog_1_method_11_code 77 = .ok (.ireturn, 1) := by decide +kernel
theorem d_Ha_thread_78 : decode prog_1_method_11_code 78 = .ok (.aload_n 3, 1) := by decide +kernel
theorem d_Ha_thread_79 : decode prog_1_method_11_code 79 = .ok (.getfield 175, 3) := by decide +kernel
theorem d_Ha_thread_82 : decode prog_1_method_11_code 82 = .ok (.ifCond .eq 7, 3) := by decide +kernel
theorem d_Ha_thread_85 : decode prog_1_method_11_code 85 = .ok (.iconst 1, 1) := by decide +kernel
theorem d_Ha_thread_86 : decode prog_1_method_11_code 86 = .ok (.goto 4, 3) := by decide +kernel
theorem d_Ha_thread_89 : decode prog_1_method_11_code 89 = .ok (.iconst 0, 1) := by decide +kernel
theorem d_Ha_thread_90 : decode prog_1_method_11_code 90 = .ok (.ireturn, 1) := by decide +kernel
theorem d_Ha_thread_91 : decode prog_1_method_11_code 91 = .ok (.aload_n 3, 1) := by decide +kernel
theorem d_Ha_thread_92 : decode prog_1_method_11_code 92 = .ok (.getfield 171, 3) := by decide +kernel
theorem d_Ha_thread_95 : decode prog_1_method_11_code 95 = .ok (.ifnull 13, 3) := by decide +kernel
theorem d_Ha_thread_98 : decode prog_1_method_11_code 98 = .ok (.aload_n 3, 1) := by decide +kernel
theorem d_Ha_thread_99 : decode prog_1_method_11_code 99 = .ok (.getfield 171, 3) := by decide +kernel
theorem d_Ha_thread_102 : decode prog_1_method_11_code 102 = .ok (.getfield 203, 3) := by decide +kernel
theorem d_Ha_thread_105 : decode prog_1_method_11_code 105 = .ok (.goto 4, 3) := by decide +kernel
theorem d_Ha_thread_108 : decode prog_1_method_11_code 108 = .ok (.iconst (-1), 1) := by decide +kernel
theorem d_Ha_thread_109 : decode prog_1_method_11_code 109 = .ok (.ireturn, 1) := by decide +kernel
def y_Ha_thread : MethodName := ⟨"ChannelHall", "thread", "(II)I"⟩
abbrev rm_Ha_thread : Room := { frames := 7, cells := 1, slots := 6, locals := 101 }
def wp_Ha_thread_109 (G ca : Nat → Nat) (post : Int32 → hM → Prop) (xp : String → hM → Prop) (M : hM) (s0b109 : Int32) : Prop := post s0b109 M
def wp_Ha_thread_90 (G ca : Nat → Nat) (post : Int32 → hM → Prop) (xp : String → hM → Prop) (M : hM) (s0b90 : Int32) : Prop := post s0b90 M
def wp_Ha_thread_72 (G ca : Nat → Nat) (post : Int32 → hM → Prop) (xp : String → hM → Prop) (M : hM) (s0b72 : Int32) : Prop := post s0b72 M
def wp_Ha_thread_21 (G ca : Nat → Nat) (post : Int32 → hM → Prop) (xp : String → hM → Prop) (M : hM) (l0b21 : Nat) (l1b21 : Int32) (l2b21 : Int32) (s0b21 : Int32) : Prop := wp_Ha_require G ca (fun M24 => gR M24 l0b21 3 0 fun v25 => nN v25 fun b26 => aR M24 b26 (ca 0) l1b21 fun v27 => (l2b21 = 0 → nN v27 fun b28 => gR M24 b28 2 5 fun v29 => (v29 = none → wp_Ha_thread_72 G ca post xp M24 0) ∧ (∀ b30 : Nat, v29 = some b30 → wp_Ha_thread_72 G ca post xp M24 1)) ∧ (¬ l2b21 = 0 → (l2b21 = 1 → nN v27 fun b31 => gI M24 b31 2 2 fun v32 => post v32 M24) ∧ (¬ l2b21 = 1 → (l2b21 = 2 → nN v27 fun b33 => gI M24 b33 2 1 fun v34 => (v34 = 0 → wp_Ha_thread_90 G ca post xp M24 0) ∧ (¬ v34 = 0 → wp_Ha_thread_90 G ca post xp M24 1)) ∧ (¬ l2b21 = 2 → nN v27 fun b36 => gR M24 b36 2 5 fun v37 => (v37 = none → wp_Ha_thread_109 G ca post xp M24 (-1)) ∧ (∀ b38 : Nat, v37 = some b38 → gR M24 b36 2 5 fun v39 => nN v39 fun b40 => gI M24 b40 0 0 fun v41 => wp_Ha_thread_109 G ca post xp M24 v41))))) xp M s0b21
def wp_Ha_thread_20 (G ca : Nat → Nat) (post : Int32 → hM → Prop) (xp : String → hM → Prop) (M : hM) (l0b20 : Nat) (l1b20 : Int32) (l2b20 : Int32) : Prop := wp_Ha_thread_21 G ca post xp M l0b20 l1b20 l2b20 0
def wp_Ha_thread (G ca : Nat → Nat) (post : Int32 → hM → Prop) (xp : String → hM → Prop) (M : hM) (a0 : Nat) (x1 : Int32) (x2 : Int32) : Prop := wp_Ha_isThread G ca (fun r42 M43 => (r42 = 0 → wp_Ha_thread_20 G ca post xp M43 a0 x1 x2) ∧ (¬ r42 = 0 → (x2 < 0 → wp_Ha_thread_20 G ca post xp M43 a0 x1 x2) ∧ (¬ x2 < 0 → (3 < x2 → wp_Ha_thread_20 G ca post xp M43 a0 x1 x2) ∧ (¬ 3 < x2 → wp_Ha_thread_21 G ca post xp M43 a0 x1 x2 1)))) M x1
set_option maxHeartbeats 1000000 in
set_option maxRecDepth 20000 in
theorem l_Ha_thread_109 {p : Program} {l : Launch} {e : Env} {s : State} {m : MethodId} {args : Array Value} {below : List Frame} {meth : Method} {c : Code} {D : va_G} {ca G : Nat → Nat} {A : Nat → Prop} (C0 : hC p s m args meth c D ca G prog_1_method_11_code 4 (some .int) "ChannelHall" A) (hl0 : l.stackTraces = false) (hout : ∀ x ∈ c.exceptionTable.toList, False) {post : Int32 → hM → Prop} {xp : String → hM → Prop} {M : hM} {H : Heap} {locs : List Loc} {ls : Array Slot} {cells slots : Nat} (s0b109 : Int32) (hc : cells ≤ 1) (hs : slots ≤ 6) (h : wp_Ha_thread_109 G ca post xp M s0b109) (hW : hw D wCl A M H) (hS : va_S A s.heap H locs) (hl : lv_has ls 4 []) : W p l e rm_Ha_thread s m args below meth c H locs cells slots (vx_MQ below (va_Qi post (fun M' t => hw D wCl A M' t.heap) A) (hX D xp A) args s 1 6 A) (F0 m 109 ls [.int s0b109]) := by
  obtain ⟨hx, hb, hr, hml, hown, hts, hlocks, hK, hA, hZ0⟩ := id C0
  refine W.widen (k := 1) (n := 6) (by omega) (by omega) ?_
  exact vx_ret (W.iret hx hb hr (fun t ht hWm => ⟨⟨_, _, rfl, h, hw_t ht hW⟩, hS.F ht⟩) hS.2.2 d_Ha_thread_109)
set_option maxHeartbeats 1000000 in
set_option maxRecDepth 20000 in
theorem l_Ha_thread_90 {p : Program} {l : Launch} {e : Env} {s : State} {m : MethodId} {args : Array Value} {below : List Frame} {meth : Method} {c : Code} {D : va_G} {ca G : Nat → Nat} {A : Nat → Prop} (C0 : hC p s m args meth c D ca G prog_1_method_11_code 4 (some .int) "ChannelHall" A) (hl0 : l.stackTraces = false) (hout : ∀ x ∈ c.exceptionTable.toList, False) {post : Int32 → hM → Prop} {xp : String → hM → Prop} {M : hM} {H : Heap} {locs : List Loc} {ls : Array Slot} {cells slots : Nat} (s0b90 : Int32) (hc : cells ≤ 1) (hs : slots ≤ 6) (h : wp_Ha_thread_90 G ca post xp M s0b90) (hW : hw D wCl A M H) (hS : va_S A s.heap H locs) (hl : lv_has ls 4 []) : W p l e rm_Ha_thread s m args below meth c H locs cells slots (vx_MQ below (va_Qi post (fun M' t => hw D wCl A M' t.heap) A) (hX D xp A) args s 1 6 A) (F0 m 90 ls [.int s0b90]) := by
  obtain ⟨hx, hb, hr, hml, hown, hts, hlocks, hK, hA, hZ0⟩ := id C0
  refine W.widen (k := 1) (n := 6) (by omega) (by omega) ?_
  exact vx_ret (W.iret hx hb hr (fun t ht hWm => ⟨⟨_, _, rfl, h, hw_t ht hW⟩, hS.F ht⟩) hS.2.2 d_Ha_thread_90)
set_option maxHeartbeats 1000000 in
set_option maxRecDepth 20000 in
theorem l_Ha_thread_72 {p : Program} {l : Launch} {e : Env} {s : State} {m : MethodId} {args : Array Value} {below : List Frame} {meth : Method} {c : Code} {D : va_G} {ca G : Nat → Nat} {A : Nat → Prop} (C0 : hC p s m args meth c D ca G prog_1_method_11_code 4 (some .int) "ChannelHall" A) (hl0 : l.stackTraces = false) (hout : ∀ x ∈ c.exceptionTable.toList, False) {post : Int32 → hM → Prop} {xp : String → hM → Prop} {M : hM} {H : Heap} {locs : List Loc} {ls : Array Slot} {cells slots : Nat} (s0b72 : Int32) (hc : cells ≤ 1) (hs : slots ≤ 6) (h : wp_Ha_thread_72 G ca post xp M s0b72) (hW : hw D wCl A M H) (hS : va_S A s.heap H locs) (hl : lv_has ls 4 []) : W p l e rm_Ha_thread s m args below meth c H locs cells slots (vx_MQ below (va_Qi post (fun M' t => hw D wCl A M' t.heap) A) (hX D xp A) args s 1 6 A) (F0 m 72 ls [.int s0b72]) := by
  obtain ⟨hx, hb, hr, hml, hown, hts, hlocks, hK, hA, hZ0⟩ := id C0
  refine W.widen (k := 1) (n := 6) (by omega) (by omega) ?_
  exact vx_ret (W.iret hx hb hr (fun t ht hWm => ⟨⟨_, _, rfl, h, hw_t ht hW⟩, hS.F ht⟩) hS.2.2 d_Ha_thread_72)
set_option maxHeartbeats 1000000 in
set_option maxRecDepth 20000 in
theorem l_Ha_thread_21 {p : Program} {l : Launch} {e : Env} {s : State} {m : MethodId} {args : Array Value} {below : List Frame} {meth : Method} {c : Code} {D : va_G} {ca G : Nat → Nat} {A : Nat → Prop} (C0 : hC p s m args meth c D ca G prog_1_method_11_code 4 (some .int) "ChannelHall" A) (hl0 : l.stackTraces = false) (hout : ∀ x ∈ c.exceptionTable.toList, False) {post : Int32 → hM → Prop} {xp : String → hM → Prop} {M : hM} {H : Heap} {locs : List Loc} {ls : Array Slot} {cells slots : Nat} (l0b21 : Nat) (l1b21 : Int32) (l2b21 : Int32) (s0b21 : Int32) (hc : cells ≤ 0) (hs : slots ≤ 0) (h : wp_Ha_thread_21 G ca post xp M l0b21 l1b21 l2b21 s0b21) (hW : hw D wCl A M H) (hS : va_S A s.heap H locs) (hl : lv_has ls 4 [(0, .ref l0b21), (1, .int l1b21), (2, .int l2b21)]) : W p l e rm_Ha_thread s m args below meth c H locs cells slots (vx_MQ below (va_Qi post (fun M' t => hw D wCl A M' t.heap) A) (hX D xp A) args s 1 6 A) (F0 m 21 ls [.int s0b21]) := by
  obtain ⟨hx, hb, hr, hml, hown, hts, hlocks, hK, hA, hZ0⟩ := id C0
  have h9 := h
  clear h
  have hF := hW.free hS hA
  refine vx_callv (vx_runS (As := [.int s0b21]) (rest := []) ⟨hx, hb, hml, hown, hts⟩ (c_Ha_require hl0 _ _ h9) (va_cwS 1 hts (gi_S bw_132 bw_133 bw_1 bw_134) rfl rfl rfl (by decide +kernel) ⟨Nat.le_of_ble_eq_true rfl, Nat.le_of_ble_eq_true rfl⟩) ⟨hI.blind, hI.give hW hS hA hK hZ0⟩ rfl rfl hl.1 rfl (lv_room (Nat.le_of_ble_eq_true rfl)) d_Ha_thread_21 ⟨(show _ ≤ 1 by omega), (show _ ≤ 6 by omega)⟩) hS (fun q _ z => hF q z) hF (fun q _ z => hF q z) (fun E ce q9 M9 t H locs ht _ _ h8 _ _ hS hce hcv hcl => hq_out hout hlocks (hw_back hF ht h8.2) hS h8.1 hce hcv hcl (by omega) (by omega)) (fun M24 t H locs ht _ h hB1 _ _ hS => ?_)
  have hW := hw_back hF ht hB1
  clear h9
  refine lv_aload_n hx hb d_Ha_thread_24 rfl (lv_at hl 0 rfl) ?_
  obtain ⟨fs, v25, h1, h2, h⟩ := h
  refine va_get (D := D) (ci := 3) (v := va_rf v25) (C := "ChannelHall") (T := THa) (N := 4) hx hb hts uHa hown hK (hw_one hW h1) 0 rfl rfl 0 (by decide) (hts _ bw_100) (fun _ h9 => h9) h2 d_Ha_thread_25 ?_
  refine lv_iload_n hx hb d_Ha_thread_28 rfl (lv_at hl 1 rfl) ?_
  obtain ⟨b26, rfl, h⟩ := h
  obtain ⟨n, f, h1, h2, h⟩ := h
  refine va_aldq hx hb hK (hw_one hW h1) 0 0 rfl rfl h2 d_Ha_thread_29 ?_
  generalize f (l1b21).toNatClampNeg = v27 at h ⊢
  refine lq_store_n (lv' := [(3, va_rf v27), (0, .ref l0b21), (1, .int l1b21), (2, .int l2b21)]) hx hb d_Ha_thread_30 rfl hl (by decide) rfl (fun ls hl => ?_)
  refine lv_iload_n hx hb d_Ha_thread_31 rfl (lv_at hl 3 rfl) ?_
  obtain ⟨h0, h1⟩ := h
  by_cases c0 : l2b21 = 0
  · have h := h0 c0
    rw [c0]
    refine lv_tableIn (off := 28) (tgt := 60) hx hb d_Ha_thread_32 (by decide) (by decide) (by decide) (by decide) ?_
    refine lq_load_n hx hb d_Ha_thread_60 rfl (lv_at hl 0 rfl) ?_
    obtain ⟨b28, rfl, h⟩ := h
    obtain ⟨fs, v29, h1, h2, h⟩ := h
    refine va_get (D := D) (ci := 2) (v := va_rf v29) (C := "ChannelHall$Worker") (T := TWo) (N := 11) hx hb hts uWo hown hK (hw_one hW h1) 0 rfl rfl 5 (by decide) (hts _ bw_63) (fun _ h9 => h9) h2 d_Ha_thread_61 ?_
    obtain ⟨h0, h1⟩ := h
    cases v29 with
    | none =>
      have h := h0 rfl
      refine lv_ifnullN (tgt := 71) hx hb d_Ha_thread_64 (by decide) ?_
      refine lv_iconst (v := 0) hx hb d_Ha_thread_71 (by decide) ?_
      exact l_Ha_thread_72 C0 hl0 hout 0 (by omega) (by omega) h hW hS (lv_sub hl [] rfl)
    | some b30 =>
      have h := h1 b30 rfl
      refine lv_ifnull hx hb d_Ha_thread_64 ?_
      refine lv_iconst (v := 1) hx hb d_Ha_thread_67 (by decide) ?_
      refine lv_goto (tgt := 72) hx hb d_Ha_thread_68 (by decide) ?_
      exact l_Ha_thread_72 C0 hl0 hout 1 (by omega) (by omega) h hW hS (lv_sub hl [] rfl)
  · have h := h1 c0
    obtain ⟨h0, h1⟩ := h
    by_cases c1 : l2b21 = 1
    · have h := h0 c1
      rw [c1]
      refine lv_tableIn (off := 41) (tgt := 73) hx hb d_Ha_thread_32 (by decide) (by decide) (by decide) (by decide) ?_
      refine lq_load_n hx hb d_Ha_thread_73 rfl (lv_at hl 0 rfl) ?_
      obtain ⟨b31, rfl, h⟩ := h
      obtain ⟨fs, v32, h1, h2, h⟩ := h
      refine va_get (D := D) (ci := 2) (v := .int v32) (C := "ChannelHall$Worker") (T := TWo) (N := 11) hx hb hts uWo hown hK (hw_one hW h1) 0 rfl rfl 2 (by decide) (hts _ bw_56) (fun _ h9 => h9) h2 d_Ha_thread_74 ?_
      refine W.widen (k := 1) (n := 6) (by omega) (by omega) ?_
      exact vx_ret (W.iret hx hb hr (fun t ht hWm => ⟨⟨_, _, rfl, h, hw_t ht hW⟩, hS.F ht⟩) hS.2.2 d_Ha_thread_77)
    · have h := h1 c1
      obtain ⟨h0, h1⟩ := h
      by_cases c2 : l2b21 = 2
      · have h := h0 c2
        rw [c2]
        refine lv_tableIn (off := 46) (tgt := 78) hx hb d_Ha_thread_32 (by decide) (by decide) (by decide) (by decide) ?_
        refine lq_load_n hx hb d_Ha_thread_78 rfl (lv_at hl 0 rfl) ?_
        obtain ⟨b33, rfl, h⟩ := h
        obtain ⟨fs, v34, h1, h2, h⟩ := h
        refine va_get (D := D) (ci := 2) (v := .int v34) (C := "ChannelHall$Worker") (T := TWo) (N := 11) hx hb hts uWo hown hK (hw_one hW h1) 0 rfl rfl 1 (by decide) (hts _ bw_54) (fun _ h9 => h9) h2 d_Ha_thread_79 ?_
        obtain ⟨h0, h1⟩ := h
        refine lv_if_eq (tgt := 89) hx hb d_Ha_thread_82 (by decide) (fun c35 => ?_) (fun c35 => ?_)
        · have h := h0 c35
          refine lv_iconst (v := 0) hx hb d_Ha_thread_89 (by decide) ?_
          exact l_Ha_thread_90 C0 hl0 hout 0 (by omega) (by omega) h hW hS (lv_sub hl [] rfl)
        · have h := h1 c35
          refine lv_iconst (v := 1) hx hb d_Ha_thread_85 (by decide) ?_
          refine lv_goto (tgt := 90) hx hb d_Ha_thread_86 (by decide) ?_
          exact l_Ha_thread_90 C0 hl0 hout 1 (by omega) (by omega) h hW hS (lv_sub hl [] rfl)
      · have h := h1 c2
        have n0 := lv_neT c0 (a := 0) (by decide); have n1 := lv_neT c1 (a := 1) (by decide); have n2 := lv_neT c2 (a := 2) (by decide)
        refine lv_tableOut (tgt := 91) hx hb d_Ha_thread_32 (by omega) (by decide) ?_
        refine lq_load_n hx hb d_Ha_thread_91 rfl (lv_at hl 0 rfl) ?_
        obtain ⟨b36, rfl, h⟩ := h
        obtain ⟨fs, v37, h1, h2, h⟩ := h
        refine va_get (D := D) (ci := 2) (v := va_rf v37) (C := "ChannelHall$Worker") (T := TWo) (N := 11) hx hb hts uWo hown hK (hw_one hW h1) 0 rfl rfl 5 (by decide) (hts _ bw_63) (fun _ h9 => h9) h2 d_Ha_thread_92 ?_
        obtain ⟨h0, h1⟩ := h
        cases v37 with
        | none =>
          have h := h0 rfl
          refine lv_ifnullN (tgt := 108) hx hb d_Ha_thread_95 (by decide) ?_
          refine lv_iconst (v := (-1)) hx hb d_Ha_thread_108 (by decide) ?_
          exact l_Ha_thread_109 C0 hl0 hout (-1) (by omega) (by omega) h hW hS (lv_sub hl [] rfl)
        | some b38 =>
          have h := h1 b38 rfl
          refine lv_ifnull hx hb d_Ha_thread_95 ?_
          refine lv_aload_n hx hb d_Ha_thread_98 rfl (lv_at hl 0 rfl) ?_
          obtain ⟨fs, v39, h1, h2, h⟩ := h
          refine va_get (D := D) (ci := 2) (v := va_rf v39) (C := "ChannelHall$Worker") (T := TWo) (N := 11) hx hb hts uWo hown hK (hw_one hW h1) 0 rfl rfl 5 (by decide) (hts _ bw_63) (fun _ h9 => h9) h2 d_Ha_thread_99 ?_
          obtain ⟨b40, rfl, h⟩ := h
          obtain ⟨fs, v41, h1, h2, h⟩ := h
          refine va_get (D := D) (ci := 0) (v := .int v41) (C := "ChannelHall$Channel") (T := TCh) (N := 10) hx hb hts uCh hown hK (hw_one hW h1) 0 rfl rfl 0 (by decide) (hts _ bw_252) (fun _ h9 => h9) h2 d_Ha_thread_102 ?_
          refine lv_goto (tgt := 109) hx hb d_Ha_thread_105 (by decide) ?_
          exact l_Ha_thread_109 C0 hl0 hout v41 (by omega) (by omega) h hW hS (lv_sub hl [] rfl)
set_option maxHeartbeats 1000000 in
set_option maxRecDepth 20000 in
theorem l_Ha_thread_20 {p : Program} {l : Launch} {e : Env} {s : State} {m : MethodId} {args : Array Value} {below : List Frame} {meth : Method} {c : Code} {D : va_G} {ca G : Nat → Nat} {A : Nat → Prop} (C0 : hC p s m args meth c D ca G prog_1_method_11_code 4 (some .int) "ChannelHall" A) (hl0 : l.stackTraces = false) (hout : ∀ x ∈ c.exceptionTable.toList, False) {post : Int32 → hM → Prop} {xp : String → hM → Prop} {M : hM} {H : Heap} {locs : List Loc} {ls : Array Slot} {cells slots : Nat} (l0b20 : Nat) (l1b20 : Int32) (l2b20 : Int32) (hc : cells ≤ 0) (hs : slots ≤ 0) (h : wp_Ha_thread_20 G ca post xp M l0b20 l1b20 l2b20) (hW : hw D wCl A M H) (hS : va_S A s.heap H locs) (hl : lv_has ls 4 [(0, .ref l0b20), (1, .int l1b20), (2, .int l2b20)]) : W p l e rm_Ha_thread s m args below meth c H locs cells slots (vx_MQ below (va_Qi post (fun M' t => hw D wCl A M' t.heap) A) (hX D xp A) args s 1 6 A) (F0 m 20 ls []) := by
  obtain ⟨hx, hb, hr, hml, hown, hts, hlocks, hK, hA, hZ0⟩ := id C0
  refine lv_iconst (v := 0) hx hb d_Ha_thread_20 (by decide) ?_
  exact l_Ha_thread_21 C0 hl0 hout l0b20 l1b20 l2b20 0 (by omega) (by omega) h hW hS (lv_sub hl [0, 1, 2] rfl)
set_option maxHeartbeats 1000000 in
set_option maxRecDepth 20000 in
theorem l_Ha_thread_e {p : Program} {l : Launch} {e : Env} {s : State} {m : MethodId} {args : Array Value} {below : List Frame} {meth : Method} {c : Code} {D : va_G} {ca G : Nat → Nat} {A : Nat → Prop} (C0 : hC p s m args meth c D ca G prog_1_method_11_code 4 (some .int) "ChannelHall" A) (hl0 : l.stackTraces = false) (hout : ∀ x ∈ c.exceptionTable.toList, False) {post : Int32 → hM → Prop} {xp : String → hM → Prop} {M : hM} {H : Heap} {locs : List Loc} {ls : Array Slot} {cells slots : Nat} (a0 : Nat) (x1 : Int32) (x2 : Int32) (hc : cells ≤ 0) (hs : slots ≤ 0) (h : wp_Ha_thread G ca post xp M a0 x1 x2) (hW : hw D wCl A M H) (hS : va_S A s.heap H locs) (hl : lv_has ls 4 [(0, .ref a0), (1, .int x1), (2, .int x2)]) : W p l e rm_Ha_thread s m args below meth c H locs cells slots (vx_MQ below (va_Qi post (fun M' t => hw D wCl A M' t.heap) A) (hX D xp A) args s 1 6 A) (F0 m 0 ls []) := by
  obtain ⟨hx, hb, hr, hml, hown, hts, hlocks, hK, hA, hZ0⟩ := id C0
  refine lv_iload_n hx hb d_Ha_thread_0 rfl (lv_at hl 1 rfl) ?_
  have h9 := h
  clear h
  have hF := hW.free hS hA
  refine va_calli (va_runS (As := [.int x1]) (rest := []) ⟨hx, hb, hml, hown, hts⟩ (c_Ha_isThread _ h9) (va_cwS 1 hts (gi_S bw_300 bw_301 bw_1 bw_302) rfl rfl rfl (by decide +kernel) ⟨Nat.le_of_ble_eq_true rfl, Nat.le_of_ble_eq_true rfl⟩) ⟨hI.blind, hI.give hW hS hA hK hZ0⟩ rfl rfl hl.1 rfl (lv_room (Nat.le_of_ble_eq_true rfl)) d_Ha_thread_1 ⟨(show _ ≤ 1 by omega), (show _ ≤ 6 by omega)⟩) hS (fun q _ z => hF q z) hF (fun r42 M43 t H locs ht _ h hB1 _ _ hS => ?_)
  have hW := hw_back hF ht hB1
  clear h9
  obtain ⟨h0, h1⟩ := h
  refine lv_if_eq (tgt := 20) hx hb d_Ha_thread_4 (by decide) (fun c44 => ?_) (fun c44 => ?_)
  · have h := h0 c44
    exact l_Ha_thread_20 C0 hl0 hout a0 x1 x2 (by omega) (by omega) h hW hS (lv_sub hl [0, 1, 2] rfl)
  · have h := h1 c44
    refine lv_iload_n hx hb d_Ha_thread_7 rfl (lv_at hl 2 rfl) ?_
    obtain ⟨h0, h1⟩ := h
    refine lv_if_lt (tgt := 20) hx hb d_Ha_thread_8 (by decide) (fun c45 => ?_) (fun c45 => ?_)
    · have h := h0 c45
      exact l_Ha_thread_20 C0 hl0 hout a0 x1 x2 (by omega) (by omega) h hW hS (lv_sub hl [0, 1, 2] rfl)
    · have h := h1 c45
      refine lv_iload_n hx hb d_Ha_thread_11 rfl (lv_at hl 2 rfl) ?_
      refine lv_iconst (v := 3) hx hb d_Ha_thread_12 (by decide) ?_
      obtain ⟨h0, h1⟩ := h
      refine lv_icmp_gt (tgt := 20) hx hb d_Ha_thread_13 (by decide) (fun c46 => ?_) (fun c46 => ?_)
      · have h := h0 c46
        exact l_Ha_thread_20 C0 hl0 hout a0 x1 x2 (by omega) (by omega) h hW hS (lv_sub hl [0, 1, 2] rfl)
      · have h := h1 c46
        refine lv_iconst (v := 1) hx hb d_Ha_thread_16 (by decide) ?_
        refine lv_goto (tgt := 21) hx hb d_Ha_thread_17 (by decide) ?_
        exact l_Ha_thread_21 C0 hl0 hout a0 x1 x2 1 (by omega) (by omega) h hW hS (lv_sub hl [0, 1, 2] rfl)
set_option maxRecDepth 20000 in
theorem c_Ha_thread {l : Launch} (hl0 : l.stackTraces = false) {D : va_G} {ca G : Nat → Nat} (post : Int32 → hM → Prop) (xp : String → hM → Prop) {M : hM} {sz : Nat} {a0 : Nat} {x1 : Int32} {x2 : Int32} (h : wp_Ha_thread G ca post xp M a0 x1 x2) : vx_Met l y_Ha_thread (wz y_Ha_thread prog_1_method_11_code 4 (some .int)) rm_Ha_thread (va_Pc [.ref a0, .int x1, .int x2] (hI D ca G sz M)) (va_Qi post (hB D M sz) (hp_A M sz)) (hX D xp (hp_A M sz)) 1 6 (hp_A M sz) := by
  refine vx_ofW (cc := prog_1_method_11_code) (maxL := 4) (ret := some .int) (by decide) rfl ?_
  intro p e s m args below meth c s₁ B hml hout hv
  obtain ⟨rfl, hsz, hW, hK, hZ0⟩ := hv
  have hts := fun w hw => atoms_spec (ws := wz y_Ha_thread prog_1_method_11_code 4 (some .int)) B.pre w (List.mem_cons_of_mem _ hw)
  have hown : s.vm.findClass "ChannelHall" = some m.cls := findClass_of_methodNamed B.named
  subst hsz
  have hl := lv_entry [.ref a0, .int x1, .int x2] (n := 4) (Nat.le_of_ble_eq_true rfl)
  rw [lg_entry_eq]
  exact l_Ha_thread_e ⟨B.exec, B.bytes, B.returns, hml, hown, hts, B.notSynchronized, hK, fun q h => Or.inr h, hZ0⟩ hl0 hout a0 x1 x2 (Nat.zero_le _) (Nat.zero_le _) h hW va_S.rf hl

theorem d_Ha_channel_0 : decode prog_1_method_12_code 0 = .ok (.iload_n 1, 1) := by decide +kernel
theorem d_Ha_channel_1 : decode prog_1_method_12_code 1 = .ok (.invokestatic 32, 3) := by decide +kernel
theorem d_Ha_channel_4 : decode prog_1_method_12_code 4 = .ok (.ifCond .eq 17, 3) := by decide +kernel
theorem d_Ha_channel_7 : decode prog_1_method_12_code 7 = .ok (.iload_n 2, 1) := by decide +kernel
theorem d_Ha_channel_8 : decode prog_1_method_12_code 8 = .ok (.ifCond .lt 13, 3) := by decide +kernel
theorem d_Ha_channel_11 : decode prog_1_method_12_code 11 = .ok (.iload_n 2, 1) := by decide +kernel
theorem d_Ha_channel_12 : decode prog_1_method_12_code 12 = .ok (.bipush 11, 2) := by decide +kernel
theorem d_Ha_channel_14 : decode prog_1_method_12_code 14 = .ok (.if_icmp .ge 7, 3) := by decide +kernel
theorem d_Ha_channel_17 : decode prog_1_method_12_code 17 = .ok (.iconst 1, 1) := by decide +kernel
theorem d_Ha_channel_18 : decode prog_1_method_12_code 18 = .ok (.goto 4, 3) := by decide +kernel
theorem d_Ha_channel_21 : decode prog_1_method_12_code 21 = .ok (.iconst 0, 1) := by decide +kernel
theorem d_Ha_channel_22 : decode prog_1_method_12_code 22 = .ok (.invokestatic 40, 3) := by decide +kernel
theorem d_Ha_channel_25 : decode prog_1_method_12_code 25 = .ok (.aload_n 0, 1) := by decide +kernel
theorem d_Ha_channel_26 : decode prog_1_method_12_code 26 = .ok (.iload_n 1, 1) := by decide +kernel
theorem d_Ha_channel_27 : decode prog_1_method_12_code 27 = .ok (.invokevirtual 61, 3) := by decide +kernel
theorem d_Ha_channel_30 : decode prog_1_method_12_code 30 = .ok (.astore_n 3, 1) := by decide +kernel
theorem d_Ha_channel_31 : decode prog_1_method_12_code 31 = .ok (.iload_n 2, 1) := by decide +kernel
theorem d_Ha_channel_32 : decode prog_1_method_12_code 32 = .ok (.tableswitch 79 0 4 #[36, 41, 49, 57, 74], 36) := by decide +kernel
theorem d_Ha_channel_68 : decode prog_1_method_12_code 68 = .ok (.aload_n 3, 1) := by decide +kernel
theorem d_Ha_channel_69 : decode prog_1_method_12_code 69 = .ok (.getfield 122, 3) := by decide +kernel
theorem d_Ha_channel_72 : decode prog_1_method_12_code 72 = .ok (.ireturn, 1) := by decide +kernel
theorem d_Ha_channel_73 : decode prog_1_method_12_code 73 = .ok (.aload_n 3, 1) := by decide +kernel
theorem d_Ha_channel_74 : decode prog_1_method_12_code 74 = .ok (.getfield 206, 3) := by decide +kernel
theorem d_Ha_channel_77 : decode prog_1_method_12_code 77 = .ok (.invokevirtual 156, 3) := by decide +kernel
theorem d_Ha_channel_80 : decode prog_1_method_12_code 80 = .ok (.ireturn, 1) := by decide +kernel
theorem d_Ha_channel_81 : decode prog_1_method_12_code 81 = .ok (.aload_n 3, 1) := by decide +kernel
theorem d_Ha_channel_82 : decode prog_1_method_12_code 82 = .ok (.getfield 152, 3) := by decide +kernel
theorem d_Ha_channel_85 : decode prog_1_method_12_code 85 = .ok (.invokevirtual 156, 3) := by decide +kernel
theorem d_Ha_channel_88 : decode prog_1_method_12_code 88 = .ok (.ireturn, 1) := by decide +kernel
theorem d_Ha_channel_89 : decode prog_1_method_12_code 89 = .ok (.aload_n 3, 1) := by decide +kernel
theorem d_Ha_channel_90 : decode prog_1_method_12_code 90 = .ok (.aload_n 0, 1) := by decide +kernel
theorem d_Ha_channel_91 : decode prog_1_method_12_code 91 = .ok (.getfield 25, 3) := by decide +kernel
theorem d_Ha_channel_94 : decode prog_1_method_12_code 94 = .ok (.invokevirtual 209, 3) := by decide +kernel
theorem d_Ha_channel_97 : decode prog_1_method_12_code 97 = .ok (.ifCond .eq 7, 3) := by decide +kernel
theorem d_Ha_channel_100 : decode prog_1_method_12_code 100 = .ok (.iconst 1, 1) := by decide +kernel
theorem d_Ha_channel_101 : decode prog_1_method_12_code 101 = .ok (.goto 4, 3) := by decide +kernel
theorem d_Ha_channel_104 : decode prog_1_method_12_code 104 = .ok (.iconst 0, 1) := by decide +kernel
theorem d_Ha_channel_105 : decode prog_1_method_12_code 105 = .ok (.ireturn, 1) := by decide +kernel
theorem d_Ha_channel_106 : decode prog_1_method_12_code 106 = .ok (.aload_n 3, 1) := by decide +kernel
theorem d_Ha_channel_107 : decode prog_1_method_12_code 107 = .ok (.getfield 168, 3) := by decide +kernel
theorem d_Ha_channel_110 : decode prog_1_method_12_code 110 = .ok (.ireturn, 1) := by decide +kernel
theorem d_Ha_channel_111 : decode prog_1_method_12_code 111 = .ok (.aload_n 3, 1) := by decide +kernel
theorem d_Ha_channel_112 : decode prog_1_method_12_code 112 = .ok (.iload_n 2, 1) := by decide +kernel
theorem d_Ha_channel_113 : decode prog_1_method_12_code 113 = .ok (.iconst 5, 1) := by decide +kernel
theorem d_Ha_channel_114 : decode prog_1_method_12_code 114 = .ok (.isub, 1) := by decide +kernel
theorem d_Ha_channel_115 : decode prog_1_method_12_code 115 = .ok (.invokevirtual 212, 3) := by decide +kernel
theorem d_Ha_channel_118 : decode prog_1_method_12_code 118 = .ok (.ireturn, 1) := by decide +kernel
def y_Ha_channel : MethodName := ⟨"ChannelHall", "channel", "(II)I"⟩
abbrev rm_Ha_channel : Room := { frames := 7, cells := 2, slots := 12, locals := 108 }
def wp_Ha_channel_105 (G ca : Nat → Nat) (post : Int32 → hM → Prop) (xp : String → hM → Prop) (M : hM) (s0b105 : Int32) : Prop := post s0b105 M
def wp_Ha_channel_22 (G ca : Nat → Nat) (post : Int32 → hM → Prop) (xp : String → hM → Prop) (M : hM) (l0b22 : Nat) (l1b22 : Int32) (l2b22 : Int32) (s0b22 : Int32) : Prop := wp_Ha_require G ca (fun M31 => rC M31 l0b22 3 (wp_Ha_presentChannel G ca (fun r32 M33 => (l2b22 = 0 → nN r32 fun b34 => gI M33 b34 0 1 fun v35 => post v35 M33) ∧ (¬ l2b22 = 0 → (l2b22 = 1 → nN r32 fun b36 => gR M33 b36 0 4 fun v37 => nN v37 fun b38 => rC M33 b38 4 (wp_Al_size G ca (fun r39 M40 => post r39 M40) M33 b38)) ∧ (¬ l2b22 = 1 → (l2b22 = 2 → nN r32 fun b41 => gR M33 b41 0 5 fun v42 => nN v42 fun b43 => rC M33 b43 4 (wp_Al_size G ca (fun r44 M45 => post r44 M45) M33 b43)) ∧ (¬ l2b22 = 2 → (l2b22 = 3 → gD M33 l0b22 3 3 fun v46 => nN r32 fun b47 => rC M33 b47 0 (wp_Ch_isOpen G ca (fun r48 M49 => (r48 = 0 → wp_Ha_channel_105 G ca post xp M49 0) ∧ (¬ r48 = 0 → wp_Ha_channel_105 G ca post xp M49 1)) M33 b47 v46)) ∧ (¬ l2b22 = 3 → (l2b22 = 4 → nN r32 fun b51 => gI M33 b51 0 7 fun v52 => post v52 M33) ∧ (¬ l2b22 = 4 → nN r32 fun b53 => rC M33 b53 0 (wp_Ch_waiterNumber G ca (fun r54 M55 => post r54 M55) M33 b53 (l2b22 - 5)))))))) xp M31 l0b22 l1b22)) xp M s0b22
def wp_Ha_channel_21 (G ca : Nat → Nat) (post : Int32 → hM → Prop) (xp : String → hM → Prop) (M : hM) (l0b21 : Nat) (l1b21 : Int32) (l2b21 : Int32) : Prop := wp_Ha_channel_22 G ca post xp M l0b21 l1b21 l2b21 0
def wp_Ha_channel (G ca : Nat → Nat) (post : Int32 → hM → Prop) (xp : String → hM → Prop) (M : hM) (a0 : Nat) (x1 : Int32) (x2 : Int32) : Prop := wp_Ha_isChannel G ca (fun r56 M57 => (r56 = 0 → wp_Ha_channel_21 G ca post xp M57 a0 x1 x2) ∧ (¬ r56 = 0 → (x2 < 0 → wp_Ha_channel_21 G ca post xp M57 a0 x1 x2) ∧ (¬ x2 < 0 → (11 ≤ x2 → wp_Ha_channel_21 G ca post xp M57 a0 x1 x2) ∧ (¬ 11 ≤ x2 → wp_Ha_channel_22 G ca post xp M57 a0 x1 x2 1)))) M x1
set_option maxHeartbeats 1000000 in
set_option maxRecDepth 20000 in
theorem l_Ha_channel_105 {p : Program} {l : Launch} {e : Env} {s : State} {m : MethodId} {args : Array Value} {below : List Frame} {meth : Method} {c : Code} {D : va_G} {ca G : Nat → Nat} {A : Nat → Prop} (C0 : hC p s m args meth c D ca G prog_1_method_12_code 4 (some .int) "ChannelHall" A) (hl0 : l.stackTraces = false) (hout : ∀ x ∈ c.exceptionTable.toList, False) {post : Int32 → hM → Prop} {xp : String → hM → Prop} {M : hM} {H : Heap} {locs : List Loc} {ls : Array Slot} {cells slots : Nat} (s0b105 : Int32) (hc : cells ≤ 2) (hs : slots ≤ 12) (h : wp_Ha_channel_105 G ca post xp M s0b105) (hW : hw D wCl A M H) (hS : va_S A s.heap H locs) (hl : lv_has ls 4 []) : W p l e rm_Ha_channel s m args below meth c H locs cells slots (vx_MQ below (va_Qi post (fun M' t => hw D wCl A M' t.heap) A) (hX D xp A) args s 2 12 A) (F0 m 105 ls [.int s0b105]) := by
  obtain ⟨hx, hb, hr, hml, hown, hts, hlocks, hK, hA, hZ0⟩ := id C0
  refine W.widen (k := 2) (n := 12) (by omega) (by omega) ?_
  exact vx_ret (W.iret hx hb hr (fun t ht hWm => ⟨⟨_, _, rfl, h, hw_t ht hW⟩, hS.F ht⟩) hS.2.2 d_Ha_channel_105)
set_option maxHeartbeats 1000000 in
set_option maxRecDepth 20000 in
theorem l_Ha_channel_22 {p : Program} {l : Launch} {e : Env} {s : State} {m : MethodId} {args : Array Value} {below : List Frame} {meth : Method} {c : Code} {D : va_G} {ca G : Nat → Nat} {A : Nat → Prop} (C0 : hC p s m args meth c D ca G prog_1_method_12_code 4 (some .int) "ChannelHall" A) (hl0 : l.stackTraces = false) (hout : ∀ x ∈ c.exceptionTable.toList, False) {post : Int32 → hM → Prop} {xp : String → hM → Prop} {M : hM} {H : Heap} {locs : List Loc} {ls : Array Slot} {cells slots : Nat} (l0b22 : Nat) (l1b22 : Int32) (l2b22 : Int32) (s0b22 : Int32) (hc : cells ≤ 0) (hs : slots ≤ 0) (h : wp_Ha_channel_22 G ca post xp M l0b22 l1b22 l2b22 s0b22) (hW : hw D wCl A M H) (hS : va_S A s.heap H locs) (hl : lv_has ls 4 [(0, .ref l0b22), (1, .int l1b22), (2, .int l2b22)]) : W p l e rm_Ha_channel s m args below meth c H locs cells slots (vx_MQ below (va_Qi post (fun M' t => hw D wCl A M' t.heap) A) (hX D xp A) args s 2 12 A) (F0 m 22 ls [.int s0b22]) := by
  obtain ⟨hx, hb, hr, hml, hown, hts, hlocks, hK, hA, hZ0⟩ := id C0
  have h9 := h
  clear h
  have hF := hW.free hS hA
  refine vx_callv (vx_runS (As := [.int s0b22]) (rest := []) ⟨hx, hb, hml, hown, hts⟩ (c_Ha_require hl0 _ _ h9) (va_cwS 1 hts (gi_S bw_132 bw_133 bw_1 bw_134) rfl rfl rfl (by decide +kernel) ⟨Nat.le_of_ble_eq_true rfl, Nat.le_of_ble_eq_true rfl⟩) ⟨hI.blind, hI.give hW hS hA hK hZ0⟩ rfl rfl hl.1 rfl (lv_room (Nat.le_of_ble_eq_true rfl)) d_Ha_channel_22 ⟨(show _ ≤ 2 by omega), (show _ ≤ 12 by omega)⟩) hS (fun q _ z => hF q z) hF (fun q _ z => hF q z) (fun E ce q9 M9 t H locs ht _ _ h8 _ _ hS hce hcv hcl => hq_out hout hlocks (hw_back hF ht h8.2) hS h8.1 hce hcv hcl (by omega) (by omega)) (fun M31 t H locs ht _ h hB1 _ _ hS => ?_)
  have hW := hw_back hF ht hB1
  clear h9
  refine lv_aload_n hx hb d_Ha_channel_25 rfl (lv_at hl 0 rfl) ?_
  refine lv_iload_n hx hb d_Ha_channel_26 rfl (lv_at hl 1 rfl) ?_
  obtain ⟨⟨fs, h1⟩, h⟩ := h
  have h9 := h
  clear h
  have hF := hW.free hS hA
  refine hx_callq (vx_runV (As := [.int l1b22]) (rest := []) ⟨hx, hb, hml, hown, hts⟩ (c_Ha_presentChannel hl0 _ _ h9) (cwV 1 hts (gi_V bw_309 bw_311 bs_1 bw_1 bw_312) rfl rfl rfl (by decide +kernel) ⟨Nat.le_of_ble_eq_true rfl, Nat.le_of_ble_eq_true rfl⟩) ⟨hI.blind, hw_recv hK hW h1 rfl, hI.give hW hS hA hK hZ0⟩ rfl rfl hl.1 rfl (lv_room (Nat.le_of_ble_eq_true rfl)) d_Ha_channel_27 ⟨(show _ ≤ 2 by omega), (show _ ≤ 12 by omega)⟩) hS (fun q _ z => hF q z) hF (fun q _ z => hF q z) (fun E ce q9 M9 t H locs ht _ _ h8 _ _ hS hce hcv hcl => hq_out hout hlocks (hw_back hF ht h8.2) hS h8.1 hce hcv hcl (by omega) (by omega)) (fun r32 M33 t H locs ht _ h hB1 _ _ hS => ?_)
  have hW := hw_back hF ht hB1
  clear h9
  refine lq_store_n (lv' := [(3, va_rf r32), (0, .ref l0b22), (1, .int l1b22), (2, .int l2b22)]) hx hb d_Ha_channel_30 rfl hl (by decide) rfl (fun ls hl => ?_)
  refine lv_iload_n hx hb d_Ha_channel_31 rfl (lv_at hl 3 rfl) ?_
  obtain ⟨h0, h1⟩ := h
  by_cases c0 : l2b22 = 0
  · have h := h0 c0
    rw [c0]
    refine lv_tableIn (off := 36) (tgt := 68) hx hb d_Ha_channel_32 (by decide) (by decide) (by decide) (by decide) ?_
    refine lq_load_n hx hb d_Ha_channel_68 rfl (lv_at hl 0 rfl) ?_
    obtain ⟨b34, rfl, h⟩ := h
    obtain ⟨fs, v35, h1, h2, h⟩ := h
    refine va_get (D := D) (ci := 0) (v := .int v35) (C := "ChannelHall$Channel") (T := TCh) (N := 10) hx hb hts uCh hown hK (hw_one hW h1) 0 rfl rfl 1 (by decide) (hts _ bw_254) (fun _ h9 => h9) h2 d_Ha_channel_69 ?_
    refine W.widen (k := 2) (n := 12) (by omega) (by omega) ?_
    exact vx_ret (W.iret hx hb hr (fun t ht hWm => ⟨⟨_, _, rfl, h, hw_t ht hW⟩, hS.F ht⟩) hS.2.2 d_Ha_channel_72)
  · have h := h1 c0
    obtain ⟨h0, h1⟩ := h
    by_cases c1 : l2b22 = 1
    · have h := h0 c1
      rw [c1]
      refine lv_tableIn (off := 41) (tgt := 73) hx hb d_Ha_channel_32 (by decide) (by decide) (by decide) (by decide) ?_
      refine lq_load_n hx hb d_Ha_channel_73 rfl (lv_at hl 0 rfl) ?_
      obtain ⟨b36, rfl, h⟩ := h
      obtain ⟨fs, v37, h1, h2, h⟩ := h
      refine va_get (D := D) (ci := 0) (v := va_rf v37) (C := "ChannelHall$Channel") (T := TCh) (N := 10) hx hb hts uCh hown hK (hw_one hW h1) 0 rfl rfl 4 (by decide) (hts _ bw_259) (fun _ h9 => h9) h2 d_Ha_channel_74 ?_
      obtain ⟨b38, rfl, h⟩ := h
      obtain ⟨⟨fs, h1⟩, h⟩ := h
      have h9 := h
      clear h
      have hF := hW.free hS hA
      refine va_calli (va_runV (As := []) (rest := []) ⟨hx, hb, hml, hown, hts⟩ (c_Al_size _ h9) (cwV 0 hts (gi_V bw_873 bw_377 bw_378 bw_14 bw_379) rfl rfl rfl (by decide +kernel) ⟨Nat.le_of_ble_eq_true rfl, Nat.le_of_ble_eq_true rfl⟩) ⟨hI.blind, hw_recv hK hW h1 rfl, hI.give hW hS hA hK hZ0⟩ rfl rfl hl.1 rfl (lv_room (Nat.le_of_ble_eq_true rfl)) d_Ha_channel_77 ⟨(show _ ≤ 2 by omega), (show _ ≤ 12 by omega)⟩) hS (fun q _ z => hF q z) hF (fun r39 M40 t H locs ht _ h hB1 _ _ hS => ?_)
      have hW := hw_back hF ht hB1
      clear h9
      refine W.widen (k := 2) (n := 12) (by omega) (by omega) ?_
      exact vx_ret (W.iret hx hb hr (fun t ht hWm => ⟨⟨_, _, rfl, h, hw_t ht hW⟩, hS.F ht⟩) hS.2.2 d_Ha_channel_80)
    · have h := h1 c1
      obtain ⟨h0, h1⟩ := h
      by_cases c2 : l2b22 = 2
      · have h := h0 c2
        rw [c2]
        refine lv_tableIn (off := 49) (tgt := 81) hx hb d_Ha_channel_32 (by decide) (by decide) (by decide) (by decide) ?_
        refine lq_load_n hx hb d_Ha_channel_81 rfl (lv_at hl 0 rfl) ?_
        obtain ⟨b41, rfl, h⟩ := h
        obtain ⟨fs, v42, h1, h2, h⟩ := h
        refine va_get (D := D) (ci := 0) (v := va_rf v42) (C := "ChannelHall$Channel") (T := TCh) (N := 10) hx hb hts uCh hown hK (hw_one hW h1) 0 rfl rfl 5 (by decide) (hts _ bw_261) (fun _ h9 => h9) h2 d_Ha_channel_82 ?_
        obtain ⟨b43, rfl, h⟩ := h
        obtain ⟨⟨fs, h1⟩, h⟩ := h
        have h9 := h
        clear h
        have hF := hW.free hS hA
        refine va_calli (va_runV (As := []) (rest := []) ⟨hx, hb, hml, hown, hts⟩ (c_Al_size _ h9) (cwV 0 hts (gi_V bw_873 bw_377 bw_378 bw_14 bw_379) rfl rfl rfl (by decide +kernel) ⟨Nat.le_of_ble_eq_true rfl, Nat.le_of_ble_eq_true rfl⟩) ⟨hI.blind, hw_recv hK hW h1 rfl, hI.give hW hS hA hK hZ0⟩ rfl rfl hl.1 rfl (lv_room (Nat.le_of_ble_eq_true rfl)) d_Ha_channel_85 ⟨(show _ ≤ 2 by omega), (show _ ≤ 12 by omega)⟩) hS (fun q _ z => hF q z) hF (fun r44 M45 t H locs ht _ h hB1 _ _ hS => ?_)
        have hW := hw_back hF ht hB1
        clear h9
        refine W.widen (k := 2) (n := 12) (by omega) (by omega) ?_
        exact vx_ret (W.iret hx hb hr (fun t ht hWm => ⟨⟨_, _, rfl, h, hw_t ht hW⟩, hS.F ht⟩) hS.2.2 d_Ha_channel_88)
      · have h := h1 c2
        obtain ⟨h0, h1⟩ := h
        by_cases c3 : l2b22 = 3
        · have h := h0 c3
          rw [c3]
          refine lv_tableIn (off := 57) (tgt := 89) hx hb d_Ha_channel_32 (by decide) (by decide) (by decide) (by decide) ?_
          refine lq_load_n hx hb d_Ha_channel_89 rfl (lv_at hl 0 rfl) ?_
          refine lv_aload_n hx hb d_Ha_channel_90 rfl (lv_at hl 1 rfl) ?_
          obtain ⟨fs, v46, h1, h2, h⟩ := h
          refine va_get (D := D) (ci := 3) (v := .double v46) (C := "ChannelHall") (T := THa) (N := 4) hx hb hts uHa hown hK (hw_one hW h1) 0 rfl rfl 3 (by decide) (hts _ bw_103) (fun _ h9 => h9) h2 d_Ha_channel_91 ?_
          obtain ⟨b47, rfl, h⟩ := h
          obtain ⟨⟨fs, h1⟩, h⟩ := h
          have h9 := h
          clear h
          have hF := hW.free hS hA
          refine va_calli (va_runV (As := [.double v46]) (rest := []) ⟨hx, hb, hml, hown, hts⟩ (c_Ch_isOpen _ h9) (cwV 1 hts (gi_V bw_937 bw_938 bw_939 bw_11 bw_940) rfl rfl rfl (by decide +kernel) ⟨Nat.le_of_ble_eq_true rfl, Nat.le_of_ble_eq_true rfl⟩) ⟨hI.blind, hw_recv hK hW h1 rfl, hI.give hW hS hA hK hZ0⟩ rfl rfl hl.1 rfl (lv_room (Nat.le_of_ble_eq_true rfl)) d_Ha_channel_94 ⟨(show _ ≤ 2 by omega), (show _ ≤ 12 by omega)⟩) hS (fun q _ z => hF q z) hF (fun r48 M49 t H locs ht _ h hB1 _ _ hS => ?_)
          have hW := hw_back hF ht hB1
          clear h9
          obtain ⟨h0, h1⟩ := h
          refine lv_if_eq (tgt := 104) hx hb d_Ha_channel_97 (by decide) (fun c50 => ?_) (fun c50 => ?_)
          · have h := h0 c50
            refine lv_iconst (v := 0) hx hb d_Ha_channel_104 (by decide) ?_
            exact l_Ha_channel_105 C0 hl0 hout 0 (by omega) (by omega) h hW hS (lv_sub hl [] rfl)
          · have h := h1 c50
            refine lv_iconst (v := 1) hx hb d_Ha_channel_100 (by decide) ?_
            refine lv_goto (tgt := 105) hx hb d_Ha_channel_101 (by decide) ?_
            exact l_Ha_channel_105 C0 hl0 hout 1 (by omega) (by omega) h hW hS (lv_sub hl [] rfl)
        · have h := h1 c3
          obtain ⟨h0, h1⟩ := h
          by_cases c4 : l2b22 = 4
          · have h := h0 c4
            rw [c4]
            refine lv_tableIn (off := 74) (tgt := 106) hx hb d_Ha_channel_32 (by decide) (by decide) (by decide) (by decide) ?_
            refine lq_load_n hx hb d_Ha_channel_106 rfl (lv_at hl 0 rfl) ?_
            obtain ⟨b51, rfl, h⟩ := h
            obtain ⟨fs, v52, h1, h2, h⟩ := h
            refine va_get (D := D) (ci := 0) (v := .int v52) (C := "ChannelHall$Channel") (T := TCh) (N := 10) hx hb hts uCh hown hK (hw_one hW h1) 0 rfl rfl 7 (by decide) (hts _ bw_265) (fun _ h9 => h9) h2 d_Ha_channel_107 ?_
            refine W.widen (k := 2) (n := 12) (by omega) (by omega) ?_
            exact vx_ret (W.iret hx hb hr (fun t ht hWm => ⟨⟨_, _, rfl, h, hw_t ht hW⟩, hS.F ht⟩) hS.2.2 d_Ha_channel_110)
          · have h := h1 c4
            have n0 := lv_neT c0 (a := 0) (by decide); have n1 := lv_neT c1 (a := 1) (by decide); have n2 := lv_neT c2 (a := 2) (by decide); have n3 := lv_neT c3 (a := 3) (by decide); have n4 := lv_neT c4 (a := 4) (by decide)
            refine lv_tableOut (tgt := 111) hx hb d_Ha_channel_32 (by omega) (by decide) ?_
            refine lq_load_n hx hb d_Ha_channel_111 rfl (lv_at hl 0 rfl) ?_
            refine lv_iload_n hx hb d_Ha_channel_112 rfl (lv_at hl 3 rfl) ?_
            refine lv_iconst (v := 5) hx hb d_Ha_channel_113 (by decide) ?_
            refine lv_isub hx hb d_Ha_channel_114 ?_
            obtain ⟨b53, rfl, h⟩ := h
            obtain ⟨⟨fs, h1⟩, h⟩ := h
            have h9 := h
            clear h
            have hF := hW.free hS hA
            refine va_calli (va_runV (As := [.int (l2b22 - 5)]) (rest := []) ⟨hx, hb, hml, hown, hts⟩ (c_Ch_waiterNumber _ h9) (cwV 1 hts (gi_V bw_941 bw_942 bw_943 bw_11 bw_944) rfl rfl rfl (by decide +kernel) ⟨Nat.le_of_ble_eq_true rfl, Nat.le_of_ble_eq_true rfl⟩) ⟨hI.blind, hw_recv hK hW h1 rfl, hI.give hW hS hA hK hZ0⟩ rfl rfl hl.1 rfl (lv_room (Nat.le_of_ble_eq_true rfl)) d_Ha_channel_115 ⟨(show _ ≤ 2 by omega), (show _ ≤ 12 by omega)⟩) hS (fun q _ z => hF q z) hF (fun r54 M55 t H locs ht _ h hB1 _ _ hS => ?_)
            have hW := hw_back hF ht hB1
            clear h9
            refine W.widen (k := 2) (n := 12) (by omega) (by omega) ?_
            exact vx_ret (W.iret hx hb hr (fun t ht hWm => ⟨⟨_, _, rfl, h, hw_t ht hW⟩, hS.F ht⟩) hS.2.2 d_Ha_channel_118)
set_option maxHeartbeats 1000000 in
set_option maxRecDepth 20000 in
theorem l_Ha_channel_21 {p : Program} {l : Launch} {e : Env} {s : State} {m : MethodId} {args : Array Value} {below : List Frame} {meth : Method} {c : Code} {D : va_G} {ca G : Nat → Nat} {A : Nat → Prop} (C0 : hC p s m args meth c D ca G prog_1_method_12_code 4 (some .int) "ChannelHall" A) (hl0 : l.stackTraces = false) (hout : ∀ x ∈ c.exceptionTable.toList, False) {post : Int32 → hM → Prop} {xp : String → hM → Prop} {M : hM} {H : Heap} {locs : List Loc} {ls : Array Slot} {cells slots : Nat} (l0b21 : Nat) (l1b21 : Int32) (l2b21 : Int32) (hc : cells ≤ 0) (hs : slots ≤ 0) (h : wp_Ha_channel_21 G ca post xp M l0b21 l1b21 l2b21) (hW : hw D wCl A M H) (hS : va_S A s.heap H locs) (hl : lv_has ls 4 [(0, .ref l0b21), (1, .int l1b21), (2, .int l2b21)]) : W p l e rm_Ha_channel s m args below meth c H locs cells slots (vx_MQ below (va_Qi post (fun M' t => hw D wCl A M' t.heap) A) (hX D xp A) args s 2 12 A) (F0 m 21 ls []) := by
  obtain ⟨hx, hb, hr, hml, hown, hts, hlocks, hK, hA, hZ0⟩ := id C0
  refine lv_iconst (v := 0) hx hb d_Ha_channel_21 (by decide) ?_
  exact l_Ha_channel_22 C0 hl0 hout l0b21 l1b21 l2b21 0 (by omega) (by omega) h hW hS (lv_sub hl [0, 1, 2] rfl)
set_option maxHeartbeats 1000000 in
set_option maxRecDepth 20000 in
theorem l_Ha_channel_e {p : Program} {l : Launch} {e : Env} {s : State} {m : MethodId} {args : Array Value} {below : List Frame} {meth : Method} {c : Code} {D : va_G} {ca G : Nat → Nat} {A : Nat → Prop} (C0 : hC p s m args meth c D ca G prog_1_method_12_code 4 (some .int) "ChannelHall" A) (hl0 : l.stackTraces = false) (hout : ∀ x ∈ c.exceptionTable.toList, False) {post : Int32 → hM → Prop} {xp : String → hM → Prop} {M : hM} {H : Heap} {locs : List Loc} {ls : Array Slot} {cells slots : Nat} (a0 : Nat) (x1 : Int32) (x2 : Int32) (hc : cells ≤ 0) (hs : slots ≤ 0) (h : wp_Ha_channel G ca post xp M a0 x1 x2) (hW : hw D wCl A M H) (hS : va_S A s.heap H locs) (hl : lv_has ls 4 [(0, .ref a0), (1, .int x1), (2, .int x2)]) : W p l e rm_Ha_channel s m args below meth c H locs cells slots (vx_MQ below (va_Qi post (fun M' t => hw D wCl A M' t.heap) A) (hX D xp A) args s 2 12 A) (F0 m 0 ls []) := by
  obtain ⟨hx, hb, hr, hml, hown, hts, hlocks, hK, hA, hZ0⟩ := id C0
  refine lv_iload_n hx hb d_Ha_channel_0 rfl (lv_at hl 1 rfl) ?_
  have h9 := h
  clear h
  have hF := hW.free hS hA
  refine va_calli (va_runS (As := [.int x1]) (rest := []) ⟨hx, hb, hml, hown, hts⟩ (c_Ha_isChannel _ h9) (va_cwS 1 hts (gi_S bw_126 bw_127 bw_1 bw_128) rfl rfl rfl (by decide +kernel) ⟨Nat.le_of_ble_eq_true rfl, Nat.le_of_ble_eq_true rfl⟩) ⟨hI.blind, hI.give hW hS hA hK hZ0⟩ rfl rfl hl.1 rfl (lv_room (Nat.le_of_ble_eq_true rfl)) d_Ha_channel_1 ⟨(show _ ≤ 2 by omega), (show _ ≤ 12 by omega)⟩) hS (fun q _ z => hF q z) hF (fun r56 M57 t H locs ht _ h hB1 _ _ hS => ?_)
  have hW := hw_back hF ht hB1
  clear h9
  obtain ⟨h0, h1⟩ := h
  refine lv_if_eq (tgt := 21) hx hb d_Ha_channel_4 (by decide) (fun c58 => ?_) (fun c58 => ?_)
  · have h := h0 c58
    exact l_Ha_channel_21 C0 hl0 hout a0 x1 x2 (by omega) (by omega) h hW hS (lv_sub hl [0, 1, 2] rfl)
  · have h := h1 c58
    refine lv_iload_n hx hb d_Ha_channel_7 rfl (lv_at hl 2 rfl) ?_
    obtain ⟨h0, h1⟩ := h
    refine lv_if_lt (tgt := 21) hx hb d_Ha_channel_8 (by decide) (fun c59 => ?_) (fun c59 => ?_)
    · have h := h0 c59
      exact l_Ha_channel_21 C0 hl0 hout a0 x1 x2 (by omega) (by omega) h hW hS (lv_sub hl [0, 1, 2] rfl)
    · have h := h1 c59
      refine lv_iload_n hx hb d_Ha_channel_11 rfl (lv_at hl 2 rfl) ?_
      refine lv_bipush (v := 11) hx hb d_Ha_channel_12 (by decide) ?_
      obtain ⟨h0, h1⟩ := h
      refine lv_icmp_ge (tgt := 21) hx hb d_Ha_channel_14 (by decide) (fun c60 => ?_) (fun c60 => ?_)
      · have h := h0 c60
        exact l_Ha_channel_21 C0 hl0 hout a0 x1 x2 (by omega) (by omega) h hW hS (lv_sub hl [0, 1, 2] rfl)
      · have h := h1 c60
        refine lv_iconst (v := 1) hx hb d_Ha_channel_17 (by decide) ?_
        refine lv_goto (tgt := 22) hx hb d_Ha_channel_18 (by decide) ?_
        exact l_Ha_channel_22 C0 hl0 hout a0 x1 x2 1 (by omega) (by omega) h hW hS (lv_sub hl [0, 1, 2] rfl)
set_option maxRecDepth 20000 in
theorem c_Ha_channel {l : Launch} (hl0 : l.stackTraces = false) {D : va_G} {ca G : Nat → Nat} (post : Int32 → hM → Prop) (xp : String → hM → Prop) {M : hM} {sz : Nat} {a0 : Nat} {x1 : Int32} {x2 : Int32} (h : wp_Ha_channel G ca post xp M a0 x1 x2) : vx_Met l y_Ha_channel (wz y_Ha_channel prog_1_method_12_code 4 (some .int)) rm_Ha_channel (va_Pc [.ref a0, .int x1, .int x2] (hI D ca G sz M)) (va_Qi post (hB D M sz) (hp_A M sz)) (hX D xp (hp_A M sz)) 2 12 (hp_A M sz) := by
  refine vx_ofW (cc := prog_1_method_12_code) (maxL := 4) (ret := some .int) (by decide) rfl ?_
  intro p e s m args below meth c s₁ B hml hout hv
  obtain ⟨rfl, hsz, hW, hK, hZ0⟩ := hv
  have hts := fun w hw => atoms_spec (ws := wz y_Ha_channel prog_1_method_12_code 4 (some .int)) B.pre w (List.mem_cons_of_mem _ hw)
  have hown : s.vm.findClass "ChannelHall" = some m.cls := findClass_of_methodNamed B.named
  subst hsz
  have hl := lv_entry [.ref a0, .int x1, .int x2] (n := 4) (Nat.le_of_ble_eq_true rfl)
  rw [lg_entry_eq]
  exact l_Ha_channel_e ⟨B.exec, B.bytes, B.returns, hml, hown, hts, B.notSynchronized, hK, fun q h => Or.inr h, hZ0⟩ hl0 hout a0 x1 x2 (Nat.zero_le _) (Nat.zero_le _) h hW va_S.rf hl

theorem d_Ha_item_0 : decode prog_1_method_13_code 0 = .ok (.iload_n 1, 1) := by decide +kernel
theorem d_Ha_item_1 : decode prog_1_method_13_code 1 = .ok (.invokestatic 32, 3) := by decide +kernel
theorem d_Ha_item_4 : decode prog_1_method_13_code 4 = .ok (.invokestatic 40, 3) := by decide +kernel
theorem d_Ha_item_7 : decode prog_1_method_13_code 7 = .ok (.aload_n 0, 1) := by decide +kernel
theorem d_Ha_item_8 : decode prog_1_method_13_code 8 = .ok (.iload_n 1, 1) := by decide +kernel
theorem d_Ha_item_9 : decode prog_1_method_13_code 9 = .ok (.invokevirtual 61, 3) := by decide +kernel
theorem d_Ha_item_12 : decode prog_1_method_13_code 12 = .ok (.astore_n 3, 1) := by decide +kernel
theorem d_Ha_item_13 : decode prog_1_method_13_code 13 = .ok (.iload_n 2, 1) := by decide +kernel
theorem d_Ha_item_14 : decode prog_1_method_13_code 14 = .ok (.ifCond .lt 14, 3) := by decide +kernel
theorem d_Ha_item_17 : decode prog_1_method_13_code 17 = .ok (.iload_n 2, 1) := by decide +kernel
theorem d_Ha_item_18 : decode prog_1_method_13_code 18 = .ok (.aload_n 3, 1) := by decide +kernel
theorem d_Ha_item_19 : decode prog_1_method_13_code 19 = .ok (.getfield 206, 3) := by decide +kernel
theorem d_Ha_item_22 : decode prog_1_method_13_code 22 = .ok (.invokevirtual 156, 3) := by decide +kernel
theorem d_Ha_item_25 : decode prog_1_method_13_code 25 = .ok (.if_icmp .lt 11, 3) := by decide +kernel
theorem d_Ha_item_28 : decode prog_1_method_13_code 28 = .ok (.new 215, 3) := by decide +kernel
theorem d_Ha_item_31 : decode prog_1_method_13_code 31 = .ok (.dup, 1) := by decide +kernel
theorem d_Ha_item_32 : decode prog_1_method_13_code 32 = .ok (.invokespecial 217, 3) := by decide +kernel
theorem d_Ha_item_35 : decode prog_1_method_13_code 35 = .ok (.athrow, 1) := by decide +kernel
theorem d_Ha_item_36 : decode prog_1_method_13_code 36 = .ok (.aload_n 3, 1) := by decide +kernel
theorem d_Ha_item_37 : decode prog_1_method_13_code 37 = .ok (.getfield 206, 3) := by decide +kernel
theorem d_Ha_item_40 : decode prog_1_method_13_code 40 = .ok (.iload_n 2, 1) := by decide +kernel
theorem d_Ha_item_41 : decode prog_1_method_13_code 41 = .ok (.invokevirtual 218, 3) := by decide +kernel
theorem d_Ha_item_44 : decode prog_1_method_13_code 44 = .ok (.checkcast 222, 3) := by decide +kernel
theorem d_Ha_item_47 : decode prog_1_method_13_code 47 = .ok (.getfield 224, 3) := by decide +kernel
theorem d_Ha_item_50 : decode prog_1_method_13_code 50 = .ok (.ireturn, 1) := by decide +kernel
def y_Ha_item : MethodName := ⟨"ChannelHall", "item", "(II)I"⟩
abbrev rm_Ha_item : Room := { frames := 7, cells := 3, slots := 18, locals := 103 }
def wp_Ha_item_28 (G ca : Nat → Nat) (post : Int32 → hM → Prop) (xp : String → hM → Prop) (M : hM)  : Prop := xp "java/lang/IndexOutOfBoundsException" M
def wp_Ha_item (G ca : Nat → Nat) (post : Int32 → hM → Prop) (xp : String → hM → Prop) (M : hM) (a0 : Nat) (x1 : Int32) (x2 : Int32) : Prop := wp_Ha_isChannel G ca (fun r19 M20 => wp_Ha_require G ca (fun M21 => rC M21 a0 3 (wp_Ha_presentChannel G ca (fun r22 M23 => (x2 < 0 → wp_Ha_item_28 G ca post xp M23) ∧ (¬ x2 < 0 → nN r22 fun b25 => gR M23 b25 0 4 fun v26 => nN v26 fun b27 => rC M23 b27 4 (wp_Al_size G ca (fun r28 M29 => (x2 < r28 → gR M29 b25 0 4 fun v31 => nN v31 fun b32 => rC M29 b32 4 (wp_Al_get G ca (fun r33 M34 => cO M34 r33 1 fun b35 => gI M34 b35 1 0 fun v36 => post v36 M34) M29 b32 x2)) ∧ (¬ x2 < r28 → wp_Ha_item_28 G ca post xp M29)) M23 b27))) xp M21 a0 x1)) xp M20 r19) M x1
set_option maxHeartbeats 1000000 in
set_option maxRecDepth 20000 in
theorem l_Ha_item_28 {p : Program} {l : Launch} {e : Env} {s : State} {m : MethodId} {args : Array Value} {below : List Frame} {meth : Method} {c : Code} {D : va_G} {ca G : Nat → Nat} {A : Nat → Prop} (C0 : hC p s m args meth c D ca G prog_1_method_13_code 4 (some .int) "ChannelHall" A) (hl0 : l.stackTraces = false) (hout : ∀ x ∈ c.exceptionTable.toList, False) {post : Int32 → hM → Prop} {xp : String → hM → Prop} {M : hM} {H : Heap} {locs : List Loc} {ls : Array Slot} {cells slots : Nat}  (hc : cells ≤ 2) (hs : slots ≤ 12) (h : wp_Ha_item_28 G ca post xp M) (hW : hw D wCl A M H) (hS : va_S A s.heap H locs) (hl : lv_has ls 4 []) : W p l e rm_Ha_item s m args below meth c H locs cells slots (vx_MQ below (va_Qi post (fun M' t => hw D wCl A M' t.heap) A) (hX D xp A) args s 3 18 A) (F0 m 28 ls []) := by
  obtain ⟨hx, hb, hr, hml, hown, hts, hlocks, hK, hA, hZ0⟩ := id C0
  exact hq_throw (names := ["java/lang/RuntimeException", "java/lang/Exception"]) hx hb hl0 hout hown (by decide) (by decide) hts bw_953 bw_24 xg_Ha_IndexOutOfBoundsException xn_Ha_IndexOutOfBoundsException xo_Ha_IndexOutOfBoundsException hZ0 hW hS (hl.1.trans hml.symm) h d_Ha_item_28 d_Ha_item_31 d_Ha_item_32 d_Ha_item_35 (by decide) (Nat.le_of_ble_eq_true rfl) (show _ ≤ 3 by omega) (show _ ≤ 18 by omega) hlocks (by omega) (by omega)
set_option maxHeartbeats 1000000 in
set_option maxRecDepth 20000 in
theorem l_Ha_item_e {p : Program} {l : Launch} {e : Env} {s : State} {m : MethodId} {args : Array Value} {below : List Frame} {meth : Method} {c : Code} {D : va_G} {ca G : Nat → Nat} {A : Nat → Prop} (C0 : hC p s m args meth c D ca G prog_1_method_13_code 4 (some .int) "ChannelHall" A) (hl0 : l.stackTraces = false) (hout : ∀ x ∈ c.exceptionTable.toList, False) {post : Int32 → hM → Prop} {xp : String → hM → Prop} {M : hM} {H : Heap} {locs : List Loc} {ls : Array Slot} {cells slots : Nat} (a0 : Nat) (x1 : Int32) (x2 : Int32) (hc : cells ≤ 0) (hs : slots ≤ 0) (h : wp_Ha_item G ca post xp M a0 x1 x2) (hW : hw D wCl A M H) (hS : va_S A s.heap H locs) (hl : lv_has ls 4 [(0, .ref a0), (1, .int x1), (2, .int x2)]) : W p l e rm_Ha_item s m args below meth c H locs cells slots (vx_MQ below (va_Qi post (fun M' t => hw D wCl A M' t.heap) A) (hX D xp A) args s 3 18 A) (F0 m 0 ls []) := by
  obtain ⟨hx, hb, hr, hml, hown, hts, hlocks, hK, hA, hZ0⟩ := id C0
  refine lv_iload_n hx hb d_Ha_item_0 rfl (lv_at hl 1 rfl) ?_
  have h9 := h
  clear h
  have hF := hW.free hS hA
  refine va_calli (va_runS (As := [.int x1]) (rest := []) ⟨hx, hb, hml, hown, hts⟩ (c_Ha_isChannel _ h9) (va_cwS 1 hts (gi_S bw_126 bw_127 bw_1 bw_128) rfl rfl rfl (by decide +kernel) ⟨Nat.le_of_ble_eq_true rfl, Nat.le_of_ble_eq_true rfl⟩) ⟨hI.blind, hI.give hW hS hA hK hZ0⟩ rfl rfl hl.1 rfl (lv_room (Nat.le_of_ble_eq_true rfl)) d_Ha_item_1 ⟨(show _ ≤ 3 by omega), (show _ ≤ 18 by omega)⟩) hS (fun q _ z => hF q z) hF (fun r19 M20 t H locs ht _ h hB1 _ _ hS => ?_)
  have hW := hw_back hF ht hB1
  clear h9
  have h9 := h
  clear h
  have hF := hW.free hS hA
  refine vx_callv (vx_runS (As := [.int r19]) (rest := []) ⟨hx, hb, hml, hown, hts⟩ (c_Ha_require hl0 _ _ h9) (va_cwS 1 hts (gi_S bw_132 bw_133 bw_1 bw_134) rfl rfl rfl (by decide +kernel) ⟨Nat.le_of_ble_eq_true rfl, Nat.le_of_ble_eq_true rfl⟩) ⟨hI.blind, hI.give hW hS hA hK hZ0⟩ rfl rfl hl.1 rfl (lv_room (Nat.le_of_ble_eq_true rfl)) d_Ha_item_4 ⟨(show _ ≤ 3 by omega), (show _ ≤ 18 by omega)⟩) hS (fun q _ z => hF q z) hF (fun q _ z => hF q z) (fun E ce q9 M9 t H locs ht _ _ h8 _ _ hS hce hcv hcl => hq_out hout hlocks (hw_back hF ht h8.2) hS h8.1 hce hcv hcl (by omega) (by omega)) (fun M21 t H locs ht _ h hB1 _ _ hS => ?_)
  have hW := hw_back hF ht hB1
  clear h9
  refine lv_aload_n hx hb d_Ha_item_7 rfl (lv_at hl 0 rfl) ?_
  refine lv_iload_n hx hb d_Ha_item_8 rfl (lv_at hl 1 rfl) ?_
  obtain ⟨⟨fs, h1⟩, h⟩ := h
  have h9 := h
  clear h
  have hF := hW.free hS hA
  refine hx_callq (vx_runV (As := [.int x1]) (rest := []) ⟨hx, hb, hml, hown, hts⟩ (c_Ha_presentChannel hl0 _ _ h9) (cwV 1 hts (gi_V bw_309 bw_311 bs_1 bw_1 bw_312) rfl rfl rfl (by decide +kernel) ⟨Nat.le_of_ble_eq_true rfl, Nat.le_of_ble_eq_true rfl⟩) ⟨hI.blind, hw_recv hK hW h1 rfl, hI.give hW hS hA hK hZ0⟩ rfl rfl hl.1 rfl (lv_room (Nat.le_of_ble_eq_true rfl)) d_Ha_item_9 ⟨(show _ ≤ 3 by omega), (show _ ≤ 18 by omega)⟩) hS (fun q _ z => hF q z) hF (fun q _ z => hF q z) (fun E ce q9 M9 t H locs ht _ _ h8 _ _ hS hce hcv hcl => hq_out hout hlocks (hw_back hF ht h8.2) hS h8.1 hce hcv hcl (by omega) (by omega)) (fun r22 M23 t H locs ht _ h hB1 _ _ hS => ?_)
  have hW := hw_back hF ht hB1
  clear h9
  refine lq_store_n (lv' := [(3, va_rf r22), (0, .ref a0), (1, .int x1), (2, .int x2)]) hx hb d_Ha_item_12 rfl hl (by decide) rfl (fun ls hl => ?_)
  refine lv_iload_n hx hb d_Ha_item_13 rfl (lv_at hl 3 rfl) ?_
  obtain ⟨h0, h1⟩ := h
  refine lv_if_lt (tgt := 28) hx hb d_Ha_item_14 (by decide) (fun c24 => ?_) (fun c24 => ?_)
  · have h := h0 c24
    exact l_Ha_item_28 C0 hl0 hout  (by omega) (by omega) h hW hS (lv_sub hl [] rfl)
  · have h := h1 c24
    refine lv_iload_n hx hb d_Ha_item_17 rfl (lv_at hl 3 rfl) ?_
    refine lq_load_n hx hb d_Ha_item_18 rfl (lv_at hl 0 rfl) ?_
    obtain ⟨b25, rfl, h⟩ := h
    obtain ⟨fs, v26, h1, h2, h⟩ := h
    refine va_get (D := D) (ci := 0) (v := va_rf v26) (C := "ChannelHall$Channel") (T := TCh) (N := 10) hx hb hts uCh hown hK (hw_one hW h1) 0 rfl rfl 4 (by decide) (hts _ bw_259) (fun _ h9 => h9) h2 d_Ha_item_19 ?_
    obtain ⟨b27, rfl, h⟩ := h
    obtain ⟨⟨fs, h1⟩, h⟩ := h
    have h9 := h
    clear h
    have hF := hW.free hS hA
    refine va_calli (va_runV (As := []) (rest := [.int x2]) ⟨hx, hb, hml, hown, hts⟩ (c_Al_size _ h9) (cwV 0 hts (gi_V bw_873 bw_377 bw_378 bw_14 bw_379) rfl rfl rfl (by decide +kernel) ⟨Nat.le_of_ble_eq_true rfl, Nat.le_of_ble_eq_true rfl⟩) ⟨hI.blind, hw_recv hK hW h1 rfl, hI.give hW hS hA hK hZ0⟩ rfl rfl hl.1 rfl (lv_room (Nat.le_of_ble_eq_true rfl)) d_Ha_item_22 ⟨(show _ ≤ 3 by omega), (show _ ≤ 18 by omega)⟩) hS (fun q _ z => hF q z) hF (fun r28 M29 t H locs ht _ h hB1 _ _ hS => ?_)
    have hW := hw_back hF ht hB1
    clear h9
    obtain ⟨h0, h1⟩ := h
    refine lv_icmp_lt (tgt := 36) hx hb d_Ha_item_25 (by decide) (fun c30 => ?_) (fun c30 => ?_)
    · have h := h0 c30
      refine lv_aload_n hx hb d_Ha_item_36 rfl (lv_at hl 0 rfl) ?_
      obtain ⟨fs, v31, h1, h2, h⟩ := h
      refine va_get (D := D) (ci := 0) (v := va_rf v31) (C := "ChannelHall$Channel") (T := TCh) (N := 10) hx hb hts uCh hown hK (hw_one hW h1) 0 rfl rfl 4 (by decide) (hts _ bw_259) (fun _ h9 => h9) h2 d_Ha_item_37 ?_
      refine lv_iload_n hx hb d_Ha_item_40 rfl (lv_at hl 3 rfl) ?_
      obtain ⟨b32, rfl, h⟩ := h
      obtain ⟨⟨fs, h1⟩, h⟩ := h
      have h9 := h
      clear h
      have hF := hW.free hS hA
      refine va_callq (va_runV (As := [.int x2]) (rest := []) ⟨hx, hb, hml, hown, hts⟩ (c_Al_get _ h9) (cwV 1 hts (gi_V bw_958 bw_381 bw_382 bw_14 bw_383) rfl rfl rfl (by decide +kernel) ⟨Nat.le_of_ble_eq_true rfl, Nat.le_of_ble_eq_true rfl⟩) ⟨hI.blind, hw_recv hK hW h1 rfl, hI.give hW hS hA hK hZ0⟩ rfl rfl hl.1 rfl (lv_room (Nat.le_of_ble_eq_true rfl)) d_Ha_item_41 ⟨(show _ ≤ 3 by omega), (show _ ≤ 18 by omega)⟩) hS (fun q _ z => hF q z) hF (fun r33 M34 t H locs ht _ h hB1 _ _ hS => ?_)
      have hW := hw_back hF ht hB1
      clear h9
      obtain ⟨b35, fs, rfl, h1, h⟩ := h
      refine va_castS (cC := D.1 1) hx hb hown (hts _ bw_959) (hK.1 1 _ rfl).2 (hw_recv hK hW h1 rfl) d_Ha_item_44 ?_
      obtain ⟨fs, v36, h1, h2, h⟩ := h
      refine va_get (D := D) (ci := 1) (v := .int v36) (C := "ChannelHall$Item") (T := TIt) (N := 3) hx hb hts uIt hown hK (hw_one hW h1) 0 rfl rfl 0 (by decide) (hts _ bw_483) (fun _ h9 => h9) h2 d_Ha_item_47 ?_
      refine W.widen (k := 3) (n := 18) (by omega) (by omega) ?_
      exact vx_ret (W.iret hx hb hr (fun t ht hWm => ⟨⟨_, _, rfl, h, hw_t ht hW⟩, hS.F ht⟩) hS.2.2 d_Ha_item_50)
    · have h := h1 c30
      exact l_Ha_item_28 C0 hl0 hout  (by omega) (by omega) h hW hS (lv_sub hl [] rfl)
set_option maxRecDepth 20000 in
theorem c_Ha_item {l : Launch} (hl0 : l.stackTraces = false) {D : va_G} {ca G : Nat → Nat} (post : Int32 → hM → Prop) (xp : String → hM → Prop) {M : hM} {sz : Nat} {a0 : Nat} {x1 : Int32} {x2 : Int32} (h : wp_Ha_item G ca post xp M a0 x1 x2) : vx_Met l y_Ha_item (wz y_Ha_item prog_1_method_13_code 4 (some .int)) rm_Ha_item (va_Pc [.ref a0, .int x1, .int x2] (hI D ca G sz M)) (va_Qi post (hB D M sz) (hp_A M sz)) (hX D xp (hp_A M sz)) 3 18 (hp_A M sz) := by
  refine vx_ofW (cc := prog_1_method_13_code) (maxL := 4) (ret := some .int) (by decide) rfl ?_
  intro p e s m args below meth c s₁ B hml hout hv
  obtain ⟨rfl, hsz, hW, hK, hZ0⟩ := hv
  have hts := fun w hw => atoms_spec (ws := wz y_Ha_item prog_1_method_13_code 4 (some .int)) B.pre w (List.mem_cons_of_mem _ hw)
  have hown : s.vm.findClass "ChannelHall" = some m.cls := findClass_of_methodNamed B.named
  subst hsz
  have hl := lv_entry [.ref a0, .int x1, .int x2] (n := 4) (Nat.le_of_ble_eq_true rfl)
  rw [lg_entry_eq]
  exact l_Ha_item_e ⟨B.exec, B.bytes, B.returns, hml, hown, hts, B.notSynchronized, hK, fun q h => Or.inr h, hZ0⟩ hl0 hout a0 x1 x2 (Nat.zero_le _) (Nat.zero_le _) h hW va_S.rf hl

theorem d_Ha_stay_0 : decode prog_1_method_14_code 0 = .ok (.iload_n 1, 1) := by decide +kernel
theorem d_Ha_stay_1 : decode prog_1_method_14_code 1 = .ok (.invokestatic 32, 3) := by decide +kernel
theorem d_Ha_stay_4 : decode prog_1_method_14_code 4 = .ok (.invokestatic 40, 3) := by decide +kernel
theorem d_Ha_stay_7 : decode prog_1_method_14_code 7 = .ok (.aload_n 0, 1) := by decide +kernel
theorem d_Ha_stay_8 : decode prog_1_method_14_code 8 = .ok (.iload_n 1, 1) := by decide +kernel
theorem d_Ha_stay_9 : decode prog_1_method_14_code 9 = .ok (.invokevirtual 61, 3) := by decide +kernel
theorem d_Ha_stay_12 : decode prog_1_method_14_code 12 = .ok (.astore_n 2, 1) := by decide +kernel
theorem d_Ha_stay_13 : decode prog_1_method_14_code 13 = .ok (.aload_n 2, 1) := by decide +kernel
theorem d_Ha_stay_14 : decode prog_1_method_14_code 14 = .ok (.getfield 227, 3) := by decide +kernel
theorem d_Ha_stay_17 : decode prog_1_method_14_code 17 = .ok (.ifCond .ne 11, 3) := by decide +kernel
theorem d_Ha_stay_20 : decode prog_1_method_14_code 20 = .ok (.new 146, 3) := by decide +kernel
theorem d_Ha_stay_23 : decode prog_1_method_14_code 23 = .ok (.dup, 1) := by decide +kernel
theorem d_Ha_stay_24 : decode prog_1_method_14_code 24 = .ok (.invokespecial 148, 3) := by decide +kernel
theorem d_Ha_stay_27 : decode prog_1_method_14_code 27 = .ok (.athrow, 1) := by decide +kernel
theorem d_Ha_stay_28 : decode prog_1_method_14_code 28 = .ok (.aload_n 2, 1) := by decide +kernel
theorem d_Ha_stay_29 : decode prog_1_method_14_code 29 = .ok (.getfield 230, 3) := by decide +kernel
theorem d_Ha_stay_32 : decode prog_1_method_14_code 32 = .ok (.aload_n 2, 1) := by decide +kernel
theorem d_Ha_stay_33 : decode prog_1_method_14_code 33 = .ok (.getfield 227, 3) := by decide +kernel
theorem d_Ha_stay_36 : decode prog_1_method_14_code 36 = .ok (.i2d, 1) := by decide +kernel
theorem d_Ha_stay_37 : decode prog_1_method_14_code 37 = .ok (.ddiv, 1) := by decide +kernel
theorem d_Ha_stay_38 : decode prog_1_method_14_code 38 = .ok (.dreturn, 1) := by decide +kernel
def y_Ha_stay : MethodName := ⟨"ChannelHall", "stay", "(I)D"⟩
abbrev rm_Ha_stay : Room := { frames := 7, cells := 3, slots := 18, locals := 103 }
def wp_Ha_stay (G ca : Nat → Nat) (post : UInt64 → hM → Prop) (xp : String → hM → Prop) (M : hM) (a0 : Nat) (x1 : Int32) : Prop := wp_Ha_isChannel G ca (fun r11 M12 => wp_Ha_require G ca (fun M13 => rC M13 a0 3 (wp_Ha_presentChannel G ca (fun r14 M15 => nN r14 fun b16 => gI M15 b16 0 9 fun v17 => (¬ v17 = 0 → gD M15 b16 0 8 fun v19 => gI M15 b16 0 9 fun v20 => nD (FP.ddiv v19 (FP.i2d v20)) (post (FP.ddiv v19 (FP.i2d v20)) M15)) ∧ (v17 = 0 → xp "java/lang/ArithmeticException" M15)) xp M13 a0 x1)) xp M12 r11) M x1
set_option maxHeartbeats 1000000 in
set_option maxRecDepth 20000 in
theorem l_Ha_stay_e {p : Program} {l : Launch} {e : Env} {s : State} {m : MethodId} {args : Array Value} {below : List Frame} {meth : Method} {c : Code} {D : va_G} {ca G : Nat → Nat} {A : Nat → Prop} (C0 : hC p s m args meth c D ca G prog_1_method_14_code 3 (some .double) "ChannelHall" A) (hl0 : l.stackTraces = false) (hout : ∀ x ∈ c.exceptionTable.toList, False) {post : UInt64 → hM → Prop} {xp : String → hM → Prop} {M : hM} {H : Heap} {locs : List Loc} {ls : Array Slot} {cells slots : Nat} (a0 : Nat) (x1 : Int32) (hc : cells ≤ 0) (hs : slots ≤ 0) (h : wp_Ha_stay G ca post xp M a0 x1) (hW : hw D wCl A M H) (hS : va_S A s.heap H locs) (hl : lv_has ls 3 [(0, .ref a0), (1, .int x1)]) : W p l e rm_Ha_stay s m args below meth c H locs cells slots (vx_MQ below (va_Qd post (fun M' t => hw D wCl A M' t.heap) A) (hX D xp A) args s 3 18 A) (F0 m 0 ls []) := by
  obtain ⟨hx, hb, hr, hml, hown, hts, hlocks, hK, hA, hZ0⟩ := id C0
  refine lv_iload_n hx hb d_Ha_stay_0 rfl (lv_at hl 1 rfl) ?_
  have h9 := h
  clear h
  have hF := hW.free hS hA
  refine va_calli (va_runS (As := [.int x1]) (rest := []) ⟨hx, hb, hml, hown, hts⟩ (c_Ha_isChannel _ h9) (va_cwS 1 hts (gi_S bw_126 bw_127 bw_1 bw_128) rfl rfl rfl (by decide +kernel) ⟨Nat.le_of_ble_eq_true rfl, Nat.le_of_ble_eq_true rfl⟩) ⟨hI.blind, hI.give hW hS hA hK hZ0⟩ rfl rfl hl.1 rfl (lv_room (Nat.le_of_ble_eq_true rfl)) d_Ha_stay_1 ⟨(show _ ≤ 3 by omega), (show _ ≤ 18 by omega)⟩) hS (fun q _ z => hF q z) hF (fun r11 M12 t H locs ht _ h hB1 _ _ hS => ?_)
  have hW := hw_back hF ht hB1
  clear h9
  have h9 := h
  clear h
  have hF := hW.free hS hA
  refine vx_callv (vx_runS (As := [.int r11]) (rest := []) ⟨hx, hb, hml, hown, hts⟩ (c_Ha_require hl0 _ _ h9) (va_cwS 1 hts (gi_S bw_132 bw_133 bw_1 bw_134) rfl rfl rfl (by decide +kernel) ⟨Nat.le_of_ble_eq_true rfl, Nat.le_of_ble_eq_true rfl⟩) ⟨hI.blind, hI.give hW hS hA hK hZ0⟩ rfl rfl hl.1 rfl (lv_room (Nat.le_of_ble_eq_true rfl)) d_Ha_stay_4 ⟨(show _ ≤ 3 by omega), (show _ ≤ 18 by omega)⟩) hS (fun q _ z => hF q z) hF (fun q _ z => hF q z) (fun E ce q9 M9 t H locs ht _ _ h8 _ _ hS hce hcv hcl => hq_out hout hlocks (hw_back hF ht h8.2) hS h8.1 hce hcv hcl (by omega) (by omega)) (fun M13 t H locs ht _ h hB1 _ _ hS => ?_)
  have hW := hw_back hF ht hB1
  clear h9
  refine lv_aload_n hx hb d_Ha_stay_7 rfl (lv_at hl 0 rfl) ?_
  refine lv_iload_n hx hb d_Ha_stay_8 rfl (lv_at hl 1 rfl) ?_
  obtain ⟨⟨fs, h1⟩, h⟩ := h
  have h9 := h
  clear h
  have hF := hW.free hS hA
  refine hx_callq (vx_runV (As := [.int x1]) (rest := []) ⟨hx, hb, hml, hown, hts⟩ (c_Ha_presentChannel hl0 _ _ h9) (cwV 1 hts (gi_V bw_309 bw_311 bs_1 bw_1 bw_312) rfl rfl rfl (by decide +kernel) ⟨Nat.le_of_ble_eq_true rfl, Nat.le_of_ble_eq_true rfl⟩) ⟨hI.blind, hw_recv hK hW h1 rfl, hI.give hW hS hA hK hZ0⟩ rfl rfl hl.1 rfl (lv_room (Nat.le_of_ble_eq_true rfl)) d_Ha_stay_9 ⟨(show _ ≤ 3 by omega), (show _ ≤ 18 by omega)⟩) hS (fun q _ z => hF q z) hF (fun q _ z => hF q z) (fun E ce q9 M9 t H locs ht _ _ h8 _ _ hS hce hcv hcl => hq_out hout hlocks (hw_back hF ht h8.2) hS h8.1 hce hcv hcl (by omega) (by omega)) (fun r14 M15 t H locs ht _ h hB1 _ _ hS => ?_)
  have hW := hw_back hF ht hB1
  clear h9
  refine lq_store_n (lv' := [(2, va_rf r14), (0, .ref a0), (1, .int x1)]) hx hb d_Ha_stay_12 rfl hl (by decide) rfl (fun ls hl => ?_)
  refine lq_load_n hx hb d_Ha_stay_13 rfl (lv_at hl 0 rfl) ?_
  obtain ⟨b16, rfl, h⟩ := h
  obtain ⟨fs, v17, h1, h2, h⟩ := h
  refine va_get (D := D) (ci := 0) (v := .int v17) (C := "ChannelHall$Channel") (T := TCh) (N := 10) hx hb hts uCh hown hK (hw_one hW h1) 0 rfl rfl 9 (by decide) (hts _ bw_269) (fun _ h9 => h9) h2 d_Ha_stay_14 ?_
  obtain ⟨h0, h1⟩ := h
  refine lv_if_ne (tgt := 28) hx hb d_Ha_stay_17 (by decide) (fun c18 => ?_) (fun c18 => ?_)
  · have h := h0 c18
    refine lv_aload_n hx hb d_Ha_stay_28 rfl (lv_at hl 0 rfl) ?_
    obtain ⟨fs, v19, h1, h2, h⟩ := h
    refine va_get (D := D) (ci := 0) (v := .double v19) (C := "ChannelHall$Channel") (T := TCh) (N := 10) hx hb hts uCh hown hK (hw_one hW h1) 0 rfl rfl 8 (by decide) (hts _ bw_267) (fun _ h9 => h9) h2 d_Ha_stay_29 ?_
    refine lv_aload_n hx hb d_Ha_stay_32 rfl (lv_at hl 0 rfl) ?_
    obtain ⟨fs, v20, h1, h2, h⟩ := h
    refine va_get (D := D) (ci := 0) (v := .int v20) (C := "ChannelHall$Channel") (T := TCh) (N := 10) hx hb hts uCh hown hK (hw_one hW h1) 0 rfl rfl 9 (by decide) (hts _ bw_269) (fun _ h9 => h9) h2 d_Ha_stay_33 ?_
    refine lv_i2d hx hb d_Ha_stay_36 ?_
    obtain ⟨hn, h⟩ := h
    refine lv_ddiv hx hb d_Ha_stay_37 hn ?_
    refine W.widen (k := 3) (n := 18) (by omega) (by omega) ?_
    exact vx_ret (W.dret hx hb hr (fun t ht hWm => ⟨⟨_, _, rfl, h, hw_t ht hW⟩, hS.F ht⟩) hS.2.2 d_Ha_stay_38)
  · have h := h1 c18
    exact hq_throw (names := ["java/lang/RuntimeException", "java/lang/Exception"]) hx hb hl0 hout hown (by decide) (by decide) hts bw_846 bw_31 xg_Ha_ArithmeticException xn_Ha_ArithmeticException xo_Ha_ArithmeticException hZ0 hW hS (hl.1.trans hml.symm) h d_Ha_stay_20 d_Ha_stay_23 d_Ha_stay_24 d_Ha_stay_27 (by decide) (Nat.le_of_ble_eq_true rfl) (show _ ≤ 3 by omega) (show _ ≤ 18 by omega) hlocks (by omega) (by omega)
set_option maxRecDepth 20000 in
theorem c_Ha_stay {l : Launch} (hl0 : l.stackTraces = false) {D : va_G} {ca G : Nat → Nat} (post : UInt64 → hM → Prop) (xp : String → hM → Prop) {M : hM} {sz : Nat} {a0 : Nat} {x1 : Int32} (h : wp_Ha_stay G ca post xp M a0 x1) : vx_Met l y_Ha_stay (wz y_Ha_stay prog_1_method_14_code 3 (some .double)) rm_Ha_stay (va_Pc [.ref a0, .int x1] (hI D ca G sz M)) (va_Qd post (hB D M sz) (hp_A M sz)) (hX D xp (hp_A M sz)) 3 18 (hp_A M sz) := by
  refine vx_ofW (cc := prog_1_method_14_code) (maxL := 3) (ret := some .double) (by decide) rfl ?_
  intro p e s m args below meth c s₁ B hml hout hv
  obtain ⟨rfl, hsz, hW, hK, hZ0⟩ := hv
  have hts := fun w hw => atoms_spec (ws := wz y_Ha_stay prog_1_method_14_code 3 (some .double)) B.pre w (List.mem_cons_of_mem _ hw)
  have hown : s.vm.findClass "ChannelHall" = some m.cls := findClass_of_methodNamed B.named
  subst hsz
  have hl := lv_entry [.ref a0, .int x1] (n := 3) (Nat.le_of_ble_eq_true rfl)
  rw [lg_entry_eq]
  exact l_Ha_stay_e ⟨B.exec, B.bytes, B.returns, hml, hown, hts, B.notSynchronized, hK, fun q h => Or.inr h, hZ0⟩ hl0 hout a0 x1 (Nat.zero_le _) (Nat.zero_le _) h hW va_S.rf hl

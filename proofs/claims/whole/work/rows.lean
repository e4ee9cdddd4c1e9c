section
-- ===== PART A: goes FIRST, ahead of the names: the tables' words, and 'selects' of the private methods out of them =====
/-- a private method of a class that the tables say can be made, by its rows of tables_1 -/
def lw_okq (q : MethodName × Nat) : Prop := (q.1.cls ≠ "java/lang/invoke/MethodHandle" ∧ q.1.cls ≠ "java/lang/invoke/VarHandle") ∧ Cond.instantiable q.1.cls q.2 ∈ tables_1 ∧ Cond.privateMethod q.1 ∈ tables_1 ∧ Cond.instanceMethod q.1 ∈ tables_1
theorem lw_p0 : lw_okq (⟨"java/lang/Throwable", "fillInStackTrace", "(I)Ljava/lang/Throwable;"⟩, 6) := ⟨⟨by decide +kernel, by decide +kernel⟩, List.mem_of_getElem? (i := 177) (by decide +kernel), List.mem_of_getElem? (i := 175) (by decide +kernel), List.mem_of_getElem? (i := 176) (by decide +kernel)⟩
theorem lw_p1 : lw_okq (⟨"ChannelHall", "presentChannel", "(I)LChannelHall$Channel;"⟩, 4) := ⟨⟨by decide +kernel, by decide +kernel⟩, List.mem_of_getElem? (i := 33) (by decide +kernel), List.mem_of_getElem? (i := 310) (by decide +kernel), List.mem_of_getElem? (i := 311) (by decide +kernel)⟩
theorem lw_p2 : lw_okq (⟨"ChannelHall", "runningWorker", "(I)LChannelHall$Worker;"⟩, 4) := ⟨⟨by decide +kernel, by decide +kernel⟩, List.mem_of_getElem? (i := 33) (by decide +kernel), List.mem_of_getElem? (i := 329) (by decide +kernel), List.mem_of_getElem? (i := 330) (by decide +kernel)⟩
theorem lw_p3 : lw_okq (⟨"ChannelHall", "startWait", "(LChannelHall$Worker;LChannelHall$Channel;LChannelHall$Role;D)I"⟩, 4) := ⟨⟨by decide +kernel, by decide +kernel⟩, List.mem_of_getElem? (i := 33) (by decide +kernel), List.mem_of_getElem? (i := 403) (by decide +kernel), List.mem_of_getElem? (i := 404) (by decide +kernel)⟩
theorem lw_p4 : lw_okq (⟨"java/util/ArrayList", "add", "(Ljava/lang/Object;[Ljava/lang/Object;I)V"⟩, 3) := ⟨⟨by decide +kernel, by decide +kernel⟩, List.mem_of_getElem? (i := 223) (by decide +kernel), List.mem_of_getElem? (i := 411) (by decide +kernel), List.mem_of_getElem? (i := 412) (by decide +kernel)⟩
theorem lw_p5 : lw_okq (⟨"java/util/ArrayList", "grow", "()[Ljava/lang/Object;"⟩, 3) := ⟨⟨by decide +kernel, by decide +kernel⟩, List.mem_of_getElem? (i := 223) (by decide +kernel), List.mem_of_getElem? (i := 415) (by decide +kernel), List.mem_of_getElem? (i := 416) (by decide +kernel)⟩
theorem lw_p6 : lw_okq (⟨"java/util/ArrayList", "grow", "(I)[Ljava/lang/Object;"⟩, 3) := ⟨⟨by decide +kernel, by decide +kernel⟩, List.mem_of_getElem? (i := 223) (by decide +kernel), List.mem_of_getElem? (i := 419) (by decide +kernel), List.mem_of_getElem? (i := 420) (by decide +kernel)⟩
theorem lw_p7 : lw_okq (⟨"ChannelHall$Channel", "put", "(IDD)V"⟩, 10) := ⟨⟨by decide +kernel, by decide +kernel⟩, List.mem_of_getElem? (i := 217) (by decide +kernel), List.mem_of_getElem? (i := 473) (by decide +kernel), List.mem_of_getElem? (i := 474) (by decide +kernel)⟩
theorem lw_p8 : lw_okq (⟨"java/util/ArrayList", "rangeCheckForAdd", "(I)V"⟩, 3) := ⟨⟨by decide +kernel, by decide +kernel⟩, List.mem_of_getElem? (i := 223) (by decide +kernel), List.mem_of_getElem? (i := 501) (by decide +kernel), List.mem_of_getElem? (i := 502) (by decide +kernel)⟩
theorem lw_p9 : lw_okq (⟨"java/util/ArrayList", "outOfBoundsMsg", "(I)Ljava/lang/String;"⟩, 3) := ⟨⟨by decide +kernel, by decide +kernel⟩, List.mem_of_getElem? (i := 223) (by decide +kernel), List.mem_of_getElem? (i := 514) (by decide +kernel), List.mem_of_getElem? (i := 515) (by decide +kernel)⟩
theorem lw_p10 : lw_okq (⟨"ChannelHall$Channel", "handOver", "(ILChannelHall$Worker;)V"⟩, 10) := ⟨⟨by decide +kernel, by decide +kernel⟩, List.mem_of_getElem? (i := 217) (by decide +kernel), List.mem_of_getElem? (i := 768) (by decide +kernel), List.mem_of_getElem? (i := 769) (by decide +kernel)⟩
theorem lw_p11 : lw_okq (⟨"ChannelHall$Channel", "addStay", "(D)V"⟩, 10) := ⟨⟨by decide +kernel, by decide +kernel⟩, List.mem_of_getElem? (i := 217) (by decide +kernel), List.mem_of_getElem? (i := 776) (by decide +kernel), List.mem_of_getElem? (i := 777) (by decide +kernel)⟩
theorem lw_p12 : lw_okq (⟨"java/util/ArrayList", "fastRemove", "([Ljava/lang/Object;I)V"⟩, 3) := ⟨⟨by decide +kernel, by decide +kernel⟩, List.mem_of_getElem? (i := 223) (by decide +kernel), List.mem_of_getElem? (i := 788) (by decide +kernel), List.mem_of_getElem? (i := 789) (by decide +kernel)⟩
theorem lw_p13 : lw_okq (⟨"ChannelHall$Channel", "serveOnce", "(D)Z"⟩, 10) := ⟨⟨by decide +kernel, by decide +kernel⟩, List.mem_of_getElem? (i := 217) (by decide +kernel), List.mem_of_getElem? (i := 796) (by decide +kernel), List.mem_of_getElem? (i := 797) (by decide +kernel)⟩
theorem lw_p14 : lw_okq (⟨"ChannelHall$Channel", "handFirst", "(LChannelHall$Worker;D)V"⟩, 10) := ⟨⟨by decide +kernel, by decide +kernel⟩, List.mem_of_getElem? (i := 217) (by decide +kernel), List.mem_of_getElem? (i := 808) (by decide +kernel), List.mem_of_getElem? (i := 809) (by decide +kernel)⟩
theorem lw_p15 : lw_okq (⟨"ChannelHall", "giveUp", "(LChannelHall$Worker;I)V"⟩, 4) := ⟨⟨by decide +kernel, by decide +kernel⟩, List.mem_of_getElem? (i := 33) (by decide +kernel), List.mem_of_getElem? (i := 890) (by decide +kernel), List.mem_of_getElem? (i := 891) (by decide +kernel)⟩
def lw_privs_1 : List (MethodName × Nat) := [(⟨"java/lang/Throwable", "fillInStackTrace", "(I)Ljava/lang/Throwable;"⟩, 6), (⟨"ChannelHall", "presentChannel", "(I)LChannelHall$Channel;"⟩, 4), (⟨"ChannelHall", "runningWorker", "(I)LChannelHall$Worker;"⟩, 4), (⟨"ChannelHall", "startWait", "(LChannelHall$Worker;LChannelHall$Channel;LChannelHall$Role;D)I"⟩, 4), (⟨"java/util/ArrayList", "add", "(Ljava/lang/Object;[Ljava/lang/Object;I)V"⟩, 3), (⟨"java/util/ArrayList", "grow", "()[Ljava/lang/Object;"⟩, 3), (⟨"java/util/ArrayList", "grow", "(I)[Ljava/lang/Object;"⟩, 3), (⟨"ChannelHall$Channel", "put", "(IDD)V"⟩, 10), (⟨"java/util/ArrayList", "rangeCheckForAdd", "(I)V"⟩, 3), (⟨"java/util/ArrayList", "outOfBoundsMsg", "(I)Ljava/lang/String;"⟩, 3), (⟨"ChannelHall$Channel", "handOver", "(ILChannelHall$Worker;)V"⟩, 10), (⟨"ChannelHall$Channel", "addStay", "(D)V"⟩, 10), (⟨"java/util/ArrayList", "fastRemove", "([Ljava/lang/Object;I)V"⟩, 3), (⟨"ChannelHall$Channel", "serveOnce", "(D)Z"⟩, 10), (⟨"ChannelHall$Channel", "handFirst", "(LChannelHall$Worker;D)V"⟩, 10), (⟨"ChannelHall", "giveUp", "(LChannelHall$Worker;I)V"⟩, 4)]
theorem lw_r1 : ∀ q ∈ lw_privs_1, lw_okq q := List.forall_mem_cons.mpr ⟨lw_p0, List.forall_mem_cons.mpr ⟨lw_p1, List.forall_mem_cons.mpr ⟨lw_p2, List.forall_mem_cons.mpr ⟨lw_p3, List.forall_mem_cons.mpr ⟨lw_p4, List.forall_mem_cons.mpr ⟨lw_p5, List.forall_mem_cons.mpr ⟨lw_p6, List.forall_mem_cons.mpr ⟨lw_p7, List.forall_mem_cons.mpr ⟨lw_p8, List.forall_mem_cons.mpr ⟨lw_p9, List.forall_mem_cons.mpr ⟨lw_p10, List.forall_mem_cons.mpr ⟨lw_p11, List.forall_mem_cons.mpr ⟨lw_p12, List.forall_mem_cons.mpr ⟨lw_p13, List.forall_mem_cons.mpr ⟨lw_p14, List.forall_mem_cons.mpr ⟨lw_p15, fun _ h => absurd h List.not_mem_nil⟩⟩⟩⟩⟩⟩⟩⟩⟩⟩⟩⟩⟩⟩⟩⟩
theorem lw_p16 : lw_okq (⟨"ChannelHall", "nextMoment", "(D)D"⟩, 4) := ⟨⟨by decide +kernel, by decide +kernel⟩, List.mem_of_getElem? (i := 33) (by decide +kernel), List.mem_of_getElem? (i := 901) (by decide +kernel), List.mem_of_getElem? (i := 902) (by decide +kernel)⟩
theorem lw_p17 : lw_okq (⟨"ChannelHall", "serveDelayed", "()V"⟩, 4) := ⟨⟨by decide +kernel, by decide +kernel⟩, List.mem_of_getElem? (i := 33) (by decide +kernel), List.mem_of_getElem? (i := 909) (by decide +kernel), List.mem_of_getElem? (i := 910) (by decide +kernel)⟩
theorem lw_p18 : lw_okq (⟨"ChannelHall", "endLateWaits", "()I"⟩, 4) := ⟨⟨by decide +kernel, by decide +kernel⟩, List.mem_of_getElem? (i := 33) (by decide +kernel), List.mem_of_getElem? (i := 913) (by decide +kernel), List.mem_of_getElem? (i := 914) (by decide +kernel)⟩
theorem lw_p19 : lw_okq (⟨"ChannelHallModel", "out", "(II)Z"⟩, 26) := ⟨⟨by decide +kernel, by decide +kernel⟩, List.mem_of_getElem? (i := 968) (by decide +kernel), List.mem_of_getElem? (i := 1065) (by decide +kernel), List.mem_of_getElem? (i := 1066) (by decide +kernel)⟩
theorem lw_p20 : lw_okq (⟨"ChannelHallModel", "fail", "(I)I"⟩, 26) := ⟨⟨by decide +kernel, by decide +kernel⟩, List.mem_of_getElem? (i := 968) (by decide +kernel), List.mem_of_getElem? (i := 1069) (by decide +kernel), List.mem_of_getElem? (i := 1070) (by decide +kernel)⟩
theorem lw_p21 : lw_okq (⟨"ChannelHallModel", "badLimit", "(D)Z"⟩, 26) := ⟨⟨by decide +kernel, by decide +kernel⟩, List.mem_of_getElem? (i := 968) (by decide +kernel), List.mem_of_getElem? (i := 1079) (by decide +kernel), List.mem_of_getElem? (i := 1080) (by decide +kernel)⟩
theorem lw_p22 : lw_okq (⟨"ChannelHallModel", "check", "(IIII)I"⟩, 26) := ⟨⟨by decide +kernel, by decide +kernel⟩, List.mem_of_getElem? (i := 968) (by decide +kernel), List.mem_of_getElem? (i := 1083) (by decide +kernel), List.mem_of_getElem? (i := 1084) (by decide +kernel)⟩
theorem lw_p23 : lw_okq (⟨"ChannelHallModel", "flagged", "(I)Z"⟩, 26) := ⟨⟨by decide +kernel, by decide +kernel⟩, List.mem_of_getElem? (i := 968) (by decide +kernel), List.mem_of_getElem? (i := 1087) (by decide +kernel), List.mem_of_getElem? (i := 1088) (by decide +kernel)⟩
theorem lw_p24 : lw_okq (⟨"ChannelHallModel", "first", "(II)I"⟩, 26) := ⟨⟨by decide +kernel, by decide +kernel⟩, List.mem_of_getElem? (i := 968) (by decide +kernel), List.mem_of_getElem? (i := 1091) (by decide +kernel), List.mem_of_getElem? (i := 1092) (by decide +kernel)⟩
theorem lw_p25 : lw_okq (⟨"ChannelHallModel", "waitAt", "(IIID)I"⟩, 26) := ⟨⟨by decide +kernel, by decide +kernel⟩, List.mem_of_getElem? (i := 968) (by decide +kernel), List.mem_of_getElem? (i := 1095) (by decide +kernel), List.mem_of_getElem? (i := 1096) (by decide +kernel)⟩
theorem lw_p26 : lw_okq (⟨"ChannelHallModel", "settle", "(II)I"⟩, 26) := ⟨⟨by decide +kernel, by decide +kernel⟩, List.mem_of_getElem? (i := 968) (by decide +kernel), List.mem_of_getElem? (i := 1099) (by decide +kernel), List.mem_of_getElem? (i := 1100) (by decide +kernel)⟩
theorem lw_p27 : lw_okq (⟨"ChannelHallModel", "obtain", "(IIID)V"⟩, 26) := ⟨⟨by decide +kernel, by decide +kernel⟩, List.mem_of_getElem? (i := 968) (by decide +kernel), List.mem_of_getElem? (i := 1103) (by decide +kernel), List.mem_of_getElem? (i := 1104) (by decide +kernel)⟩
theorem lw_p28 : lw_okq (⟨"ChannelHallModel", "free", "(II)V"⟩, 26) := ⟨⟨by decide +kernel, by decide +kernel⟩, List.mem_of_getElem? (i := 968) (by decide +kernel), List.mem_of_getElem? (i := 1107) (by decide +kernel), List.mem_of_getElem? (i := 1108) (by decide +kernel)⟩
theorem lw_p29 : lw_okq (⟨"ChannelHallModel", "lay", "(IIDD)V"⟩, 26) := ⟨⟨by decide +kernel, by decide +kernel⟩, List.mem_of_getElem? (i := 968) (by decide +kernel), List.mem_of_getElem? (i := 1111) (by decide +kernel), List.mem_of_getElem? (i := 1112) (by decide +kernel)⟩
theorem lw_p30 : lw_okq (⟨"ChannelHallModel", "move", "(II)V"⟩, 26) := ⟨⟨by decide +kernel, by decide +kernel⟩, List.mem_of_getElem? (i := 968) (by decide +kernel), List.mem_of_getElem? (i := 1115) (by decide +kernel), List.mem_of_getElem? (i := 1116) (by decide +kernel)⟩
theorem lw_p31 : lw_okq (⟨"ChannelHallModel", "serve", "(I)V"⟩, 26) := ⟨⟨by decide +kernel, by decide +kernel⟩, List.mem_of_getElem? (i := 968) (by decide +kernel), List.mem_of_getElem? (i := 1119) (by decide +kernel), List.mem_of_getElem? (i := 1120) (by decide +kernel)⟩
def lw_privs_2 : List (MethodName × Nat) := [(⟨"ChannelHall", "nextMoment", "(D)D"⟩, 4), (⟨"ChannelHall", "serveDelayed", "()V"⟩, 4), (⟨"ChannelHall", "endLateWaits", "()I"⟩, 4), (⟨"ChannelHallModel", "out", "(II)Z"⟩, 26), (⟨"ChannelHallModel", "fail", "(I)I"⟩, 26), (⟨"ChannelHallModel", "badLimit", "(D)Z"⟩, 26), (⟨"ChannelHallModel", "check", "(IIII)I"⟩, 26), (⟨"ChannelHallModel", "flagged", "(I)Z"⟩, 26), (⟨"ChannelHallModel", "first", "(II)I"⟩, 26), (⟨"ChannelHallModel", "waitAt", "(IIID)I"⟩, 26), (⟨"ChannelHallModel", "settle", "(II)I"⟩, 26), (⟨"ChannelHallModel", "obtain", "(IIID)V"⟩, 26), (⟨"ChannelHallModel", "free", "(II)V"⟩, 26), (⟨"ChannelHallModel", "lay", "(IIDD)V"⟩, 26), (⟨"ChannelHallModel", "move", "(II)V"⟩, 26), (⟨"ChannelHallModel", "serve", "(I)V"⟩, 26)]
theorem lw_r2 : ∀ q ∈ lw_privs_2, lw_okq q := List.forall_mem_cons.mpr ⟨lw_p16, List.forall_mem_cons.mpr ⟨lw_p17, List.forall_mem_cons.mpr ⟨lw_p18, List.forall_mem_cons.mpr ⟨lw_p19, List.forall_mem_cons.mpr ⟨lw_p20, List.forall_mem_cons.mpr ⟨lw_p21, List.forall_mem_cons.mpr ⟨lw_p22, List.forall_mem_cons.mpr ⟨lw_p23, List.forall_mem_cons.mpr ⟨lw_p24, List.forall_mem_cons.mpr ⟨lw_p25, List.forall_mem_cons.mpr ⟨lw_p26, List.forall_mem_cons.mpr ⟨lw_p27, List.forall_mem_cons.mpr ⟨lw_p28, List.forall_mem_cons.mpr ⟨lw_p29, List.forall_mem_cons.mpr ⟨lw_p30, List.forall_mem_cons.mpr ⟨lw_p31, fun _ h => absurd h List.not_mem_nil⟩⟩⟩⟩⟩⟩⟩⟩⟩⟩⟩⟩⟩⟩⟩⟩
theorem lw_p32 : lw_okq (⟨"ChannelHallModel", "ready", "(I)Z"⟩, 26) := ⟨⟨by decide +kernel, by decide +kernel⟩, List.mem_of_getElem? (i := 968) (by decide +kernel), List.mem_of_getElem? (i := 1123) (by decide +kernel), List.mem_of_getElem? (i := 1124) (by decide +kernel)⟩
theorem lw_p33 : lw_okq (⟨"ChannelHallModel", "takeFirst", "(II)V"⟩, 26) := ⟨⟨by decide +kernel, by decide +kernel⟩, List.mem_of_getElem? (i := 968) (by decide +kernel), List.mem_of_getElem? (i := 1127) (by decide +kernel), List.mem_of_getElem? (i := 1128) (by decide +kernel)⟩
theorem lw_p34 : lw_okq (⟨"ChannelHallModel", "freeAll", "(II)V"⟩, 26) := ⟨⟨by decide +kernel, by decide +kernel⟩, List.mem_of_getElem? (i := 968) (by decide +kernel), List.mem_of_getElem? (i := 1143) (by decide +kernel), List.mem_of_getElem? (i := 1144) (by decide +kernel)⟩
theorem lw_p35 : lw_okq (⟨"ChannelHallModel", "leave", "(II)V"⟩, 26) := ⟨⟨by decide +kernel, by decide +kernel⟩, List.mem_of_getElem? (i := 968) (by decide +kernel), List.mem_of_getElem? (i := 1155) (by decide +kernel), List.mem_of_getElem? (i := 1156) (by decide +kernel)⟩
theorem lw_p36 : lw_okq (⟨"ChannelHallModel", "coming", "()D"⟩, 26) := ⟨⟨by decide +kernel, by decide +kernel⟩, List.mem_of_getElem? (i := 968) (by decide +kernel), List.mem_of_getElem? (i := 1163) (by decide +kernel), List.mem_of_getElem? (i := 1164) (by decide +kernel)⟩
def lw_privs_3 : List (MethodName × Nat) := [(⟨"ChannelHallModel", "ready", "(I)Z"⟩, 26), (⟨"ChannelHallModel", "takeFirst", "(II)V"⟩, 26), (⟨"ChannelHallModel", "freeAll", "(II)V"⟩, 26), (⟨"ChannelHallModel", "leave", "(II)V"⟩, 26), (⟨"ChannelHallModel", "coming", "()D"⟩, 26)]
theorem lw_r3 : ∀ q ∈ lw_privs_3, lw_okq q := List.forall_mem_cons.mpr ⟨lw_p32, List.forall_mem_cons.mpr ⟨lw_p33, List.forall_mem_cons.mpr ⟨lw_p34, List.forall_mem_cons.mpr ⟨lw_p35, List.forall_mem_cons.mpr ⟨lw_p36, fun _ h => absurd h List.not_mem_nil⟩⟩⟩⟩⟩
def lw_privs : List (MethodName × Nat) := lw_privs_1 ++ (lw_privs_2 ++ (lw_privs_3))
def lw_tbl : List Cond := k2_sels lw_privs ++ tables_1
theorem lw_privs_ok : ∀ q ∈ lw_privs, lw_okq q := by
  show ∀ q ∈ lw_privs_1 ++ (lw_privs_2 ++ (lw_privs_3)), lw_okq q
  exact List.forall_mem_append.mpr ⟨lw_r1, List.forall_mem_append.mpr ⟨lw_r2, lw_r3⟩⟩
end
section
/-! ===== BEGIN words of one list among another's, by their places ===== -/
theorem goodIn_r {big : List Cond} (ws : List Cond) (ps : List Nat) (hp : ws = ps.filterMap (fun i => big[i]?)) (h : ws.all goodWord = true) : GoodIn big ws := by
  intro w hw
  have h1 := List.all_eq_true.mp h w hw
  rw [hp] at hw
  obtain ⟨i, -, hi⟩ := List.mem_filterMap.mp hw
  have hm : w ∈ big := by first | exact List.mem_of_getElem? hi | exact List.getElem?_mem hi
  exact ⟨hm, good_of_word h1⟩
theorem goodIn_app {big a b : List Cond} (ha : GoodIn big a) (hb : GoodIn big b) : GoodIn big (a ++ b) := fun w h => (List.mem_append.mp h).elim (ha w) (hb w)
theorem goodIn_ca {big a b : List Cond} {c : Cond} (ha : GoodIn big (c :: a)) (hb : GoodIn big b) : GoodIn big (c :: (a ++ b)) := fun w h => (List.mem_cons.mp h).elim (fun e => ha w (List.mem_cons.mpr (Or.inl e))) (fun h => (List.mem_append.mp h).elim (fun h => ha w (List.mem_cons.mpr (Or.inr h))) (hb w))
theorem goodIn_sub {big ws : List Cond} (hm : ∀ w ∈ ws, w ∈ big) (h : ws.all goodWord = true) : GoodIn big ws := fun w hw => ⟨hm w hw, good_of_word (List.all_eq_true.mp h w hw)⟩
/-! ===== END ===== -/

/-! ===== BEGIN exceptions that leave a method, and their catching by the caller (launches without stack traces) ===== -/
section VXA
/-! The laws vx_back, vx_callV, vx_callS, vx_callSW, vx_throw0, vx_throwS follow proofs of the library, with one case more: JvmDerived/Free/Laws.lean (Back.of_free), Shelf42/LK1.lean (callV, callS), Shelf/KitTraced.lean (throwNew0V, throwNewS). -/
/-- where a method has thrown q: the class by its name, the cell, what was written, the world -/
def vx_T (XC : String → State → State → Prop) (st : State) (q : Addr) (t : State) (mc ms : Nat) (free : Addr → Prop) : Prop :=
  ∃ (E : String) (ce : Cell) (L : List Loc), XC E st t ∧ t.heap[q]? = some ce ∧ ce.vm = .none ∧ st.vm.findClass E = some ce.cls ∧ st.WarmedH t.vm ∧ st.sameButNew ({ t with vm := st.vm } : State) L mc ms ∧ ∀ z ∈ L, free z.base
def vx_Q (Qc : Array Value → State → Outcome → State → Prop) (XC : String → State → State → Prop) (mc ms : Nat) (free : Addr → Prop) : Array Value → State → Outcome → State → Prop := fun a st o t =>
  (Qc a st o t ∧ ∃ L, FrameEnd st o t L mc ms ∧ ∀ q ∈ L, free q.base) ∨ ∃ q, o = .threw q ∧ vx_T XC st q t mc ms free
/-- a callee that returns or throws -/
def vx_Met (l : Launch) (y : MethodName) (ws : List Cond) (rm : Room) (Pc : Array Value → State → Prop) (Qc : Array Value → State → Outcome → State → Prop) (XC : String → State → State → Prop) (mc ms : Nat) (free : Addr → Prop) : Prop :=
  MetFree l y (headSpec ws rm) Pc (fun _ _ _ _ _ => True) (vx_Q Qc XC mc ms free)
def vx_Post (XC : String → State → State → Prop) (mc ms : Nat) (free : Addr → Prop) : Pt → Array Value → Addr → Pt → Prop := fun A a q B =>
  ∃ (g : JFrame) (mk : MethodId) (t : State) (L : List Loc) (E : String) (ce : Cell), B.U.heap = t.heap ∧ B.U.vm = t.vm ∧ XC E (A.U.calling g mk a) t ∧ t.heap[q]? = some ce ∧ ce.vm = .none ∧ A.U.vm.findClass E = some ce.cls ∧ B.locs = A.locs ++ L ∧ (∀ z ∈ L, free z.base) ∧ B.cells = A.cells + mc ∧ B.slots = A.slots + ms
def vx_Back (l : Launch) (R : Room) (p : Program) (e : Env) (below : List Frame) (s : State) (sargs : Array Value) (y : MethodName) (len W9 : Nat)
    (Pre : Pt → Array Value → Prop) (Post : Pt → Array Value → Option Value → Pt → Prop) (PostX : Pt → Array Value → Addr → Pt → Prop) : Prop :=
  ∀ (m : MethodId) (meth : Method) (c : Code) (A : Pt) (g : JFrame) (ig : Instr) (mk : MethodId) (a : Array Value),
    Stand p l e R s m sargs below meth c A.U A.locs A.cells A.slots → g.method = m → g.locals.size = c.maxLocals → decode c.code g.pc = .ok (ig, len) →
    2 * g.monitorRoom + (g.stack.map fun v => v.category).sum ≤ W9 → A.U.methodNamed? y = some mk → Pre A a →
    (∃ (v : Option Value) (B : Pt), Stand p l e R s m sargs below meth c B.U B.locs B.cells B.slots ∧ Post A a v B ∧
      Steps p.tables e below (doInvoke e (A.U.setTop g) [] mk a).1 (B.U.setTop { g with pc := g.pc + len, stack := v.toList ++ g.stack })) ∨
    (∃ (q : Addr) (B : Pt), Stand p l e R s m sargs below meth c B.U B.locs B.cells B.slots ∧ PostX A a q B ∧
      Steps p.tables e below (doInvoke e (A.U.setTop g) [] mk a).1 ((B.U.setTop g).pushFrame (.throwing q)))
section Payer
variable {l : Launch} {R : Room} {p : Program} {e : Env} {below : List Frame} {s : State} {sargs : Array Value} {y : MethodName} {len W9 : Nat}
theorem vx_back {ws : List Cond} {rm : Room} {Pc : Array Value → State → Prop} {Qc : Array Value → State → Outcome → State → Prop} {XC : String → State → State → Prop} {mc ms : Nat} {free : Addr → Prop} {bytes : ByteArray} {maxL : Nat} {ret : Option FieldType}
    (hM : vx_Met l y ws rm Pc Qc XC mc ms free) (hblind : FrameBlind Pc) (hrc : rm.cells = mc) (hrs : rm.slots = ms)
    (hframes : rm.frames + 1 ≤ R.frames) (hlocals : W9 + (maxL + 11) + rm.locals ≤ R.locals)
    (hws : ∀ w ∈ ws, ∀ a' U, s.WarmedH U.vm → w.before a' U = true) (hcode : Cond.code y bytes maxL ret ∈ ws) (hinit : ∀ a' U, s.WarmedH U.vm → (Cond.initialized y.cls).before a' U = true) :
    vx_Back l R p e below s sargs y len W9 (PreOf R mc ms Pc) (PostOf Qc mc ms free) (vx_Post XC mc ms free) := by
  intro m meth c A g ig mk a X hg hsize hdg hW hn hp
  have h1 : (headSpec ws rm).pre.before a A.U = true := atoms_intro fun w hw => hws w hw _ _ X.warmed
  have h2 : (Cond.code y bytes maxL ret).before a A.U = true := hws _ hcode _ _ X.warmed
  have h3 : (Cond.initialized y.cls).before a A.U = true := hinit _ _ X.warmed
  have h4 : A.cells + (headSpec ws rm).room.cells ≤ R.cells := by rw [show (headSpec ws rm).room.cells = mc from hrc]; exact hp.1
  have h5 : A.slots + (headSpec ws rm).room.slots ≤ R.slots := by rw [show (headSpec ws rm).room.slots = ms from hrs]; exact hp.2.1
  have hPc : Pc a (A.U.calling g mk a) := hblind _ _ _ _ hp.2.2
  obtain ⟨U, Ls, c0, s0⟩ := A
  dsimp only [Pt.U, Pt.locs, Pt.cells, Pt.slots] at h1 h2 h3 h4 h5 X hn hPc ⊢
  obtain ⟨methY, cY, hmY, hcY, -, hlY, -, -, -, -⟩ := Cond.code_spec hn h2
  obtain ⟨kY, hkY, -⟩ := className_of_methodNamed hn
  have hinitY : kY.init = .initialized := Cond.initialized_spec (findClass_of_methodNamed hn) hkY h3
  have h : At U g.method c below := by rw [hg]; exact X.here
  have hlocals9 : W9 + (maxL + 11) + (headSpec ws rm).room.locals ≤ R.locals := hlocals
  have happ : (headSpec ws rm).appliesLoose y e.platform (U.calling g mk a) = true :=
    Spec.appliesLoose_calling (g := g) h hdg hn hkY hinitY
      (X.room_calling (g := g) (R' := (headSpec ws rm).room) hsize hmY hcY hframes (by rw [hlY]; omega) h4 h5) h1
  obtain ⟨mid, hmid⟩ := h.above
  have hfr : (U.setTop g).frames = (.java g :: mid) ++ below := by rw [State.frames_setTop' g h.top, hmid]; rfl
  obtain ⟨o, s₂, hsteps, -, hend, hq⟩ := Steps.callFree hM p X.admits X.cas X.clock (acts := []) hfr happ hPc trivial
  have hq' : vx_Q Qc XC mc ms free a (U.calling g mk a) o s₂ := hq
  rw [State.frames_setTop' g h.top] at hend
  obtain ⟨g₀, hg0⟩ := Option.isSome_iff_exists.mp h.top
  obtain ⟨r, hr⟩ := State.topJava?_eq_some.mp hg0
  have hr' : (({ U with heap := s₂.heap, slotsUsed := s₂.slotsUsed } : State).setVm s₂.vm).frames = .java g₀ :: r := hr
  rcases hq' with ⟨hqc, L, hfe, hL⟩ | ⟨q, rfl, E, ce, L, hx, hce, hcv, hcl, hW₂, hsm, hL⟩
  · obtain ⟨⟨v, rfl⟩, hW₂, e2, q2, q3, q4, q5, q6⟩ := id hfe
    have e3 : s₂ = ({ (U.calling g mk a).setFrames s₂.frames with heap := s₂.heap, slotsUsed := s₂.slotsUsed } : State).setVm s₂.vm := by
      have : s₂ = ({ s₂ with vm := (U.calling g mk a).vm } : State).setVm s₂.vm := rfl
      rw [e2] at this
      exact this
    obtain ⟨c₂, i₂, len₂, hc₂, hd₂, hf₂⟩ := hend
    have hW' : U.WarmedH s₂.vm := hW₂
    have hcc : c₂ = c := by
      have h1 : s₂.code? g.method = U.code? g.method := by
        rw [State.code?_eq, State.code?_eq, hW'.alike.method?]
      exact Option.some.inj (hc₂.symm.trans (h1.trans h.code))
    subst hcc
    have hlen : len₂ = len := by rw [hdg] at hd₂; cases hd₂; rfl
    subst hlen
    have hs₂ : s₂ = (({ U with heap := s₂.heap, slotsUsed := s₂.slotsUsed } : State).setVm s₂.vm).setTop { g with pc := g.pc + len₂, stack := v.toList ++ g.stack } := by
      refine e3.trans ?_
      rw [hf₂, State.calling_eq h.top, State.setFrames_setFrames, State.setTop_of_frames _ hr', hr]
      rfl
    have hsame : U.sameButNew ({ U with heap := s₂.heap, slotsUsed := s₂.slotsUsed } : State) L mc ms := by
      refine ⟨?_, q2, q3, q4, q5, q6⟩
      obtain ⟨t, ht, -⟩ := State.frames_cons hr
      show ({ U with heap := s₂.heap, slotsUsed := s₂.slotsUsed } : State) = { U.setFrames U.frames with heap := s₂.heap, slotsUsed := s₂.slotsUsed }
      rw [State.setFrames_self ht]
    subst hg
    refine Or.inl ⟨v, ⟨(({ U with heap := s₂.heap, slotsUsed := s₂.slotsUsed } : State).setVm s₂.vm), Ls ++ L, c0 + mc, s0 + ms⟩,
      ⟨X.admits, X.cas, X.clock, X.frames, X.room, X.hears, X.method, X.code, (X.here.setHeapUsed s₂.heap s₂.slotsUsed).setVm hW'.alike, X.tail, State.WarmedH.trans X.warmed hW', X.limits, X.bytes, X.same.trans (hsame.setVm s.vm)⟩,
      ⟨g, mk, s₂, L, rfl, rfl, hqc, rfl, hL, rfl, rfl⟩, ?_⟩
    show Steps p.tables e below _ ((({ U with heap := s₂.heap, slotsUsed := s₂.slotsUsed } : State).setVm s₂.vm).setTop { g with pc := g.pc + len₂, stack := v.toList ++ g.stack })
    rw [← hs₂]
    exact hsteps
  · obtain ⟨e2, q2, q3, q4, q5, q6⟩ := id hsm
    have e3 : s₂ = ({ (U.calling g mk a).setFrames s₂.frames with heap := s₂.heap, slotsUsed := s₂.slotsUsed } : State).setVm s₂.vm := by
      have : s₂ = ({ s₂ with vm := (U.calling g mk a).vm } : State).setVm s₂.vm := rfl
      rw [e2] at this
      exact this
    have hf₂ : s₂.frames = .throwing q :: .java g :: U.frames.tail := hend
    have hW' : U.WarmedH s₂.vm := hW₂
    have hs₂ : s₂ = ((({ U with heap := s₂.heap, slotsUsed := s₂.slotsUsed } : State).setVm s₂.vm).setTop g).pushFrame (.throwing q) := by
      refine e3.trans ?_
      rw [hf₂, State.calling_eq h.top, State.setFrames_setFrames, State.pushFrame, State.frames_setTop _ hr', State.setTop_of_frames _ hr', State.setFrames_setFrames, hr]
      rfl
    have hsame : U.sameButNew ({ U with heap := s₂.heap, slotsUsed := s₂.slotsUsed } : State) L mc ms := by
      refine ⟨?_, q2, q3, q4, q5, q6⟩
      obtain ⟨t, ht, -⟩ := State.frames_cons hr
      show ({ U with heap := s₂.heap, slotsUsed := s₂.slotsUsed } : State) = { U.setFrames U.frames with heap := s₂.heap, slotsUsed := s₂.slotsUsed }
      rw [State.setFrames_self ht]
    subst hg
    refine Or.inr ⟨q, ⟨(({ U with heap := s₂.heap, slotsUsed := s₂.slotsUsed } : State).setVm s₂.vm), Ls ++ L, c0 + mc, s0 + ms⟩,
      ⟨X.admits, X.cas, X.clock, X.frames, X.room, X.hears, X.method, X.code, (X.here.setHeapUsed s₂.heap s₂.slotsUsed).setVm hW'.alike, X.tail, State.WarmedH.trans X.warmed hW', X.limits, X.bytes, X.same.trans (hsame.setVm s.vm)⟩,
      ⟨g, mk, s₂, L, E, ce, rfl, rfl, hx, hce, hcv, hcl, rfl, hL, rfl, rfl⟩, ?_⟩
    show Steps p.tables e below _ (((({ U with heap := s₂.heap, slotsUsed := s₂.slotsUsed } : State).setVm s₂.vm).setTop g).pushFrame (.throwing q))
    rw [← hs₂]
    exact hsteps
end Payer
section Calls
variable {p : Program} {l : Launch} {e : Env} {R : Room} {s : State} {m : MethodId} {args : Array Value} {below : List Frame} {meth : Method} {c : Code} {T : State} {locs : List Loc} {cells slots : Nat}
theorem vx_callV (X : Stand p l e R s m args below meth c T locs cells slots) (hexec : p.tables.exec = Jvm.exec) {own C : String} {index : Nat} {y : MethodName} {bytes : ByteArray} {maxL : Nat} {ret : Option FieldType}
    (hown : s.vm.findClass own = some m.cls) (hlink : (Cond.methodLink own index y).before args s = true) (hinst : (Cond.instanceMethod y).before args s = true) (hsel : (Cond.selects C y y).before args s = true)
    (hcode : (Cond.code y bytes maxL ret).before args s = true) (hy : y.cls ≠ "java/lang/invoke/MethodHandle" ∧ y.cls ≠ "java/lang/invoke/VarHandle")
    {W9 : Nat} {Pre : Pt → Array Value → Prop} {Post : Pt → Array Value → Option Value → Pt → Prop} {PostX : Pt → Array Value → Addr → Pt → Prop} (hK : vx_Back l R p e below s args y 3 W9 Pre Post PostX)
    {b : Addr} {cellB : Cell} (hcell : T.heap[b]? = some cellB) (hobj : cellB.vm.isStatics = false) (hcls : s.vm.findClass C = some cellB.cls)
    {g : JFrame} (hg : g.method = m) (hsize : g.locals.size = c.maxLocals) {argsL rest : List Value} (hlen : ∀ sig, parseMethodDescriptor y.desc = some sig → argsL.length = sig.parameters.length)
    (hstack : g.stack = argsL.reverse ++ .ref b :: rest) (hW : 2 * g.monitorRoom + (rest.map fun v => v.category).sum ≤ W9) (hdg : decode c.code g.pc = .ok (.invokevirtual index, 3))
    (hpre : ∀ vm₁, s.WarmedH vm₁ → Pre ⟨T.setVm vm₁, locs, cells, slots⟩ (Value.ref b :: argsL).toArray) :
    (∃ (v : Option Value) (vm₁ : Vm) (B : Pt), s.WarmedH vm₁ ∧ Stand p l e R s m args below meth c B.U B.locs B.cells B.slots ∧ Post ⟨T.setVm vm₁, locs, cells, slots⟩ (Value.ref b :: argsL).toArray v B ∧
      ∀ target, Steps p.tables e below (B.U.setTop { g with pc := g.pc + 3, stack := v.toList ++ rest }) target → Steps p.tables e below (T.setTop g) target) ∨
    (∃ (q : Addr) (vm₁ : Vm) (B : Pt), s.WarmedH vm₁ ∧ Stand p l e R s m args below meth c B.U B.locs B.cells B.slots ∧ PostX ⟨T.setVm vm₁, locs, cells, slots⟩ (Value.ref b :: argsL).toArray q B ∧
      Steps p.tables e below (T.setTop g) ((B.U.setTop { g with stack := rest }).pushFrame (.throwing q))) := by
  obtain ⟨mk, methM, hnamed, hmethM, hstM, habM⟩ := Cond.instanceMethod_spec hinst
  obtain ⟨methM', cM, hmethM', -, -, -, -, -, -, hsigM⟩ := Cond.code_spec hnamed hcode
  cases hmethM.symm.trans hmethM'
  obtain ⟨c2, r2, m2, q1, q2, q3, q4, kP, hkP, hkPi⟩ := Cond.selects_spec hsel
  cases hcls.symm.trans q1
  cases (State.methodFound?_of_named hnamed hy).symm.trans q2
  cases hnamed.symm.trans q3
  have hselP : selectMethod e.platform s.vm cellB.cls mk = .method mk := by rw [Launch.admits_selectMethod X.admits]; exact q4
  obtain ⟨vm₁, X₁, hstep₁⟩ := X.invokevirtual hexec hown hlink hnamed hmethM hstM hkP hkPi hy (a := b) (cell := cellB) hcell
    (fun z h => by rw [h] at hobj; cases hobj) hselP hmethM habM hkP hkPi (g := g) hg (argsL := argsL) (rest := rest) (hlen _ hsigM) hstack hdg
  rcases hK m meth c ⟨T.setVm vm₁, locs, cells, slots⟩ { g with stack := rest } (.invokevirtual index) mk (Value.ref b :: argsL).toArray X₁ hg hsize hdg hW (X₁.named hnamed) (hpre vm₁ X₁.warmed) with ⟨v, B, X', hpost, hsteps⟩ | ⟨q, B, X', hpost, hsteps⟩
  · exact Or.inl ⟨v, vm₁, B, X₁.warmed, X', hpost, fun target h => hstep₁ _ fun acts => by rw [doInvoke_state]; exact hsteps.trans h⟩
  · exact Or.inr ⟨q, vm₁, B, X₁.warmed, X', hpost, hstep₁ _ fun acts => by rw [doInvoke_state]; exact hsteps⟩
theorem vx_callS (X : Stand p l e R s m args below meth c T locs cells slots) (hexec : p.tables.exec = Jvm.exec) {own : String} {index : Nat} {y : MethodName} {bytes : ByteArray} {maxL : Nat} {ret : Option FieldType}
    (hown : s.vm.findClass own = some m.cls) (hlink : (Cond.methodLink own index y).before args s = true) (hstat : (Cond.static y).before args s = true) (hinit : (Cond.initialized y.cls).before args s = true)
    (hcode : (Cond.code y bytes maxL ret).before args s = true) (hy : y.cls ≠ "java/lang/invoke/MethodHandle" ∧ y.cls ≠ "java/lang/invoke/VarHandle")
    {W9 : Nat} {Pre : Pt → Array Value → Prop} {Post : Pt → Array Value → Option Value → Pt → Prop} {PostX : Pt → Array Value → Addr → Pt → Prop} (hK : vx_Back l R p e below s args y 3 W9 Pre Post PostX)
    {g : JFrame} (hg : g.method = m) (hsize : g.locals.size = c.maxLocals) {argsL rest : List Value} (hlen : ∀ sig, parseMethodDescriptor y.desc = some sig → argsL.length = sig.parameters.length)
    (hstack : g.stack = argsL.reverse ++ rest) (hW : 2 * g.monitorRoom + (rest.map fun v => v.category).sum ≤ W9) (hdg : decode c.code g.pc = .ok (.invokestatic index, 3))
    (hpre : ∀ vm₁, s.WarmedH vm₁ → Pre ⟨T.setVm vm₁, locs, cells, slots⟩ argsL.toArray) :
    (∃ (v : Option Value) (vm₁ : Vm) (B : Pt), s.WarmedH vm₁ ∧ Stand p l e R s m args below meth c B.U B.locs B.cells B.slots ∧ Post ⟨T.setVm vm₁, locs, cells, slots⟩ argsL.toArray v B ∧
      ∀ target, Steps p.tables e below (B.U.setTop { g with pc := g.pc + 3, stack := v.toList ++ rest }) target → Steps p.tables e below (T.setTop g) target) ∨
    (∃ (q : Addr) (vm₁ : Vm) (B : Pt), s.WarmedH vm₁ ∧ Stand p l e R s m args below meth c B.U B.locs B.cells B.slots ∧ PostX ⟨T.setVm vm₁, locs, cells, slots⟩ argsL.toArray q B ∧
      Steps p.tables e below (T.setTop g) ((B.U.setTop { g with stack := rest }).pushFrame (.throwing q))) := by
  obtain ⟨mk, hnamed⟩ := Cond.code_named hcode
  obtain ⟨methM, cM, hmethM, -, -, -, -, -, -, hsigM⟩ := Cond.code_spec hnamed hcode
  have hstatic : methM.isStatic = true := Cond.static_spec hnamed hmethM hstat
  obtain ⟨kP, hkP, -⟩ := className_of_methodNamed hnamed
  have hinitP : kP.init = .initialized := Cond.initialized_spec (findClass_of_methodNamed hnamed) hkP hinit
  obtain ⟨vm₁, X₁, hstep₁⟩ := X.invokestatic hexec hown hlink hnamed hmethM hstatic hkP hinitP hy (g := g) hg (argsL := argsL) (rest := rest) (hlen _ hsigM) hstack hdg
  rcases hK m meth c ⟨T.setVm vm₁, locs, cells, slots⟩ { g with stack := rest } (.invokestatic index) mk argsL.toArray X₁ hg hsize hdg hW (X₁.named hnamed) (hpre vm₁ X₁.warmed) with ⟨v, B, X', hpost, hsteps⟩ | ⟨q, B, X', hpost, hsteps⟩
  · exact Or.inl ⟨v, vm₁, B, X₁.warmed, X', hpost, fun target h => hstep₁ _ fun acts => by rw [doInvoke_state]; exact hsteps.trans h⟩
  · exact Or.inr ⟨q, vm₁, B, X₁.warmed, X', hpost, hstep₁ _ fun acts => by rw [doInvoke_state]; exact hsteps⟩
end Calls
theorem vx_cls {s : State} {T : State} {vm₁ : Vm} {E : String} {k : ClassId} (hW : s.WarmedH vm₁) (h : (T.setVm vm₁).vm.findClass E = some k) : s.vm.findClass E = some k := by
  have h1 : vm₁.findClass E = some k := h
  rw [hW.alike.findClass] at h1
  exact h1
/-- the method's frame g, with q thrown over it -/
def vx_W (p : Program) (l : Launch) (e : Env) (R : Room) (s : State) (m : MethodId) (args : Array Value) (below : List Frame) (meth : Method) (c : Code) (H : Heap) (locs : List Loc) (cells slots : Nat) (Q : State → Prop) (g : JFrame) (q : Addr) : Prop :=
  ∀ T : State, T.heap = H → Stand p l e R s m args below meth c T locs cells slots → ∃ t, Steps p.tables e below ((T.setTop g).pushFrame (.throwing q)) t ∧ Q t
def vx_Run (p : Program) (l : Launch) (e : Env) (R : Room) (s : State) (m : MethodId) (args : Array Value) (below : List Frame) (meth : Method) (c : Code) (H : Heap) (locs : List Loc) (cells slots mc ms : Nat) (g : JFrame) (rest : List Value) (Qa : State → Outcome → State → Prop) (XC : String → State → State → Prop) (free : Addr → Prop) : Prop :=
  ∀ T : State, T.heap = H → Stand p l e R s m args below meth c T locs cells slots →
    (∃ (v : Option Value) (st₀ t T' : State) (L : List Loc), st₀.heap = H ∧ Stand p l e R s m args below meth c T' (locs ++ L) (cells + mc) (slots + ms) ∧ (∀ q ∈ L, free q.base) ∧ T'.heap = t.heap ∧ T'.vm = t.vm ∧ Qa st₀ (.returned v) t ∧
      Goes p e below T g T' { g with pc := g.pc + 3, stack := v.toList ++ rest }) ∨
    (∃ (q : Addr) (st₀ t T' : State) (L : List Loc) (E : String) (ce : Cell), st₀.heap = H ∧ Stand p l e R s m args below meth c T' (locs ++ L) (cells + mc) (slots + ms) ∧ (∀ z ∈ L, free z.base) ∧ T'.heap = t.heap ∧ T'.vm = t.vm ∧ XC E st₀ t ∧ t.heap[q]? = some ce ∧ ce.vm = .none ∧ s.vm.findClass E = some ce.cls ∧
      Steps p.tables e below (T.setTop g) ((T'.setTop { g with stack := rest }).pushFrame (.throwing q)))
def vx_X {S : Type} (px : S → Prop) (B : String → S → State → Prop) (A : Nat → Prop) : String → State → State → Prop := fun E st t => ∃ u : S, px u ∧ B E u t ∧ va_F A st t
section Runs
variable {p : Program} {l : Launch} {e : Env} {R : Room} {s : State} {m : MethodId} {args : Array Value} {below : List Frame} {meth : Method} {c : Code} {H : Heap} {locs : List Loc} {cells slots : Nat}
variable {y : MethodName} {bytes cc : ByteArray} {maxL nL mc ms n index : Nat} {ret : Option FieldType} {ws : List Cond} {rm : Room} {Pc : Array Value → State → Prop} {Qc : Array Value → State → Outcome → State → Prop} {XC : String → State → State → Prop} {free : Addr → Prop} {Ts : List Cond} {own C : String} {b : Addr} {As rest : List Value} {g : JFrame}
theorem vx_callBack (cb : CallB R s args own index y bytes maxL ret ws rm mc ms n) (hM : vx_Met l y ws rm Pc Qc XC mc ms free) (hbl : FrameBlind Pc) : vx_Back l R p e below s args y 3 8 (PreOf R mc ms Pc) (PostOf Qc mc ms free) (vx_Post XC mc ms free) := by
  obtain ⟨hrc, hrs, hfr, hlo, hws, hcw, -, hini, -⟩ := cb
  exact vx_back (bytes := bytes) (maxL := maxL) (ret := ret) hM hbl hrc hrs hfr hlo hws hcw (fun a' U hW => word_at hW (Or.inl (by first | rfl | simp [Cond.onTables, Cond.keeps, Cond.steady])) hini)
theorem vx_runV (S : CallFix p m c cc nL s args Ts own) (hM : vx_Met l y ws rm Pc Qc XC mc ms free) (cw : CallW R s args own C index y bytes maxL ret ws rm mc ms n) (hp : PreV s H C b Pc As)
    (hg : g.method = m) (hn : As.length = n) (hsize : g.locals.size = nL) (hstack : g.stack = As.reverse ++ .ref b :: rest) (hW : 2 * g.monitorRoom + (rest.map fun v => v.category).sum ≤ 8) (hdg : decode cc g.pc = .ok (.invokevirtual index, 3)) (hf : cells + mc ≤ R.cells ∧ slots + ms ≤ R.slots) :
    vx_Run p l e R s m args below meth c H locs cells slots mc ms g rest (Qc (Value.ref b :: As).toArray) XC free := by
  have hK : vx_Back l R p e below s args y 3 8 (PreOf R mc ms Pc) (PostOf Qc mc ms free) (vx_Post XC mc ms free) := vx_callBack cw.1 hM hp.1
  obtain ⟨⟨-, -, -, -, -, -, hcode, -, hy, hlen, hl⟩, hin, hse⟩ := cw
  obtain ⟨hx, hb, hml, ho, -⟩ := S
  obtain ⟨-, ⟨cellB, hcB, hoB, hclB⟩, hPc⟩ := hp
  intro T hT X
  rcases vx_callV X hx (C := C) (bytes := bytes) (maxL := maxL) (ret := ret) ho hl hin hse hcode hy hK (by rw [hT]; exact hcB) hoB hclB hg (hsize.trans hml.symm) (argsL := As) (rest := rest) (fun sig h => hn.trans (hlen sig h)) hstack hW (by rw [hb]; exact hdg)
    (fun vm₁ hW₁ => ⟨hf.1, hf.2, hPc (T.setVm vm₁) hT hW₁⟩) with ⟨v, vm₁, ⟨U', l2, c2, s2⟩, hW₁, X', ⟨g', mk, t, L, e1, e2, hq, h1, hL, h2, h3⟩, st⟩ | ⟨q, vm₁, ⟨U', l2, c2, s2⟩, hW₁, X', ⟨g', mk, t, L, E, ce, e1, e2, hq, hce, hcv, hcl, h1, hL, h2, h3⟩, st⟩
  · dsimp only [Pt.U, Pt.locs, Pt.cells, Pt.slots] at X' e1 e2 h1 h2 h3 st
    subst h1; subst h2; subst h3
    exact Or.inl ⟨v, (T.setVm vm₁).calling g' mk (Value.ref b :: As).toArray, t, U', L, hT, X', hL, e1, e2, hq, st⟩
  · dsimp only [Pt.U, Pt.locs, Pt.cells, Pt.slots] at X' e1 e2 h1 h2 h3 st hcl
    subst h1; subst h2; subst h3
    exact Or.inr ⟨q, (T.setVm vm₁).calling g' mk (Value.ref b :: As).toArray, t, U', L, E, ce, hT, X', hL, e1, e2, hq, hce, hcv, vx_cls hW₁ hcl, st⟩
theorem vx_runS (S : CallFix p m c cc nL s args Ts own) (hM : vx_Met l y ws rm Pc Qc XC mc ms free) (cw : CallB R s args own index y bytes maxL ret ws rm mc ms n ∧ (Cond.static y).before args s = true) (hp : PreS s H Pc As)
    (hg : g.method = m) (hn : As.length = n) (hsize : g.locals.size = nL) (hstack : g.stack = As.reverse ++ rest) (hW : 2 * g.monitorRoom + (rest.map fun v => v.category).sum ≤ 8) (hdg : decode cc g.pc = .ok (.invokestatic index, 3)) (hf : cells + mc ≤ R.cells ∧ slots + ms ≤ R.slots) :
    vx_Run p l e R s m args below meth c H locs cells slots mc ms g rest (Qc As.toArray) XC free := by
  have hK : vx_Back l R p e below s args y 3 8 (PreOf R mc ms Pc) (PostOf Qc mc ms free) (vx_Post XC mc ms free) := vx_callBack cw.1 hM hp.1
  obtain ⟨⟨-, -, -, -, -, -, hcode, hini, hy, hlen, hl⟩, hstt⟩ := cw
  obtain ⟨hx, hb, hml, ho, -⟩ := S
  intro T hT X
  rcases vx_callS X hx (bytes := bytes) (maxL := maxL) (ret := ret) ho hl hstt hini hcode hy hK hg (hsize.trans hml.symm) (argsL := As) (rest := rest) (fun sig h => hn.trans (hlen sig h)) hstack hW (by rw [hb]; exact hdg)
    (fun vm₁ hW₁ => ⟨hf.1, hf.2, hp.2 (T.setVm vm₁) hT hW₁⟩) with ⟨v, vm₁, ⟨U', l2, c2, s2⟩, hW₁, X', ⟨g', mk, t, L, e1, e2, hq, h1, hL, h2, h3⟩, st⟩ | ⟨q, vm₁, ⟨U', l2, c2, s2⟩, hW₁, X', ⟨g', mk, t, L, E, ce, e1, e2, hq, hce, hcv, hcl, h1, hL, h2, h3⟩, st⟩
  · dsimp only [Pt.U, Pt.locs, Pt.cells, Pt.slots] at X' e1 e2 h1 h2 h3 st
    subst h1; subst h2; subst h3
    exact Or.inl ⟨v, (T.setVm vm₁).calling g' mk As.toArray, t, U', L, hT, X', hL, e1, e2, hq, st⟩
  · dsimp only [Pt.U, Pt.locs, Pt.cells, Pt.slots] at X' e1 e2 h1 h2 h3 st hcl
    subst h1; subst h2; subst h3
    exact Or.inr ⟨q, (T.setVm vm₁).calling g' mk As.toArray, t, U', L, E, ce, hT, X', hL, e1, e2, hq, hce, hcv, vx_cls hW₁ hcl, st⟩
end Runs
section Rows
variable {p : Program} {l : Launch} {e : Env} {R : Room} {s : State} {m : MethodId} {args : Array Value} {below : List Frame} {meth : Method} {c : Code} {H : Heap} {locs : List Loc} {cells slots : Nat} {Q : State → Prop}
variable {mc ms : Nat} {free : Addr → Prop} {A0 A1 : Nat → Prop} {H0 : Heap} {a : Array Value} {pc : Nat} {ls : Array Slot} {st0 rest : List Value}
theorem vx_keep {st₀ t T' : State} {L : List Loc} (h0 : st₀.heap = H) (e1 : T'.heap = t.heap) (hS : va_S A0 H0 H locs) (hA : ∀ q, q < H.size → A1 q → A0 q) (hf : ∀ q, free q → A0 q) (hL : ∀ q ∈ L, free q.base) (hF : va_F A1 st₀ t) :
    H.size ≤ T'.heap.size ∧ (∀ q : Nat, q < H.size → ¬ A1 q → T'.heap[q]? = H[q]?) ∧ va_S A0 H0 T'.heap (locs ++ L) := by
  obtain ⟨hz, hk⟩ := hF
  rw [h0] at hz hk
  exact ⟨by rw [e1]; exact hz, fun q h1 h2 => by rw [e1]; exact hk q h1 h2,
    ⟨Nat.le_trans hS.1 (by rw [e1]; exact hz), fun q h1 h2 => by rw [e1, hk q (Nat.lt_of_lt_of_le h1 hS.1) (fun z => h2 (hA q (Nat.lt_of_lt_of_le h1 hS.1) z))]; exact hS.2.1 q h1 h2, fun q hq => by
      rcases List.mem_append.mp hq with h | h
      · exact hS.2.2 q h
      · exact hf _ (hL q h)⟩⟩
theorem vx_calli {S SX : Type} {post : Int32 → S → Prop} {px : SX → Prop} {B : S → State → Prop} {BX : String → SX → State → Prop} {AX : Nat → Prop} (hr : vx_Run p l e R s m args below meth c H locs cells slots mc ms (F0 m pc ls st0) rest (va_Qi post B A1 a) (vx_X px BX AX) free) (hS : va_S A0 H0 H locs) (hA : ∀ q, q < H.size → A1 q → A0 q) (hf : ∀ q, free q → A0 q) (hAX : ∀ q, q < H.size → AX q → A0 q)
    (kx : ∀ (E : String) (ce : Cell) (q9 : Addr) (u : SX) (t : State) (H1 : Heap) (locs1 : List Loc), t.heap = H1 → s.vm.Alike t.vm → px u → BX E u t → H.size ≤ H1.size → (∀ q : Nat, q < H.size → ¬ AX q → H1[q]? = H[q]?) → va_S A0 H0 H1 locs1 → H1[q9]? = some ce → ce.vm = .none → s.vm.findClass E = some ce.cls → vx_W p l e R s m args below meth c H1 locs1 (cells + mc) (slots + ms) Q (F0 m pc ls rest) q9)
    (kk : ∀ (r : Int32) (u : S) (t : State) (H1 : Heap) (locs1 : List Loc), t.heap = H1 → s.vm.Alike t.vm → post r u → B u t → H.size ≤ H1.size → (∀ q : Nat, q < H.size → ¬ A1 q → H1[q]? = H[q]?) → va_S A0 H0 H1 locs1 → W p l e R s m args below meth c H1 locs1 (cells + mc) (slots + ms) Q (F0 m (pc + 3) ls (.int r :: rest))) : W p l e R s m args below meth c H locs cells slots Q (F0 m pc ls st0) := by
  intro T hT X
  rcases hr T hT X with ⟨v, st₀, t, T', L, h0, X', hL, e1, e2, ⟨⟨r, u, hv, hp, hb⟩, hF⟩, st⟩ | ⟨q, st₀, t, T', L, E, ce, h0, X', hL, e1, e2, ⟨u, hp, hb, hF⟩, hce, hcv, hcl, st⟩
  · cases hv
    obtain ⟨k1, k2, k3⟩ := vx_keep h0 e1 hS hA hf hL hF
    obtain ⟨t2, a1, b1⟩ := kk r u t T'.heap (locs ++ L) e1.symm (by rw [← e2]; exact X'.warmed.alike) hp hb k1 k2 k3 T' rfl X'
    exact ⟨t2, st t2 a1, b1⟩
  · obtain ⟨k1, k2, k3⟩ := vx_keep h0 e1 hS hAX hf hL hF
    obtain ⟨t2, a1, b1⟩ := kx E ce q u t T'.heap (locs ++ L) e1.symm (by rw [← e2]; exact X'.warmed.alike) hp hb k1 k2 k3 (by rw [e1]; exact hce) hcv hcl T' rfl X'
    exact ⟨t2, st.trans a1, b1⟩
theorem vx_calll {S SX : Type} {post : Int64 → S → Prop} {px : SX → Prop} {B : S → State → Prop} {BX : String → SX → State → Prop} {AX : Nat → Prop} (hr : vx_Run p l e R s m args below meth c H locs cells slots mc ms (F0 m pc ls st0) rest (va_Ql post B A1 a) (vx_X px BX AX) free) (hS : va_S A0 H0 H locs) (hA : ∀ q, q < H.size → A1 q → A0 q) (hf : ∀ q, free q → A0 q) (hAX : ∀ q, q < H.size → AX q → A0 q)
    (kx : ∀ (E : String) (ce : Cell) (q9 : Addr) (u : SX) (t : State) (H1 : Heap) (locs1 : List Loc), t.heap = H1 → s.vm.Alike t.vm → px u → BX E u t → H.size ≤ H1.size → (∀ q : Nat, q < H.size → ¬ AX q → H1[q]? = H[q]?) → va_S A0 H0 H1 locs1 → H1[q9]? = some ce → ce.vm = .none → s.vm.findClass E = some ce.cls → vx_W p l e R s m args below meth c H1 locs1 (cells + mc) (slots + ms) Q (F0 m pc ls rest) q9)
    (kk : ∀ (r : Int64) (u : S) (t : State) (H1 : Heap) (locs1 : List Loc), t.heap = H1 → s.vm.Alike t.vm → post r u → B u t → H.size ≤ H1.size → (∀ q : Nat, q < H.size → ¬ A1 q → H1[q]? = H[q]?) → va_S A0 H0 H1 locs1 → W p l e R s m args below meth c H1 locs1 (cells + mc) (slots + ms) Q (F0 m (pc + 3) ls (.long r :: rest))) : W p l e R s m args below meth c H locs cells slots Q (F0 m pc ls st0) := by
  intro T hT X
  rcases hr T hT X with ⟨v, st₀, t, T', L, h0, X', hL, e1, e2, ⟨⟨r, u, hv, hp, hb⟩, hF⟩, st⟩ | ⟨q, st₀, t, T', L, E, ce, h0, X', hL, e1, e2, ⟨u, hp, hb, hF⟩, hce, hcv, hcl, st⟩
  · cases hv
    obtain ⟨k1, k2, k3⟩ := vx_keep h0 e1 hS hA hf hL hF
    obtain ⟨t2, a1, b1⟩ := kk r u t T'.heap (locs ++ L) e1.symm (by rw [← e2]; exact X'.warmed.alike) hp hb k1 k2 k3 T' rfl X'
    exact ⟨t2, st t2 a1, b1⟩
  · obtain ⟨k1, k2, k3⟩ := vx_keep h0 e1 hS hAX hf hL hF
    obtain ⟨t2, a1, b1⟩ := kx E ce q u t T'.heap (locs ++ L) e1.symm (by rw [← e2]; exact X'.warmed.alike) hp hb k1 k2 k3 (by rw [e1]; exact hce) hcv hcl T' rfl X'
    exact ⟨t2, st.trans a1, b1⟩
theorem vx_callf {S SX : Type} {post : UInt32 → S → Prop} {px : SX → Prop} {B : S → State → Prop} {BX : String → SX → State → Prop} {AX : Nat → Prop} (hr : vx_Run p l e R s m args below meth c H locs cells slots mc ms (F0 m pc ls st0) rest (va_Qf post B A1 a) (vx_X px BX AX) free) (hS : va_S A0 H0 H locs) (hA : ∀ q, q < H.size → A1 q → A0 q) (hf : ∀ q, free q → A0 q) (hAX : ∀ q, q < H.size → AX q → A0 q)
    (kx : ∀ (E : String) (ce : Cell) (q9 : Addr) (u : SX) (t : State) (H1 : Heap) (locs1 : List Loc), t.heap = H1 → s.vm.Alike t.vm → px u → BX E u t → H.size ≤ H1.size → (∀ q : Nat, q < H.size → ¬ AX q → H1[q]? = H[q]?) → va_S A0 H0 H1 locs1 → H1[q9]? = some ce → ce.vm = .none → s.vm.findClass E = some ce.cls → vx_W p l e R s m args below meth c H1 locs1 (cells + mc) (slots + ms) Q (F0 m pc ls rest) q9)
    (kk : ∀ (r : UInt32) (u : S) (t : State) (H1 : Heap) (locs1 : List Loc), t.heap = H1 → s.vm.Alike t.vm → post r u → B u t → H.size ≤ H1.size → (∀ q : Nat, q < H.size → ¬ A1 q → H1[q]? = H[q]?) → va_S A0 H0 H1 locs1 → W p l e R s m args below meth c H1 locs1 (cells + mc) (slots + ms) Q (F0 m (pc + 3) ls (.float r :: rest))) : W p l e R s m args below meth c H locs cells slots Q (F0 m pc ls st0) := by
  intro T hT X
  rcases hr T hT X with ⟨v, st₀, t, T', L, h0, X', hL, e1, e2, ⟨⟨r, u, hv, hp, hb⟩, hF⟩, st⟩ | ⟨q, st₀, t, T', L, E, ce, h0, X', hL, e1, e2, ⟨u, hp, hb, hF⟩, hce, hcv, hcl, st⟩
  · cases hv
    obtain ⟨k1, k2, k3⟩ := vx_keep h0 e1 hS hA hf hL hF
    obtain ⟨t2, a1, b1⟩ := kk r u t T'.heap (locs ++ L) e1.symm (by rw [← e2]; exact X'.warmed.alike) hp hb k1 k2 k3 T' rfl X'
    exact ⟨t2, st t2 a1, b1⟩
  · obtain ⟨k1, k2, k3⟩ := vx_keep h0 e1 hS hAX hf hL hF
    obtain ⟨t2, a1, b1⟩ := kx E ce q u t T'.heap (locs ++ L) e1.symm (by rw [← e2]; exact X'.warmed.alike) hp hb k1 k2 k3 (by rw [e1]; exact hce) hcv hcl T' rfl X'
    exact ⟨t2, st.trans a1, b1⟩
theorem vx_calld {S SX : Type} {post : UInt64 → S → Prop} {px : SX → Prop} {B : S → State → Prop} {BX : String → SX → State → Prop} {AX : Nat → Prop} (hr : vx_Run p l e R s m args below meth c H locs cells slots mc ms (F0 m pc ls st0) rest (va_Qd post B A1 a) (vx_X px BX AX) free) (hS : va_S A0 H0 H locs) (hA : ∀ q, q < H.size → A1 q → A0 q) (hf : ∀ q, free q → A0 q) (hAX : ∀ q, q < H.size → AX q → A0 q)
    (kx : ∀ (E : String) (ce : Cell) (q9 : Addr) (u : SX) (t : State) (H1 : Heap) (locs1 : List Loc), t.heap = H1 → s.vm.Alike t.vm → px u → BX E u t → H.size ≤ H1.size → (∀ q : Nat, q < H.size → ¬ AX q → H1[q]? = H[q]?) → va_S A0 H0 H1 locs1 → H1[q9]? = some ce → ce.vm = .none → s.vm.findClass E = some ce.cls → vx_W p l e R s m args below meth c H1 locs1 (cells + mc) (slots + ms) Q (F0 m pc ls rest) q9)
    (kk : ∀ (r : UInt64) (u : S) (t : State) (H1 : Heap) (locs1 : List Loc), t.heap = H1 → s.vm.Alike t.vm → post r u → B u t → H.size ≤ H1.size → (∀ q : Nat, q < H.size → ¬ A1 q → H1[q]? = H[q]?) → va_S A0 H0 H1 locs1 → W p l e R s m args below meth c H1 locs1 (cells + mc) (slots + ms) Q (F0 m (pc + 3) ls (.double r :: rest))) : W p l e R s m args below meth c H locs cells slots Q (F0 m pc ls st0) := by
  intro T hT X
  rcases hr T hT X with ⟨v, st₀, t, T', L, h0, X', hL, e1, e2, ⟨⟨r, u, hv, hp, hb⟩, hF⟩, st⟩ | ⟨q, st₀, t, T', L, E, ce, h0, X', hL, e1, e2, ⟨u, hp, hb, hF⟩, hce, hcv, hcl, st⟩
  · cases hv
    obtain ⟨k1, k2, k3⟩ := vx_keep h0 e1 hS hA hf hL hF
    obtain ⟨t2, a1, b1⟩ := kk r u t T'.heap (locs ++ L) e1.symm (by rw [← e2]; exact X'.warmed.alike) hp hb k1 k2 k3 T' rfl X'
    exact ⟨t2, st t2 a1, b1⟩
  · obtain ⟨k1, k2, k3⟩ := vx_keep h0 e1 hS hAX hf hL hF
    obtain ⟨t2, a1, b1⟩ := kx E ce q u t T'.heap (locs ++ L) e1.symm (by rw [← e2]; exact X'.warmed.alike) hp hb k1 k2 k3 (by rw [e1]; exact hce) hcv hcl T' rfl X'
    exact ⟨t2, st.trans a1, b1⟩
theorem vx_callv {S SX : Type} {post : S → Prop} {px : SX → Prop} {B : S → State → Prop} {BX : String → SX → State → Prop} {AX : Nat → Prop} (hr : vx_Run p l e R s m args below meth c H locs cells slots mc ms (F0 m pc ls st0) rest (va_Qv post B A1 a) (vx_X px BX AX) free) (hS : va_S A0 H0 H locs) (hA : ∀ q, q < H.size → A1 q → A0 q) (hf : ∀ q, free q → A0 q) (hAX : ∀ q, q < H.size → AX q → A0 q)
    (kx : ∀ (E : String) (ce : Cell) (q9 : Addr) (u : SX) (t : State) (H1 : Heap) (locs1 : List Loc), t.heap = H1 → s.vm.Alike t.vm → px u → BX E u t → H.size ≤ H1.size → (∀ q : Nat, q < H.size → ¬ AX q → H1[q]? = H[q]?) → va_S A0 H0 H1 locs1 → H1[q9]? = some ce → ce.vm = .none → s.vm.findClass E = some ce.cls → vx_W p l e R s m args below meth c H1 locs1 (cells + mc) (slots + ms) Q (F0 m pc ls rest) q9)
    (kk : ∀ (u : S) (t : State) (H1 : Heap) (locs1 : List Loc), t.heap = H1 → s.vm.Alike t.vm → post u → B u t → H.size ≤ H1.size → (∀ q : Nat, q < H.size → ¬ A1 q → H1[q]? = H[q]?) → va_S A0 H0 H1 locs1 → W p l e R s m args below meth c H1 locs1 (cells + mc) (slots + ms) Q (F0 m (pc + 3) ls (rest))) : W p l e R s m args below meth c H locs cells slots Q (F0 m pc ls st0) := by
  intro T hT X
  rcases hr T hT X with ⟨v, st₀, t, T', L, h0, X', hL, e1, e2, ⟨⟨u, hv, hp, hb⟩, hF⟩, st⟩ | ⟨q, st₀, t, T', L, E, ce, h0, X', hL, e1, e2, ⟨u, hp, hb, hF⟩, hce, hcv, hcl, st⟩
  · cases hv
    obtain ⟨k1, k2, k3⟩ := vx_keep h0 e1 hS hA hf hL hF
    obtain ⟨t2, a1, b1⟩ := kk u t T'.heap (locs ++ L) e1.symm (by rw [← e2]; exact X'.warmed.alike) hp hb k1 k2 k3 T' rfl X'
    exact ⟨t2, st t2 a1, b1⟩
  · obtain ⟨k1, k2, k3⟩ := vx_keep h0 e1 hS hAX hf hL hF
    obtain ⟨t2, a1, b1⟩ := kx E ce q u t T'.heap (locs ++ L) e1.symm (by rw [← e2]; exact X'.warmed.alike) hp hb k1 k2 k3 (by rw [e1]; exact hce) hcv hcl T' rfl X'
    exact ⟨t2, st.trans a1, b1⟩
/-- caught by the row x of this method's table; the rows ahead don't take it -/
theorem vx_catch {own name : String} {E : String} {ce : Cell} {q : Addr} (hown : s.vm.findClass own = some m.cls) (pre : List ExceptionTableEntry) (x : ExceptionTableEntry) (suf : List ExceptionTableEntry) (hsplit : c.exceptionTable.toList = pre ++ x :: suf)
    (hpass : ∀ z ∈ pre, covers z pc = false ∨ (z.catchType ≠ 0 ∧ ∃ nm : String, (Cond.classLink own z.catchType nm).before args s = true ∧ va_Nc E nm s)) (hx : covers x pc = true) (h0 : x.catchType ≠ 0)
    (hlink : (Cond.classLink own x.catchType name).before args s = true) (hcast : (Cond.castable E name).before args s = true) (hcell : H[q]? = some ce) (hv : ce.vm = .none) (hcl : s.vm.findClass E = some ce.cls)
    (kk : W p l e R s m args below meth c H locs cells slots Q (F0 m x.handlerPc ls [.ref q])) : vx_W p l e R s m args below meth c H locs cells slots Q (F0 m pc ls rest) q := by
  intro T hT X
  have hpl : e.platform.magicAccessors = ({} : Platform).magicAccessors := by rw [X.admits.platform]
  obtain ⟨c3, c4, hc3, hc4, hasg⟩ := Cond.castable_spec hcast
  cases Option.some.inj (hc3.symm.trans hcl)
  obtain ⟨c5, hc5, hcl5⟩ := Cond.classLink_spec hown hlink e.platform hpl
  cases Option.some.inj (hc4.symm.trans hc5)
  obtain ⟨vm', X', st⟩ := X.thenCaughtThrough q (g := F0 m pc ls rest) rfl (Steps.refl _) (by rw [hT]; exact hcell) (by rw [hv]; rfl) (by obtain ⟨k9, h9, -⟩ := Vm.findClass_spec hcl; exact ⟨k9, h9⟩) pre x suf hsplit
    (fun z hz => by
      rcases hpass z hz with h | ⟨hz0, nm, hl1, hn1⟩
      · exact Or.inl h
      · obtain ⟨c6, hc6, hcl6⟩ := Cond.classLink_spec hown hl1 e.platform hpl
        obtain ⟨a8, b8, h1, h2, h3⟩ := hn1
        cases Option.some.inj (h1.symm.trans hcl)
        cases Option.some.inj (h2.symm.trans hc6)
        exact Or.inr ⟨hz0, _, hcl6, h3⟩) hx (Or.inr ⟨h0, c4, hcl5, hasg⟩)
  obtain ⟨t, a1, b1⟩ := kk (T.setVm vm') hT X'
  exact ⟨t, st.trans a1, b1⟩
end Rows
section Ends
variable {p : Program} {l : Launch} {e : Env} {R : Room} {s : State} {m : MethodId} {args : Array Value} {below : List Frame} {meth : Method} {c : Code} {H : Heap} {locs : List Loc} {cells slots : Nat} {Q : State → Prop}
variable {mc ms : Nat} {free : Addr → Prop} {A0 A1 : Nat → Prop} {H0 : Heap} {a : Array Value} {ls : Array Slot} {st0 rest : List Value}
variable {Qc : Array Value → State → Outcome → State → Prop} {XC : String → State → State → Prop}
/-- what a body that may throw owes at its end -/
def vx_MQ (below : List Frame) (Qc : Array Value → State → Outcome → State → Prop) (XC : String → State → State → Prop) (a : Array Value) (s : State) (mc ms : Nat) (free : Addr → Prop) : State → Prop := fun t =>
  ∃ o, t.status = .running ∧ Ended t below o ∧ vx_Q Qc XC mc ms free a s o t
theorem vx_ret {g : JFrame} {mc ms : Nat} (k : W p l e R s m args below meth c H locs cells slots (MQ below Qc args s mc ms free) g) : W p l e R s m args below meth c H locs cells slots (vx_MQ below Qc XC args s mc ms free) g := by
  intro T hT X
  obtain ⟨t, a1, o, b1, b2, b3, b4⟩ := k T hT X
  exact ⟨t, a1, o, b1, b2, Or.inl ⟨b3, b4⟩⟩
/-- not caught here: it goes on to the caller -/
theorem vx_widen {g : JFrame} {q : Addr} {k n : Nat} (h1 : cells ≤ k) (h2 : slots ≤ n) (kk : vx_W p l e R s m args below meth c H locs k n Q g q) : vx_W p l e R s m args below meth c H locs cells slots Q g q := fun T hT X => kk T hT (stand_widen X h1 h2)
theorem vx_out {pc : Nat} {E : String} {ce : Cell} {q : Addr} {mc ms : Nat} (hout : ∀ x ∈ c.exceptionTable.toList, covers x pc = false) (hlocks : meth.locks = false) (hcell : H[q]? = some ce) (hv : ce.vm = .none) (hcl : s.vm.findClass E = some ce.cls)
    (hx : ∀ t : State, t.heap = H → s.vm.Alike t.vm → XC E s t) (hf : ∀ z ∈ locs, free z.base) (hc : cells ≤ mc) (hs : slots ≤ ms) :
    vx_W p l e R s m args below meth c H locs cells slots (vx_MQ below Qc XC args s mc ms free) (F0 m pc ls rest) q := by
  intro T hT X
  obtain ⟨st1, hrun, hend, hW, hsm⟩ := X.leaveThrown q (g := F0 m pc ls rest) rfl rfl rfl hout hlocks
  have hcell9 : (T.setFrames (.throwing q :: below)).heap[q]? = some ce := by
    show T.heap[q]? = some ce
    rw [hT]; exact hcell
  exact ⟨_, st1, .threw q, hrun, hend, Or.inr ⟨q, rfl, E, ce, locs, hx _ hT hW.alike, hcell9, hv, hcl, hW, hsm.mono hc hs, hf⟩⟩
theorem vx_frame {U : State} {k n : Nat} (h : s.sameButNew ({ U with vm := s.vm } : State) locs k n) : s.heap.size ≤ U.heap.size ∧ ∀ q : Nat, q < s.heap.size → (∀ z ∈ locs, z.base ≠ q) → U.heap[q]? = s.heap[q]? := by
  obtain ⟨-, h2, -, -, -, h6⟩ := h
  refine ⟨h2, fun q hq hz => ?_⟩
  obtain ⟨c9, e1, e2, e3, e4⟩ := h6 q _ (Array.getElem?_eq_getElem hq)
  have hs : c9.slots = (s.heap[q]).slots := Array.ext_getElem? fun i => e4 i fun hm => hz _ hm rfl
  have h9 : c9 = s.heap[q] := by
    rw [hs] at e2
    exact e2
  have e5 : U.heap[q]? = some c9 := e1
  rw [e5, h9, Array.getElem?_eq_getElem hq]
/-- the words of a throw but the four that speak of the heap -/
def vx_no (w : Cond) : Bool := decide (w ≠ .isRef (.static Bundle.tN "UNASSIGNED_STACK" Bundle.steD)) && decide (w ≠ .isRef (.static Bundle.tN "SUPPRESSED_SENTINEL" Bundle.listD)) && decide (w ≠ .laysStatic Bundle.tN "UNASSIGNED_STACK" Bundle.steD) && decide (w ≠ .laysStatic Bundle.tN "SUPPRESSED_SENTINEL" Bundle.listD)
def vx_at0 (own : String) (ic : Nat) (X : String) (names : List String) : List Cond := (Bundle.ownAtoms0 own ic X names).filter vx_no
def vx_atS (own : String) (ic : Nat) (X : String) (names : List String) : List Cond := (Bundle.ownAtoms own ic X names).filter vx_no
/-- a word that the tables alone decide, or a good one -/
def vx_ot (w : Cond) : Bool := w.onTables || goodWord w
theorem vx_ot_at {args a' : Array Value} {s U : State} {w : Cond} (hW : s.WarmedH U.vm) (hvm : s.vm = U.vm) (hg : vx_ot w = true) (h : w.before args s = true) : w.before a' U = true := by
  simp only [vx_ot, Bool.or_eq_true] at hg
  rcases hg with hg | hg
  · exact va_tabs hg hvm h
  · exact word_at hW (good_of_word hg) h
/-- a list's words: the good ones out of the method's own list, the others by premises of their own -/
theorem vx_hat {args : Array Value} {s : State} {L B : List Cond} (h1 : ∀ w ∈ L.filter goodWord, w.before args s = true) (h2 : ∀ w ∈ L.filter (fun w => !goodWord w), w ∈ B) (h3 : ∀ w ∈ B, w.before args s = true) : ∀ w ∈ L, w.before args s = true := by
  intro w hw
  by_cases g : goodWord w = true
  · exact h1 w (List.mem_filter.mpr ⟨hw, g⟩)
  · refine h3 w (h2 w (List.mem_filter.mpr ⟨hw, ?_⟩))
    show (!goodWord w) = true
    cases hgw : goodWord w
    · rfl
    · exact absurd hgw g
theorem vx_c {args : Array Value} {s : State} {w : Cond} {B : List Cond} (h : w.before args s = true) (t : ∀ w ∈ B, w.before args s = true) : ∀ w' ∈ w :: B, w'.before args s = true := fun w' h' => (List.mem_cons.mp h').elim (fun e => by rw [e]; exact h) (t w')
theorem vx_n {args : Array Value} {s : State} : ∀ w ∈ ([] : List Cond), w.before args s = true := fun _ h => nomatch h
theorem vx_own {args : Array Value} {s : State} {L : List Cond} (h1 : ∀ w ∈ L.filter vx_no, w.before args s = true)
    (hU : (Cond.isRef (.static Bundle.tN "UNASSIGNED_STACK" Bundle.steD)).before args s = true) (hN : (Cond.isRef (.static Bundle.tN "SUPPRESSED_SENTINEL" Bundle.listD)).before args s = true)
    (lU : (Cond.laysStatic Bundle.tN "UNASSIGNED_STACK" Bundle.steD).before args s = true) (lN : (Cond.laysStatic Bundle.tN "SUPPRESSED_SENTINEL" Bundle.listD).before args s = true) : ∀ w ∈ L, w.before args s = true := by
  intro w hw
  by_cases e1 : w = .isRef (.static Bundle.tN "UNASSIGNED_STACK" Bundle.steD)
  · rw [e1]; exact hU
  · by_cases e2 : w = .isRef (.static Bundle.tN "SUPPRESSED_SENTINEL" Bundle.listD)
    · rw [e2]; exact hN
    · by_cases e3 : w = .laysStatic Bundle.tN "UNASSIGNED_STACK" Bundle.steD
      · rw [e3]; exact lU
      · by_cases e4 : w = .laysStatic Bundle.tN "SUPPRESSED_SENTINEL" Bundle.listD
        · rw [e4]; exact lN
        · exact h1 w (List.mem_filter.mpr ⟨hw, by unfold vx_no; rw [decide_eq_true e1, decide_eq_true e2, decide_eq_true e3, decide_eq_true e4]; rfl⟩)
/-- where a static field lies, its class's statics cell in H -/
def vx_L (C n d : String) (A : Nat → Prop) (U : State) (H : Heap) : Prop := ∃ (c : ClassId) (k : Class) (i : Nat) (f : Field) (a : Nat) (cell : Cell), U.vm.findClass C = some c ∧ U.fieldFound? C n d = some (c, k, i, f) ∧ f.isStatic = true ∧ k.statics = some a ∧ H[a]? = some cell ∧ cell.vm.isStatics = true ∧ cell.cls = c ∧ f.slot < cell.slots.size ∧ k.staticTypes[f.slot]? = some f.type ∧ ¬ A a
theorem vx_L.moved {C n d : String} {A : Nat → Prop} {u U : State} {H : Heap} (hvm : u.vm.Alike U.vm) (h : vx_L C n d A u H) : vx_L C n d A U H := by
  obtain ⟨c, k, i, f, a, cell, h1, h2, h3, h4, h5, h6, h7, h8, h9, h10⟩ := h
  obtain ⟨k', hi', he⟩ := State.fieldFound?_setVm hvm h2
  exact ⟨c, k', i, f, a, cell, by rw [hvm.findClass]; exact h1, hi', h3, by rw [he]; exact h4, h5, h6, h7, h8, by rw [he]; exact h9, h10⟩
theorem vx_L.kept {C n d : String} {A : Nat → Prop} {U : State} {H H1 : Heap} (h : vx_L C n d A U H) (hq : ∀ a : Nat, a < H.size → ¬ A a → H1[a]? = H[a]?) : vx_L C n d A U H1 := by
  obtain ⟨c, k, i, f, a, cell, h1, h2, h3, h4, h5, h6, h7, h8, h9, h10⟩ := h
  exact ⟨c, k, i, f, a, cell, h1, h2, h3, h4, by rw [hq a (Array.getElem?_eq_some_iff.mp h5).1 h10]; exact h5, h6, h7, h8, h9, h10⟩
theorem vx_L.narrow {C n d : String} {A B : Nat → Prop} {U : State} {H : Heap} (h : vx_L C n d A U H) (hAB : ∀ q, B q → A q) : vx_L C n d B U H := by
  obtain ⟨c, k, i, f, a, cell, h1, h2, h3, h4, h5, h6, h7, h8, h9, h10⟩ := h
  exact ⟨c, k, i, f, a, cell, h1, h2, h3, h4, h5, h6, h7, h8, h9, fun z => h10 (hAB _ z)⟩
theorem vx_L.word {C n d : String} {A : Nat → Prop} {s : State} {args : Array Value} (h : vx_L C n d A s s.heap) : (Cond.laysStatic C n d).before args s = true := by
  obtain ⟨c, k, i, f, a, cell, h1, h2, h3, h4, h5, h6, h7, h8, h9, -⟩ := h
  show (Cond.laysStatic C n d).holds args s none s [] = true
  exact Cond.laysStatic_of h1 h2 h3 h4 h5 h6 h7 h8 h9
/-- .. and what it holds: null or some reference -/
def vx_Zq (C n d : String) (A : Nat → Prop) (U : State) (H : Heap) : Prop := va_Zq C n d A U H ∧ vx_L C n d A U H
theorem vx_Zq.moved {C n d : String} {A : Nat → Prop} {u U : State} {H : Heap} (hvm : u.vm.Alike U.vm) (h : vx_Zq C n d A u H) : vx_Zq C n d A U H := ⟨va_Zq.moved hvm h.1, vx_L.moved hvm h.2⟩
theorem vx_Zq.kept {C n d : String} {A : Nat → Prop} {U : State} {H H1 : Heap} (h : vx_Zq C n d A U H) (hq : ∀ a : Nat, a < H.size → ¬ A a → H1[a]? = H[a]?) : vx_Zq C n d A U H1 := ⟨va_Zq.kept h.1 hq, vx_L.kept h.2 hq⟩
theorem vx_Zq.narrow {C n d : String} {A B : Nat → Prop} {U : State} {H : Heap} (h : vx_Zq C n d A U H) (hAB : ∀ q, B q → A q) : vx_Zq C n d B U H := ⟨va_Zq.narrow h.1 hAB, vx_L.narrow h.2 hAB⟩
theorem vx_Zqof {args : Array Value} {s : State} {C n d : String} {A : Nat → Prop} (hl : (Cond.laysStatic C n d).before args s = true) (hini : (Cond.initialized C).before args s = true) (h : (Cond.isRef (.static C n d)).before args s = true) (hA : ∀ a : Nat, a < s.heap.size → ¬ A a) : vx_Zq C n d A s s.heap := by
  refine ⟨va_Zqof hl hini h hA, ?_⟩
  obtain ⟨c, k, i, f, a, cell, h1, h2, h3, h4, h5, h6, h7, h8, h9⟩ := Cond.laysStatic_spec hl
  exact ⟨c, k, i, f, a, cell, h1, h2, h3, h4, h5, h6, h7, h8, h9, hA a (Array.getElem?_eq_some_iff.mp h5).1⟩
theorem vx_isRef {C n d : String} {v : Value} {A : Nat → Prop} {s : State} {args : Array Value} (h : va_Z C n d v A s s.heap) (hv : v.isRef = true) : (Cond.isRef (.static C n d)).before args s = true := by
  obtain ⟨cf, kf, fi, f, a, cell, h1, h2, h3, h4, h5, h6, h7, -⟩ := h
  have he : (Term.static C n d).eval args s none [] s = some v := by
    simp [Term.eval, State.fieldNamed?, h1, h2, h4, h5, h6, h7]
  simp only [Cond.before, Cond.holds, Cond.value, he]
  cases v <;> simp_all [Value.isRef]
theorem vx_isRefq {C n d : String} {A : Nat → Prop} {s : State} {args : Array Value} (h : va_Zq C n d A s s.heap) : (Cond.isRef (.static C n d)).before args s = true := by
  rcases h with h | ⟨t, h⟩
  · exact vx_isRef h rfl
  · exact vx_isRef h rfl
/-- the same frame, seen from here: as if the method were called anew in this heap -/
theorem vx_rebase {T : State} (X : Stand p l e R s m args below meth c T locs cells slots) {R' : Room} (hf : R'.frames ≤ R.frames) (hl : R'.locals ≤ R.locals) (hc : cells + R'.cells ≤ R.cells) (hs : slots + R'.slots ≤ R.slots) :
    Stand p l e R' ((T.setVm s.vm).setFrames (.invoking m args :: below)) m args below meth c T [] 0 0 := by
  have htop : (T.setVm s.vm).topJava?.isSome := X.here.top
  have hF : ((T.setVm s.vm).setFrames (.invoking m args :: below)).frames = .invoking m args :: below := State.frames_setFrames _ (State.cur_lt_of_top htop)
  obtain ⟨g₀, hg0⟩ := Option.isSome_iff_exists.mp htop
  obtain ⟨r, hr⟩ := State.topJava?_eq_some.mp hg0
  have hl9 : e.platform.stackLimits (T.setVm s.vm).me = e.platform.stackLimits s.me := X.limits
  have hb9 : (T.setVm s.vm).me.stackBytes = s.me.stackBytes := X.bytes
  refine ⟨X.admits, X.cas, X.clock, hF, ?_, X.hears, X.method, X.code, X.here, X.tail, X.warmed, ?_, ?_, ?_⟩
  · have h := X.room
    have hU : ((T.setVm s.vm).setFrames (.invoking m args :: below)).localsInUse = s.localsInUse := by
      rw [State.localsInUse_invoking hF (meth := meth) (c := c) X.method X.code, State.localsInUse_invoking X.frames X.method X.code]
    simp only [State.hasRoom, Bool.and_eq_true, decide_eq_true_eq] at h ⊢
    obtain ⟨⟨⟨⟨h1, h2, h3, h4, h5, h6⟩, h7⟩, h8⟩, h9⟩ := h
    rw [X.frames, List.length_cons] at h2 h3
    have q1 := X.heapSize
    have q2 := X.used
    simp only [hF, hU, List.length_cons, State.stackLimits_setFrames, State.stackBytes_setFrames, hl9, hb9]
    refine ⟨⟨⟨⟨by omega, by omega, by omega, by omega, by omega, h6⟩, ?_⟩, ?_⟩, X.book⟩
    · show T.heap.size + R'.cells ≤ e.platform.maxCells
      omega
    · show T.slotsUsed + R'.slots ≤ e.platform.maxSlots
      omega
  · rw [State.stackLimits_setFrames]; rfl
  · rw [State.stackBytes_setFrames]; rfl
  · refine ⟨?_, Nat.le_refl _, Nat.le_refl _, ?_, ?_, fun a c9 h9 => ⟨c9, h9, rfl, rfl, fun _ _ => rfl⟩⟩
    · obtain ⟨t, ht, -⟩ := State.frames_cons hr
      show T.setVm s.vm = { ((T.setVm s.vm).setFrames (.invoking m args :: below)).setFrames (T.setVm s.vm).frames with heap := T.heap, slotsUsed := T.slotsUsed }
      rw [State.setFrames_setFrames, State.setFrames_self ht]
      rfl
    · show T.slotsUsed = T.slotsUsed + ((T.heap.toList.drop T.heap.size).map (·.slots.size)).sum
      rw [List.drop_eq_nil_of_le (Nat.le_of_eq Array.length_toList)]
      rfl
    · show ((T.heap.toList.drop T.heap.size).map (·.slots.size)).sum ≤ 0
      rw [List.drop_eq_nil_of_le (Nat.le_of_eq Array.length_toList)]
      exact Nat.le_refl _
/-- 'throw new E()': new; dup; invokespecial; athrow -/
theorem vx_throw0 {cc : ByteArray} {pc : Nat} (hexec : p.tables.exec = Jvm.exec) (hb : c.code = cc) (hl : l.stackTraces = false) {own cls : String} {names : List String} {ik ic mc ms : Nat} {A : Nat → Prop}
    (hown : s.vm.findClass own = some m.cls) (hcls : Bundle.fit cls = true) (hnames : ∀ n ∈ names, Bundle.fit n = true)
    (hk : (Cond.classLink own ik cls).before args s = true) (hini : (Cond.initialized cls).before args s = true) (hat : ∀ w ∈ vx_at0 own ic cls names, w.before args s = true)
    (hgood : ∀ w ∈ Cond.classLink own ik cls :: Cond.initialized cls :: vx_at0 own ic cls names, vx_ot w = true)
    (hU : vx_Zq Bundle.tN "UNASSIGNED_STACK" Bundle.steD A s s.heap) (hN : vx_Zq Bundle.tN "SUPPRESSED_SENTINEL" Bundle.listD A s s.heap) (hS : va_S A s.heap H locs) (hsize : ls.size = c.maxLocals)
    (d0 : decode cc pc = .ok (.new ik, 3)) (d3 : decode cc (pc + 3) = .ok (.dup, 1)) (d4 : decode cc (pc + 4) = .ok (.invokespecial ic, 3)) (d7 : decode cc (pc + 7) = .ok (.athrow, 1))
    (hout : ∀ x ∈ c.exceptionTable.toList, covers x (pc + 7) = false)
    (hRframes : names.length + 3 < R.frames) (hRlocals : (rest.map fun v => v.category).sum + (13 * (names.length + 1) + 42) ≤ R.locals) (hRcells : cells + 1 ≤ R.cells) (hRslots : slots + 6 ≤ R.slots) (hlocks : meth.locks = false)
    (hx : ∀ t : State, s.vm.Alike t.vm → H.size ≤ t.heap.size → (∀ q : Nat, q < H.size → t.heap[q]? = H[q]?) → XC cls s t)
    (hf : ∀ z ∈ locs, free z.base) (hc : cells + 1 ≤ mc) (hs : slots + 6 ≤ ms) :
    W p l e R s m args below meth c H locs cells slots (vx_MQ below Qc XC args s mc ms free) (F0 m pc ls rest) := by
  intro T hT X
  have htr : e.platform.stackTraces = false := (show e.platform.stackTraces = l.stackTraces by rw [X.admits.platform]).trans hl
  have Y := vx_rebase X (R' := { frames := R.frames, locals := R.locals, cells := 1, slots := 6 }) (Nat.le_refl _) (Nat.le_refl _) hRcells hRslots
  obtain ⟨s', hA⟩ : ∃ z, z = (T.setVm s.vm).setFrames (.invoking m args :: below) := ⟨_, rfl⟩
  rw [← hA] at Y
  have hvm : s'.vm = s.vm := by rw [hA]; rfl
  have hhp : s'.heap = H := by rw [hA]; exact hT
  have hW0 : s.WarmedH s'.vm := by rw [hvm]; exact State.WarmedH.refl s
  have hat' : ∀ w ∈ vx_at0 own ic cls names, w.before args s' = true := fun w hw => vx_ot_at hW0 hvm.symm (hgood w (List.mem_cons_of_mem _ (List.mem_cons_of_mem _ hw))) (hat w hw)
  have hk' : (Cond.classLink own ik cls).before args s' = true := vx_ot_at hW0 hvm.symm (hgood _ List.mem_cons_self) hk
  have hini' : (Cond.initialized cls).before args s' = true := vx_ot_at hW0 hvm.symm (hgood _ (List.mem_cons_of_mem _ List.mem_cons_self)) hini
  have hU' : vx_Zq Bundle.tN "UNASSIGNED_STACK" Bundle.steD A s' s'.heap := by rw [hhp]; exact vx_Zq.moved hW0.alike (hU.kept hS.2.1)
  have hN' : vx_Zq Bundle.tN "SUPPRESSED_SENTINEL" Bundle.listD A s' s'.heap := by rw [hhp]; exact vx_Zq.moved hW0.alike (hN.kept hS.2.1)
  have h : ∀ w ∈ Bundle.ownAtoms0 own ic cls names, w.before args s' = true := vx_own hat' (vx_isRefq hU'.1) (vx_isRefq hN'.1) hU'.2.word hN'.2.word
  have hown' : s'.vm.findClass own = some m.cls := by rw [hvm]; exact hown
  have hins : (Cond.instantiable cls 6).before args s' = true := h _ (by simp [Bundle.ownAtoms0])
  obtain ⟨vm₁, cX, kX, hfX, hkX, -, -, X₁, st1⟩ := Y.newCold hexec (own := own) (C := cls) (index := ik) (n := 6) hown' hk' hins hini'
    (g := F0 m pc ls rest) rfl (by rw [hb]; exact d0) (Nat.le_refl _) (Nat.le_refl _)
  generalize hT1 : (T.setVm vm₁).pushCell { cls := cX, slots := kX.instanceTypes.map defaultValue, vm := .none } = T1 at X₁ st1
  have hcat : (Value.ref T.heap.size).category = 1 := rfl
  have hcellA : T1.heap[T.heap.size]? = some (freshCell cX kX) := by rw [← hT1]; exact State.heap_pushCell_size _ _
  have d3' : decode c.code (pc + 3) = .ok (.dup, 1) := by rw [hb]; exact d3
  obtain ⟨U, hsteps, hrun, hend, hW, hsame, ce, hce, hO⟩ := X₁.ctorThrow0 hexec htr (own := own) (cls := cls) (names := names) (ic := ic) hown' hcls hnames h (fun x hx => nomatch hx) hfX hkX hcellA (by rw [hhp, hT]; exact Nat.le_refl _)
    (g := { method := m, pc := pc + 4, locals := ls, stack := .ref T.heap.size :: .ref T.heap.size :: rest, locked := none }) rfl hsize rfl rfl (rest := rest) rfl
    (by rw [hb]; exact d4) (by rw [hb]; exact d7) hout hRframes (by simp only [List.map_cons, List.sum_cons, hcat]; omega) hlocks
  obtain ⟨f1, f2⟩ := vx_frame hsame
  rw [hhp] at f1 f2
  have hWs : s.WarmedH U.vm := State.WarmedH.trans hW0 hW
  have hcl : s.vm.findClass cls = some ce.cls := by
    have h9 := hO.cls
    rw [hvm] at h9
    exact h9
  have hall : s.sameButNew ({ U with vm := s.vm } : State) locs mc ms := by
    subst hA
    obtain ⟨e1, e2⟩ := hsame
    rw [State.setFrames_setFrames] at e1
    have h2 : (T.setVm s.vm).sameButNew ({ U with vm := s.vm } : State) [] (0 + 1) (0 + 6) := ⟨e1, e2⟩
    have h3 := X.same.trans h2
    rw [List.append_nil] at h3
    exact h3.mono hc hs
  refine ⟨U, ?_, .threw T.heap.size, hrun, hend, Or.inr ⟨T.heap.size, rfl, cls, ce, locs, hx U hWs.alike f1 (fun q hq => f2 q hq (fun z hz => nomatch hz)), hce, hO.vm, hcl, hWs, hall, hf⟩⟩
  refine st1 _ ?_
  show Steps p.tables e below (T1.setTop { method := m, pc := pc + 3, locals := ls, stack := .ref T.heap.size :: rest, locked := none }) _
  jvm_step X₁.here [X₁.here.top, hexec, d3', Value.category]
  exact hsteps
/-- 'throw new E("text")': new; dup; ldc; invokespecial; athrow -/
theorem vx_throwS {cc : ByteArray} {pc : Nat} (hexec : p.tables.exec = Jvm.exec) (hb : c.code = cc) (hl : l.stackTraces = false) {own cls text : String} {names : List String} {ik is ic mc ms sa : Nat} {A : Nat → Prop}
    (hown : s.vm.findClass own = some m.cls) (hcls : Bundle.fit cls = true) (hnames : ∀ n ∈ names, Bundle.fit n = true)
    (hk : (Cond.classLink own ik cls).before args s = true) (hini : (Cond.initialized cls).before args s = true) (hstr : vk_R own is text sa s) (hat : ∀ w ∈ vx_atS own ic cls names, w.before args s = true)
    (hgood : ∀ w ∈ Cond.classLink own ik cls :: Cond.initialized cls :: vx_atS own ic cls names, vx_ot w = true)
    (hU : vx_Zq Bundle.tN "UNASSIGNED_STACK" Bundle.steD A s s.heap) (hN : vx_Zq Bundle.tN "SUPPRESSED_SENTINEL" Bundle.listD A s s.heap) (hS : va_S A s.heap H locs) (hsize : ls.size = c.maxLocals)
    (d0 : decode cc pc = .ok (.new ik, 3)) (d3 : decode cc (pc + 3) = .ok (.dup, 1)) (d4 : decode cc (pc + 4) = .ok (.ldc is, 2)) (d6 : decode cc (pc + 6) = .ok (.invokespecial ic, 3)) (d9 : decode cc (pc + 9) = .ok (.athrow, 1))
    (hout : ∀ x ∈ c.exceptionTable.toList, covers x (pc + 9) = false)
    (hRframes : names.length + 3 < R.frames) (hRlocals : (rest.map fun v => v.category).sum + (13 * (names.length + 1) + 43) ≤ R.locals) (hRcells : cells + 1 ≤ R.cells) (hRslots : slots + 6 ≤ R.slots) (hlocks : meth.locks = false)
    (hx : ∀ t : State, s.vm.Alike t.vm → H.size ≤ t.heap.size → (∀ q : Nat, q < H.size → t.heap[q]? = H[q]?) → XC cls s t)
    (hf : ∀ z ∈ locs, free z.base) (hc : cells + 1 ≤ mc) (hs : slots + 6 ≤ ms) :
    W p l e R s m args below meth c H locs cells slots (vx_MQ below Qc XC args s mc ms free) (F0 m pc ls rest) := by
  intro T hT X
  have htr : e.platform.stackTraces = false := (show e.platform.stackTraces = l.stackTraces by rw [X.admits.platform]).trans hl
  have Y := vx_rebase X (R' := { frames := R.frames, locals := R.locals, cells := 1, slots := 6 }) (Nat.le_refl _) (Nat.le_refl _) hRcells hRslots
  obtain ⟨s', hA⟩ : ∃ z, z = (T.setVm s.vm).setFrames (.invoking m args :: below) := ⟨_, rfl⟩
  rw [← hA] at Y
  have hvm : s'.vm = s.vm := by rw [hA]; rfl
  have hhp : s'.heap = H := by rw [hA]; exact hT
  have hW0 : s.WarmedH s'.vm := by rw [hvm]; exact State.WarmedH.refl s
  have hat' : ∀ w ∈ vx_atS own ic cls names, w.before args s' = true := fun w hw => vx_ot_at hW0 hvm.symm (hgood w (List.mem_cons_of_mem _ (List.mem_cons_of_mem _ hw))) (hat w hw)
  have hk' : (Cond.classLink own ik cls).before args s' = true := vx_ot_at hW0 hvm.symm (hgood _ List.mem_cons_self) hk
  have hini' : (Cond.initialized cls).before args s' = true := vx_ot_at hW0 hvm.symm (hgood _ (List.mem_cons_of_mem _ List.mem_cons_self)) hini
  have hU' : vx_Zq Bundle.tN "UNASSIGNED_STACK" Bundle.steD A s' s'.heap := by rw [hhp]; exact vx_Zq.moved hW0.alike (hU.kept hS.2.1)
  have hN' : vx_Zq Bundle.tN "SUPPRESSED_SENTINEL" Bundle.listD A s' s'.heap := by rw [hhp]; exact vx_Zq.moved hW0.alike (hN.kept hS.2.1)
  have h : ∀ w ∈ Bundle.ownAtoms own ic cls names, w.before args s' = true := vx_own hat' (vx_isRefq hU'.1) (vx_isRefq hN'.1) hU'.2.word hN'.2.word
  have hown' : s'.vm.findClass own = some m.cls := by rw [hvm]; exact hown
  have hins : (Cond.instantiable cls 6).before args s' = true := h _ (by simp [Bundle.ownAtoms])
  obtain ⟨vm₁, cX, kX, hfX, hkX, -, -, X₁, st1⟩ := Y.newCold hexec (own := own) (C := cls) (index := ik) (n := 6) hown' hk' hins hini'
    (g := F0 m pc ls rest) rfl (by rw [hb]; exact d0) (Nat.le_refl _) (Nat.le_refl _)
  generalize hT1 : (T.setVm vm₁).pushCell { cls := cX, slots := kX.instanceTypes.map defaultValue, vm := .none } = T1 at X₁ st1
  have hcat : (Value.ref T.heap.size).category = 1 := rfl
  have hcellA : T1.heap[T.heap.size]? = some (freshCell cX kX) := by rw [← hT1]; exact State.heap_pushCell_size _ _
  have d3' : decode c.code (pc + 3) = .ok (.dup, 1) := by rw [hb]; exact d3
  have d4' : decode c.code (pc + 4) = .ok (.ldc is, 2) := by rw [hb]; exact d4
  have hstr' : vk_R own is text sa s' := vk_R.warm hW0 hstr
  obtain ⟨U, hsteps, hrun, hend, hW, hsame, ce, hce, hO⟩ := X₁.ctorThrowS hexec htr (own := own) (cls := cls) (names := names) (ic := ic) hown' hcls hnames h (fun x hx => nomatch hx) hfX hkX hcellA (by rw [hhp, hT]; exact Nat.le_refl _) (msg := .ref sa) rfl
    (g := { method := m, pc := pc + 6, locals := ls, stack := .ref sa :: .ref T.heap.size :: .ref T.heap.size :: rest, locked := none }) rfl hsize rfl rfl (rest := rest) rfl
    (by rw [hb]; exact d6) (by rw [hb]; exact d9) hout hRframes (by simp only [List.map_cons, List.sum_cons, hcat]; omega) hlocks
  obtain ⟨f1, f2⟩ := vx_frame hsame
  rw [hhp] at f1 f2
  have hWs : s.WarmedH U.vm := State.WarmedH.trans hW0 hW
  have hcl : s.vm.findClass cls = some ce.cls := by
    have h9 := hO.cls
    rw [hvm] at h9
    exact h9
  have hall : s.sameButNew ({ U with vm := s.vm } : State) locs mc ms := by
    subst hA
    obtain ⟨e1, e2⟩ := hsame
    rw [State.setFrames_setFrames] at e1
    have h2 : (T.setVm s.vm).sameButNew ({ U with vm := s.vm } : State) [] (0 + 1) (0 + 6) := ⟨e1, e2⟩
    have h3 := X.same.trans h2
    rw [List.append_nil] at h3
    exact h3.mono hc hs
  refine ⟨U, ?_, .threw T.heap.size, hrun, hend, Or.inr ⟨T.heap.size, rfl, cls, ce, locs, hx U hWs.alike f1 (fun q hq => f2 q hq (fun z hz => nomatch hz)), hce, hO.vm, hcl, hWs, hall, hf⟩⟩
  refine st1 _ ?_
  show Steps p.tables e below (T1.setTop { method := m, pc := pc + 3, locals := ls, stack := .ref T.heap.size :: rest, locked := none }) _
  jvm_step X₁.here [X₁.here.top, hexec, d3', Value.category]
  exact X₁.ldcString hexec (own := own) (text := text) (index := is) (a := sa) hown' hstr'.1 hstr'.2
    (g := { method := m, pc := pc + 4, locals := ls, stack := .ref T.heap.size :: .ref T.heap.size :: rest, locked := none }) rfl d4' _ hsteps
/-- 'throw new E("text")', the text by a wide index -/
theorem vx_throwSW {cc : ByteArray} {pc : Nat} (hexec : p.tables.exec = Jvm.exec) (hb : c.code = cc) (hl : l.stackTraces = false) {own cls text : String} {names : List String} {ik is ic mc ms sa : Nat} {A : Nat → Prop}
    (hown : s.vm.findClass own = some m.cls) (hcls : Bundle.fit cls = true) (hnames : ∀ n ∈ names, Bundle.fit n = true)
    (hk : (Cond.classLink own ik cls).before args s = true) (hini : (Cond.initialized cls).before args s = true) (hstr : vk_R own is text sa s) (hat : ∀ w ∈ vx_atS own ic cls names, w.before args s = true)
    (hgood : ∀ w ∈ Cond.classLink own ik cls :: Cond.initialized cls :: vx_atS own ic cls names, vx_ot w = true)
    (hU : vx_Zq Bundle.tN "UNASSIGNED_STACK" Bundle.steD A s s.heap) (hN : vx_Zq Bundle.tN "SUPPRESSED_SENTINEL" Bundle.listD A s s.heap) (hS : va_S A s.heap H locs) (hsize : ls.size = c.maxLocals)
    (d0 : decode cc pc = .ok (.new ik, 3)) (d3 : decode cc (pc + 3) = .ok (.dup, 1)) (d4 : decode cc (pc + 4) = .ok (.ldc_w is, 3)) (d7 : decode cc (pc + 7) = .ok (.invokespecial ic, 3)) (d10 : decode cc (pc + 10) = .ok (.athrow, 1))
    (hout : ∀ x ∈ c.exceptionTable.toList, covers x (pc + 10) = false)
    (hRframes : names.length + 3 < R.frames) (hRlocals : (rest.map fun v => v.category).sum + (13 * (names.length + 1) + 43) ≤ R.locals) (hRcells : cells + 1 ≤ R.cells) (hRslots : slots + 6 ≤ R.slots) (hlocks : meth.locks = false)
    (hx : ∀ t : State, s.vm.Alike t.vm → H.size ≤ t.heap.size → (∀ q : Nat, q < H.size → t.heap[q]? = H[q]?) → XC cls s t)
    (hf : ∀ z ∈ locs, free z.base) (hc : cells + 1 ≤ mc) (hs : slots + 6 ≤ ms) :
    W p l e R s m args below meth c H locs cells slots (vx_MQ below Qc XC args s mc ms free) (F0 m pc ls rest) := by
  intro T hT X
  have htr : e.platform.stackTraces = false := (show e.platform.stackTraces = l.stackTraces by rw [X.admits.platform]).trans hl
  have Y := vx_rebase X (R' := { frames := R.frames, locals := R.locals, cells := 1, slots := 6 }) (Nat.le_refl _) (Nat.le_refl _) hRcells hRslots
  obtain ⟨s', hA⟩ : ∃ z, z = (T.setVm s.vm).setFrames (.invoking m args :: below) := ⟨_, rfl⟩
  rw [← hA] at Y
  have hvm : s'.vm = s.vm := by rw [hA]; rfl
  have hhp : s'.heap = H := by rw [hA]; exact hT
  have hW0 : s.WarmedH s'.vm := by rw [hvm]; exact State.WarmedH.refl s
  have hat' : ∀ w ∈ vx_atS own ic cls names, w.before args s' = true := fun w hw => vx_ot_at hW0 hvm.symm (hgood w (List.mem_cons_of_mem _ (List.mem_cons_of_mem _ hw))) (hat w hw)
  have hk' : (Cond.classLink own ik cls).before args s' = true := vx_ot_at hW0 hvm.symm (hgood _ List.mem_cons_self) hk
  have hini' : (Cond.initialized cls).before args s' = true := vx_ot_at hW0 hvm.symm (hgood _ (List.mem_cons_of_mem _ List.mem_cons_self)) hini
  have hU' : vx_Zq Bundle.tN "UNASSIGNED_STACK" Bundle.steD A s' s'.heap := by rw [hhp]; exact vx_Zq.moved hW0.alike (hU.kept hS.2.1)
  have hN' : vx_Zq Bundle.tN "SUPPRESSED_SENTINEL" Bundle.listD A s' s'.heap := by rw [hhp]; exact vx_Zq.moved hW0.alike (hN.kept hS.2.1)
  have h : ∀ w ∈ Bundle.ownAtoms own ic cls names, w.before args s' = true := vx_own hat' (vx_isRefq hU'.1) (vx_isRefq hN'.1) hU'.2.word hN'.2.word
  have hown' : s'.vm.findClass own = some m.cls := by rw [hvm]; exact hown
  have hins : (Cond.instantiable cls 6).before args s' = true := h _ (by simp [Bundle.ownAtoms])
  obtain ⟨vm₁, cX, kX, hfX, hkX, -, -, X₁, st1⟩ := Y.newCold hexec (own := own) (C := cls) (index := ik) (n := 6) hown' hk' hins hini'
    (g := F0 m pc ls rest) rfl (by rw [hb]; exact d0) (Nat.le_refl _) (Nat.le_refl _)
  generalize hT1 : (T.setVm vm₁).pushCell { cls := cX, slots := kX.instanceTypes.map defaultValue, vm := .none } = T1 at X₁ st1
  have hcat : (Value.ref T.heap.size).category = 1 := rfl
  have hcellA : T1.heap[T.heap.size]? = some (freshCell cX kX) := by rw [← hT1]; exact State.heap_pushCell_size _ _
  have d3' : decode c.code (pc + 3) = .ok (.dup, 1) := by rw [hb]; exact d3
  have d4' : decode c.code (pc + 4) = .ok (.ldc_w is, 3) := by rw [hb]; exact d4
  have hstr' : vk_R own is text sa s' := vk_R.warm hW0 hstr
  obtain ⟨U, hsteps, hrun, hend, hW, hsame, ce, hce, hO⟩ := X₁.ctorThrowS hexec htr (own := own) (cls := cls) (names := names) (ic := ic) hown' hcls hnames h (fun x hx => nomatch hx) hfX hkX hcellA (by rw [hhp, hT]; exact Nat.le_refl _) (msg := .ref sa) rfl
    (g := { method := m, pc := pc + 7, locals := ls, stack := .ref sa :: .ref T.heap.size :: .ref T.heap.size :: rest, locked := none }) rfl hsize rfl rfl (rest := rest) rfl
    (by rw [hb]; exact d7) (by rw [hb]; exact d10) hout hRframes (by simp only [List.map_cons, List.sum_cons, hcat]; omega) hlocks
  obtain ⟨f1, f2⟩ := vx_frame hsame
  rw [hhp] at f1 f2
  have hWs : s.WarmedH U.vm := State.WarmedH.trans hW0 hW
  have hcl : s.vm.findClass cls = some ce.cls := by
    have h9 := hO.cls
    rw [hvm] at h9
    exact h9
  have hall : s.sameButNew ({ U with vm := s.vm } : State) locs mc ms := by
    subst hA
    obtain ⟨e1, e2⟩ := hsame
    rw [State.setFrames_setFrames] at e1
    have h2 : (T.setVm s.vm).sameButNew ({ U with vm := s.vm } : State) [] (0 + 1) (0 + 6) := ⟨e1, e2⟩
    have h3 := X.same.trans h2
    rw [List.append_nil] at h3
    exact h3.mono hc hs
  refine ⟨U, ?_, .threw T.heap.size, hrun, hend, Or.inr ⟨T.heap.size, rfl, cls, ce, locs, hx U hWs.alike f1 (fun q hq => f2 q hq (fun z hz => nomatch hz)), hce, hO.vm, hcl, hWs, hall, hf⟩⟩
  refine st1 _ ?_
  show Steps p.tables e below (T1.setTop { method := m, pc := pc + 3, locals := ls, stack := .ref T.heap.size :: rest, locked := none }) _
  jvm_step X₁.here [X₁.here.top, hexec, d3', Value.category]
  exact X₁.ldcStringW hexec (own := own) (text := text) (index := is) (a := sa) hown' hstr'.1 hstr'.2
    (g := { method := m, pc := pc + 4, locals := ls, stack := .ref T.heap.size :: .ref T.heap.size :: rest, locked := none }) rfl d4' _ hsteps
end Ends
section Bodies
variable {l : Launch}
theorem vx_ofW {y : MethodName} {ws ws' : List Cond} {rm : Room} {Pc : Array Value → State → Prop} {Qc : Array Value → State → Outcome → State → Prop} {XC : String → State → State → Prop} {mc ms : Nat} {free : Addr → Prop} {cc : ByteArray} {maxL : Nat} {ret : Option FieldType}
    (hy : plainName y.cls = true) (hw : ws = Cond.code y cc maxL ret :: ws')
    (body : ∀ p e s m args below meth c s₁, BodyLoose p l y (headSpec ws rm) cc maxL ret e s m args below meth c s₁ → c.maxLocals = maxL → (∀ x ∈ c.exceptionTable.toList, False) → Pc args s →
      W p l e (headSpec ws rm).room s m args below meth c s.heap [] 0 0 (vx_MQ below Qc XC args s mc ms free) (entryFrame m args maxL)) : vx_Met l y ws rm Pc Qc XC mc ms free := by
  refine MetFree.of_bodyS (code := cc) (maxLocals := maxL) (ret := ret) hy ?_ ?_
  · intro args s m h hn
    obtain ⟨meth, c, h1, h2, h3, h4, h5, h6, -, -⟩ := Cond.code_spec hn (atoms_spec (ws := ws) h _ (by rw [hw]; exact List.mem_cons_self))
    exact ⟨meth, c, h1, h2, h3, h4, h5, h6⟩
  · intro p e s m args below meth c s₁ B hml hP _
    have hh0 : s₁.heap = s.heap := by rw [B.state]; rfl
    have ht : ∀ x ∈ c.exceptionTable.toList, False := by
      obtain ⟨meth9, c9, h1, h2, -, -, -, -, h7, -⟩ := Cond.code_spec B.named (atoms_spec (ws := ws) B.pre _ (by rw [hw]; exact List.mem_cons_self))
      cases Option.some.inj (h1.symm.trans B.method)
      cases Option.some.inj (h2.symm.trans (Stand.of_body B).code)
      intro x hx
      rw [Array.isEmpty_iff.mp h7] at hx
      cases hx
    obtain ⟨t, a1, o, b1, b2, b3⟩ := body p e s m args below meth c s₁ B hml ht hP s₁ hh0 (Stand.of_body B)
    exact ⟨t, o, a1, b1, b2, b3⟩
/-- the table of a body with handlers -/
theorem vx_table {p : Program} {x y : MethodName} {S : Spec} {cc bytes : ByteArray} {maxL maxL' : Nat} {ret ret' : Option FieldType} {e : Env} {s s₁ : State} {m : MethodId} {args : Array Value} {below : List Frame} {meth : Method} {c : Code} {hh : List (Nat × Nat × Nat × Nat)}
    (B : BodyLoose p l y S cc maxL ret e s m args below meth c s₁) (h : (Cond.codeWith y bytes maxL' ret' hh).before args s = true) : c.exceptionTable.toList = tableOf hh := by
  obtain ⟨m9, meth9, c9, hn9, h1, h2, -, -, h6, -⟩ := Cond.codeWith_spec h
  cases Option.some.inj (hn9.symm.trans B.named)
  cases Option.some.inj (h1.symm.trans B.method)
  cases Option.some.inj (h2.symm.trans (Stand.of_body B).code)
  rw [← h6, table_eq]
end Bodies
end VXA
/-! ===== END ===== -/
/-! ===== BEGIN a static call of a method with an exception table ===== -/
section VXS
variable {p : Program} {l : Launch} {e : Env} {R : Room} {s : State} {m : MethodId} {args : Array Value} {below : List Frame} {meth : Method} {c : Code} {T : State} {H : Heap} {locs : List Loc} {cells slots : Nat}
abbrev vx_CSW (R : Room) (s : State) (args : Array Value) (own : String) (index : Nat) (y : MethodName) (bytes : ByteArray) (maxL : Nat) (ret : Option FieldType) (hh : List (Nat × Nat × Nat × Nat)) (ws : List Cond) (rm : Room) (mc ms n : Nat) : Prop :=
  (rm.cells = mc ∧ rm.slots = ms ∧ rm.frames + 1 ≤ R.frames ∧ 8 + (maxL + 11) + rm.locals ≤ R.locals ∧ (∀ w ∈ ws, ∀ (a' : Array Value) (U : State), s.WarmedH U.vm → w.before a' U = true) ∧ Cond.codeWith y bytes maxL ret hh ∈ ws) ∧
  (Cond.codeWith y bytes maxL ret hh).before args s = true ∧ (Cond.initialized y.cls).before args s = true ∧ (y.cls ≠ "java/lang/invoke/MethodHandle" ∧ y.cls ≠ "java/lang/invoke/VarHandle") ∧
  (∀ sig, parseMethodDescriptor y.desc = some sig → n = sig.parameters.length) ∧ (Cond.methodLink own index y).before args s = true ∧ (Cond.static y).before args s = true
theorem vx_cwSW {own : String} {index maxL mc ms : Nat} {y : MethodName} {bytes : ByteArray} {ret : Option FieldType} {hh : List (Nat × Nat × Nat × Nat)} {Ts ws ws' : List Cond} {rm : Room} (n : Nat) (ht : ∀ w ∈ Ts, w.before args s = true) (hT : GoodIn Ts (va_wsS own index y ws)) (hw : ws = Cond.codeWith y bytes maxL ret hh :: ws') (hrc : rm.cells = mc) (hrs : rm.slots = ms)
    (hd : y.cls ≠ "java/lang/invoke/MethodHandle" ∧ y.cls ≠ "java/lang/invoke/VarHandle" ∧ (parseMethodDescriptor y.desc).map (fun d => d.parameters.length) = some n) (hR : rm.frames + 1 ≤ R.frames ∧ 8 + (maxL + 11) + rm.locals ≤ R.locals) :
    vx_CSW R s args own index y bytes maxL ret hh ws rm mc ms n := by
  have ok : ∀ w ∈ va_wsS own index y ws, w.before args s = true := fun w h => ht w (hT w h).1
  have hG : GoodIn Ts ws := fun w h => hT w (by unfold va_wsS; exact List.mem_append_right _ h)
  have hc : Cond.codeWith y bytes maxL ret hh ∈ ws := by rw [hw]; exact List.mem_cons_self
  refine ⟨⟨hrc, hrs, hR.1, hR.2, pay_in ht hG, hc⟩, ht _ (hG _ hc).1, ok _ (by simp [va_wsS]), ⟨hd.1, hd.2.1⟩, fun sig h => ?_, ok _ (by simp [va_wsS]), ok _ (by simp [va_wsS])⟩
  have h2 := hd.2.2
  rw [h] at h2
  exact (Option.some.inj h2).symm
theorem vx_callSW (X : Stand p l e R s m args below meth c T locs cells slots) (hexec : p.tables.exec = Jvm.exec) {own : String} {index : Nat} {y : MethodName} {bytes : ByteArray} {maxL : Nat} {ret : Option FieldType} {hh : List (Nat × Nat × Nat × Nat)}
    (hown : s.vm.findClass own = some m.cls) (hlink : (Cond.methodLink own index y).before args s = true) (hstat : (Cond.static y).before args s = true) (hinit : (Cond.initialized y.cls).before args s = true)
    (hcode : (Cond.codeWith y bytes maxL ret hh).before args s = true) (hy : y.cls ≠ "java/lang/invoke/MethodHandle" ∧ y.cls ≠ "java/lang/invoke/VarHandle")
    {W9 : Nat} {Pre : Pt → Array Value → Prop} {Post : Pt → Array Value → Option Value → Pt → Prop} (hK : Back l R p e below s args y 3 W9 Pre Post)
    {g : JFrame} (hg : g.method = m) (hsize : g.locals.size = c.maxLocals) {argsL rest : List Value} (hlen : ∀ sig, parseMethodDescriptor y.desc = some sig → argsL.length = sig.parameters.length)
    (hstack : g.stack = argsL.reverse ++ rest) (hW : 2 * g.monitorRoom + (rest.map fun v => v.category).sum ≤ W9) (hdg : decode c.code g.pc = .ok (.invokestatic index, 3))
    (hpre : ∀ vm₁, s.WarmedH vm₁ → Pre ⟨T.setVm vm₁, locs, cells, slots⟩ argsL.toArray) :
    ∃ (v : Option Value) (vm₁ : Vm) (B : Pt), s.WarmedH vm₁ ∧ Stand p l e R s m args below meth c B.U B.locs B.cells B.slots ∧ Post ⟨T.setVm vm₁, locs, cells, slots⟩ argsL.toArray v B ∧
      ∀ target, Steps p.tables e below (B.U.setTop { g with pc := g.pc + 3, stack := v.toList ++ rest }) target → Steps p.tables e below (T.setTop g) target := by
  obtain ⟨mk, methM, cM, hnamed, hmethM, -, -, -, -, -, -, hsigM⟩ := Cond.codeWith_spec hcode
  have hstatic : methM.isStatic = true := Cond.static_spec hnamed hmethM hstat
  obtain ⟨kP, hkP, -⟩ := className_of_methodNamed hnamed
  have hinitP : kP.init = .initialized := Cond.initialized_spec (findClass_of_methodNamed hnamed) hkP hinit
  obtain ⟨vm₁, X₁, hstep₁⟩ := X.invokestatic hexec hown hlink hnamed hmethM hstatic hkP hinitP hy (g := g) hg (argsL := argsL) (rest := rest) (hlen _ hsigM) hstack hdg
  obtain ⟨v, B, X', hpost, hsteps⟩ := hK m meth c ⟨T.setVm vm₁, locs, cells, slots⟩ { g with stack := rest } (.invokestatic index) mk argsL.toArray X₁ hg hsize hdg hW (X₁.named hnamed) (hpre vm₁ X₁.warmed)
  exact ⟨v, vm₁, B, X₁.warmed, X', hpost, fun target h => hstep₁ _ fun acts => by rw [doInvoke_state]; exact hsteps.trans h⟩
theorem vx_runSW {y : MethodName} {bytes cc : ByteArray} {maxL nL mc ms n index : Nat} {ret : Option FieldType} {hh : List (Nat × Nat × Nat × Nat)} {ws : List Cond} {rm : Room} {Pc : Array Value → State → Prop} {Qc : Array Value → State → Outcome → State → Prop} {free : Addr → Prop} {Ts : List Cond} {own : String} {As rest : List Value} {g : JFrame}
    (S : CallFix p m c cc nL s args Ts own) (hM : Met l y ws rm Pc Qc mc ms free) (cw : vx_CSW R s args own index y bytes maxL ret hh ws rm mc ms n) (hp : PreS s H Pc As)
    (hg : g.method = m) (hn : As.length = n) (hsize : g.locals.size = nL) (hstack : g.stack = As.reverse ++ rest) (hW : 2 * g.monitorRoom + (rest.map fun v => v.category).sum ≤ 8) (hdg : decode cc g.pc = .ok (.invokestatic index, 3)) (hf : cells + mc ≤ R.cells ∧ slots + ms ≤ R.slots) :
    va_Run p l e R s m args below meth c H locs cells slots mc ms g rest (Qc As.toArray) (free) := by
  obtain ⟨⟨hrc, hrs, hfr, hlo, hws, hcw⟩, hcode, hini, hy, hlen, hl, hstt⟩ := cw
  have hK : Back l R p e below s args y 3 8 (PreOf R mc ms Pc) (PostOf Qc mc ms free) := va_backW (hh := hh) (bytes := bytes) (maxL := maxL) (ret := ret) hM hp.1 hrc hrs hfr hlo hws hcw (fun a' U hW => word_at hW (Or.inl (by first | rfl | simp [Cond.onTables, Cond.keeps, Cond.steady])) hini)
  obtain ⟨hx, hb, hml, ho, -⟩ := S
  intro T hT X
  obtain ⟨v, vm₁, ⟨U', l2, c2, s2⟩, hW₁, X', ⟨g', mk, t, L, e1, e2, hq, h1, hL, h2, h3⟩, st⟩ := vx_callSW X hx (hh := hh) (bytes := bytes) (maxL := maxL) (ret := ret) ho hl hstt hini hcode hy hK hg (hsize.trans hml.symm) (argsL := As) (rest := rest) (fun sig h => hn.trans (hlen sig h)) hstack hW (by rw [hb]; exact hdg)
    (fun vm₁ hW₁ => ⟨hf.1, hf.2, hp.2 (T.setVm vm₁) hT hW₁⟩)
  dsimp only [Pt.U, Pt.locs, Pt.cells, Pt.slots] at X' e1 e2 h1 h2 h3 st
  subst h1; subst h2; subst h3
  exact ⟨v, (T.setVm vm₁).calling g' mk As.toArray, t, U', L, hT, X', hL, e1, e2, hq, st⟩
/-- not caught here, past rows that name other classes: it goes on to the caller -/
theorem vx_outP {p : Program} {l : Launch} {e : Env} {R : Room} {s : State} {m : MethodId} {args : Array Value} {below : List Frame} {meth : Method} {c : Code} {H : Heap} {locs : List Loc} {cells slots : Nat} {free : Addr → Prop} {ls : Array Slot} {rest : List Value} {Qc : Array Value → State → Outcome → State → Prop} {XC : String → State → State → Prop}
    {pc : Nat} {own E : String} {ce : Cell} {q : Addr} {mc ms : Nat} (hown : s.vm.findClass own = some m.cls) (hlocks : meth.locks = false)
    (hpass : ∀ z ∈ c.exceptionTable.toList, covers z pc = false ∨ (z.catchType ≠ 0 ∧ ∃ nm : String, (Cond.classLink own z.catchType nm).before args s = true ∧ va_Nc E nm s)) (hcell : H[q]? = some ce) (hv : ce.vm = .none) (hcl : s.vm.findClass E = some ce.cls)
    (hx : ∀ t : State, t.heap = H → s.vm.Alike t.vm → XC E s t) (hf : ∀ z ∈ locs, free z.base) (hc : cells ≤ mc) (hs : slots ≤ ms) :
    vx_W p l e R s m args below meth c H locs cells slots (vx_MQ below Qc XC args s mc ms free) (F0 m pc ls rest) q := by
  intro T hT X
  have hpl : e.platform.magicAccessors = ({} : Platform).magicAccessors := by rw [X.admits.platform]
  obtain ⟨vm', hW', X', st⟩ := X.outThrough hlocks q (g := F0 m pc ls rest) rfl rfl rfl (cell := ce) (by rw [hT]; exact hcell) (by rw [hv]; rfl)
    (by obtain ⟨k9, h9, -⟩ := Vm.findClass_spec hcl; exact ⟨k9, h9⟩) (fun z hz => by
      rcases hpass z hz with h | ⟨hz0, nm, hl1, hn1⟩
      · exact Or.inl h
      · obtain ⟨c6, hc6, hcl6⟩ := Cond.classLink_spec hown hl1 e.platform hpl
        obtain ⟨a8, b8, h1, h2, h3⟩ := hn1
        cases Option.some.inj (h1.symm.trans hcl)
        cases Option.some.inj (h2.symm.trans hc6)
        exact Or.inr ⟨hz0, _, hcl6, h3⟩)
  obtain ⟨g₀, hfr⟩ := X'.frames_eq
  have hcell9 : ((T.setVm vm').setFrames (.throwing q :: below)).heap[q]? = some ce := by
    show T.heap[q]? = some ce
    rw [hT]; exact hcell
  have hend : Ended ((T.setVm vm').setFrames (.throwing q :: below)) below (.threw q) := State.frames_setFrames _ (State.cur_lt_of_frames hfr)
  refine ⟨(T.setVm vm').setFrames (.throwing q :: below), ?_, .threw q, X'.here.running, hend, Or.inr ⟨q, rfl, E, ce, locs, hx _ hT (X'.ends _).1.alike, hcell9, hv, hcl, (X'.ends _).1, (X'.ends _).2.mono hc hs, hf⟩⟩
  rw [X.pushThrowing_eq]
  exact st
/-- a thing of a world lies in the heap -/
theorem vx_lt {D : va_G} {cl : List vw_C} {ws : va_W} {H1 : Heap} (h : va_P D cl ws H1) {k : Nat} {q : Nat × va_E} (hk : ws[k]? = some q) : q.1 < H1.size := (h k q hk).lt
end VXS
/-! ===== END ===== -/
/-! ===== BEGIN methods with a table of their own: called by a name, returning or throwing ===== -/
section VXH
/-! vx_backW, vx_callVX, vx_callSX, vx_callVW, vx_runVW, vx_runVX, vx_runSX, vx_ofWH follow the same proofs as their sisters above (Free/Laws.lean, Shelf42/LK1.lean); vx_outP calls Shelf42/NT130.lean (outThrough). -/
section
variable {l : Launch} {R : Room} {p : Program} {e : Env} {below : List Frame} {s : State} {sargs : Array Value} {y : MethodName} {len W9 : Nat}
theorem vx_backW {ws : List Cond} {rm : Room} {Pc : Array Value → State → Prop} {Qc : Array Value → State → Outcome → State → Prop} {XC : String → State → State → Prop} {mc ms : Nat} {free : Addr → Prop} {bytes : ByteArray} {maxL : Nat} {ret : Option FieldType} {hh : List (Nat × Nat × Nat × Nat)}
    (hM : vx_Met l y ws rm Pc Qc XC mc ms free) (hblind : FrameBlind Pc) (hrc : rm.cells = mc) (hrs : rm.slots = ms)
    (hframes : rm.frames + 1 ≤ R.frames) (hlocals : W9 + (maxL + 11) + rm.locals ≤ R.locals)
    (hws : ∀ w ∈ ws, ∀ a' U, s.WarmedH U.vm → w.before a' U = true) (hcode : Cond.codeWith y bytes maxL ret hh ∈ ws) (hinit : ∀ a' U, s.WarmedH U.vm → (Cond.initialized y.cls).before a' U = true) :
    vx_Back l R p e below s sargs y len W9 (PreOf R mc ms Pc) (PostOf Qc mc ms free) (vx_Post XC mc ms free) := by
  intro m meth c A g ig mk a X hg hsize hdg hW hn hp
  have h1 : (headSpec ws rm).pre.before a A.U = true := atoms_intro fun w hw => hws w hw _ _ X.warmed
  have h2 : (Cond.codeWith y bytes maxL ret hh).before a A.U = true := hws _ hcode _ _ X.warmed
  have h3 : (Cond.initialized y.cls).before a A.U = true := hinit _ _ X.warmed
  have h4 : A.cells + (headSpec ws rm).room.cells ≤ R.cells := by rw [show (headSpec ws rm).room.cells = mc from hrc]; exact hp.1
  have h5 : A.slots + (headSpec ws rm).room.slots ≤ R.slots := by rw [show (headSpec ws rm).room.slots = ms from hrs]; exact hp.2.1
  have hPc : Pc a (A.U.calling g mk a) := hblind _ _ _ _ hp.2.2
  obtain ⟨U, Ls, c0, s0⟩ := A
  dsimp only [Pt.U, Pt.locs, Pt.cells, Pt.slots] at h1 h2 h3 h4 h5 X hn hPc ⊢
  obtain ⟨m9, methY, cY, hn9, hmY, hcY, -, hlY, -⟩ := Cond.codeWith_spec h2
  cases Option.some.inj (hn9.symm.trans hn)
  obtain ⟨kY, hkY, -⟩ := className_of_methodNamed hn
  have hinitY : kY.init = .initialized := Cond.initialized_spec (findClass_of_methodNamed hn) hkY h3
  have h : At U g.method c below := by rw [hg]; exact X.here
  have hlocals9 : W9 + (maxL + 11) + (headSpec ws rm).room.locals ≤ R.locals := hlocals
  have happ : (headSpec ws rm).appliesLoose y e.platform (U.calling g mk a) = true :=
    Spec.appliesLoose_calling (g := g) h hdg hn hkY hinitY
      (X.room_calling (g := g) (R' := (headSpec ws rm).room) hsize hmY hcY hframes (by rw [hlY]; omega) h4 h5) h1
  obtain ⟨mid, hmid⟩ := h.above
  have hfr : (U.setTop g).frames = (.java g :: mid) ++ below := by rw [State.frames_setTop' g h.top, hmid]; rfl
  obtain ⟨o, s₂, hsteps, -, hend, hq⟩ := Steps.callFree hM p X.admits X.cas X.clock (acts := []) hfr happ hPc trivial
  have hq' : vx_Q Qc XC mc ms free a (U.calling g mk a) o s₂ := hq
  rw [State.frames_setTop' g h.top] at hend
  obtain ⟨g₀, hg0⟩ := Option.isSome_iff_exists.mp h.top
  obtain ⟨r, hr⟩ := State.topJava?_eq_some.mp hg0
  have hr' : (({ U with heap := s₂.heap, slotsUsed := s₂.slotsUsed } : State).setVm s₂.vm).frames = .java g₀ :: r := hr
  rcases hq' with ⟨hqc, L, hfe, hL⟩ | ⟨q, rfl, E, ce, L, hx, hce, hcv, hcl, hW₂, hsm, hL⟩
  · obtain ⟨⟨v, rfl⟩, hW₂, e2, q2, q3, q4, q5, q6⟩ := id hfe
    have e3 : s₂ = ({ (U.calling g mk a).setFrames s₂.frames with heap := s₂.heap, slotsUsed := s₂.slotsUsed } : State).setVm s₂.vm := by
      have : s₂ = ({ s₂ with vm := (U.calling g mk a).vm } : State).setVm s₂.vm := rfl
      rw [e2] at this
      exact this
    obtain ⟨c₂, i₂, len₂, hc₂, hd₂, hf₂⟩ := hend
    have hW' : U.WarmedH s₂.vm := hW₂
    have hcc : c₂ = c := by
      have h1 : s₂.code? g.method = U.code? g.method := by
        rw [State.code?_eq, State.code?_eq, hW'.alike.method?]
      exact Option.some.inj (hc₂.symm.trans (h1.trans h.code))
    subst hcc
    have hlen : len₂ = len := by rw [hdg] at hd₂; cases hd₂; rfl
    subst hlen
    have hs₂ : s₂ = (({ U with heap := s₂.heap, slotsUsed := s₂.slotsUsed } : State).setVm s₂.vm).setTop { g with pc := g.pc + len₂, stack := v.toList ++ g.stack } := by
      refine e3.trans ?_
      rw [hf₂, State.calling_eq h.top, State.setFrames_setFrames, State.setTop_of_frames _ hr', hr]
      rfl
    have hsame : U.sameButNew ({ U with heap := s₂.heap, slotsUsed := s₂.slotsUsed } : State) L mc ms := by
      refine ⟨?_, q2, q3, q4, q5, q6⟩
      obtain ⟨t, ht, -⟩ := State.frames_cons hr
      show ({ U with heap := s₂.heap, slotsUsed := s₂.slotsUsed } : State) = { U.setFrames U.frames with heap := s₂.heap, slotsUsed := s₂.slotsUsed }
      rw [State.setFrames_self ht]
    subst hg
    refine Or.inl ⟨v, ⟨(({ U with heap := s₂.heap, slotsUsed := s₂.slotsUsed } : State).setVm s₂.vm), Ls ++ L, c0 + mc, s0 + ms⟩,
      ⟨X.admits, X.cas, X.clock, X.frames, X.room, X.hears, X.method, X.code, (X.here.setHeapUsed s₂.heap s₂.slotsUsed).setVm hW'.alike, X.tail, State.WarmedH.trans X.warmed hW', X.limits, X.bytes, X.same.trans (hsame.setVm s.vm)⟩,
      ⟨g, mk, s₂, L, rfl, rfl, hqc, rfl, hL, rfl, rfl⟩, ?_⟩
    show Steps p.tables e below _ ((({ U with heap := s₂.heap, slotsUsed := s₂.slotsUsed } : State).setVm s₂.vm).setTop { g with pc := g.pc + len₂, stack := v.toList ++ g.stack })
    rw [← hs₂]
    exact hsteps
  · obtain ⟨e2, q2, q3, q4, q5, q6⟩ := id hsm
    have e3 : s₂ = ({ (U.calling g mk a).setFrames s₂.frames with heap := s₂.heap, slotsUsed := s₂.slotsUsed } : State).setVm s₂.vm := by
      have : s₂ = ({ s₂ with vm := (U.calling g mk a).vm } : State).setVm s₂.vm := rfl
      rw [e2] at this
      exact this
    have hf₂ : s₂.frames = .throwing q :: .java g :: U.frames.tail := hend
    have hW' : U.WarmedH s₂.vm := hW₂
    have hs₂ : s₂ = ((({ U with heap := s₂.heap, slotsUsed := s₂.slotsUsed } : State).setVm s₂.vm).setTop g).pushFrame (.throwing q) := by
      refine e3.trans ?_
      rw [hf₂, State.calling_eq h.top, State.setFrames_setFrames, State.pushFrame, State.frames_setTop _ hr', State.setTop_of_frames _ hr', State.setFrames_setFrames, hr]
      rfl
    have hsame : U.sameButNew ({ U with heap := s₂.heap, slotsUsed := s₂.slotsUsed } : State) L mc ms := by
      refine ⟨?_, q2, q3, q4, q5, q6⟩
      obtain ⟨t, ht, -⟩ := State.frames_cons hr
      show ({ U with heap := s₂.heap, slotsUsed := s₂.slotsUsed } : State) = { U.setFrames U.frames with heap := s₂.heap, slotsUsed := s₂.slotsUsed }
      rw [State.setFrames_self ht]
    subst hg
    refine Or.inr ⟨q, ⟨(({ U with heap := s₂.heap, slotsUsed := s₂.slotsUsed } : State).setVm s₂.vm), Ls ++ L, c0 + mc, s0 + ms⟩,
      ⟨X.admits, X.cas, X.clock, X.frames, X.room, X.hears, X.method, X.code, (X.here.setHeapUsed s₂.heap s₂.slotsUsed).setVm hW'.alike, X.tail, State.WarmedH.trans X.warmed hW', X.limits, X.bytes, X.same.trans (hsame.setVm s.vm)⟩,
      ⟨g, mk, s₂, L, E, ce, rfl, rfl, hx, hce, hcv, hcl, rfl, hL, rfl, rfl⟩, ?_⟩
    show Steps p.tables e below _ (((({ U with heap := s₂.heap, slotsUsed := s₂.slotsUsed } : State).setVm s₂.vm).setTop g).pushFrame (.throwing q))
    rw [← hs₂]
    exact hsteps
end
variable {p : Program} {l : Launch} {e : Env} {R : Room} {s : State} {m : MethodId} {args : Array Value} {below : List Frame} {meth : Method} {c : Code} {T : State} {H : Heap} {locs : List Loc} {cells slots : Nat}
theorem vx_callVX (X : Stand p l e R s m args below meth c T locs cells slots) (hexec : p.tables.exec = Jvm.exec) {own C : String} {index : Nat} {y : MethodName} {bytes : ByteArray} {maxL : Nat} {ret : Option FieldType} {hh : List (Nat × Nat × Nat × Nat)}
    (hown : s.vm.findClass own = some m.cls) (hlink : (Cond.methodLink own index y).before args s = true) (hinst : (Cond.instanceMethod y).before args s = true) (hsel : (Cond.selects C y y).before args s = true)
    (hcode : (Cond.codeWith y bytes maxL ret hh).before args s = true) (hy : y.cls ≠ "java/lang/invoke/MethodHandle" ∧ y.cls ≠ "java/lang/invoke/VarHandle")
    {W9 : Nat} {Pre : Pt → Array Value → Prop} {Post : Pt → Array Value → Option Value → Pt → Prop} {PostX : Pt → Array Value → Addr → Pt → Prop} (hK : vx_Back l R p e below s args y 3 W9 Pre Post PostX)
    {b : Addr} {cellB : Cell} (hcell : T.heap[b]? = some cellB) (hobj : cellB.vm.isStatics = false) (hcls : s.vm.findClass C = some cellB.cls)
    {g : JFrame} (hg : g.method = m) (hsize : g.locals.size = c.maxLocals) {argsL rest : List Value} (hlen : ∀ sig, parseMethodDescriptor y.desc = some sig → argsL.length = sig.parameters.length)
    (hstack : g.stack = argsL.reverse ++ .ref b :: rest) (hW : 2 * g.monitorRoom + (rest.map fun v => v.category).sum ≤ W9) (hdg : decode c.code g.pc = .ok (.invokevirtual index, 3))
    (hpre : ∀ vm₁, s.WarmedH vm₁ → Pre ⟨T.setVm vm₁, locs, cells, slots⟩ (Value.ref b :: argsL).toArray) :
    (∃ (v : Option Value) (vm₁ : Vm) (B : Pt), s.WarmedH vm₁ ∧ Stand p l e R s m args below meth c B.U B.locs B.cells B.slots ∧ Post ⟨T.setVm vm₁, locs, cells, slots⟩ (Value.ref b :: argsL).toArray v B ∧
      ∀ target, Steps p.tables e below (B.U.setTop { g with pc := g.pc + 3, stack := v.toList ++ rest }) target → Steps p.tables e below (T.setTop g) target) ∨
    (∃ (q : Addr) (vm₁ : Vm) (B : Pt), s.WarmedH vm₁ ∧ Stand p l e R s m args below meth c B.U B.locs B.cells B.slots ∧ PostX ⟨T.setVm vm₁, locs, cells, slots⟩ (Value.ref b :: argsL).toArray q B ∧
      Steps p.tables e below (T.setTop g) ((B.U.setTop { g with stack := rest }).pushFrame (.throwing q))) := by
  obtain ⟨mk, methM, hnamed, hmethM, hstM, habM⟩ := Cond.instanceMethod_spec hinst
  obtain ⟨m8, methM', cM, hn8, hmethM', -, -, -, -, -, -, hsigM⟩ := Cond.codeWith_spec hcode
  cases Option.some.inj (hn8.symm.trans hnamed)
  cases hmethM.symm.trans hmethM'
  obtain ⟨c2, r2, m2, q1, q2, q3, q4, kP, hkP, hkPi⟩ := Cond.selects_spec hsel
  cases hcls.symm.trans q1
  cases (State.methodFound?_of_named hnamed hy).symm.trans q2
  cases hnamed.symm.trans q3
  have hselP : selectMethod e.platform s.vm cellB.cls mk = .method mk := by rw [Launch.admits_selectMethod X.admits]; exact q4
  obtain ⟨vm₁, X₁, hstep₁⟩ := X.invokevirtual hexec hown hlink hnamed hmethM hstM hkP hkPi hy (a := b) (cell := cellB) hcell
    (fun z h => by rw [h] at hobj; cases hobj) hselP hmethM habM hkP hkPi (g := g) hg (argsL := argsL) (rest := rest) (hlen _ hsigM) hstack hdg
  rcases hK m meth c ⟨T.setVm vm₁, locs, cells, slots⟩ { g with stack := rest } (.invokevirtual index) mk (Value.ref b :: argsL).toArray X₁ hg hsize hdg hW (X₁.named hnamed) (hpre vm₁ X₁.warmed) with ⟨v, B, X', hpost, hsteps⟩ | ⟨q, B, X', hpost, hsteps⟩
  · exact Or.inl ⟨v, vm₁, B, X₁.warmed, X', hpost, fun target h => hstep₁ _ fun acts => by rw [doInvoke_state]; exact hsteps.trans h⟩
  · exact Or.inr ⟨q, vm₁, B, X₁.warmed, X', hpost, hstep₁ _ fun acts => by rw [doInvoke_state]; exact hsteps⟩
theorem vx_callSX (X : Stand p l e R s m args below meth c T locs cells slots) (hexec : p.tables.exec = Jvm.exec) {own : String} {index : Nat} {y : MethodName} {bytes : ByteArray} {maxL : Nat} {ret : Option FieldType} {hh : List (Nat × Nat × Nat × Nat)}
    (hown : s.vm.findClass own = some m.cls) (hlink : (Cond.methodLink own index y).before args s = true) (hstat : (Cond.static y).before args s = true) (hinit : (Cond.initialized y.cls).before args s = true)
    (hcode : (Cond.codeWith y bytes maxL ret hh).before args s = true) (hy : y.cls ≠ "java/lang/invoke/MethodHandle" ∧ y.cls ≠ "java/lang/invoke/VarHandle")
    {W9 : Nat} {Pre : Pt → Array Value → Prop} {Post : Pt → Array Value → Option Value → Pt → Prop} {PostX : Pt → Array Value → Addr → Pt → Prop} (hK : vx_Back l R p e below s args y 3 W9 Pre Post PostX)
    {g : JFrame} (hg : g.method = m) (hsize : g.locals.size = c.maxLocals) {argsL rest : List Value} (hlen : ∀ sig, parseMethodDescriptor y.desc = some sig → argsL.length = sig.parameters.length)
    (hstack : g.stack = argsL.reverse ++ rest) (hW : 2 * g.monitorRoom + (rest.map fun v => v.category).sum ≤ W9) (hdg : decode c.code g.pc = .ok (.invokestatic index, 3))
    (hpre : ∀ vm₁, s.WarmedH vm₁ → Pre ⟨T.setVm vm₁, locs, cells, slots⟩ argsL.toArray) :
    (∃ (v : Option Value) (vm₁ : Vm) (B : Pt), s.WarmedH vm₁ ∧ Stand p l e R s m args below meth c B.U B.locs B.cells B.slots ∧ Post ⟨T.setVm vm₁, locs, cells, slots⟩ argsL.toArray v B ∧
      ∀ target, Steps p.tables e below (B.U.setTop { g with pc := g.pc + 3, stack := v.toList ++ rest }) target → Steps p.tables e below (T.setTop g) target) ∨
    (∃ (q : Addr) (vm₁ : Vm) (B : Pt), s.WarmedH vm₁ ∧ Stand p l e R s m args below meth c B.U B.locs B.cells B.slots ∧ PostX ⟨T.setVm vm₁, locs, cells, slots⟩ argsL.toArray q B ∧
      Steps p.tables e below (T.setTop g) ((B.U.setTop { g with stack := rest }).pushFrame (.throwing q))) := by
  obtain ⟨mk, methM, cM, hnamed, hmethM, -, -, -, -, -, -, hsigM⟩ := Cond.codeWith_spec hcode
  have hstatic : methM.isStatic = true := Cond.static_spec hnamed hmethM hstat
  obtain ⟨kP, hkP, -⟩ := className_of_methodNamed hnamed
  have hinitP : kP.init = .initialized := Cond.initialized_spec (findClass_of_methodNamed hnamed) hkP hinit
  obtain ⟨vm₁, X₁, hstep₁⟩ := X.invokestatic hexec hown hlink hnamed hmethM hstatic hkP hinitP hy (g := g) hg (argsL := argsL) (rest := rest) (hlen _ hsigM) hstack hdg
  rcases hK m meth c ⟨T.setVm vm₁, locs, cells, slots⟩ { g with stack := rest } (.invokestatic index) mk argsL.toArray X₁ hg hsize hdg hW (X₁.named hnamed) (hpre vm₁ X₁.warmed) with ⟨v, B, X', hpost, hsteps⟩ | ⟨q, B, X', hpost, hsteps⟩
  · exact Or.inl ⟨v, vm₁, B, X₁.warmed, X', hpost, fun target h => hstep₁ _ fun acts => by rw [doInvoke_state]; exact hsteps.trans h⟩
  · exact Or.inr ⟨q, vm₁, B, X₁.warmed, X', hpost, hstep₁ _ fun acts => by rw [doInvoke_state]; exact hsteps⟩
theorem vx_callVW (X : Stand p l e R s m args below meth c T locs cells slots) (hexec : p.tables.exec = Jvm.exec) {own C : String} {index : Nat} {y : MethodName} {bytes : ByteArray} {maxL : Nat} {ret : Option FieldType} {hh : List (Nat × Nat × Nat × Nat)}
    (hown : s.vm.findClass own = some m.cls) (hlink : (Cond.methodLink own index y).before args s = true) (hinst : (Cond.instanceMethod y).before args s = true) (hsel : (Cond.selects C y y).before args s = true)
    (hcode : (Cond.codeWith y bytes maxL ret hh).before args s = true) (hy : y.cls ≠ "java/lang/invoke/MethodHandle" ∧ y.cls ≠ "java/lang/invoke/VarHandle")
    {W9 : Nat} {Pre : Pt → Array Value → Prop} {Post : Pt → Array Value → Option Value → Pt → Prop} (hK : Back l R p e below s args y 3 W9 Pre Post)
    {b : Addr} {cellB : Cell} (hcell : T.heap[b]? = some cellB) (hobj : cellB.vm.isStatics = false) (hcls : s.vm.findClass C = some cellB.cls)
    {g : JFrame} (hg : g.method = m) (hsize : g.locals.size = c.maxLocals) {argsL rest : List Value} (hlen : ∀ sig, parseMethodDescriptor y.desc = some sig → argsL.length = sig.parameters.length)
    (hstack : g.stack = argsL.reverse ++ .ref b :: rest) (hW : 2 * g.monitorRoom + (rest.map fun v => v.category).sum ≤ W9) (hdg : decode c.code g.pc = .ok (.invokevirtual index, 3))
    (hpre : ∀ vm₁, s.WarmedH vm₁ → Pre ⟨T.setVm vm₁, locs, cells, slots⟩ (Value.ref b :: argsL).toArray) :
    ∃ (v : Option Value) (vm₁ : Vm) (B : Pt), s.WarmedH vm₁ ∧ Stand p l e R s m args below meth c B.U B.locs B.cells B.slots ∧ Post ⟨T.setVm vm₁, locs, cells, slots⟩ (Value.ref b :: argsL).toArray v B ∧
      ∀ target, Steps p.tables e below (B.U.setTop { g with pc := g.pc + 3, stack := v.toList ++ rest }) target → Steps p.tables e below (T.setTop g) target := by
  obtain ⟨mk, methM, hnamed, hmethM, hstM, habM⟩ := Cond.instanceMethod_spec hinst
  obtain ⟨m8, methM', cM, hn8, hmethM', -, -, -, -, -, -, hsigM⟩ := Cond.codeWith_spec hcode
  cases Option.some.inj (hn8.symm.trans hnamed)
  cases hmethM.symm.trans hmethM'
  obtain ⟨c2, r2, m2, q1, q2, q3, q4, kP, hkP, hkPi⟩ := Cond.selects_spec hsel
  cases hcls.symm.trans q1
  cases (State.methodFound?_of_named hnamed hy).symm.trans q2
  cases hnamed.symm.trans q3
  have hselP : selectMethod e.platform s.vm cellB.cls mk = .method mk := by rw [Launch.admits_selectMethod X.admits]; exact q4
  obtain ⟨vm₁, X₁, hstep₁⟩ := X.invokevirtual hexec hown hlink hnamed hmethM hstM hkP hkPi hy (a := b) (cell := cellB) hcell
    (fun z h => by rw [h] at hobj; cases hobj) hselP hmethM habM hkP hkPi (g := g) hg (argsL := argsL) (rest := rest) (hlen _ hsigM) hstack hdg
  obtain ⟨v, B, X', hpost, hsteps⟩ := hK m meth c ⟨T.setVm vm₁, locs, cells, slots⟩ { g with stack := rest } (.invokevirtual index) mk (Value.ref b :: argsL).toArray X₁ hg hsize hdg hW (X₁.named hnamed) (hpre vm₁ X₁.warmed)
  exact ⟨v, vm₁, B, X₁.warmed, X', hpost, fun target h => hstep₁ _ fun acts => by rw [doInvoke_state]; exact hsteps.trans h⟩
abbrev vx_CVW (R : Room) (s : State) (args : Array Value) (own C : String) (index : Nat) (y : MethodName) (bytes : ByteArray) (maxL : Nat) (ret : Option FieldType) (hh : List (Nat × Nat × Nat × Nat)) (ws : List Cond) (rm : Room) (mc ms n : Nat) : Prop :=
  (rm.cells = mc ∧ rm.slots = ms ∧ rm.frames + 1 ≤ R.frames ∧ 8 + (maxL + 11) + rm.locals ≤ R.locals ∧ (∀ w ∈ ws, ∀ (a' : Array Value) (U : State), s.WarmedH U.vm → w.before a' U = true) ∧ Cond.codeWith y bytes maxL ret hh ∈ ws) ∧
  (Cond.codeWith y bytes maxL ret hh).before args s = true ∧ (Cond.initialized y.cls).before args s = true ∧ (y.cls ≠ "java/lang/invoke/MethodHandle" ∧ y.cls ≠ "java/lang/invoke/VarHandle") ∧
  (∀ sig, parseMethodDescriptor y.desc = some sig → n = sig.parameters.length) ∧ (Cond.methodLink own index y).before args s = true ∧ (Cond.instanceMethod y).before args s = true ∧ (Cond.selects C y y).before args s = true
theorem vx_cwVW {own C : String} {index maxL mc ms : Nat} {y : MethodName} {bytes : ByteArray} {ret : Option FieldType} {hh : List (Nat × Nat × Nat × Nat)} {Ts ws ws' : List Cond} {rm : Room} (n : Nat) (ht : ∀ w ∈ Ts, w.before args s = true) (hT : GoodIn Ts (wsV own index C y ws)) (hw : ws = Cond.codeWith y bytes maxL ret hh :: ws') (hrc : rm.cells = mc) (hrs : rm.slots = ms)
    (hd : y.cls = C ∧ y.cls ≠ "java/lang/invoke/MethodHandle" ∧ y.cls ≠ "java/lang/invoke/VarHandle" ∧ (parseMethodDescriptor y.desc).map (fun d => d.parameters.length) = some n) (hR : rm.frames + 1 ≤ R.frames ∧ 8 + (maxL + 11) + rm.locals ≤ R.locals) :
    vx_CVW R s args own C index y bytes maxL ret hh ws rm mc ms n := by
  obtain ⟨hC, hd⟩ := hd
  subst hC
  have ok : ∀ w ∈ wsV own index y.cls y ws, w.before args s = true := fun w h => ht w (hT w h).1
  have hG : GoodIn Ts ws := fun w h => hT w (by unfold wsV; exact List.mem_append_right _ h)
  have hc : Cond.codeWith y bytes maxL ret hh ∈ ws := by rw [hw]; exact List.mem_cons_self
  refine ⟨⟨hrc, hrs, hR.1, hR.2, pay_in ht hG, hc⟩, ht _ (hG _ hc).1, ok _ (by simp [wsV]), ⟨hd.1, hd.2.1⟩, fun sig h => ?_, ok _ (by simp [wsV]), ok _ (by simp [wsV]), ok _ (by simp [wsV])⟩
  have h2 := hd.2.2
  rw [h] at h2
  exact (Option.some.inj h2).symm
theorem vx_runVW {y : MethodName} {bytes cc : ByteArray} {maxL nL mc ms n index : Nat} {ret : Option FieldType} {hh : List (Nat × Nat × Nat × Nat)} {ws : List Cond} {rm : Room} {Pc : Array Value → State → Prop} {Qc : Array Value → State → Outcome → State → Prop} {free : Addr → Prop} {Ts : List Cond} {own C : String} {b : Addr} {As rest : List Value} {g : JFrame}
    (S : CallFix p m c cc nL s args Ts own) (hM : Met l y ws rm Pc Qc mc ms free) (cw : vx_CVW R s args own C index y bytes maxL ret hh ws rm mc ms n) (hp : PreV s H C b Pc As)
    (hg : g.method = m) (hn : As.length = n) (hsize : g.locals.size = nL) (hstack : g.stack = As.reverse ++ .ref b :: rest) (hW : 2 * g.monitorRoom + (rest.map fun v => v.category).sum ≤ 8) (hdg : decode cc g.pc = .ok (.invokevirtual index, 3)) (hf : cells + mc ≤ R.cells ∧ slots + ms ≤ R.slots) :
    va_Run p l e R s m args below meth c H locs cells slots mc ms g rest (Qc (Value.ref b :: As).toArray) free := by
  obtain ⟨⟨hrc, hrs, hfr, hlo, hws, hcw⟩, hcode, hini, hy, hlen, hl, hin, hse⟩ := cw
  have hK : Back l R p e below s args y 3 8 (PreOf R mc ms Pc) (PostOf Qc mc ms free) := va_backW (hh := hh) (bytes := bytes) (maxL := maxL) (ret := ret) hM hp.1 hrc hrs hfr hlo hws hcw (fun a' U hW => word_at hW (Or.inl (by first | rfl | simp [Cond.onTables, Cond.keeps, Cond.steady])) hini)
  obtain ⟨hx, hb, hml, ho, -⟩ := S
  obtain ⟨-, ⟨cellB, hcB, hoB, hclB⟩, hPc⟩ := hp
  intro T hT X
  obtain ⟨v, vm₁, ⟨U', l2, c2, s2⟩, hW₁, X', ⟨g', mk, t, L, e1, e2, hq, h1, hL, h2, h3⟩, st⟩ := vx_callVW X hx (C := C) (hh := hh) (bytes := bytes) (maxL := maxL) (ret := ret) ho hl hin hse hcode hy hK (by rw [hT]; exact hcB) hoB hclB hg (hsize.trans hml.symm) (argsL := As) (rest := rest) (fun sig h => hn.trans (hlen sig h)) hstack hW (by rw [hb]; exact hdg)
    (fun vm₁ hW₁ => ⟨hf.1, hf.2, hPc (T.setVm vm₁) hT hW₁⟩)
  dsimp only [Pt.U, Pt.locs, Pt.cells, Pt.slots] at X' e1 e2 h1 h2 h3 st
  subst h1; subst h2; subst h3
  exact ⟨v, (T.setVm vm₁).calling g' mk (Value.ref b :: As).toArray, t, U', L, hT, X', hL, e1, e2, hq, st⟩
section
variable {y : MethodName} {bytes cc : ByteArray} {maxL nL mc ms n index : Nat} {ret : Option FieldType} {ws : List Cond} {rm : Room} {Pc : Array Value → State → Prop} {Qc : Array Value → State → Outcome → State → Prop} {XC : String → State → State → Prop} {free : Addr → Prop} {Ts : List Cond} {own C : String} {b : Addr} {As rest : List Value} {g : JFrame}
theorem vx_runVX {hh : List (Nat × Nat × Nat × Nat)} (S : CallFix p m c cc nL s args Ts own) (hM : vx_Met l y ws rm Pc Qc XC mc ms free) (cw : vx_CVW R s args own C index y bytes maxL ret hh ws rm mc ms n) (hp : PreV s H C b Pc As)
    (hg : g.method = m) (hn : As.length = n) (hsize : g.locals.size = nL) (hstack : g.stack = As.reverse ++ .ref b :: rest) (hW : 2 * g.monitorRoom + (rest.map fun v => v.category).sum ≤ 8) (hdg : decode cc g.pc = .ok (.invokevirtual index, 3)) (hf : cells + mc ≤ R.cells ∧ slots + ms ≤ R.slots) :
    vx_Run p l e R s m args below meth c H locs cells slots mc ms g rest (Qc (Value.ref b :: As).toArray) XC free := by
  obtain ⟨⟨hrc, hrs, hfr, hlo, hws, hcw⟩, hcode, hini, hy, hlen, hl, hin, hse⟩ := cw
  have hK : vx_Back l R p e below s args y 3 8 (PreOf R mc ms Pc) (PostOf Qc mc ms free) (vx_Post XC mc ms free) := vx_backW (hh := hh) (bytes := bytes) (maxL := maxL) (ret := ret) hM hp.1 hrc hrs hfr hlo hws hcw (fun a' U hW => word_at hW (Or.inl (by first | rfl | simp [Cond.onTables, Cond.keeps, Cond.steady])) hini)
  obtain ⟨hx, hb, hml, ho, -⟩ := S
  obtain ⟨-, ⟨cellB, hcB, hoB, hclB⟩, hPc⟩ := hp
  intro T hT X
  rcases vx_callVX X hx (C := C) (hh := hh) (bytes := bytes) (maxL := maxL) (ret := ret) ho hl hin hse hcode hy hK (by rw [hT]; exact hcB) hoB hclB hg (hsize.trans hml.symm) (argsL := As) (rest := rest) (fun sig h => hn.trans (hlen sig h)) hstack hW (by rw [hb]; exact hdg)
    (fun vm₁ hW₁ => ⟨hf.1, hf.2, hPc (T.setVm vm₁) hT hW₁⟩) with ⟨v, vm₁, ⟨U', l2, c2, s2⟩, hW₁, X', ⟨g', mk, t, L, e1, e2, hq, h1, hL, h2, h3⟩, st⟩ | ⟨q, vm₁, ⟨U', l2, c2, s2⟩, hW₁, X', ⟨g', mk, t, L, E, ce, e1, e2, hq, hce, hcv, hcl, h1, hL, h2, h3⟩, st⟩
  · dsimp only [Pt.U, Pt.locs, Pt.cells, Pt.slots] at X' e1 e2 h1 h2 h3 st
    subst h1; subst h2; subst h3
    exact Or.inl ⟨v, (T.setVm vm₁).calling g' mk (Value.ref b :: As).toArray, t, U', L, hT, X', hL, e1, e2, hq, st⟩
  · dsimp only [Pt.U, Pt.locs, Pt.cells, Pt.slots] at X' e1 e2 h1 h2 h3 st hcl
    subst h1; subst h2; subst h3
    exact Or.inr ⟨q, (T.setVm vm₁).calling g' mk (Value.ref b :: As).toArray, t, U', L, E, ce, hT, X', hL, e1, e2, hq, hce, hcv, vx_cls hW₁ hcl, st⟩
theorem vx_runSX {hh : List (Nat × Nat × Nat × Nat)} (S : CallFix p m c cc nL s args Ts own) (hM : vx_Met l y ws rm Pc Qc XC mc ms free) (cw : vx_CSW R s args own index y bytes maxL ret hh ws rm mc ms n) (hp : PreS s H Pc As)
    (hg : g.method = m) (hn : As.length = n) (hsize : g.locals.size = nL) (hstack : g.stack = As.reverse ++ rest) (hW : 2 * g.monitorRoom + (rest.map fun v => v.category).sum ≤ 8) (hdg : decode cc g.pc = .ok (.invokestatic index, 3)) (hf : cells + mc ≤ R.cells ∧ slots + ms ≤ R.slots) :
    vx_Run p l e R s m args below meth c H locs cells slots mc ms g rest (Qc As.toArray) XC free := by
  obtain ⟨⟨hrc, hrs, hfr, hlo, hws, hcw⟩, hcode, hini, hy, hlen, hl, hstt⟩ := cw
  have hK : vx_Back l R p e below s args y 3 8 (PreOf R mc ms Pc) (PostOf Qc mc ms free) (vx_Post XC mc ms free) := vx_backW (hh := hh) (bytes := bytes) (maxL := maxL) (ret := ret) hM hp.1 hrc hrs hfr hlo hws hcw (fun a' U hW => word_at hW (Or.inl (by first | rfl | simp [Cond.onTables, Cond.keeps, Cond.steady])) hini)
  obtain ⟨hx, hb, hml, ho, -⟩ := S
  intro T hT X
  rcases vx_callSX X hx (hh := hh) (bytes := bytes) (maxL := maxL) (ret := ret) ho hl hstt hini hcode hy hK hg (hsize.trans hml.symm) (argsL := As) (rest := rest) (fun sig h => hn.trans (hlen sig h)) hstack hW (by rw [hb]; exact hdg)
    (fun vm₁ hW₁ => ⟨hf.1, hf.2, hp.2 (T.setVm vm₁) hT hW₁⟩) with ⟨v, vm₁, ⟨U', l2, c2, s2⟩, hW₁, X', ⟨g', mk, t, L, e1, e2, hq, h1, hL, h2, h3⟩, st⟩ | ⟨q, vm₁, ⟨U', l2, c2, s2⟩, hW₁, X', ⟨g', mk, t, L, E, ce, e1, e2, hq, hce, hcv, hcl, h1, hL, h2, h3⟩, st⟩
  · dsimp only [Pt.U, Pt.locs, Pt.cells, Pt.slots] at X' e1 e2 h1 h2 h3 st
    subst h1; subst h2; subst h3
    exact Or.inl ⟨v, (T.setVm vm₁).calling g' mk As.toArray, t, U', L, hT, X', hL, e1, e2, hq, st⟩
  · dsimp only [Pt.U, Pt.locs, Pt.cells, Pt.slots] at X' e1 e2 h1 h2 h3 st hcl
    subst h1; subst h2; subst h3
    exact Or.inr ⟨q, (T.setVm vm₁).calling g' mk As.toArray, t, U', L, E, ce, hT, X', hL, e1, e2, hq, hce, hcv, vx_cls hW₁ hcl, st⟩
end
end VXH
theorem vx_ofWH {l : Launch} {y : MethodName} {ws ws' : List Cond} {rm : Room} {Pc : Array Value → State → Prop} {Qc : Array Value → State → Outcome → State → Prop} {XC : String → State → State → Prop} {mc ms : Nat} {free : Addr → Prop} {cc : ByteArray} {maxL : Nat} {ret : Option FieldType} {hh : List (Nat × Nat × Nat × Nat)}
    (hy : plainName y.cls = true) (hw : ws = Cond.codeWith y cc maxL ret hh :: ws')
    (body : ∀ p e s m args below meth c s₁, BodyLoose p l y (headSpec ws rm) cc maxL ret e s m args below meth c s₁ → c.maxLocals = maxL → Pc args s →
      W p l e (headSpec ws rm).room s m args below meth c s.heap [] 0 0 (vx_MQ below Qc XC args s mc ms free) (entryFrame m args maxL)) : vx_Met l y ws rm Pc Qc XC mc ms free := by
  refine MetFree.of_bodyS (code := cc) (maxLocals := maxL) (ret := ret) hy ?_ ?_
  · intro args s m h hn
    obtain ⟨m9, meth, c, hn9, h1, h2, h3, h4, -, h5, h6, -⟩ := Cond.codeWith_spec (atoms_spec (ws := ws) h _ (by rw [hw]; exact List.mem_cons_self))
    cases hn.symm.trans hn9
    exact ⟨meth, c, h1, h2, h3, h4, h5, h6⟩
  · intro p e s m args below meth c s₁ B hml hP _
    have hh0 : s₁.heap = s.heap := by rw [B.state]; rfl
    obtain ⟨t, a1, o, b1, b2, b3⟩ := body p e s m args below meth c s₁ B hml hP s₁ hh0 (Stand.of_body B)
    exact ⟨t, o, a1, b1, b2, b3⟩
/-! ===== END ===== -/
end
section
/-! THE WORLD AS A MAP: M a is the cell at address a, none where the world has no cell. -/
abbrev hM : Type := Nat → Option va_E
/-- the heap holds the cells of M, apart, all of them in A -/
def hw (D : va_G) (cl : List vw_C) (A : Nat → Prop) (M : hM) (H : Heap) : Prop :=
  ∃ (L : List Nat) (f : Nat → va_E), (∀ a, M a = if a ∈ L then some (f a) else none) ∧ va_P D cl ([] ++ va_pl L f) H ∧ va_D A ([] ++ va_pl L f)
/-- what a method that has the world M, in a heap of sz cells, may change -/
def hp_A (M : hM) (sz : Nat) : Nat → Prop := fun q => M q ≠ none ∨ sz ≤ q
theorem hw_in {M : hM} {L : List Nat} {f : Nat → va_E} (hM0 : ∀ a, M a = if a ∈ L then some (f a) else none) {b : Nat} {e : va_E} (hb : M b = some e) : b ∈ L ∧ f b = e := by
  have h := hM0 b
  rw [hb] at h
  by_cases hL : b ∈ L
  · rw [if_pos hL] at h
    exact ⟨hL, (Option.some.inj h).symm⟩
  · rw [if_neg hL] at h
    cases h
theorem hw_one {D : va_G} {cl : List vw_C} {A : Nat → Prop} {M : hM} {H : Heap} (h : hw D cl A M H) {a : Nat} {e : va_E} (he : M a = some e) : va_P D cl [(a, e)] H := by
  obtain ⟨L, f, hM0, hP, hD⟩ := h
  obtain ⟨ha, hfa⟩ := hw_in hM0 he
  obtain ⟨k, hk⟩ := va_pl_get (X := []) (f := f) ha
  rw [hfa] at hk
  intro j q hj
  cases j with
  | zero =>
    have : q = (a, e) := by simpa using hj.symm
    rw [this]
    exact hP k _ hk
  | succ j => simp at hj
theorem hw_open {D : va_G} {cl : List vw_C} {A : Nat → Prop} {M : hM} {H : Heap} (h : hw D cl A M H) {a : Nat} {e : va_E} (he : M a = some e) :
    ∃ (ws : va_W) (q0 : Nat), ws[q0]? = some (a, e) ∧ va_P D cl ws H ∧ va_D A ws ∧
      (∀ (e' : va_E) (H1 : Heap), va_P D cl (ws.set q0 (a, e')) H1 → va_D A (ws.set q0 (a, e')) → hw D cl A (va_up M a (some e')) H1) ∧ (∀ (b : Nat) (e2 : va_E), M b = some e2 → ∃ q1 : Nat, ws[q1]? = some (b, e2)) := by
  obtain ⟨L, f, hM0, hP, hD⟩ := h
  obtain ⟨ha, hfa⟩ := hw_in hM0 he
  obtain ⟨k, hk⟩ := va_pl_get (X := []) (f := f) ha
  refine ⟨[] ++ va_pl L f, k, by rw [hk, hfa], hP, hD, fun e' H1 h1 h2 => ?_, fun b e2 hb => ?_⟩
  · rw [va_pl_set hD ha hk] at h1 h2
    refine ⟨L, va_up f a e', fun b => ?_, h1, h2⟩
    by_cases hb : b = a
    · subst hb
      rw [va_up_self, va_up_self, if_pos ha]
    · rw [va_up_ne _ _ hb, va_up_ne _ _ hb]
      exact hM0 b
  · obtain ⟨hb1, hb2⟩ := hw_in hM0 hb
    obtain ⟨j, hj⟩ := va_pl_get (X := []) (f := f) hb1
    exact ⟨j, by rw [hj, hb2]⟩
theorem hw_make {D : va_G} {cl : List vw_C} {A : Nat → Prop} {M : hM} {H : Heap} (h : hw D cl A M H) :
    ∃ ws : va_W, va_P D cl ws H ∧ va_D A ws ∧ ∀ (q : Nat) (e : va_E) (H1 : Heap), va_P D cl (ws ++ [(q, e)]) H1 → va_D A (ws ++ [(q, e)]) → M q = none ∧ hw D cl A (va_up M q (some e)) H1 := by
  obtain ⟨L, f, hM0, hP, hD⟩ := h
  refine ⟨[] ++ va_pl L f, hP, hD, fun q e H1 h1 h2 => ?_⟩
  have hq : q ∉ L := by
    intro hL
    obtain ⟨k, hk⟩ := va_pl_get (X := []) (f := f) hL
    have hkl := (List.getElem?_eq_some_iff.mp hk).1
    have e1 : ([] ++ va_pl L f ++ [(q, e)])[k]? = some (q, f q) := by rw [List.getElem?_append_left hkl]; exact hk
    have e2 : ([] ++ va_pl L f ++ [(q, e)])[([] ++ va_pl L f).length]? = some (q, e) := by simp
    have := h2.1 _ _ _ _ e1 e2 rfl
    omega
  have hn : M q = none := by rw [hM0 q, if_neg hq]
  refine ⟨hn, L ++ [q], va_up f q e, fun b => ?_, ?_, ?_⟩
  · by_cases hb : b = q
    · subst hb
      rw [va_up_self, va_up_self, if_pos (by simp)]
    · rw [va_up_ne _ _ hb, va_up_ne _ _ hb, hM0 b]
      by_cases hL : b ∈ L
      · rw [if_pos hL, if_pos (List.mem_append_left _ hL)]
      · rw [if_neg hL, if_neg (by simp [hL, hb])]
  · have := va_pl_push (f := f) (e := e) hq
    show va_P D cl (va_pl (L ++ [q]) (va_up f q e)) H1
    rw [← this]
    exact h1
  · have := va_pl_push (f := f) (e := e) hq
    show va_D A (va_pl (L ++ [q]) (va_up f q e))
    rw [← this]
    exact h2
theorem hw.weaken {D : va_G} {cl : List vw_C} {A B : Nat → Prop} {M : hM} {H : Heap} (h : hw D cl A M H) (hAB : ∀ q, M q ≠ none → A q → B q) : hw D cl B M H := by
  obtain ⟨L, f, hM0, hP, hD⟩ := h
  refine ⟨L, f, hM0, hP, hD.1, fun k q hk => hAB q.1 ?_ (hD.2 k q hk)⟩
  obtain ⟨a, ha, rfl⟩ := List.mem_map.mp (List.mem_of_getElem? (show (va_pl L f)[k]? = some q from hk))
  rw [hM0 a, if_pos ha]
  exact fun z => by cases z
theorem hw.dom {D : va_G} {cl : List vw_C} {A : Nat → Prop} {M : hM} {H : Heap} (h : hw D cl A M H) {q : Nat} (hq : M q ≠ none) : A q ∧ q < H.size := by
  cases he : M q with
  | none => exact absurd he hq
  | some e =>
    obtain ⟨ws, q0, h1, h2, h3, -⟩ := hw_open h he
    exact ⟨h3.2 q0 _ h1, (h2 q0 _ h1).lt⟩
/-- the world as its own method has it -/
theorem hw.self {D : va_G} {cl : List vw_C} {A : Nat → Prop} {M : hM} {H : Heap} (h : hw D cl A M H) (sz : Nat) : hw D cl (hp_A M sz) M H := h.weaken fun _ hq _ => Or.inl hq
theorem hw.free {D : va_G} {cl : List vw_C} {A : Nat → Prop} {M : hM} {H H0 : Heap} {locs : List Loc} (h : hw D cl A M H) (hS : va_S A H0 H locs) (hA : ∀ q, H0.size ≤ q → A q) : ∀ q, hp_A M H.size q → A q := by
  intro q hq
  rcases hq with hq | hq
  · exact (h.dom hq).1
  · exact hA q (Nat.le_trans hS.1 hq)
end
section
/-! EIGHTHS: doubles that are whole numbers of eighths; nothing here speaks of the class. -/
/-- an eighth, in units of the least double -/
def u8 : Nat := 2 ^ 1071
theorem u8_pos : 0 < u8 := Nat.two_pow_pos _
/-- the double x is the number k/8 -/
def e8 (x : UInt64) (k : Int) : Prop := FP.Core.DFin x ∧ FP.Core.zval FP.Core.b64 (FP.Core.val64 x) = k * (u8 : Int)
/-- the same, k not below 0, and its sign bit is clear -/
def p8 (x : UInt64) (k : Nat) : Prop := e8 x (k : Int) ∧ x.toNat < 2 ^ 63
theorem e8_qm : FP.Core.b64.qmin = -1074 := by decide +kernel
theorem e8_roundM {sg : Bool} {n m : Nat} {e : Int} (h : n * 2 ^ (e - -3).toNat = m * 2 ^ (-3 - e).toNat) (hm : m < 2 ^ 53) :
    ∃ c q, FP.Core.round FP.Core.b64 (.fin sg n e) = .fin sg c q ∧ FP.Core.inUnits c q FP.Core.b64.qmin = m * u8 := by
  have hu : (2 : Nat) ^ (-3 - FP.Core.b64.qmin).toNat = u8 := congrArg (2 ^ ·) (show (-3 - FP.Core.b64.qmin).toNat = 1071 by decide +kernel)
  obtain ⟨c, q, h1, h2⟩ := FP.Core.round_exact FP.Core.good_b64 sg (c := m) (q := -3) hm (by decide +kernel) (by decide +kernel)
  refine ⟨c, q, ?_, ?_⟩
  · rw [← h1]
    exact FP.Core.roundRatio_congr (by decide) (by decide) (by rw [Nat.mul_one, Nat.mul_one]; exact h)
  · rw [h2]
    show m * 2 ^ (-3 - FP.Core.b64.qmin).toNat = m * u8
    rw [hu]
theorem e8_round {sg : Bool} {n : Nat} {e k : Int} (he : FP.Core.b64.qmin ≤ e) (h : FP.Core.signed sg (FP.Core.inUnits n e FP.Core.b64.qmin) = k * (u8 : Int)) (hk : k.natAbs < 2 ^ 53) :
    ∃ c q, FP.Core.round FP.Core.b64 (.fin sg n e) = .fin sg c q ∧ FP.Core.zval FP.Core.b64 (.fin sg c q) = k * (u8 : Int) := by
  have hu : (2 : Nat) ^ (-3 - FP.Core.b64.qmin).toNat = u8 := congrArg (2 ^ ·) (show (-3 - FP.Core.b64.qmin).toNat = 1071 by decide +kernel)
  have hn : FP.Core.inUnits n e FP.Core.b64.qmin = k.natAbs * u8 := by
    have h1 := congrArg Int.natAbs h
    rw [Int.natAbs_mul] at h1
    have h2 : (FP.Core.signed sg (FP.Core.inUnits n e FP.Core.b64.qmin)).natAbs = FP.Core.inUnits n e FP.Core.b64.qmin := by cases sg <;> simp [FP.Core.signed]
    rw [h2] at h1
    exact h1
  have hq : n * 2 ^ (e - FP.Core.b64.qmin).toNat = k.natAbs * 2 ^ (-3 - FP.Core.b64.qmin).toNat := by rw [hu]; exact hn
  have hQ : FP.Core.b64.qmin ≤ -3 := by decide +kernel
  obtain ⟨c, q, h1, h2⟩ := e8_roundM (sg := sg) (n := n) (m := k.natAbs) (e := e) (by
    generalize FP.Core.b64.qmin = Q at hq he hQ
    rcases Int.le_total (-3) e with h3 | h3
    · have a1 : (e - Q).toNat = (e - -3).toNat + (-3 - Q).toNat := by omega
      have a2 : (-3 - e).toNat = 0 := by omega
      rw [a1, Nat.pow_add, ← Nat.mul_assoc] at hq
      rw [a2, Nat.pow_zero, Nat.mul_one]
      exact Nat.eq_of_mul_eq_mul_right (Nat.two_pow_pos _) hq
    · have a1 : (-3 - Q).toNat = (-3 - e).toNat + (e - Q).toNat := by omega
      have a2 : (e - -3).toNat = 0 := by omega
      rw [a1, Nat.pow_add, ← Nat.mul_assoc] at hq
      rw [a2, Nat.pow_zero, Nat.mul_one]
      exact Nat.eq_of_mul_eq_mul_right (Nat.two_pow_pos _) hq) hk
  refine ⟨c, q, h1, ?_⟩
  show FP.Core.signed sg (FP.Core.inUnits c q FP.Core.b64.qmin) = _
  rw [h2, ← hn]
  exact h
theorem e8_add {x y : UInt64} {a b : Int} (hx : e8 x a) (hy : e8 y b) (h : (a + b).natAbs < 2 ^ 53) : e8 (FP.dadd x y) (a + b) := by
  obtain ⟨⟨s, c, q, vx⟩, zx⟩ := hx
  obtain ⟨⟨t, d, r, vy⟩, zy⟩ := hy
  have fx := FP.Core.val64_fits x
  have fy := FP.Core.val64_fits y
  rw [vx] at fx zx
  rw [vy] at fy zy
  obtain ⟨sg, n, e, h1, h2, h3⟩ := FP.Core.sum_units fx fy
  obtain ⟨c', q', h4, h5⟩ := e8_round h2 (by rw [h3, zx, zy, Int.add_mul]) h
  have hv : FP.Core.val64 (FP.dadd x y) = .fin sg c' q' := by
    rw [show FP.dadd x y = FP.Core.dadd x y from rfl, FP.Core.val64_dadd, vx, vy, h1, h4]
  exact ⟨⟨_, _, _, hv⟩, by rw [hv]; exact h5⟩
theorem e8_sub {x y : UInt64} {a b : Int} (hx : e8 x a) (hy : e8 y b) (h : (a - b).natAbs < 2 ^ 53) : e8 (FP.dsub x y) (a - b) := by
  obtain ⟨⟨s, c, q, vx⟩, zx⟩ := hx
  obtain ⟨⟨t, d, r, vy⟩, zy⟩ := hy
  have fx := FP.Core.val64_fits x
  have fy := FP.Core.negate_fits (FP.Core.val64_fits y)
  have zn := FP.Core.zval_negate FP.Core.b64 (FP.Core.val64 y)
  rw [zy, vy] at zn
  rw [vx] at fx zx
  rw [vy] at fy
  obtain ⟨sg, n, e, h1, h2, h3⟩ := FP.Core.sum_units (t := !t) fx fy
  obtain ⟨c', q', h4, h5⟩ := e8_round h2 (by rw [h3, zx]; exact (congrArg _ zn).trans (by rw [Int.sub_mul]; rfl)) h
  have hv : FP.Core.val64 (FP.dsub x y) = .fin sg c' q' := by
    rw [show FP.dsub x y = FP.Core.dsub x y from rfl, FP.Core.val64_dsub, vx, vy]
    exact (congrArg _ h1).trans h4
  exact ⟨⟨_, _, _, hv⟩, by rw [hv]; exact h5⟩
theorem e8_neg {x : UInt64} {a : Int} (hx : e8 x a) : e8 (FP.dneg x) (-a) := by
  obtain ⟨⟨s, c, q, vx⟩, zx⟩ := hx
  have hv : FP.Core.val64 (FP.dneg x) = FP.Core.negate (FP.Core.val64 x) := FP.val64_dneg x
  exact ⟨⟨!s, c, q, by rw [hv, vx]; rfl⟩, by rw [hv, FP.Core.zval_negate, zx, Int.neg_mul]⟩
theorem e8_cmp {x y : UInt64} {a b : Int} (hx : e8 x a) (hy : e8 y b) : FP.dcmp x y = some (compare a b) := by
  have h := FP.Core.dcmp_zval hx.1.ne_nan hy.1.ne_nan
  rw [hx.2, hy.2] at h
  have u : 0 < (u8 : Int) := Int.ofNat_lt.mpr u8_pos
  refine (show FP.dcmp x y = FP.Core.dcmp x y from rfl).trans (h.trans (congrArg some (FP.Core.compare_congr ?_ ?_)))
  · generalize (u8 : Int) = z at u
    constructor
    · intro q; exact Int.lt_of_mul_lt_mul_right q (Int.le_of_lt u)
    · intro q; exact Int.mul_lt_mul_of_pos_right q u
  · generalize (u8 : Int) = z at u
    constructor
    · intro q; exact Int.eq_of_mul_eq_mul_right (by omega) q
    · intro q; rw [q]
theorem e8_nn {x : UInt64} {a : Int} (hx : e8 x a) : vf_n64 x := by
  have h := (FP.Core.fin_bits x).mp hx.1
  unfold vf_n64
  rw [UInt64.le_iff_toNat_le, FP.Core.mask_toNat]
  have e : (0x7ff0000000000000 : UInt64).toNat = 9218868437227405312 := rfl
  rw [e]
  exact Nat.le_of_lt h
theorem e8_0 : e8 0 0 := ⟨⟨false, 0, FP.Core.b64.qmin, by decide +kernel⟩, by rw [FP.Core.zval64_zero]; simp⟩
/-- an int times an eighth -/
theorem e8_mul (v : Int32) : e8 (FP.dmul (FP.i2d v) 0x3FC0000000000000) v.toInt := by
  have hb : v.toInt.natAbs < 2 ^ 53 := by have := v.toInt_lt; have := v.le_toInt; omega
  obtain ⟨c, q, h1, h2⟩ := FP.Core.round_exact FP.Core.good_b64 (decide (v.toInt < 0)) (c := v.toInt.natAbs) (q := 0) hb (by decide +kernel) (by decide +kernel)
  have hv : FP.Core.val64 (FP.i2d v) = .fin (decide (v.toInt < 0)) c q := by
    rw [show FP.i2d v = FP.Core.i2d v from rfl, FP.Core.val64_i2d]; exact h1
  have hc : FP.Core.val64 0x3FC0000000000000 = .fin false (2 ^ 52) (-55) := by decide +kernel
  have fx := FP.Core.val64_fits (FP.i2d v)
  rw [hv] at fx
  have hq1 : FP.Core.b64.qmin ≤ q := fx.2.1
  have hU : c * 2 ^ (q - FP.Core.b64.qmin).toNat = v.toInt.natAbs * 2 ^ (0 - FP.Core.b64.qmin).toNat := h2
  rw [e8_qm] at hU hq1
  obtain ⟨c', q', h3, h4⟩ := e8_roundM (sg := (decide (v.toInt < 0) != false)) (n := c * 2 ^ 52) (m := v.toInt.natAbs) (e := q + -55) (by
    rcases Int.le_total 52 q with g | g
    · have a1 : (q - -1074).toNat = (q + -55 - -3).toNat + 52 + 1074 := by omega
      have a2 : (-3 - (q + -55)).toNat = 0 := by omega
      have a3 : (0 - (-1074 : Int)).toNat = 1074 := by decide
      rw [a1, a3, Nat.pow_add, ← Nat.mul_assoc] at hU
      have hU := Nat.eq_of_mul_eq_mul_right (Nat.two_pow_pos _) hU
      rw [a2, Nat.pow_zero, Nat.mul_one, ← hU, Nat.pow_add]
      rw [Nat.mul_assoc, Nat.mul_comm (2 ^ 52)]
    · obtain ⟨w, hw⟩ : ∃ w : Nat, (w : Int) = 52 - q := ⟨(52 - q).toNat, by omega⟩
      have a1 : (q - -1074).toNat + w = 52 + 1074 := by omega
      have a2 : (-3 - (q + -55)).toNat = w := by omega
      have a3 : (0 - (-1074 : Int)).toNat = 1074 := by decide
      have a4 : (q + -55 - -3).toNat = 0 := by omega
      rw [a3] at hU
      rw [a2, a4, Nat.pow_zero, Nat.mul_one]
      have hV : c * 2 ^ (q - -1074).toNat * 2 ^ w = v.toInt.natAbs * 2 ^ 1074 * 2 ^ w := by rw [hU]
      rw [Nat.mul_assoc, ← Nat.pow_add, a1, Nat.pow_add, ← Nat.mul_assoc, Nat.mul_assoc (v.toInt.natAbs), Nat.mul_comm (2 ^ 1074) (2 ^ w), ← Nat.mul_assoc] at hV
      exact Nat.eq_of_mul_eq_mul_right (Nat.two_pow_pos _) hV) hb
  have hm : FP.Core.val64 (FP.dmul (FP.i2d v) 0x3FC0000000000000) = .fin (decide (v.toInt < 0) != false) c' q' := by
    rw [show FP.dmul (FP.i2d v) 0x3FC0000000000000 = FP.Core.dmul (FP.i2d v) 0x3FC0000000000000 from rfl, FP.Core.val64_dmul, hv, hc]
    exact h3
  refine ⟨⟨_, _, _, hm⟩, ?_⟩
  rw [hm]
  show FP.Core.signed (decide (v.toInt < 0) != false) (FP.Core.inUnits c' q' FP.Core.b64.qmin) = _
  rw [h4, FP.Core.signed_mul]
  congr 1
  by_cases g : v.toInt < 0
  · rw [decide_eq_true g]
    show -((v.toInt.natAbs : Nat) : Int) = v.toInt
    omega
  · rw [decide_eq_false g]
    show ((v.toInt.natAbs : Nat) : Int) = v.toInt
    omega
theorem e8_pos {x : UInt64} {k : Nat} (hx : e8 x (k : Int)) (h : 0 < k) : p8 x k := by
  refine ⟨hx, Nat.lt_of_not_le fun hle => ?_⟩
  have h1 := FP.Core.zval_nonpos hx.1.ne_nan hle
  rw [hx.2] at h1
  have u : 0 < (u8 : Int) := Int.ofNat_lt.mpr u8_pos
  have h2 : 0 < (k : Int) * (u8 : Int) := Int.mul_pos (by omega) u
  omega
theorem p8_0 : p8 0 0 := ⟨e8_0, by decide⟩
theorem p8_inj {x y : UInt64} {k : Nat} (hx : p8 x k) (hy : p8 y k) : x = y := by
  have h := e8_cmp hx.1 hy.1
  rw [(FP.Core.compare_eq_iff (k : Int) k).mpr rfl] at h
  have h2 := (FP.Core.dcmp_key hx.1.1.ne_nan hy.1.1.ne_nan).symm.trans h
  rw [Option.some.injEq, FP.Core.compare_eq_iff] at h2
  have a := hx.2
  have b := hy.2
  unfold FP.Core.dkey at h2
  rw [if_neg (by omega), if_neg (by omega)] at h2
  exact UInt64.toNat.inj (by omega)
theorem p8_add {x y : UInt64} {a b : Nat} (hx : p8 x a) (hy : p8 y b) (h : a + b < 2 ^ 53) : p8 (FP.dadd x y) (a + b) := by
  have h1 : e8 (FP.dadd x y) ((a + b : Nat) : Int) := by
    have := e8_add hx.1 hy.1 (by omega)
    rwa [← Int.natCast_add] at this
  rcases Nat.eq_zero_or_pos (a + b) with g | g
  · have ha : a = 0 := by omega
    have hb : b = 0 := by omega
    subst ha; subst hb
    rw [p8_inj hx p8_0, p8_inj hy p8_0]
    exact ⟨by rw [show FP.dadd 0 0 = 0 by decide +kernel]; exact e8_0, by decide +kernel⟩
  · exact e8_pos h1 g
theorem p8_sub {x y : UInt64} {a b : Nat} (hx : p8 x a) (hy : p8 y b) (h : b ≤ a) (ha : a < 2 ^ 53) : p8 (FP.dsub x y) (a - b) := by
  have h1 : e8 (FP.dsub x y) ((a - b : Nat) : Int) := by
    have := e8_sub hx.1 hy.1 (by omega)
    rwa [← Int.ofNat_sub h] at this
  rcases Nat.eq_zero_or_pos (a - b) with g | g
  · have hb : a = b := by omega
    subst hb
    have e := p8_inj hx hy
    subst e
    refine ⟨h1, ?_⟩
    have e1 := h1.2
    rw [Nat.sub_self] at e1
    obtain ⟨⟨s, c, q, vx⟩, -⟩ := hx.1
    have hv : FP.Core.val64 (FP.dsub x x) = FP.Core.val64 0 := by
      rw [show FP.dsub x x = FP.Core.dsub x x from rfl, FP.Core.val64_dsub, vx, FP.Core.val64_zero]
      have hz : FP.Core.sumUnits s c q (!s) c q (min q q) = 0 := by
        unfold FP.Core.sumUnits; cases s <;> simp [FP.Core.signed] <;> omega
      show FP.Core.round FP.Core.b64 (.fin (FP.Core.sumSign s (!s) (FP.Core.sumUnits s c q (!s) c q (min q q))) (FP.Core.sumUnits s c q (!s) c q (min q q)).natAbs (min q q)) = _
      rw [hz]
      cases s <;> rfl
    have := FP.Core.val64_inj (by rw [hv, FP.Core.val64_zero]; exact FP.Core.Datum.noConfusion) hv
    rw [this]
    decide
  · exact e8_pos h1 g
/-- a sum of eighths divided by a count -/
theorem e8_div {x : UInt64} {a : Int} {n : Int32} (hx : e8 x a) (hn : n ≠ 0) : vf_n64 (FP.ddiv x (FP.i2d n)) := by
  have hz : ¬ FP.Core.DZero (FP.i2d n) := fun h => FP.Core.i2d_ne_zero hn ((FP.Core.zero_bits2 _).mp h)
  have h := FP.Core.ddiv_out (a := x) (b := FP.i2d n) hx.1.notNaN (FP.Core.i2d_fin n) hz
  have h2 : FP.Core.val64 (FP.ddiv x (FP.i2d n)) ≠ .nan := (FP.Core.notNaN_iff _).mp h
  have h3 := (FP.Core.ne_nan _).mp h2
  unfold vf_n64
  rw [UInt64.le_iff_toNat_le, FP.Core.mask_toNat]
  exact h3
/-- bits of no NaN are equal to themselves -/
theorem nn_self {x : UInt64} (h : vf_n64 x) : FP.dcmp x x = some .eq := by
  unfold vf_n64 at h
  rw [UInt64.le_iff_toNat_le, FP.Core.mask_toNat] at h
  have h2 : FP.Core.val64 x ≠ .nan := (FP.Core.ne_nan _).mpr h
  exact FP.Core.dcmp_eq.mpr ⟨h2, h2, rfl⟩
theorem e8_m1 : e8 0xBFF0000000000000 (-8) := ⟨⟨true, 2 ^ 52, -52, by decide +kernel⟩, by decide +kernel⟩
theorem e8_1 : e8 FP.dconst1 8 := ⟨⟨false, 2 ^ 52, -52, by decide +kernel⟩, by decide +kernel⟩
theorem e8_1000 : e8 0x408F400000000000 8000 := ⟨⟨false, 0x1F400000000000, -43, by decide +kernel⟩, by decide +kernel⟩
theorem e8_m1000 : e8 0xC08F400000000000 (-8000) := ⟨⟨true, 0x1F400000000000, -43, by decide +kernel⟩, by decide +kernel⟩
end
section
/-! THE WORDS: what the tables say, as a list BIG of those that any state keeps; a row a word. -/
def BIG : List Cond := lw_tbl.filter goodWord
theorem BIG_of {w : Cond} (i : Nat) (h : lw_tbl[i]? = some w) (hg : goodWord w = true) : w ∈ BIG := List.mem_filter.mpr ⟨List.mem_of_getElem? h, hg⟩
theorem BIG_good {w : Cond} (h : w ∈ BIG) : goodWord w = true := (List.mem_filter.mp h).2
theorem BIG_in {w : Cond} (h : w ∈ BIG) : w ∈ lw_tbl := (List.mem_filter.mp h).1
theorem bw_0 : (Jvm.Cond.initialized "ChannelHallLaw") ∈ BIG := BIG_of 37 (by decide +kernel) (by decide +kernel)
theorem bw_1 : (Jvm.Cond.initialized "ChannelHall") ∈ BIG := BIG_of 38 (by decide +kernel) (by decide +kernel)
theorem bw_2 : (Jvm.Cond.initialized "ChannelHall$Worker") ∈ BIG := BIG_of 39 (by decide +kernel) (by decide +kernel)
theorem bw_3 : (Jvm.Cond.initialized "java/lang/Enum") ∈ BIG := BIG_of 40 (by decide +kernel) (by decide +kernel)
theorem bw_4 : (Jvm.Cond.initialized "ChannelHall$Role") ∈ BIG := BIG_of 41 (by decide +kernel) (by decide +kernel)
theorem bw_5 : (Jvm.Cond.initialized "ChannelHallModel") ∈ BIG := BIG_of 42 (by decide +kernel) (by decide +kernel)
theorem bw_6 : (Jvm.Cond.initialized "java/lang/Throwable") ∈ BIG := BIG_of 43 (by decide +kernel) (by decide +kernel)
theorem bw_7 : (Jvm.Cond.initialized "java/lang/Exception") ∈ BIG := BIG_of 44 (by decide +kernel) (by decide +kernel)
theorem bw_8 : (Jvm.Cond.initialized "java/lang/RuntimeException") ∈ BIG := BIG_of 45 (by decide +kernel) (by decide +kernel)
theorem bw_9 : (Jvm.Cond.initialized "java/lang/IllegalArgumentException") ∈ BIG := BIG_of 46 (by decide +kernel) (by decide +kernel)
theorem bw_10 : (Jvm.Cond.initialized "java/lang/IllegalStateException") ∈ BIG := BIG_of 47 (by decide +kernel) (by decide +kernel)
theorem bw_11 : (Jvm.Cond.initialized "ChannelHall$Channel") ∈ BIG := BIG_of 48 (by decide +kernel) (by decide +kernel)
theorem bw_12 : (Jvm.Cond.initialized "java/util/AbstractCollection") ∈ BIG := BIG_of 49 (by decide +kernel) (by decide +kernel)
theorem bw_13 : (Jvm.Cond.initialized "java/util/AbstractList") ∈ BIG := BIG_of 50 (by decide +kernel) (by decide +kernel)
theorem bw_14 : (Jvm.Cond.initialized "java/util/ArrayList") ∈ BIG := BIG_of 51 (by decide +kernel) (by decide +kernel)
theorem bw_15 : (Jvm.Cond.initialized "java/util/NoSuchElementException") ∈ BIG := BIG_of 52 (by decide +kernel) (by decide +kernel)
theorem bw_16 : (Jvm.Cond.initialized "java/lang/UnsupportedOperationException") ∈ BIG := BIG_of 53 (by decide +kernel) (by decide +kernel)
theorem bw_17 : (Jvm.Cond.initialized "java/util/Objects") ∈ BIG := BIG_of 54 (by decide +kernel) (by decide +kernel)
theorem bw_18 : (Jvm.Cond.initialized "jdk/internal/util/Preconditions") ∈ BIG := BIG_of 55 (by decide +kernel) (by decide +kernel)
theorem bw_19 : (Jvm.Cond.initialized "jdk/internal/util/ArraysSupport") ∈ BIG := BIG_of 56 (by decide +kernel) (by decide +kernel)
theorem bw_20 : (Jvm.Cond.initialized "java/lang/Math") ∈ BIG := BIG_of 57 (by decide +kernel) (by decide +kernel)
theorem bw_21 : (Jvm.Cond.initialized "java/util/Arrays") ∈ BIG := BIG_of 58 (by decide +kernel) (by decide +kernel)
theorem bw_22 : (Jvm.Cond.initialized "java/lang/System") ∈ BIG := BIG_of 59 (by decide +kernel) (by decide +kernel)
theorem bw_23 : (Jvm.Cond.initialized "ChannelHall$Item") ∈ BIG := BIG_of 60 (by decide +kernel) (by decide +kernel)
theorem bw_24 : (Jvm.Cond.initialized "java/lang/IndexOutOfBoundsException") ∈ BIG := BIG_of 61 (by decide +kernel) (by decide +kernel)
theorem bw_31 : (Jvm.Cond.initialized "java/lang/ArithmeticException") ∈ BIG := BIG_of 68 (by decide +kernel) (by decide +kernel)
theorem bw_32 : (Jvm.Cond.classLink "ChannelHallLaw" (8 : Nat) "ChannelHall") ∈ BIG := BIG_of 69 (by decide +kernel) (by decide +kernel)
theorem bw_33 : (Jvm.Cond.instantiable "ChannelHall" (4 : Nat)) ∈ BIG := BIG_of 70 (by decide +kernel) (by decide +kernel)
theorem bw_34 : (Jvm.Cond.methodLink "ChannelHallLaw" (68 : Nat) ({ cls := "ChannelHall", name := "<init>", desc := "()V" } : Jvm.MethodName)) ∈ BIG := BIG_of 71 (by decide +kernel) (by decide +kernel)
theorem bw_35 : (Jvm.Cond.instanceMethod ({ cls := "ChannelHall", name := "<init>", desc := "()V" } : Jvm.MethodName)) ∈ BIG := BIG_of 72 (by decide +kernel) (by decide +kernel)
theorem bw_36 : (Jvm.Cond.code ({ cls := "ChannelHall", name := "<init>", desc := "()V" } : Jvm.MethodName) prog_1_method_1_code (2 : Nat) (Option.none : Option Jvm.ClassFile.FieldType)) ∈ BIG := BIG_of 73 (by decide +kernel) (by decide +kernel)
theorem bw_37 : (Jvm.Cond.methodLink "ChannelHall" (1 : Nat) ({ cls := "java/lang/Object", name := "<init>", desc := "()V" } : Jvm.MethodName)) ∈ BIG := BIG_of 74 (by decide +kernel) (by decide +kernel)
theorem bw_38 : (Jvm.Cond.instanceMethod ({ cls := "java/lang/Object", name := "<init>", desc := "()V" } : Jvm.MethodName)) ∈ BIG := BIG_of 75 (by decide +kernel) (by decide +kernel)
theorem bw_39 : (Jvm.Cond.code ({ cls := "java/lang/Object", name := "<init>", desc := "()V" } : Jvm.MethodName) object_method_1_code (1 : Nat) (Option.none : Option Jvm.ClassFile.FieldType)) ∈ BIG := BIG_of 76 (by decide +kernel) (by decide +kernel)
theorem bw_40 : (Jvm.Cond.classLink "ChannelHall" (9 : Nat) "ChannelHall$Worker") ∈ BIG := BIG_of 77 (by decide +kernel) (by decide +kernel)
theorem bw_42 : (Jvm.Cond.classLink "ChannelHall" (15 : Nat) "ChannelHall$Channel") ∈ BIG := BIG_of 79 (by decide +kernel) (by decide +kernel)
theorem bw_44 : (Jvm.Cond.instantiable "ChannelHall$Worker" (11 : Nat)) ∈ BIG := BIG_of 81 (by decide +kernel) (by decide +kernel)
theorem bw_45 : (Jvm.Cond.methodLink "ChannelHall" (29 : Nat) ({ cls := "ChannelHall$Worker", name := "<init>", desc := "(I)V" } : Jvm.MethodName)) ∈ BIG := BIG_of 82 (by decide +kernel) (by decide +kernel)
theorem bw_46 : (Jvm.Cond.instanceMethod ({ cls := "ChannelHall$Worker", name := "<init>", desc := "(I)V" } : Jvm.MethodName)) ∈ BIG := BIG_of 83 (by decide +kernel) (by decide +kernel)
theorem bw_47 : (Jvm.Cond.code ({ cls := "ChannelHall$Worker", name := "<init>", desc := "(I)V" } : Jvm.MethodName) prog_5_method_1_code (2 : Nat) (Option.none : Option Jvm.ClassFile.FieldType)) ∈ BIG := BIG_of 84 (by decide +kernel) (by decide +kernel)
theorem bw_48 : (Jvm.Cond.methodLink "ChannelHall$Worker" (3 : Nat) ({ cls := "java/lang/Object", name := "<init>", desc := "()V" } : Jvm.MethodName)) ∈ BIG := BIG_of 85 (by decide +kernel) (by decide +kernel)
theorem bw_49 : (Jvm.Cond.fieldLink "ChannelHall$Worker" (29 : Nat) "ChannelHall$Role" "PARTNER" "LChannelHall$Role;") ∈ BIG := BIG_of 86 (by decide +kernel) (by decide +kernel)
theorem bw_51 : (Jvm.Cond.fieldLink "ChannelHall$Worker" (51 : Nat) "ChannelHall$Worker" "number" "I") ∈ BIG := BIG_of 88 (by decide +kernel) (by decide +kernel)
theorem bw_52 : (Jvm.Cond.fieldLink "ChannelHall$Channel" (88 : Nat) "ChannelHall$Worker" "number" "I") ∈ BIG := BIG_of 89 (by decide +kernel) (by decide +kernel)
theorem bw_53 : (Jvm.Cond.fieldLink "ChannelHall$Worker" (9 : Nat) "ChannelHall$Worker" "flagged" "Z") ∈ BIG := BIG_of 90 (by decide +kernel) (by decide +kernel)
theorem bw_54 : (Jvm.Cond.fieldLink "ChannelHall" (175 : Nat) "ChannelHall$Worker" "flagged" "Z") ∈ BIG := BIG_of 91 (by decide +kernel) (by decide +kernel)
theorem bw_55 : (Jvm.Cond.fieldLink "ChannelHall$Worker" (15 : Nat) "ChannelHall$Worker" "outcome" "I") ∈ BIG := BIG_of 92 (by decide +kernel) (by decide +kernel)
theorem bw_56 : (Jvm.Cond.fieldLink "ChannelHall" (181 : Nat) "ChannelHall$Worker" "outcome" "I") ∈ BIG := BIG_of 93 (by decide +kernel) (by decide +kernel)
theorem bw_57 : (Jvm.Cond.fieldLink "ChannelHall$Channel" (144 : Nat) "ChannelHall$Worker" "outcome" "I") ∈ BIG := BIG_of 94 (by decide +kernel) (by decide +kernel)
theorem bw_58 : (Jvm.Cond.fieldLink "ChannelHall$Worker" (19 : Nat) "ChannelHall$Worker" "hasGot" "Z") ∈ BIG := BIG_of 95 (by decide +kernel) (by decide +kernel)
theorem bw_59 : (Jvm.Cond.fieldLink "ChannelHall" (194 : Nat) "ChannelHall$Worker" "hasGot" "Z") ∈ BIG := BIG_of 96 (by decide +kernel) (by decide +kernel)
theorem bw_60 : (Jvm.Cond.fieldLink "ChannelHall$Worker" (22 : Nat) "ChannelHall$Worker" "gotValue" "I") ∈ BIG := BIG_of 97 (by decide +kernel) (by decide +kernel)
theorem bw_61 : (Jvm.Cond.fieldLink "ChannelHall" (200 : Nat) "ChannelHall$Worker" "gotValue" "I") ∈ BIG := BIG_of 98 (by decide +kernel) (by decide +kernel)
theorem bw_62 : (Jvm.Cond.fieldLink "ChannelHall$Worker" (25 : Nat) "ChannelHall$Worker" "place" "LChannelHall$Channel;") ∈ BIG := BIG_of 99 (by decide +kernel) (by decide +kernel)
theorem bw_63 : (Jvm.Cond.fieldLink "ChannelHall" (171 : Nat) "ChannelHall$Worker" "place" "LChannelHall$Channel;") ∈ BIG := BIG_of 100 (by decide +kernel) (by decide +kernel)
theorem bw_64 : (Jvm.Cond.fieldLink "ChannelHall$Channel" (140 : Nat) "ChannelHall$Worker" "place" "LChannelHall$Channel;") ∈ BIG := BIG_of 101 (by decide +kernel) (by decide +kernel)
theorem bw_65 : (Jvm.Cond.fieldLink "ChannelHall$Worker" (35 : Nat) "ChannelHall$Worker" "role" "LChannelHall$Role;") ∈ BIG := BIG_of 102 (by decide +kernel) (by decide +kernel)
theorem bw_66 : (Jvm.Cond.fieldLink "ChannelHall$Channel" (85 : Nat) "ChannelHall$Worker" "role" "LChannelHall$Role;") ∈ BIG := BIG_of 103 (by decide +kernel) (by decide +kernel)
theorem bw_67 : (Jvm.Cond.fieldLink "ChannelHall" (241 : Nat) "ChannelHall$Worker" "role" "LChannelHall$Role;") ∈ BIG := BIG_of 104 (by decide +kernel) (by decide +kernel)
theorem bw_68 : (Jvm.Cond.fieldLink "ChannelHall$Worker" (38 : Nat) "ChannelHall$Worker" "offeredValue" "I") ∈ BIG := BIG_of 105 (by decide +kernel) (by decide +kernel)
theorem bw_69 : (Jvm.Cond.fieldLink "ChannelHall" (132 : Nat) "ChannelHall$Worker" "offeredValue" "I") ∈ BIG := BIG_of 106 (by decide +kernel) (by decide +kernel)
theorem bw_70 : (Jvm.Cond.fieldLink "ChannelHall$Channel" (108 : Nat) "ChannelHall$Worker" "offeredValue" "I") ∈ BIG := BIG_of 107 (by decide +kernel) (by decide +kernel)
theorem bw_71 : (Jvm.Cond.fieldLink "ChannelHall$Worker" (41 : Nat) "ChannelHall$Worker" "offeredKey" "D") ∈ BIG := BIG_of 108 (by decide +kernel) (by decide +kernel)
theorem bw_72 : (Jvm.Cond.fieldLink "ChannelHall$Channel" (114 : Nat) "ChannelHall$Worker" "offeredKey" "D") ∈ BIG := BIG_of 109 (by decide +kernel) (by decide +kernel)
theorem bw_73 : (Jvm.Cond.fieldLink "ChannelHall$Worker" (45 : Nat) "ChannelHall$Worker" "hasEnd" "Z") ∈ BIG := BIG_of 110 (by decide +kernel) (by decide +kernel)
theorem bw_74 : (Jvm.Cond.fieldLink "ChannelHall" (244 : Nat) "ChannelHall$Worker" "hasEnd" "Z") ∈ BIG := BIG_of 111 (by decide +kernel) (by decide +kernel)
theorem bw_75 : (Jvm.Cond.fieldLink "ChannelHall$Worker" (48 : Nat) "ChannelHall$Worker" "end" "D") ∈ BIG := BIG_of 112 (by decide +kernel) (by decide +kernel)
theorem bw_76 : (Jvm.Cond.fieldLink "ChannelHall" (247 : Nat) "ChannelHall$Worker" "end" "D") ∈ BIG := BIG_of 113 (by decide +kernel) (by decide +kernel)
theorem bw_77 : (Jvm.Cond.laysFinal "ChannelHall$Worker" "ChannelHall$Worker" "number" "I") ∈ BIG := BIG_of 114 (by decide +kernel) (by decide +kernel)
theorem bw_79 : (Jvm.Cond.lays "ChannelHall$Worker" "ChannelHall$Worker" "flagged" "Z") ∈ BIG := BIG_of 116 (by decide +kernel) (by decide +kernel)
theorem bw_81 : (Jvm.Cond.lays "ChannelHall$Worker" "ChannelHall$Worker" "outcome" "I") ∈ BIG := BIG_of 118 (by decide +kernel) (by decide +kernel)
theorem bw_83 : (Jvm.Cond.lays "ChannelHall$Worker" "ChannelHall$Worker" "hasGot" "Z") ∈ BIG := BIG_of 120 (by decide +kernel) (by decide +kernel)
theorem bw_85 : (Jvm.Cond.lays "ChannelHall$Worker" "ChannelHall$Worker" "gotValue" "I") ∈ BIG := BIG_of 122 (by decide +kernel) (by decide +kernel)
theorem bw_87 : (Jvm.Cond.lays "ChannelHall$Worker" "ChannelHall$Worker" "place" "LChannelHall$Channel;") ∈ BIG := BIG_of 124 (by decide +kernel) (by decide +kernel)
theorem bw_89 : (Jvm.Cond.lays "ChannelHall$Worker" "ChannelHall$Worker" "role" "LChannelHall$Role;") ∈ BIG := BIG_of 126 (by decide +kernel) (by decide +kernel)
theorem bw_91 : (Jvm.Cond.lays "ChannelHall$Worker" "ChannelHall$Worker" "offeredValue" "I") ∈ BIG := BIG_of 128 (by decide +kernel) (by decide +kernel)
theorem bw_93 : (Jvm.Cond.lays "ChannelHall$Worker" "ChannelHall$Worker" "offeredKey" "D") ∈ BIG := BIG_of 130 (by decide +kernel) (by decide +kernel)
theorem bw_95 : (Jvm.Cond.lays "ChannelHall$Worker" "ChannelHall$Worker" "hasEnd" "Z") ∈ BIG := BIG_of 132 (by decide +kernel) (by decide +kernel)
theorem bw_97 : (Jvm.Cond.lays "ChannelHall$Worker" "ChannelHall$Worker" "end" "D") ∈ BIG := BIG_of 134 (by decide +kernel) (by decide +kernel)
theorem bw_100 : (Jvm.Cond.fieldLink "ChannelHall" (11 : Nat) "ChannelHall" "workers" "[LChannelHall$Worker;") ∈ BIG := BIG_of 137 (by decide +kernel) (by decide +kernel)
theorem bw_101 : (Jvm.Cond.fieldLink "ChannelHall" (17 : Nat) "ChannelHall" "channels" "[LChannelHall$Channel;") ∈ BIG := BIG_of 138 (by decide +kernel) (by decide +kernel)
theorem bw_102 : (Jvm.Cond.fieldLink "ChannelHall" (21 : Nat) "ChannelHall" "made" "I") ∈ BIG := BIG_of 139 (by decide +kernel) (by decide +kernel)
theorem bw_103 : (Jvm.Cond.fieldLink "ChannelHall" (25 : Nat) "ChannelHall" "now" "D") ∈ BIG := BIG_of 140 (by decide +kernel) (by decide +kernel)
theorem bw_104 : (Jvm.Cond.laysFinal "ChannelHall" "ChannelHall" "workers" "[LChannelHall$Worker;") ∈ BIG := BIG_of 141 (by decide +kernel) (by decide +kernel)
theorem bw_106 : (Jvm.Cond.laysFinal "ChannelHall" "ChannelHall" "channels" "[LChannelHall$Channel;") ∈ BIG := BIG_of 143 (by decide +kernel) (by decide +kernel)
theorem bw_108 : (Jvm.Cond.lays "ChannelHall" "ChannelHall" "made" "I") ∈ BIG := BIG_of 145 (by decide +kernel) (by decide +kernel)
theorem bw_110 : (Jvm.Cond.lays "ChannelHall" "ChannelHall" "now" "D") ∈ BIG := BIG_of 147 (by decide +kernel) (by decide +kernel)
theorem bw_113 : (Jvm.Cond.methodLink "ChannelHallLaw" (127 : Nat) ({ cls := "ChannelHall", name := "time", desc := "()D" } : Jvm.MethodName)) ∈ BIG := BIG_of 150 (by decide +kernel) (by decide +kernel)
theorem bw_114 : (Jvm.Cond.instanceMethod ({ cls := "ChannelHall", name := "time", desc := "()D" } : Jvm.MethodName)) ∈ BIG := BIG_of 151 (by decide +kernel) (by decide +kernel)
theorem bw_115 : (Jvm.Cond.selects "ChannelHall" ({ cls := "ChannelHall", name := "time", desc := "()D" } : Jvm.MethodName) ({ cls := "ChannelHall", name := "time", desc := "()D" } : Jvm.MethodName)) ∈ BIG := BIG_of 152 (by decide +kernel) (by decide +kernel)
theorem bw_116 : (Jvm.Cond.code ({ cls := "ChannelHall", name := "time", desc := "()D" } : Jvm.MethodName) prog_1_method_15_code (1 : Nat) (Option.some Jvm.ClassFile.FieldType.double)) ∈ BIG := BIG_of 153 (by decide +kernel) (by decide +kernel)
theorem bw_117 : (Jvm.Cond.methodLink "ChannelHallLaw" (72 : Nat) ({ cls := "ChannelHallLaw", name := "make", desc := "(LChannelHall;III[J)I" } : Jvm.MethodName)) ∈ BIG := BIG_of 154 (by decide +kernel) (by decide +kernel)
theorem bw_118 : (Jvm.Cond.static ({ cls := "ChannelHallLaw", name := "make", desc := "(LChannelHall;III[J)I" } : Jvm.MethodName)) ∈ BIG := BIG_of 155 (by decide +kernel) (by decide +kernel)
theorem bw_119 : (Jvm.Cond.codeWith ({ cls := "ChannelHallLaw", name := "make", desc := "(LChannelHall;III[J)I" } : Jvm.MethodName) method_3_code (6 : Nat) (Option.some Jvm.ClassFile.FieldType.int) [((0 : Nat), (12 : Nat), (15 : Nat), (13 : Nat)), ((0 : Nat), (12 : Nat), (19 : Nat), (15 : Nat))]) ∈ BIG := BIG_of 156 (by decide +kernel) (by decide +kernel)
theorem bw_120 : (Jvm.Cond.classLink "ChannelHallLaw" (13 : Nat) "java/lang/IllegalArgumentException") ∈ BIG := BIG_of 157 (by decide +kernel) (by decide +kernel)
theorem bw_121 : (Jvm.Cond.classLink "ChannelHallLaw" (15 : Nat) "java/lang/IllegalStateException") ∈ BIG := BIG_of 158 (by decide +kernel) (by decide +kernel)
theorem bw_122 : (Jvm.Cond.methodLink "ChannelHallLaw" (7 : Nat) ({ cls := "ChannelHall", name := "make", desc := "(III)I" } : Jvm.MethodName)) ∈ BIG := BIG_of 159 (by decide +kernel) (by decide +kernel)
theorem bw_123 : (Jvm.Cond.instanceMethod ({ cls := "ChannelHall", name := "make", desc := "(III)I" } : Jvm.MethodName)) ∈ BIG := BIG_of 160 (by decide +kernel) (by decide +kernel)
theorem bw_124 : (Jvm.Cond.selects "ChannelHall" ({ cls := "ChannelHall", name := "make", desc := "(III)I" } : Jvm.MethodName) ({ cls := "ChannelHall", name := "make", desc := "(III)I" } : Jvm.MethodName)) ∈ BIG := BIG_of 161 (by decide +kernel) (by decide +kernel)
theorem bw_125 : (Jvm.Cond.code ({ cls := "ChannelHall", name := "make", desc := "(III)I" } : Jvm.MethodName) prog_1_method_2_code (4 : Nat) (Option.some Jvm.ClassFile.FieldType.int)) ∈ BIG := BIG_of 162 (by decide +kernel) (by decide +kernel)
theorem bw_126 : (Jvm.Cond.methodLink "ChannelHall" (32 : Nat) ({ cls := "ChannelHall", name := "isChannel", desc := "(I)Z" } : Jvm.MethodName)) ∈ BIG := BIG_of 163 (by decide +kernel) (by decide +kernel)
theorem bw_127 : (Jvm.Cond.static ({ cls := "ChannelHall", name := "isChannel", desc := "(I)Z" } : Jvm.MethodName)) ∈ BIG := BIG_of 164 (by decide +kernel) (by decide +kernel)
theorem bw_128 : (Jvm.Cond.code ({ cls := "ChannelHall", name := "isChannel", desc := "(I)Z" } : Jvm.MethodName) prog_1_method_19_code (1 : Nat) (Option.some Jvm.ClassFile.FieldType.boolean)) ∈ BIG := BIG_of 165 (by decide +kernel) (by decide +kernel)
theorem bw_129 : (Jvm.Cond.methodLink "ChannelHall" (36 : Nat) ({ cls := "ChannelHall", name := "isSize", desc := "(II)Z" } : Jvm.MethodName)) ∈ BIG := BIG_of 166 (by decide +kernel) (by decide +kernel)
theorem bw_130 : (Jvm.Cond.static ({ cls := "ChannelHall", name := "isSize", desc := "(II)Z" } : Jvm.MethodName)) ∈ BIG := BIG_of 167 (by decide +kernel) (by decide +kernel)
theorem bw_131 : (Jvm.Cond.code ({ cls := "ChannelHall", name := "isSize", desc := "(II)Z" } : Jvm.MethodName) prog_1_method_21_code (2 : Nat) (Option.some Jvm.ClassFile.FieldType.boolean)) ∈ BIG := BIG_of 168 (by decide +kernel) (by decide +kernel)
theorem bw_132 : (Jvm.Cond.methodLink "ChannelHall" (40 : Nat) ({ cls := "ChannelHall", name := "require", desc := "(Z)V" } : Jvm.MethodName)) ∈ BIG := BIG_of 169 (by decide +kernel) (by decide +kernel)
theorem bw_133 : (Jvm.Cond.static ({ cls := "ChannelHall", name := "require", desc := "(Z)V" } : Jvm.MethodName)) ∈ BIG := BIG_of 170 (by decide +kernel) (by decide +kernel)
theorem bw_134 : (Jvm.Cond.code ({ cls := "ChannelHall", name := "require", desc := "(Z)V" } : Jvm.MethodName) prog_1_method_16_code (1 : Nat) (Option.none : Option Jvm.ClassFile.FieldType)) ∈ BIG := BIG_of 171 (by decide +kernel) (by decide +kernel)
theorem bw_135 : (Jvm.Cond.classLink "ChannelHall" (233 : Nat) "java/lang/IllegalArgumentException") ∈ BIG := BIG_of 172 (by decide +kernel) (by decide +kernel)
theorem bw_136 : (Jvm.Cond.instantiable "java/lang/IllegalArgumentException" (6 : Nat)) ∈ BIG := BIG_of 173 (by decide +kernel) (by decide +kernel)
theorem bw_144 : (Jvm.Cond.selects "java/lang/IllegalArgumentException" ({ cls := "java/lang/Throwable", name := "fillInStackTrace", desc := "(I)Ljava/lang/Throwable;" } : Jvm.MethodName) ({ cls := "java/lang/Throwable", name := "fillInStackTrace", desc := "(I)Ljava/lang/Throwable;" } : Jvm.MethodName)) ∈ BIG := BIG_of 181 (by decide +kernel) (by decide +kernel)
theorem bw_145 : (Jvm.Cond.selects "java/lang/IllegalArgumentException" ({ cls := "java/lang/Throwable", name := "fillInStackTrace", desc := "()Ljava/lang/Throwable;" } : Jvm.MethodName) ({ cls := "java/lang/Throwable", name := "fillInStackTrace", desc := "()Ljava/lang/Throwable;" } : Jvm.MethodName)) ∈ BIG := BIG_of 182 (by decide +kernel) (by decide +kernel)
theorem bw_146 : (Jvm.Cond.lays "java/lang/IllegalArgumentException" "java/lang/Throwable" "cause" "Ljava/lang/Throwable;") ∈ BIG := BIG_of 183 (by decide +kernel) (by decide +kernel)
theorem bw_147 : (Jvm.Cond.lays "java/lang/Throwable" "java/lang/Throwable" "cause" "Ljava/lang/Throwable;") ∈ BIG := BIG_of 184 (by decide +kernel) (by decide +kernel)
theorem bw_148 : (Jvm.Cond.lays "java/lang/IllegalArgumentException" "java/lang/Throwable" "stackTrace" "[Ljava/lang/StackTraceElement;") ∈ BIG := BIG_of 185 (by decide +kernel) (by decide +kernel)
theorem bw_149 : (Jvm.Cond.lays "java/lang/Throwable" "java/lang/Throwable" "stackTrace" "[Ljava/lang/StackTraceElement;") ∈ BIG := BIG_of 186 (by decide +kernel) (by decide +kernel)
theorem bw_150 : (Jvm.Cond.lays "java/lang/IllegalArgumentException" "java/lang/Throwable" "suppressedExceptions" "Ljava/util/List;") ∈ BIG := BIG_of 187 (by decide +kernel) (by decide +kernel)
theorem bw_151 : (Jvm.Cond.lays "java/lang/Throwable" "java/lang/Throwable" "suppressedExceptions" "Ljava/util/List;") ∈ BIG := BIG_of 188 (by decide +kernel) (by decide +kernel)
theorem bw_152 : (Jvm.Cond.lays "java/lang/IllegalArgumentException" "java/lang/Throwable" "detailMessage" "Ljava/lang/String;") ∈ BIG := BIG_of 189 (by decide +kernel) (by decide +kernel)
theorem bw_153 : (Jvm.Cond.lays "java/lang/Throwable" "java/lang/Throwable" "detailMessage" "Ljava/lang/String;") ∈ BIG := BIG_of 190 (by decide +kernel) (by decide +kernel)
theorem bw_154 : (Jvm.Cond.lays "java/lang/IllegalArgumentException" "java/lang/Throwable" "backtrace" "Ljava/lang/Object;") ∈ BIG := BIG_of 191 (by decide +kernel) (by decide +kernel)
theorem bw_155 : (Jvm.Cond.lays "java/lang/Throwable" "java/lang/Throwable" "backtrace" "Ljava/lang/Object;") ∈ BIG := BIG_of 192 (by decide +kernel) (by decide +kernel)
theorem bw_156 : (Jvm.Cond.fieldLink "java/lang/Throwable" (198 : Nat) "java/lang/Throwable" "backtrace" "Ljava/lang/Object;") ∈ BIG := BIG_of 193 (by decide +kernel) (by decide +kernel)
theorem bw_158 : (Jvm.Cond.instanceMethod ({ cls := "java/lang/Throwable", name := "<init>", desc := "()V" } : Jvm.MethodName)) ∈ BIG := BIG_of 195 (by decide +kernel) (by decide +kernel)
theorem bw_159 : (Jvm.Cond.code ({ cls := "java/lang/Throwable", name := "<init>", desc := "()V" } : Jvm.MethodName) prog_26_method_1_code (1 : Nat) (Option.none : Option Jvm.ClassFile.FieldType)) ∈ BIG := BIG_of 196 (by decide +kernel) (by decide +kernel)
theorem bw_160 : (Jvm.Cond.methodLink "java/lang/Throwable" (1 : Nat) ({ cls := "java/lang/Object", name := "<init>", desc := "()V" } : Jvm.MethodName)) ∈ BIG := BIG_of 197 (by decide +kernel) (by decide +kernel)
theorem bw_161 : (Jvm.Cond.fieldLink "java/lang/Throwable" (13 : Nat) "java/lang/Throwable" "UNASSIGNED_STACK" "[Ljava/lang/StackTraceElement;") ∈ BIG := BIG_of 198 (by decide +kernel) (by decide +kernel)
theorem bw_163 : (Jvm.Cond.fieldLink "java/lang/Throwable" (20 : Nat) "java/lang/Throwable" "SUPPRESSED_SENTINEL" "Ljava/util/List;") ∈ BIG := BIG_of 200 (by decide +kernel) (by decide +kernel)
theorem bw_165 : (Jvm.Cond.methodLink "java/lang/Throwable" (27 : Nat) ({ cls := "java/lang/Throwable", name := "fillInStackTrace", desc := "()Ljava/lang/Throwable;" } : Jvm.MethodName)) ∈ BIG := BIG_of 202 (by decide +kernel) (by decide +kernel)
theorem bw_166 : (Jvm.Cond.instanceMethod ({ cls := "java/lang/Throwable", name := "fillInStackTrace", desc := "()Ljava/lang/Throwable;" } : Jvm.MethodName)) ∈ BIG := BIG_of 203 (by decide +kernel) (by decide +kernel)
theorem bw_167 : (Jvm.Cond.sameMethod "java/lang/Throwable" "java/lang/Throwable" "fillInStackTrace" "()Ljava/lang/Throwable;") ∈ BIG := BIG_of 204 (by decide +kernel) (by decide +kernel)
theorem bw_168 : (Jvm.Cond.selects "java/lang/ArithmeticException" ({ cls := "java/lang/Throwable", name := "fillInStackTrace", desc := "()Ljava/lang/Throwable;" } : Jvm.MethodName) ({ cls := "java/lang/Throwable", name := "fillInStackTrace", desc := "()Ljava/lang/Throwable;" } : Jvm.MethodName)) ∈ BIG := BIG_of 205 (by decide +kernel) (by decide +kernel)
theorem bw_169 : (Jvm.Cond.selects "java/lang/IllegalStateException" ({ cls := "java/lang/Throwable", name := "fillInStackTrace", desc := "()Ljava/lang/Throwable;" } : Jvm.MethodName) ({ cls := "java/lang/Throwable", name := "fillInStackTrace", desc := "()Ljava/lang/Throwable;" } : Jvm.MethodName)) ∈ BIG := BIG_of 206 (by decide +kernel) (by decide +kernel)
theorem bw_170 : (Jvm.Cond.selects "java/lang/IndexOutOfBoundsException" ({ cls := "java/lang/Throwable", name := "fillInStackTrace", desc := "()Ljava/lang/Throwable;" } : Jvm.MethodName) ({ cls := "java/lang/Throwable", name := "fillInStackTrace", desc := "()Ljava/lang/Throwable;" } : Jvm.MethodName)) ∈ BIG := BIG_of 207 (by decide +kernel) (by decide +kernel)
theorem bw_171 : (Jvm.Cond.selects "java/lang/UnsupportedOperationException" ({ cls := "java/lang/Throwable", name := "fillInStackTrace", desc := "()Ljava/lang/Throwable;" } : Jvm.MethodName) ({ cls := "java/lang/Throwable", name := "fillInStackTrace", desc := "()Ljava/lang/Throwable;" } : Jvm.MethodName)) ∈ BIG := BIG_of 208 (by decide +kernel) (by decide +kernel)
theorem bw_172 : (Jvm.Cond.selects "java/util/NoSuchElementException" ({ cls := "java/lang/Throwable", name := "fillInStackTrace", desc := "()Ljava/lang/Throwable;" } : Jvm.MethodName) ({ cls := "java/lang/Throwable", name := "fillInStackTrace", desc := "()Ljava/lang/Throwable;" } : Jvm.MethodName)) ∈ BIG := BIG_of 209 (by decide +kernel) (by decide +kernel)
theorem bw_173 : (Jvm.Cond.codeSync ({ cls := "java/lang/Throwable", name := "fillInStackTrace", desc := "()Ljava/lang/Throwable;" } : Jvm.MethodName) prog_26_method_18_code (1 : Nat) (Option.some (Jvm.ClassFile.FieldType.object "java/lang/Throwable"))) ∈ BIG := BIG_of 210 (by decide +kernel) (by decide +kernel)
theorem bw_174 : (Jvm.Cond.methodLink "java/lang/Throwable" (202 : Nat) ({ cls := "java/lang/Throwable", name := "fillInStackTrace", desc := "(I)Ljava/lang/Throwable;" } : Jvm.MethodName)) ∈ BIG := BIG_of 211 (by decide +kernel) (by decide +kernel)
theorem bw_176 : (Jvm.Cond.instanceMethod ({ cls := "java/lang/Throwable", name := "fillInStackTrace", desc := "(I)Ljava/lang/Throwable;" } : Jvm.MethodName)) ∈ BIG := BIG_of 213 (by decide +kernel) (by decide +kernel)
theorem bw_177 : (Jvm.Cond.instantiable "java/lang/Throwable" (6 : Nat)) ∈ BIG := BIG_of 214 (by decide +kernel) (by decide +kernel)
theorem bw_178 : (Jvm.Cond.native ({ cls := "java/lang/Throwable", name := "fillInStackTrace", desc := "(I)Ljava/lang/Throwable;" } : Jvm.MethodName)) ∈ BIG := BIG_of 215 (by decide +kernel) (by decide +kernel)
theorem bw_179 : (Jvm.Cond.methodLink "ChannelHall" (235 : Nat) ({ cls := "java/lang/IllegalArgumentException", name := "<init>", desc := "()V" } : Jvm.MethodName)) ∈ BIG := BIG_of 216 (by decide +kernel) (by decide +kernel)
theorem bw_180 : (Jvm.Cond.instanceMethod ({ cls := "java/lang/IllegalArgumentException", name := "<init>", desc := "()V" } : Jvm.MethodName)) ∈ BIG := BIG_of 217 (by decide +kernel) (by decide +kernel)
theorem bw_181 : (Jvm.Cond.code ({ cls := "java/lang/IllegalArgumentException", name := "<init>", desc := "()V" } : Jvm.MethodName) prog_14_method_1_code (1 : Nat) (Option.none : Option Jvm.ClassFile.FieldType)) ∈ BIG := BIG_of 218 (by decide +kernel) (by decide +kernel)
theorem bw_182 : (Jvm.Cond.methodLink "java/lang/IllegalArgumentException" (1 : Nat) ({ cls := "java/lang/RuntimeException", name := "<init>", desc := "()V" } : Jvm.MethodName)) ∈ BIG := BIG_of 219 (by decide +kernel) (by decide +kernel)
theorem bw_183 : (Jvm.Cond.instanceMethod ({ cls := "java/lang/RuntimeException", name := "<init>", desc := "()V" } : Jvm.MethodName)) ∈ BIG := BIG_of 220 (by decide +kernel) (by decide +kernel)
theorem bw_184 : (Jvm.Cond.code ({ cls := "java/lang/RuntimeException", name := "<init>", desc := "()V" } : Jvm.MethodName) prog_20_method_1_code (1 : Nat) (Option.none : Option Jvm.ClassFile.FieldType)) ∈ BIG := BIG_of 221 (by decide +kernel) (by decide +kernel)
theorem bw_185 : (Jvm.Cond.methodLink "java/lang/RuntimeException" (1 : Nat) ({ cls := "java/lang/Exception", name := "<init>", desc := "()V" } : Jvm.MethodName)) ∈ BIG := BIG_of 222 (by decide +kernel) (by decide +kernel)
theorem bw_186 : (Jvm.Cond.instanceMethod ({ cls := "java/lang/Exception", name := "<init>", desc := "()V" } : Jvm.MethodName)) ∈ BIG := BIG_of 223 (by decide +kernel) (by decide +kernel)
theorem bw_187 : (Jvm.Cond.code ({ cls := "java/lang/Exception", name := "<init>", desc := "()V" } : Jvm.MethodName) prog_13_method_1_code (1 : Nat) (Option.none : Option Jvm.ClassFile.FieldType)) ∈ BIG := BIG_of 224 (by decide +kernel) (by decide +kernel)
theorem bw_188 : (Jvm.Cond.methodLink "java/lang/Exception" (1 : Nat) ({ cls := "java/lang/Throwable", name := "<init>", desc := "()V" } : Jvm.MethodName)) ∈ BIG := BIG_of 225 (by decide +kernel) (by decide +kernel)
theorem bw_190 : (Jvm.Cond.fieldLink "java/lang/Throwable" (31 : Nat) "java/lang/Throwable" "detailMessage" "Ljava/lang/String;") ∈ BIG := BIG_of 227 (by decide +kernel) (by decide +kernel)
theorem bw_191 : (Jvm.Cond.fieldLink "java/lang/Throwable" (7 : Nat) "java/lang/Throwable" "cause" "Ljava/lang/Throwable;") ∈ BIG := BIG_of 228 (by decide +kernel) (by decide +kernel)
theorem bw_192 : (Jvm.Cond.fieldLink "java/lang/Throwable" (17 : Nat) "java/lang/Throwable" "stackTrace" "[Ljava/lang/StackTraceElement;") ∈ BIG := BIG_of 229 (by decide +kernel) (by decide +kernel)
theorem bw_193 : (Jvm.Cond.fieldLink "java/lang/Throwable" (24 : Nat) "java/lang/Throwable" "suppressedExceptions" "Ljava/util/List;") ∈ BIG := BIG_of 230 (by decide +kernel) (by decide +kernel)
theorem bw_198 : (Jvm.Cond.lays "java/lang/IllegalArgumentException" "java/lang/Throwable" "depth" "I") ∈ BIG := BIG_of 235 (by decide +kernel) (by decide +kernel)
theorem bw_202 : (Jvm.Cond.classLink "ChannelHall" (44 : Nat) "java/lang/IllegalStateException") ∈ BIG := BIG_of 239 (by decide +kernel) (by decide +kernel)
theorem bw_203 : (Jvm.Cond.instantiable "java/lang/IllegalStateException" (6 : Nat)) ∈ BIG := BIG_of 240 (by decide +kernel) (by decide +kernel)
theorem bw_205 : (Jvm.Cond.selects "java/lang/IllegalStateException" ({ cls := "java/lang/Throwable", name := "fillInStackTrace", desc := "(I)Ljava/lang/Throwable;" } : Jvm.MethodName) ({ cls := "java/lang/Throwable", name := "fillInStackTrace", desc := "(I)Ljava/lang/Throwable;" } : Jvm.MethodName)) ∈ BIG := BIG_of 242 (by decide +kernel) (by decide +kernel)
theorem bw_206 : (Jvm.Cond.lays "java/lang/IllegalStateException" "java/lang/Throwable" "cause" "Ljava/lang/Throwable;") ∈ BIG := BIG_of 243 (by decide +kernel) (by decide +kernel)
theorem bw_207 : (Jvm.Cond.lays "java/lang/IllegalStateException" "java/lang/Throwable" "stackTrace" "[Ljava/lang/StackTraceElement;") ∈ BIG := BIG_of 244 (by decide +kernel) (by decide +kernel)
theorem bw_208 : (Jvm.Cond.lays "java/lang/IllegalStateException" "java/lang/Throwable" "suppressedExceptions" "Ljava/util/List;") ∈ BIG := BIG_of 245 (by decide +kernel) (by decide +kernel)
theorem bw_209 : (Jvm.Cond.lays "java/lang/IllegalStateException" "java/lang/Throwable" "detailMessage" "Ljava/lang/String;") ∈ BIG := BIG_of 246 (by decide +kernel) (by decide +kernel)
theorem bw_210 : (Jvm.Cond.lays "java/lang/IllegalStateException" "java/lang/Throwable" "backtrace" "Ljava/lang/Object;") ∈ BIG := BIG_of 247 (by decide +kernel) (by decide +kernel)
theorem bw_211 : (Jvm.Cond.methodLink "ChannelHall" (46 : Nat) ({ cls := "java/lang/IllegalStateException", name := "<init>", desc := "()V" } : Jvm.MethodName)) ∈ BIG := BIG_of 248 (by decide +kernel) (by decide +kernel)
theorem bw_212 : (Jvm.Cond.instanceMethod ({ cls := "java/lang/IllegalStateException", name := "<init>", desc := "()V" } : Jvm.MethodName)) ∈ BIG := BIG_of 249 (by decide +kernel) (by decide +kernel)
theorem bw_213 : (Jvm.Cond.code ({ cls := "java/lang/IllegalStateException", name := "<init>", desc := "()V" } : Jvm.MethodName) prog_15_method_1_code (1 : Nat) (Option.none : Option Jvm.ClassFile.FieldType)) ∈ BIG := BIG_of 250 (by decide +kernel) (by decide +kernel)
theorem bw_214 : (Jvm.Cond.methodLink "java/lang/IllegalStateException" (1 : Nat) ({ cls := "java/lang/RuntimeException", name := "<init>", desc := "()V" } : Jvm.MethodName)) ∈ BIG := BIG_of 251 (by decide +kernel) (by decide +kernel)
theorem bw_215 : (Jvm.Cond.lays "java/lang/IllegalStateException" "java/lang/Throwable" "depth" "I") ∈ BIG := BIG_of 252 (by decide +kernel) (by decide +kernel)
theorem bw_217 : (Jvm.Cond.instantiable "ChannelHall$Channel" (10 : Nat)) ∈ BIG := BIG_of 254 (by decide +kernel) (by decide +kernel)
theorem bw_218 : (Jvm.Cond.methodLink "ChannelHall" (47 : Nat) ({ cls := "ChannelHall$Channel", name := "<init>", desc := "(III)V" } : Jvm.MethodName)) ∈ BIG := BIG_of 255 (by decide +kernel) (by decide +kernel)
theorem bw_219 : (Jvm.Cond.instanceMethod ({ cls := "ChannelHall$Channel", name := "<init>", desc := "(III)V" } : Jvm.MethodName)) ∈ BIG := BIG_of 256 (by decide +kernel) (by decide +kernel)
theorem bw_220 : (Jvm.Cond.code ({ cls := "ChannelHall$Channel", name := "<init>", desc := "(III)V" } : Jvm.MethodName) prog_2_method_1_code (4 : Nat) (Option.none : Option Jvm.ClassFile.FieldType)) ∈ BIG := BIG_of 257 (by decide +kernel) (by decide +kernel)
theorem bw_221 : (Jvm.Cond.methodLink "ChannelHall$Channel" (3 : Nat) ({ cls := "java/lang/Object", name := "<init>", desc := "()V" } : Jvm.MethodName)) ∈ BIG := BIG_of 258 (by decide +kernel) (by decide +kernel)
theorem bw_222 : (Jvm.Cond.classLink "ChannelHall$Channel" (9 : Nat) "java/util/ArrayList") ∈ BIG := BIG_of 259 (by decide +kernel) (by decide +kernel)
theorem bw_223 : (Jvm.Cond.instantiable "java/util/ArrayList" (3 : Nat)) ∈ BIG := BIG_of 260 (by decide +kernel) (by decide +kernel)
theorem bw_224 : (Jvm.Cond.methodLink "ChannelHall$Channel" (11 : Nat) ({ cls := "java/util/ArrayList", name := "<init>", desc := "()V" } : Jvm.MethodName)) ∈ BIG := BIG_of 261 (by decide +kernel) (by decide +kernel)
theorem bw_225 : (Jvm.Cond.instanceMethod ({ cls := "java/util/ArrayList", name := "<init>", desc := "()V" } : Jvm.MethodName)) ∈ BIG := BIG_of 262 (by decide +kernel) (by decide +kernel)
theorem bw_226 : (Jvm.Cond.code ({ cls := "java/util/ArrayList", name := "<init>", desc := "()V" } : Jvm.MethodName) prog_30_method_2_code (1 : Nat) (Option.none : Option Jvm.ClassFile.FieldType)) ∈ BIG := BIG_of 263 (by decide +kernel) (by decide +kernel)
theorem bw_227 : (Jvm.Cond.methodLink "java/util/ArrayList" (1 : Nat) ({ cls := "java/util/AbstractList", name := "<init>", desc := "()V" } : Jvm.MethodName)) ∈ BIG := BIG_of 264 (by decide +kernel) (by decide +kernel)
theorem bw_228 : (Jvm.Cond.instanceMethod ({ cls := "java/util/AbstractList", name := "<init>", desc := "()V" } : Jvm.MethodName)) ∈ BIG := BIG_of 265 (by decide +kernel) (by decide +kernel)
theorem bw_229 : (Jvm.Cond.code ({ cls := "java/util/AbstractList", name := "<init>", desc := "()V" } : Jvm.MethodName) prog_29_method_1_code (1 : Nat) (Option.none : Option Jvm.ClassFile.FieldType)) ∈ BIG := BIG_of 266 (by decide +kernel) (by decide +kernel)
theorem bw_230 : (Jvm.Cond.methodLink "java/util/AbstractList" (1 : Nat) ({ cls := "java/util/AbstractCollection", name := "<init>", desc := "()V" } : Jvm.MethodName)) ∈ BIG := BIG_of 267 (by decide +kernel) (by decide +kernel)
theorem bw_231 : (Jvm.Cond.instanceMethod ({ cls := "java/util/AbstractCollection", name := "<init>", desc := "()V" } : Jvm.MethodName)) ∈ BIG := BIG_of 268 (by decide +kernel) (by decide +kernel)
theorem bw_232 : (Jvm.Cond.code ({ cls := "java/util/AbstractCollection", name := "<init>", desc := "()V" } : Jvm.MethodName) prog_28_method_1_code (1 : Nat) (Option.none : Option Jvm.ClassFile.FieldType)) ∈ BIG := BIG_of 269 (by decide +kernel) (by decide +kernel)
theorem bw_233 : (Jvm.Cond.methodLink "java/util/AbstractCollection" (1 : Nat) ({ cls := "java/lang/Object", name := "<init>", desc := "()V" } : Jvm.MethodName)) ∈ BIG := BIG_of 270 (by decide +kernel) (by decide +kernel)
theorem bw_234 : (Jvm.Cond.fieldLink "java/util/ArrayList" (39 : Nat) "java/util/ArrayList" "DEFAULTCAPACITY_EMPTY_ELEMENTDATA" "[Ljava/lang/Object;") ∈ BIG := BIG_of 271 (by decide +kernel) (by decide +kernel)
theorem bw_236 : (Jvm.Cond.fieldLink "java/util/ArrayList" (9 : Nat) "java/util/ArrayList" "elementData" "[Ljava/lang/Object;") ∈ BIG := BIG_of 273 (by decide +kernel) (by decide +kernel)
theorem bw_237 : (Jvm.Cond.fieldLink "java/util/ArrayList" (48 : Nat) "java/util/ArrayList" "size" "I") ∈ BIG := BIG_of 274 (by decide +kernel) (by decide +kernel)
theorem bw_238 : (Jvm.Cond.fieldLink "java/util/AbstractList" (7 : Nat) "java/util/AbstractList" "modCount" "I") ∈ BIG := BIG_of 275 (by decide +kernel) (by decide +kernel)
theorem bw_239 : (Jvm.Cond.fieldLink "java/util/ArrayList" (63 : Nat) "java/util/ArrayList" "modCount" "I") ∈ BIG := BIG_of 276 (by decide +kernel) (by decide +kernel)
theorem bw_240 : (Jvm.Cond.sameField "java/util/ArrayList" "java/util/AbstractList" "modCount" "I") ∈ BIG := BIG_of 277 (by decide +kernel) (by decide +kernel)
theorem bw_241 : (Jvm.Cond.lays "java/util/ArrayList" "java/util/ArrayList" "elementData" "[Ljava/lang/Object;") ∈ BIG := BIG_of 278 (by decide +kernel) (by decide +kernel)
theorem bw_243 : (Jvm.Cond.lays "java/util/ArrayList" "java/util/ArrayList" "size" "I") ∈ BIG := BIG_of 280 (by decide +kernel) (by decide +kernel)
theorem bw_245 : (Jvm.Cond.lays "java/util/ArrayList" "java/util/AbstractList" "modCount" "I") ∈ BIG := BIG_of 282 (by decide +kernel) (by decide +kernel)
theorem bw_248 : (Jvm.Cond.methodLink "ChannelHall$Channel" (42 : Nat) ({ cls := "ChannelHall$Channel", name := "roomOf", desc := "(II)I" } : Jvm.MethodName)) ∈ BIG := BIG_of 285 (by decide +kernel) (by decide +kernel)
theorem bw_249 : (Jvm.Cond.static ({ cls := "ChannelHall$Channel", name := "roomOf", desc := "(II)I" } : Jvm.MethodName)) ∈ BIG := BIG_of 286 (by decide +kernel) (by decide +kernel)
theorem bw_250 : (Jvm.Cond.code ({ cls := "ChannelHall$Channel", name := "roomOf", desc := "(II)I" } : Jvm.MethodName) prog_2_method_2_code (2 : Nat) (Option.some Jvm.ClassFile.FieldType.int)) ∈ BIG := BIG_of 287 (by decide +kernel) (by decide +kernel)
theorem bw_251 : (Jvm.Cond.fieldLink "ChannelHall$Channel" (36 : Nat) "ChannelHall$Channel" "number" "I") ∈ BIG := BIG_of 288 (by decide +kernel) (by decide +kernel)
theorem bw_252 : (Jvm.Cond.fieldLink "ChannelHall" (203 : Nat) "ChannelHall$Channel" "number" "I") ∈ BIG := BIG_of 289 (by decide +kernel) (by decide +kernel)
theorem bw_253 : (Jvm.Cond.fieldLink "ChannelHall$Channel" (39 : Nat) "ChannelHall$Channel" "kind" "I") ∈ BIG := BIG_of 290 (by decide +kernel) (by decide +kernel)
theorem bw_254 : (Jvm.Cond.fieldLink "ChannelHall" (122 : Nat) "ChannelHall$Channel" "kind" "I") ∈ BIG := BIG_of 291 (by decide +kernel) (by decide +kernel)
theorem bw_255 : (Jvm.Cond.fieldLink "ChannelHall$Channel" (46 : Nat) "ChannelHall$Channel" "room" "I") ∈ BIG := BIG_of 292 (by decide +kernel) (by decide +kernel)
theorem bw_256 : (Jvm.Cond.fieldLink "ChannelHall$Channel" (49 : Nat) "ChannelHall$Channel" "parties" "I") ∈ BIG := BIG_of 293 (by decide +kernel) (by decide +kernel)
theorem bw_257 : (Jvm.Cond.fieldLink "ChannelHall" (162 : Nat) "ChannelHall$Channel" "parties" "I") ∈ BIG := BIG_of 294 (by decide +kernel) (by decide +kernel)
theorem bw_258 : (Jvm.Cond.fieldLink "ChannelHall$Channel" (12 : Nat) "ChannelHall$Channel" "items" "Ljava/util/ArrayList;") ∈ BIG := BIG_of 295 (by decide +kernel) (by decide +kernel)
theorem bw_259 : (Jvm.Cond.fieldLink "ChannelHall" (206 : Nat) "ChannelHall$Channel" "items" "Ljava/util/ArrayList;") ∈ BIG := BIG_of 296 (by decide +kernel) (by decide +kernel)
theorem bw_260 : (Jvm.Cond.fieldLink "ChannelHall$Channel" (18 : Nat) "ChannelHall$Channel" "waiters" "Ljava/util/ArrayList;") ∈ BIG := BIG_of 297 (by decide +kernel) (by decide +kernel)
theorem bw_261 : (Jvm.Cond.fieldLink "ChannelHall" (152 : Nat) "ChannelHall$Channel" "waiters" "Ljava/util/ArrayList;") ∈ BIG := BIG_of 298 (by decide +kernel) (by decide +kernel)
theorem bw_262 : (Jvm.Cond.fieldLink "ChannelHall$Channel" (21 : Nat) "ChannelHall$Channel" "broken" "Z") ∈ BIG := BIG_of 299 (by decide +kernel) (by decide +kernel)
theorem bw_263 : (Jvm.Cond.fieldLink "ChannelHall" (142 : Nat) "ChannelHall$Channel" "broken" "Z") ∈ BIG := BIG_of 300 (by decide +kernel) (by decide +kernel)
theorem bw_264 : (Jvm.Cond.fieldLink "ChannelHall$Channel" (25 : Nat) "ChannelHall$Channel" "passed" "I") ∈ BIG := BIG_of 301 (by decide +kernel) (by decide +kernel)
theorem bw_265 : (Jvm.Cond.fieldLink "ChannelHall" (168 : Nat) "ChannelHall$Channel" "passed" "I") ∈ BIG := BIG_of 302 (by decide +kernel) (by decide +kernel)
theorem bw_266 : (Jvm.Cond.fieldLink "ChannelHall$Channel" (29 : Nat) "ChannelHall$Channel" "staySum" "D") ∈ BIG := BIG_of 303 (by decide +kernel) (by decide +kernel)
theorem bw_267 : (Jvm.Cond.fieldLink "ChannelHall" (230 : Nat) "ChannelHall$Channel" "staySum" "D") ∈ BIG := BIG_of 304 (by decide +kernel) (by decide +kernel)
theorem bw_268 : (Jvm.Cond.fieldLink "ChannelHall$Channel" (33 : Nat) "ChannelHall$Channel" "stays" "I") ∈ BIG := BIG_of 305 (by decide +kernel) (by decide +kernel)
theorem bw_269 : (Jvm.Cond.fieldLink "ChannelHall" (227 : Nat) "ChannelHall$Channel" "stays" "I") ∈ BIG := BIG_of 306 (by decide +kernel) (by decide +kernel)
theorem bw_270 : (Jvm.Cond.laysFinal "ChannelHall$Channel" "ChannelHall$Channel" "number" "I") ∈ BIG := BIG_of 307 (by decide +kernel) (by decide +kernel)
theorem bw_272 : (Jvm.Cond.laysFinal "ChannelHall$Channel" "ChannelHall$Channel" "kind" "I") ∈ BIG := BIG_of 309 (by decide +kernel) (by decide +kernel)
theorem bw_274 : (Jvm.Cond.laysFinal "ChannelHall$Channel" "ChannelHall$Channel" "room" "I") ∈ BIG := BIG_of 311 (by decide +kernel) (by decide +kernel)
theorem bw_276 : (Jvm.Cond.laysFinal "ChannelHall$Channel" "ChannelHall$Channel" "parties" "I") ∈ BIG := BIG_of 313 (by decide +kernel) (by decide +kernel)
theorem bw_278 : (Jvm.Cond.laysFinal "ChannelHall$Channel" "ChannelHall$Channel" "items" "Ljava/util/ArrayList;") ∈ BIG := BIG_of 315 (by decide +kernel) (by decide +kernel)
theorem bw_280 : (Jvm.Cond.laysFinal "ChannelHall$Channel" "ChannelHall$Channel" "waiters" "Ljava/util/ArrayList;") ∈ BIG := BIG_of 317 (by decide +kernel) (by decide +kernel)
theorem bw_282 : (Jvm.Cond.lays "ChannelHall$Channel" "ChannelHall$Channel" "broken" "Z") ∈ BIG := BIG_of 319 (by decide +kernel) (by decide +kernel)
theorem bw_284 : (Jvm.Cond.lays "ChannelHall$Channel" "ChannelHall$Channel" "passed" "I") ∈ BIG := BIG_of 321 (by decide +kernel) (by decide +kernel)
theorem bw_286 : (Jvm.Cond.lays "ChannelHall$Channel" "ChannelHall$Channel" "staySum" "D") ∈ BIG := BIG_of 323 (by decide +kernel) (by decide +kernel)
theorem bw_288 : (Jvm.Cond.lays "ChannelHall$Channel" "ChannelHall$Channel" "stays" "I") ∈ BIG := BIG_of 325 (by decide +kernel) (by decide +kernel)
theorem bw_291 : (Jvm.Cond.methodLink "ChannelHallLaw" (84 : Nat) ({ cls := "ChannelHallLaw", name := "give", desc := "(LChannelHall;IIIDD[J)I" } : Jvm.MethodName)) ∈ BIG := BIG_of 328 (by decide +kernel) (by decide +kernel)
theorem bw_292 : (Jvm.Cond.static ({ cls := "ChannelHallLaw", name := "give", desc := "(LChannelHall;IIIDD[J)I" } : Jvm.MethodName)) ∈ BIG := BIG_of 329 (by decide +kernel) (by decide +kernel)
theorem bw_293 : (Jvm.Cond.codeWith ({ cls := "ChannelHallLaw", name := "give", desc := "(LChannelHall;IIIDD[J)I" } : Jvm.MethodName) method_4_code (10 : Nat) (Option.some Jvm.ClassFile.FieldType.int) [((0 : Nat), (16 : Nat), (19 : Nat), (13 : Nat)), ((0 : Nat), (16 : Nat), (23 : Nat), (21 : Nat)), ((0 : Nat), (16 : Nat), (27 : Nat), (15 : Nat)), ((0 : Nat), (16 : Nat), (31 : Nat), (23 : Nat))]) ∈ BIG := BIG_of 330 (by decide +kernel) (by decide +kernel)
theorem bw_294 : (Jvm.Cond.classLink "ChannelHallLaw" (21 : Nat) "java/util/NoSuchElementException") ∈ BIG := BIG_of 331 (by decide +kernel) (by decide +kernel)
theorem bw_295 : (Jvm.Cond.classLink "ChannelHallLaw" (23 : Nat) "java/lang/UnsupportedOperationException") ∈ BIG := BIG_of 332 (by decide +kernel) (by decide +kernel)
theorem bw_296 : (Jvm.Cond.methodLink "ChannelHallLaw" (17 : Nat) ({ cls := "ChannelHall", name := "give", desc := "(IIIDD)I" } : Jvm.MethodName)) ∈ BIG := BIG_of 333 (by decide +kernel) (by decide +kernel)
theorem bw_297 : (Jvm.Cond.instanceMethod ({ cls := "ChannelHall", name := "give", desc := "(IIIDD)I" } : Jvm.MethodName)) ∈ BIG := BIG_of 334 (by decide +kernel) (by decide +kernel)
theorem bw_298 : (Jvm.Cond.selects "ChannelHall" ({ cls := "ChannelHall", name := "give", desc := "(IIIDD)I" } : Jvm.MethodName) ({ cls := "ChannelHall", name := "give", desc := "(IIIDD)I" } : Jvm.MethodName)) ∈ BIG := BIG_of 335 (by decide +kernel) (by decide +kernel)
theorem bw_299 : (Jvm.Cond.code ({ cls := "ChannelHall", name := "give", desc := "(IIIDD)I" } : Jvm.MethodName) prog_1_method_3_code (12 : Nat) (Option.some Jvm.ClassFile.FieldType.int)) ∈ BIG := BIG_of 336 (by decide +kernel) (by decide +kernel)
theorem bw_300 : (Jvm.Cond.methodLink "ChannelHall" (50 : Nat) ({ cls := "ChannelHall", name := "isThread", desc := "(I)Z" } : Jvm.MethodName)) ∈ BIG := BIG_of 337 (by decide +kernel) (by decide +kernel)
theorem bw_301 : (Jvm.Cond.static ({ cls := "ChannelHall", name := "isThread", desc := "(I)Z" } : Jvm.MethodName)) ∈ BIG := BIG_of 338 (by decide +kernel) (by decide +kernel)
theorem bw_302 : (Jvm.Cond.code ({ cls := "ChannelHall", name := "isThread", desc := "(I)Z" } : Jvm.MethodName) prog_1_method_18_code (1 : Nat) (Option.some Jvm.ClassFile.FieldType.boolean)) ∈ BIG := BIG_of 339 (by decide +kernel) (by decide +kernel)
theorem bw_303 : (Jvm.Cond.constantDouble "ChannelHall" (53 : Nat) (13875379345695965184 : UInt64)) ∈ BIG := BIG_of 340 (by decide +kernel) (by decide +kernel)
theorem bw_304 : (Jvm.Cond.constantDouble "ChannelHall" (55 : Nat) (4652007308841189376 : UInt64)) ∈ BIG := BIG_of 341 (by decide +kernel) (by decide +kernel)
theorem bw_305 : (Jvm.Cond.methodLink "ChannelHall" (57 : Nat) ({ cls := "ChannelHall", name := "isLimit", desc := "(D)Z" } : Jvm.MethodName)) ∈ BIG := BIG_of 342 (by decide +kernel) (by decide +kernel)
theorem bw_306 : (Jvm.Cond.static ({ cls := "ChannelHall", name := "isLimit", desc := "(D)Z" } : Jvm.MethodName)) ∈ BIG := BIG_of 343 (by decide +kernel) (by decide +kernel)
theorem bw_307 : (Jvm.Cond.code ({ cls := "ChannelHall", name := "isLimit", desc := "(D)Z" } : Jvm.MethodName) prog_1_method_20_code (2 : Nat) (Option.some Jvm.ClassFile.FieldType.boolean)) ∈ BIG := BIG_of 344 (by decide +kernel) (by decide +kernel)
theorem bw_308 : (Jvm.Cond.constantDouble "ChannelHall" (239 : Nat) (13830554455654793216 : UInt64)) ∈ BIG := BIG_of 345 (by decide +kernel) (by decide +kernel)
theorem bw_309 : (Jvm.Cond.methodLink "ChannelHall" (61 : Nat) ({ cls := "ChannelHall", name := "presentChannel", desc := "(I)LChannelHall$Channel;" } : Jvm.MethodName)) ∈ BIG := BIG_of 346 (by decide +kernel) (by decide +kernel)
theorem bw_311 : (Jvm.Cond.instanceMethod ({ cls := "ChannelHall", name := "presentChannel", desc := "(I)LChannelHall$Channel;" } : Jvm.MethodName)) ∈ BIG := BIG_of 348 (by decide +kernel) (by decide +kernel)
theorem bw_312 : (Jvm.Cond.code ({ cls := "ChannelHall", name := "presentChannel", desc := "(I)LChannelHall$Channel;" } : Jvm.MethodName) prog_1_method_22_code (3 : Nat) (Option.some (Jvm.ClassFile.FieldType.object "ChannelHall$Channel"))) ∈ BIG := BIG_of 349 (by decide +kernel) (by decide +kernel)
theorem bw_313 : (Jvm.Cond.classLink "ChannelHall" (197 : Nat) "java/util/NoSuchElementException") ∈ BIG := BIG_of 350 (by decide +kernel) (by decide +kernel)
theorem bw_314 : (Jvm.Cond.instantiable "java/util/NoSuchElementException" (6 : Nat)) ∈ BIG := BIG_of 351 (by decide +kernel) (by decide +kernel)
theorem bw_316 : (Jvm.Cond.selects "java/util/NoSuchElementException" ({ cls := "java/lang/Throwable", name := "fillInStackTrace", desc := "(I)Ljava/lang/Throwable;" } : Jvm.MethodName) ({ cls := "java/lang/Throwable", name := "fillInStackTrace", desc := "(I)Ljava/lang/Throwable;" } : Jvm.MethodName)) ∈ BIG := BIG_of 353 (by decide +kernel) (by decide +kernel)
theorem bw_317 : (Jvm.Cond.lays "java/util/NoSuchElementException" "java/lang/Throwable" "cause" "Ljava/lang/Throwable;") ∈ BIG := BIG_of 354 (by decide +kernel) (by decide +kernel)
theorem bw_318 : (Jvm.Cond.lays "java/util/NoSuchElementException" "java/lang/Throwable" "stackTrace" "[Ljava/lang/StackTraceElement;") ∈ BIG := BIG_of 355 (by decide +kernel) (by decide +kernel)
theorem bw_319 : (Jvm.Cond.lays "java/util/NoSuchElementException" "java/lang/Throwable" "suppressedExceptions" "Ljava/util/List;") ∈ BIG := BIG_of 356 (by decide +kernel) (by decide +kernel)
theorem bw_320 : (Jvm.Cond.lays "java/util/NoSuchElementException" "java/lang/Throwable" "detailMessage" "Ljava/lang/String;") ∈ BIG := BIG_of 357 (by decide +kernel) (by decide +kernel)
theorem bw_321 : (Jvm.Cond.lays "java/util/NoSuchElementException" "java/lang/Throwable" "backtrace" "Ljava/lang/Object;") ∈ BIG := BIG_of 358 (by decide +kernel) (by decide +kernel)
theorem bw_322 : (Jvm.Cond.methodLink "ChannelHall" (199 : Nat) ({ cls := "java/util/NoSuchElementException", name := "<init>", desc := "()V" } : Jvm.MethodName)) ∈ BIG := BIG_of 359 (by decide +kernel) (by decide +kernel)
theorem bw_323 : (Jvm.Cond.instanceMethod ({ cls := "java/util/NoSuchElementException", name := "<init>", desc := "()V" } : Jvm.MethodName)) ∈ BIG := BIG_of 360 (by decide +kernel) (by decide +kernel)
theorem bw_324 : (Jvm.Cond.code ({ cls := "java/util/NoSuchElementException", name := "<init>", desc := "()V" } : Jvm.MethodName) prog_34_method_1_code (1 : Nat) (Option.none : Option Jvm.ClassFile.FieldType)) ∈ BIG := BIG_of 361 (by decide +kernel) (by decide +kernel)
theorem bw_325 : (Jvm.Cond.methodLink "java/util/NoSuchElementException" (1 : Nat) ({ cls := "java/lang/RuntimeException", name := "<init>", desc := "()V" } : Jvm.MethodName)) ∈ BIG := BIG_of 362 (by decide +kernel) (by decide +kernel)
theorem bw_326 : (Jvm.Cond.lays "java/util/NoSuchElementException" "java/lang/Throwable" "depth" "I") ∈ BIG := BIG_of 363 (by decide +kernel) (by decide +kernel)
theorem bw_328 : (Jvm.Cond.methodLink "ChannelHall" (65 : Nat) ({ cls := "ChannelHall", name := "runningWorker", desc := "(I)LChannelHall$Worker;" } : Jvm.MethodName)) ∈ BIG := BIG_of 365 (by decide +kernel) (by decide +kernel)
theorem bw_330 : (Jvm.Cond.instanceMethod ({ cls := "ChannelHall", name := "runningWorker", desc := "(I)LChannelHall$Worker;" } : Jvm.MethodName)) ∈ BIG := BIG_of 367 (by decide +kernel) (by decide +kernel)
theorem bw_331 : (Jvm.Cond.code ({ cls := "ChannelHall", name := "runningWorker", desc := "(I)LChannelHall$Worker;" } : Jvm.MethodName) prog_1_method_23_code (3 : Nat) (Option.some (Jvm.ClassFile.FieldType.object "ChannelHall$Worker"))) ∈ BIG := BIG_of 368 (by decide +kernel) (by decide +kernel)
theorem bw_332 : (Jvm.Cond.methodLink "ChannelHall" (69 : Nat) ({ cls := "ChannelHall$Channel", name := "holdsItems", desc := "()Z" } : Jvm.MethodName)) ∈ BIG := BIG_of 369 (by decide +kernel) (by decide +kernel)
theorem bw_333 : (Jvm.Cond.instanceMethod ({ cls := "ChannelHall$Channel", name := "holdsItems", desc := "()Z" } : Jvm.MethodName)) ∈ BIG := BIG_of 370 (by decide +kernel) (by decide +kernel)
theorem bw_334 : (Jvm.Cond.selects "ChannelHall$Channel" ({ cls := "ChannelHall$Channel", name := "holdsItems", desc := "()Z" } : Jvm.MethodName) ({ cls := "ChannelHall$Channel", name := "holdsItems", desc := "()Z" } : Jvm.MethodName)) ∈ BIG := BIG_of 371 (by decide +kernel) (by decide +kernel)
theorem bw_335 : (Jvm.Cond.code ({ cls := "ChannelHall$Channel", name := "holdsItems", desc := "()Z" } : Jvm.MethodName) prog_2_method_3_code (1 : Nat) (Option.some Jvm.ClassFile.FieldType.boolean)) ∈ BIG := BIG_of 372 (by decide +kernel) (by decide +kernel)
theorem bw_336 : (Jvm.Cond.methodLink "ChannelHall" (73 : Nat) ({ cls := "ChannelHall", name := "requireKind", desc := "(Z)V" } : Jvm.MethodName)) ∈ BIG := BIG_of 373 (by decide +kernel) (by decide +kernel)
theorem bw_337 : (Jvm.Cond.static ({ cls := "ChannelHall", name := "requireKind", desc := "(Z)V" } : Jvm.MethodName)) ∈ BIG := BIG_of 374 (by decide +kernel) (by decide +kernel)
theorem bw_338 : (Jvm.Cond.code ({ cls := "ChannelHall", name := "requireKind", desc := "(Z)V" } : Jvm.MethodName) prog_1_method_17_code (1 : Nat) (Option.none : Option Jvm.ClassFile.FieldType)) ∈ BIG := BIG_of 375 (by decide +kernel) (by decide +kernel)
theorem bw_339 : (Jvm.Cond.classLink "ChannelHall" (236 : Nat) "java/lang/UnsupportedOperationException") ∈ BIG := BIG_of 376 (by decide +kernel) (by decide +kernel)
theorem bw_340 : (Jvm.Cond.instantiable "java/lang/UnsupportedOperationException" (6 : Nat)) ∈ BIG := BIG_of 377 (by decide +kernel) (by decide +kernel)
theorem bw_342 : (Jvm.Cond.selects "java/lang/UnsupportedOperationException" ({ cls := "java/lang/Throwable", name := "fillInStackTrace", desc := "(I)Ljava/lang/Throwable;" } : Jvm.MethodName) ({ cls := "java/lang/Throwable", name := "fillInStackTrace", desc := "(I)Ljava/lang/Throwable;" } : Jvm.MethodName)) ∈ BIG := BIG_of 379 (by decide +kernel) (by decide +kernel)
theorem bw_343 : (Jvm.Cond.lays "java/lang/UnsupportedOperationException" "java/lang/Throwable" "cause" "Ljava/lang/Throwable;") ∈ BIG := BIG_of 380 (by decide +kernel) (by decide +kernel)
theorem bw_344 : (Jvm.Cond.lays "java/lang/UnsupportedOperationException" "java/lang/Throwable" "stackTrace" "[Ljava/lang/StackTraceElement;") ∈ BIG := BIG_of 381 (by decide +kernel) (by decide +kernel)
theorem bw_345 : (Jvm.Cond.lays "java/lang/UnsupportedOperationException" "java/lang/Throwable" "suppressedExceptions" "Ljava/util/List;") ∈ BIG := BIG_of 382 (by decide +kernel) (by decide +kernel)
theorem bw_346 : (Jvm.Cond.lays "java/lang/UnsupportedOperationException" "java/lang/Throwable" "detailMessage" "Ljava/lang/String;") ∈ BIG := BIG_of 383 (by decide +kernel) (by decide +kernel)
theorem bw_347 : (Jvm.Cond.lays "java/lang/UnsupportedOperationException" "java/lang/Throwable" "backtrace" "Ljava/lang/Object;") ∈ BIG := BIG_of 384 (by decide +kernel) (by decide +kernel)
theorem bw_348 : (Jvm.Cond.methodLink "ChannelHall" (238 : Nat) ({ cls := "java/lang/UnsupportedOperationException", name := "<init>", desc := "()V" } : Jvm.MethodName)) ∈ BIG := BIG_of 385 (by decide +kernel) (by decide +kernel)
theorem bw_349 : (Jvm.Cond.instanceMethod ({ cls := "java/lang/UnsupportedOperationException", name := "<init>", desc := "()V" } : Jvm.MethodName)) ∈ BIG := BIG_of 386 (by decide +kernel) (by decide +kernel)
theorem bw_350 : (Jvm.Cond.code ({ cls := "java/lang/UnsupportedOperationException", name := "<init>", desc := "()V" } : Jvm.MethodName) prog_27_method_1_code (1 : Nat) (Option.none : Option Jvm.ClassFile.FieldType)) ∈ BIG := BIG_of 387 (by decide +kernel) (by decide +kernel)
theorem bw_351 : (Jvm.Cond.methodLink "java/lang/UnsupportedOperationException" (1 : Nat) ({ cls := "java/lang/RuntimeException", name := "<init>", desc := "()V" } : Jvm.MethodName)) ∈ BIG := BIG_of 388 (by decide +kernel) (by decide +kernel)
theorem bw_352 : (Jvm.Cond.lays "java/lang/UnsupportedOperationException" "java/lang/Throwable" "depth" "I") ∈ BIG := BIG_of 389 (by decide +kernel) (by decide +kernel)
theorem bw_354 : (Jvm.Cond.methodLink "ChannelHall" (76 : Nat) ({ cls := "ChannelHall$Worker", name := "losesFlag", desc := "()Z" } : Jvm.MethodName)) ∈ BIG := BIG_of 391 (by decide +kernel) (by decide +kernel)
theorem bw_355 : (Jvm.Cond.instanceMethod ({ cls := "ChannelHall$Worker", name := "losesFlag", desc := "()Z" } : Jvm.MethodName)) ∈ BIG := BIG_of 392 (by decide +kernel) (by decide +kernel)
theorem bw_356 : (Jvm.Cond.selects "ChannelHall$Worker" ({ cls := "ChannelHall$Worker", name := "losesFlag", desc := "()Z" } : Jvm.MethodName) ({ cls := "ChannelHall$Worker", name := "losesFlag", desc := "()Z" } : Jvm.MethodName)) ∈ BIG := BIG_of 393 (by decide +kernel) (by decide +kernel)
theorem bw_357 : (Jvm.Cond.code ({ cls := "ChannelHall$Worker", name := "losesFlag", desc := "()Z" } : Jvm.MethodName) prog_5_method_2_code (2 : Nat) (Option.some Jvm.ClassFile.FieldType.boolean)) ∈ BIG := BIG_of 394 (by decide +kernel) (by decide +kernel)
theorem bw_358 : (Jvm.Cond.methodLink "ChannelHall" (79 : Nat) ({ cls := "ChannelHall$Worker", name := "endWith", desc := "(I)I" } : Jvm.MethodName)) ∈ BIG := BIG_of 395 (by decide +kernel) (by decide +kernel)
theorem bw_359 : (Jvm.Cond.instanceMethod ({ cls := "ChannelHall$Worker", name := "endWith", desc := "(I)I" } : Jvm.MethodName)) ∈ BIG := BIG_of 396 (by decide +kernel) (by decide +kernel)
theorem bw_360 : (Jvm.Cond.selects "ChannelHall$Worker" ({ cls := "ChannelHall$Worker", name := "endWith", desc := "(I)I" } : Jvm.MethodName) ({ cls := "ChannelHall$Worker", name := "endWith", desc := "(I)I" } : Jvm.MethodName)) ∈ BIG := BIG_of 397 (by decide +kernel) (by decide +kernel)
theorem bw_361 : (Jvm.Cond.code ({ cls := "ChannelHall$Worker", name := "endWith", desc := "(I)I" } : Jvm.MethodName) prog_5_method_3_code (2 : Nat) (Option.some Jvm.ClassFile.FieldType.int)) ∈ BIG := BIG_of 398 (by decide +kernel) (by decide +kernel)
theorem bw_362 : (Jvm.Cond.methodLink "ChannelHall" (83 : Nat) ({ cls := "ChannelHall$Channel", name := "keyOf", desc := "(DD)D" } : Jvm.MethodName)) ∈ BIG := BIG_of 399 (by decide +kernel) (by decide +kernel)
theorem bw_363 : (Jvm.Cond.instanceMethod ({ cls := "ChannelHall$Channel", name := "keyOf", desc := "(DD)D" } : Jvm.MethodName)) ∈ BIG := BIG_of 400 (by decide +kernel) (by decide +kernel)
theorem bw_364 : (Jvm.Cond.selects "ChannelHall$Channel" ({ cls := "ChannelHall$Channel", name := "keyOf", desc := "(DD)D" } : Jvm.MethodName) ({ cls := "ChannelHall$Channel", name := "keyOf", desc := "(DD)D" } : Jvm.MethodName)) ∈ BIG := BIG_of 401 (by decide +kernel) (by decide +kernel)
theorem bw_365 : (Jvm.Cond.code ({ cls := "ChannelHall$Channel", name := "keyOf", desc := "(DD)D" } : Jvm.MethodName) prog_2_method_4_code (5 : Nat) (Option.some Jvm.ClassFile.FieldType.double)) ∈ BIG := BIG_of 402 (by decide +kernel) (by decide +kernel)
theorem bw_366 : (Jvm.Cond.methodLink "ChannelHall" (87 : Nat) ({ cls := "ChannelHall$Channel", name := "acceptsAtOnce", desc := "()Z" } : Jvm.MethodName)) ∈ BIG := BIG_of 403 (by decide +kernel) (by decide +kernel)
theorem bw_367 : (Jvm.Cond.instanceMethod ({ cls := "ChannelHall$Channel", name := "acceptsAtOnce", desc := "()Z" } : Jvm.MethodName)) ∈ BIG := BIG_of 404 (by decide +kernel) (by decide +kernel)
theorem bw_368 : (Jvm.Cond.selects "ChannelHall$Channel" ({ cls := "ChannelHall$Channel", name := "acceptsAtOnce", desc := "()Z" } : Jvm.MethodName) ({ cls := "ChannelHall$Channel", name := "acceptsAtOnce", desc := "()Z" } : Jvm.MethodName)) ∈ BIG := BIG_of 405 (by decide +kernel) (by decide +kernel)
theorem bw_369 : (Jvm.Cond.code ({ cls := "ChannelHall$Channel", name := "acceptsAtOnce", desc := "()Z" } : Jvm.MethodName) prog_2_method_10_code (1 : Nat) (Option.some Jvm.ClassFile.FieldType.boolean)) ∈ BIG := BIG_of 406 (by decide +kernel) (by decide +kernel)
theorem bw_370 : (Jvm.Cond.fieldLink "ChannelHall$Channel" (89 : Nat) "ChannelHall$Role" "GIVER" "LChannelHall$Role;") ∈ BIG := BIG_of 407 (by decide +kernel) (by decide +kernel)
theorem bw_372 : (Jvm.Cond.methodLink "ChannelHall$Channel" (75 : Nat) ({ cls := "ChannelHall$Channel", name := "firstWaiter", desc := "(LChannelHall$Role;)LChannelHall$Worker;" } : Jvm.MethodName)) ∈ BIG := BIG_of 409 (by decide +kernel) (by decide +kernel)
theorem bw_373 : (Jvm.Cond.instanceMethod ({ cls := "ChannelHall$Channel", name := "firstWaiter", desc := "(LChannelHall$Role;)LChannelHall$Worker;" } : Jvm.MethodName)) ∈ BIG := BIG_of 410 (by decide +kernel) (by decide +kernel)
theorem bw_374 : (Jvm.Cond.selects "ChannelHall$Channel" ({ cls := "ChannelHall$Channel", name := "firstWaiter", desc := "(LChannelHall$Role;)LChannelHall$Worker;" } : Jvm.MethodName) ({ cls := "ChannelHall$Channel", name := "firstWaiter", desc := "(LChannelHall$Role;)LChannelHall$Worker;" } : Jvm.MethodName)) ∈ BIG := BIG_of 411 (by decide +kernel) (by decide +kernel)
theorem bw_375 : (Jvm.Cond.code ({ cls := "ChannelHall$Channel", name := "firstWaiter", desc := "(LChannelHall$Role;)LChannelHall$Worker;" } : Jvm.MethodName) prog_2_method_8_code (3 : Nat) (Option.some (Jvm.ClassFile.FieldType.object "ChannelHall$Worker"))) ∈ BIG := BIG_of 412 (by decide +kernel) (by decide +kernel)
theorem bw_376 : (Jvm.Cond.methodLink "ChannelHall$Channel" (79 : Nat) ({ cls := "java/util/ArrayList", name := "size", desc := "()I" } : Jvm.MethodName)) ∈ BIG := BIG_of 413 (by decide +kernel) (by decide +kernel)
theorem bw_377 : (Jvm.Cond.instanceMethod ({ cls := "java/util/ArrayList", name := "size", desc := "()I" } : Jvm.MethodName)) ∈ BIG := BIG_of 414 (by decide +kernel) (by decide +kernel)
theorem bw_378 : (Jvm.Cond.selects "java/util/ArrayList" ({ cls := "java/util/ArrayList", name := "size", desc := "()I" } : Jvm.MethodName) ({ cls := "java/util/ArrayList", name := "size", desc := "()I" } : Jvm.MethodName)) ∈ BIG := BIG_of 415 (by decide +kernel) (by decide +kernel)
theorem bw_379 : (Jvm.Cond.code ({ cls := "java/util/ArrayList", name := "size", desc := "()I" } : Jvm.MethodName) prog_30_method_8_code (1 : Nat) (Option.some Jvm.ClassFile.FieldType.int)) ∈ BIG := BIG_of 416 (by decide +kernel) (by decide +kernel)
theorem bw_380 : (Jvm.Cond.methodLink "ChannelHall$Channel" (56 : Nat) ({ cls := "java/util/ArrayList", name := "get", desc := "(I)Ljava/lang/Object;" } : Jvm.MethodName)) ∈ BIG := BIG_of 417 (by decide +kernel) (by decide +kernel)
theorem bw_381 : (Jvm.Cond.instanceMethod ({ cls := "java/util/ArrayList", name := "get", desc := "(I)Ljava/lang/Object;" } : Jvm.MethodName)) ∈ BIG := BIG_of 418 (by decide +kernel) (by decide +kernel)
theorem bw_382 : (Jvm.Cond.selects "java/util/ArrayList" ({ cls := "java/util/ArrayList", name := "get", desc := "(I)Ljava/lang/Object;" } : Jvm.MethodName) ({ cls := "java/util/ArrayList", name := "get", desc := "(I)Ljava/lang/Object;" } : Jvm.MethodName)) ∈ BIG := BIG_of 419 (by decide +kernel) (by decide +kernel)
theorem bw_383 : (Jvm.Cond.code ({ cls := "java/util/ArrayList", name := "get", desc := "(I)Ljava/lang/Object;" } : Jvm.MethodName) prog_30_method_20_code (2 : Nat) (Option.some (Jvm.ClassFile.FieldType.object "java/lang/Object"))) ∈ BIG := BIG_of 420 (by decide +kernel) (by decide +kernel)
theorem bw_384 : (Jvm.Cond.methodLink "java/util/ArrayList" (118 : Nat) ({ cls := "java/util/Objects", name := "checkIndex", desc := "(II)I" } : Jvm.MethodName)) ∈ BIG := BIG_of 421 (by decide +kernel) (by decide +kernel)
theorem bw_385 : (Jvm.Cond.static ({ cls := "java/util/Objects", name := "checkIndex", desc := "(II)I" } : Jvm.MethodName)) ∈ BIG := BIG_of 422 (by decide +kernel) (by decide +kernel)
theorem bw_386 : (Jvm.Cond.code ({ cls := "java/util/Objects", name := "checkIndex", desc := "(II)I" } : Jvm.MethodName) prog_35_method_17_code (2 : Nat) (Option.some Jvm.ClassFile.FieldType.int)) ∈ BIG := BIG_of 423 (by decide +kernel) (by decide +kernel)
theorem bw_387 : (Jvm.Cond.methodLink "java/util/Objects" (105 : Nat) ({ cls := "jdk/internal/util/Preconditions", name := "checkIndex", desc := "(IILjava/util/function/BiFunction;)I" } : Jvm.MethodName)) ∈ BIG := BIG_of 424 (by decide +kernel) (by decide +kernel)
theorem bw_388 : (Jvm.Cond.static ({ cls := "jdk/internal/util/Preconditions", name := "checkIndex", desc := "(IILjava/util/function/BiFunction;)I" } : Jvm.MethodName)) ∈ BIG := BIG_of 425 (by decide +kernel) (by decide +kernel)
theorem bw_389 : (Jvm.Cond.code ({ cls := "jdk/internal/util/Preconditions", name := "checkIndex", desc := "(IILjava/util/function/BiFunction;)I" } : Jvm.MethodName) prog_39_method_11_code (3 : Nat) (Option.some Jvm.ClassFile.FieldType.int)) ∈ BIG := BIG_of 426 (by decide +kernel) (by decide +kernel)
theorem bw_390 : (Jvm.Cond.methodLink "java/util/ArrayList" (123 : Nat) ({ cls := "java/util/ArrayList", name := "elementData", desc := "(I)Ljava/lang/Object;" } : Jvm.MethodName)) ∈ BIG := BIG_of 427 (by decide +kernel) (by decide +kernel)
theorem bw_391 : (Jvm.Cond.instanceMethod ({ cls := "java/util/ArrayList", name := "elementData", desc := "(I)Ljava/lang/Object;" } : Jvm.MethodName)) ∈ BIG := BIG_of 428 (by decide +kernel) (by decide +kernel)
theorem bw_392 : (Jvm.Cond.selects "java/util/ArrayList" ({ cls := "java/util/ArrayList", name := "elementData", desc := "(I)Ljava/lang/Object;" } : Jvm.MethodName) ({ cls := "java/util/ArrayList", name := "elementData", desc := "(I)Ljava/lang/Object;" } : Jvm.MethodName)) ∈ BIG := BIG_of 429 (by decide +kernel) (by decide +kernel)
theorem bw_393 : (Jvm.Cond.code ({ cls := "java/util/ArrayList", name := "elementData", desc := "(I)Ljava/lang/Object;" } : Jvm.MethodName) prog_30_method_18_code (2 : Nat) (Option.some (Jvm.ClassFile.FieldType.object "java/lang/Object"))) ∈ BIG := BIG_of 430 (by decide +kernel) (by decide +kernel)
theorem bw_394 : (Jvm.Cond.classLink "ChannelHall$Channel" (83 : Nat) "ChannelHall$Worker") ∈ BIG := BIG_of 431 (by decide +kernel) (by decide +kernel)
theorem bw_395 : (Jvm.Cond.fieldLink "ChannelHall$Channel" (69 : Nat) "ChannelHall$Role" "TAKER" "LChannelHall$Role;") ∈ BIG := BIG_of 432 (by decide +kernel) (by decide +kernel)
theorem bw_397 : (Jvm.Cond.methodLink "ChannelHall" (90 : Nat) ({ cls := "ChannelHall$Worker", name := "offer", desc := "(ID)V" } : Jvm.MethodName)) ∈ BIG := BIG_of 434 (by decide +kernel) (by decide +kernel)
theorem bw_398 : (Jvm.Cond.instanceMethod ({ cls := "ChannelHall$Worker", name := "offer", desc := "(ID)V" } : Jvm.MethodName)) ∈ BIG := BIG_of 435 (by decide +kernel) (by decide +kernel)
theorem bw_399 : (Jvm.Cond.selects "ChannelHall$Worker" ({ cls := "ChannelHall$Worker", name := "offer", desc := "(ID)V" } : Jvm.MethodName) ({ cls := "ChannelHall$Worker", name := "offer", desc := "(ID)V" } : Jvm.MethodName)) ∈ BIG := BIG_of 436 (by decide +kernel) (by decide +kernel)
theorem bw_400 : (Jvm.Cond.code ({ cls := "ChannelHall$Worker", name := "offer", desc := "(ID)V" } : Jvm.MethodName) prog_5_method_5_code (4 : Nat) (Option.none : Option Jvm.ClassFile.FieldType)) ∈ BIG := BIG_of 437 (by decide +kernel) (by decide +kernel)
theorem bw_401 : (Jvm.Cond.fieldLink "ChannelHall" (94 : Nat) "ChannelHall$Role" "GIVER" "LChannelHall$Role;") ∈ BIG := BIG_of 438 (by decide +kernel) (by decide +kernel)
theorem bw_402 : (Jvm.Cond.methodLink "ChannelHall" (100 : Nat) ({ cls := "ChannelHall", name := "startWait", desc := "(LChannelHall$Worker;LChannelHall$Channel;LChannelHall$Role;D)I" } : Jvm.MethodName)) ∈ BIG := BIG_of 439 (by decide +kernel) (by decide +kernel)
theorem bw_404 : (Jvm.Cond.instanceMethod ({ cls := "ChannelHall", name := "startWait", desc := "(LChannelHall$Worker;LChannelHall$Channel;LChannelHall$Role;D)I" } : Jvm.MethodName)) ∈ BIG := BIG_of 441 (by decide +kernel) (by decide +kernel)
theorem bw_405 : (Jvm.Cond.code ({ cls := "ChannelHall", name := "startWait", desc := "(LChannelHall$Worker;LChannelHall$Channel;LChannelHall$Role;D)I" } : Jvm.MethodName) prog_1_method_24_code (6 : Nat) (Option.some Jvm.ClassFile.FieldType.int)) ∈ BIG := BIG_of 442 (by decide +kernel) (by decide +kernel)
theorem bw_406 : (Jvm.Cond.methodLink "ChannelHall" (250 : Nat) ({ cls := "java/util/ArrayList", name := "add", desc := "(Ljava/lang/Object;)Z" } : Jvm.MethodName)) ∈ BIG := BIG_of 443 (by decide +kernel) (by decide +kernel)
theorem bw_407 : (Jvm.Cond.instanceMethod ({ cls := "java/util/ArrayList", name := "add", desc := "(Ljava/lang/Object;)Z" } : Jvm.MethodName)) ∈ BIG := BIG_of 444 (by decide +kernel) (by decide +kernel)
theorem bw_408 : (Jvm.Cond.selects "java/util/ArrayList" ({ cls := "java/util/ArrayList", name := "add", desc := "(Ljava/lang/Object;)Z" } : Jvm.MethodName) ({ cls := "java/util/ArrayList", name := "add", desc := "(Ljava/lang/Object;)Z" } : Jvm.MethodName)) ∈ BIG := BIG_of 445 (by decide +kernel) (by decide +kernel)
theorem bw_409 : (Jvm.Cond.code ({ cls := "java/util/ArrayList", name := "add", desc := "(Ljava/lang/Object;)Z" } : Jvm.MethodName) prog_30_method_25_code (2 : Nat) (Option.some Jvm.ClassFile.FieldType.boolean)) ∈ BIG := BIG_of 446 (by decide +kernel) (by decide +kernel)
theorem bw_410 : (Jvm.Cond.methodLink "java/util/ArrayList" (131 : Nat) ({ cls := "java/util/ArrayList", name := "add", desc := "(Ljava/lang/Object;[Ljava/lang/Object;I)V" } : Jvm.MethodName)) ∈ BIG := BIG_of 447 (by decide +kernel) (by decide +kernel)
theorem bw_412 : (Jvm.Cond.instanceMethod ({ cls := "java/util/ArrayList", name := "add", desc := "(Ljava/lang/Object;[Ljava/lang/Object;I)V" } : Jvm.MethodName)) ∈ BIG := BIG_of 449 (by decide +kernel) (by decide +kernel)
theorem bw_413 : (Jvm.Cond.code ({ cls := "java/util/ArrayList", name := "add", desc := "(Ljava/lang/Object;[Ljava/lang/Object;I)V" } : Jvm.MethodName) prog_30_method_24_code (4 : Nat) (Option.none : Option Jvm.ClassFile.FieldType)) ∈ BIG := BIG_of 450 (by decide +kernel) (by decide +kernel)
theorem bw_414 : (Jvm.Cond.methodLink "java/util/ArrayList" (129 : Nat) ({ cls := "java/util/ArrayList", name := "grow", desc := "()[Ljava/lang/Object;" } : Jvm.MethodName)) ∈ BIG := BIG_of 451 (by decide +kernel) (by decide +kernel)
theorem bw_416 : (Jvm.Cond.instanceMethod ({ cls := "java/util/ArrayList", name := "grow", desc := "()[Ljava/lang/Object;" } : Jvm.MethodName)) ∈ BIG := BIG_of 453 (by decide +kernel) (by decide +kernel)
theorem bw_417 : (Jvm.Cond.code ({ cls := "java/util/ArrayList", name := "grow", desc := "()[Ljava/lang/Object;" } : Jvm.MethodName) prog_30_method_7_code (1 : Nat) (Option.some (Jvm.ClassFile.FieldType.array (Jvm.ClassFile.FieldType.object "java/lang/Object")))) ∈ BIG := BIG_of 454 (by decide +kernel) (by decide +kernel)
theorem bw_418 : (Jvm.Cond.methodLink "java/util/ArrayList" (69 : Nat) ({ cls := "java/util/ArrayList", name := "grow", desc := "(I)[Ljava/lang/Object;" } : Jvm.MethodName)) ∈ BIG := BIG_of 455 (by decide +kernel) (by decide +kernel)
theorem bw_420 : (Jvm.Cond.instanceMethod ({ cls := "java/util/ArrayList", name := "grow", desc := "(I)[Ljava/lang/Object;" } : Jvm.MethodName)) ∈ BIG := BIG_of 457 (by decide +kernel) (by decide +kernel)
theorem bw_421 : (Jvm.Cond.code ({ cls := "java/util/ArrayList", name := "grow", desc := "(I)[Ljava/lang/Object;" } : Jvm.MethodName) prog_30_method_6_code (4 : Nat) (Option.some (Jvm.ClassFile.FieldType.array (Jvm.ClassFile.FieldType.object "java/lang/Object")))) ∈ BIG := BIG_of 458 (by decide +kernel) (by decide +kernel)
theorem bw_422 : (Jvm.Cond.methodLink "java/util/ArrayList" (73 : Nat) ({ cls := "jdk/internal/util/ArraysSupport", name := "newLength", desc := "(III)I" } : Jvm.MethodName)) ∈ BIG := BIG_of 459 (by decide +kernel) (by decide +kernel)
theorem bw_423 : (Jvm.Cond.static ({ cls := "jdk/internal/util/ArraysSupport", name := "newLength", desc := "(III)I" } : Jvm.MethodName)) ∈ BIG := BIG_of 460 (by decide +kernel) (by decide +kernel)
theorem bw_424 : (Jvm.Cond.code ({ cls := "jdk/internal/util/ArraysSupport", name := "newLength", desc := "(III)I" } : Jvm.MethodName) prog_38_method_27_code (4 : Nat) (Option.some Jvm.ClassFile.FieldType.int)) ∈ BIG := BIG_of 461 (by decide +kernel) (by decide +kernel)
theorem bw_425 : (Jvm.Cond.methodLink "jdk/internal/util/ArraysSupport" (194 : Nat) ({ cls := "java/lang/Math", name := "max", desc := "(II)I" } : Jvm.MethodName)) ∈ BIG := BIG_of 462 (by decide +kernel) (by decide +kernel)
theorem bw_426 : (Jvm.Cond.static ({ cls := "java/lang/Math", name := "max", desc := "(II)I" } : Jvm.MethodName)) ∈ BIG := BIG_of 463 (by decide +kernel) (by decide +kernel)
theorem bw_427 : (Jvm.Cond.code ({ cls := "java/lang/Math", name := "max", desc := "(II)I" } : Jvm.MethodName) prog_19_method_65_code (2 : Nat) (Option.some Jvm.ClassFile.FieldType.int)) ∈ BIG := BIG_of 464 (by decide +kernel) (by decide +kernel)
theorem bw_428 : (Jvm.Cond.constant "jdk/internal/util/ArraysSupport" (200 : Nat) (2147483639 : Int32)) ∈ BIG := BIG_of 465 (by decide +kernel) (by decide +kernel)
theorem bw_429 : (Jvm.Cond.methodLink "jdk/internal/util/ArraysSupport" (201 : Nat) ({ cls := "jdk/internal/util/ArraysSupport", name := "hugeLength", desc := "(II)I" } : Jvm.MethodName)) ∈ BIG := BIG_of 466 (by decide +kernel) (by decide +kernel)
theorem bw_430 : (Jvm.Cond.static ({ cls := "jdk/internal/util/ArraysSupport", name := "hugeLength", desc := "(II)I" } : Jvm.MethodName)) ∈ BIG := BIG_of 467 (by decide +kernel) (by decide +kernel)
theorem bw_431 : (Jvm.Cond.code ({ cls := "jdk/internal/util/ArraysSupport", name := "hugeLength", desc := "(II)I" } : Jvm.MethodName) prog_38_method_28_code (3 : Nat) (Option.some Jvm.ClassFile.FieldType.int)) ∈ BIG := BIG_of 468 (by decide +kernel) (by decide +kernel)
theorem bw_432 : (Jvm.Cond.methodLink "java/util/ArrayList" (66 : Nat) ({ cls := "java/util/Arrays", name := "copyOf", desc := "([Ljava/lang/Object;I)[Ljava/lang/Object;" } : Jvm.MethodName)) ∈ BIG := BIG_of 469 (by decide +kernel) (by decide +kernel)
theorem bw_433 : (Jvm.Cond.static ({ cls := "java/util/Arrays", name := "copyOf", desc := "([Ljava/lang/Object;I)[Ljava/lang/Object;" } : Jvm.MethodName)) ∈ BIG := BIG_of 470 (by decide +kernel) (by decide +kernel)
theorem bw_434 : (Jvm.Cond.code ({ cls := "java/util/Arrays", name := "copyOf", desc := "([Ljava/lang/Object;I)[Ljava/lang/Object;" } : Jvm.MethodName) prog_31_method_119_code (2 : Nat) (Option.some (Jvm.ClassFile.FieldType.array (Jvm.ClassFile.FieldType.object "java/lang/Object")))) ∈ BIG := BIG_of 471 (by decide +kernel) (by decide +kernel)
theorem bw_435 : (Jvm.Cond.methodLink "java/util/Arrays" (86 : Nat) ({ cls := "java/lang/Object", name := "getClass", desc := "()Ljava/lang/Class;" } : Jvm.MethodName)) ∈ BIG := BIG_of 472 (by decide +kernel) (by decide +kernel)
theorem bw_436 : (Jvm.Cond.instanceMethod ({ cls := "java/lang/Object", name := "getClass", desc := "()Ljava/lang/Class;" } : Jvm.MethodName)) ∈ BIG := BIG_of 473 (by decide +kernel) (by decide +kernel)
theorem bw_437 : (Jvm.Cond.sameMethod "java/lang/Object" "java/lang/Object" "getClass" "()Ljava/lang/Class;") ∈ BIG := BIG_of 474 (by decide +kernel) (by decide +kernel)
theorem bw_438 : (Jvm.Cond.selects "ChannelHall" ({ cls := "java/lang/Object", name := "getClass", desc := "()Ljava/lang/Class;" } : Jvm.MethodName) ({ cls := "java/lang/Object", name := "getClass", desc := "()Ljava/lang/Class;" } : Jvm.MethodName)) ∈ BIG := BIG_of 475 (by decide +kernel) (by decide +kernel)
theorem bw_439 : (Jvm.Cond.selects "ChannelHall$Channel" ({ cls := "java/lang/Object", name := "getClass", desc := "()Ljava/lang/Class;" } : Jvm.MethodName) ({ cls := "java/lang/Object", name := "getClass", desc := "()Ljava/lang/Class;" } : Jvm.MethodName)) ∈ BIG := BIG_of 476 (by decide +kernel) (by decide +kernel)
theorem bw_440 : (Jvm.Cond.selects "ChannelHall$Item" ({ cls := "java/lang/Object", name := "getClass", desc := "()Ljava/lang/Class;" } : Jvm.MethodName) ({ cls := "java/lang/Object", name := "getClass", desc := "()Ljava/lang/Class;" } : Jvm.MethodName)) ∈ BIG := BIG_of 477 (by decide +kernel) (by decide +kernel)
theorem bw_441 : (Jvm.Cond.selects "ChannelHall$Role" ({ cls := "java/lang/Object", name := "getClass", desc := "()Ljava/lang/Class;" } : Jvm.MethodName) ({ cls := "java/lang/Object", name := "getClass", desc := "()Ljava/lang/Class;" } : Jvm.MethodName)) ∈ BIG := BIG_of 478 (by decide +kernel) (by decide +kernel)
theorem bw_442 : (Jvm.Cond.selects "ChannelHall$Worker" ({ cls := "java/lang/Object", name := "getClass", desc := "()Ljava/lang/Class;" } : Jvm.MethodName) ({ cls := "java/lang/Object", name := "getClass", desc := "()Ljava/lang/Class;" } : Jvm.MethodName)) ∈ BIG := BIG_of 479 (by decide +kernel) (by decide +kernel)
theorem bw_443 : (Jvm.Cond.selects "ChannelHallModel" ({ cls := "java/lang/Object", name := "getClass", desc := "()Ljava/lang/Class;" } : Jvm.MethodName) ({ cls := "java/lang/Object", name := "getClass", desc := "()Ljava/lang/Class;" } : Jvm.MethodName)) ∈ BIG := BIG_of 480 (by decide +kernel) (by decide +kernel)
theorem bw_444 : (Jvm.Cond.selects "java/lang/ArithmeticException" ({ cls := "java/lang/Object", name := "getClass", desc := "()Ljava/lang/Class;" } : Jvm.MethodName) ({ cls := "java/lang/Object", name := "getClass", desc := "()Ljava/lang/Class;" } : Jvm.MethodName)) ∈ BIG := BIG_of 481 (by decide +kernel) (by decide +kernel)
theorem bw_445 : (Jvm.Cond.selects "java/lang/IllegalArgumentException" ({ cls := "java/lang/Object", name := "getClass", desc := "()Ljava/lang/Class;" } : Jvm.MethodName) ({ cls := "java/lang/Object", name := "getClass", desc := "()Ljava/lang/Class;" } : Jvm.MethodName)) ∈ BIG := BIG_of 482 (by decide +kernel) (by decide +kernel)
theorem bw_446 : (Jvm.Cond.selects "java/lang/IllegalStateException" ({ cls := "java/lang/Object", name := "getClass", desc := "()Ljava/lang/Class;" } : Jvm.MethodName) ({ cls := "java/lang/Object", name := "getClass", desc := "()Ljava/lang/Class;" } : Jvm.MethodName)) ∈ BIG := BIG_of 483 (by decide +kernel) (by decide +kernel)
theorem bw_447 : (Jvm.Cond.selects "java/lang/IndexOutOfBoundsException" ({ cls := "java/lang/Object", name := "getClass", desc := "()Ljava/lang/Class;" } : Jvm.MethodName) ({ cls := "java/lang/Object", name := "getClass", desc := "()Ljava/lang/Class;" } : Jvm.MethodName)) ∈ BIG := BIG_of 484 (by decide +kernel) (by decide +kernel)
theorem bw_450 : (Jvm.Cond.selects "java/lang/UnsupportedOperationException" ({ cls := "java/lang/Object", name := "getClass", desc := "()Ljava/lang/Class;" } : Jvm.MethodName) ({ cls := "java/lang/Object", name := "getClass", desc := "()Ljava/lang/Class;" } : Jvm.MethodName)) ∈ BIG := BIG_of 487 (by decide +kernel) (by decide +kernel)
theorem bw_451 : (Jvm.Cond.selects "java/util/ArrayList" ({ cls := "java/lang/Object", name := "getClass", desc := "()Ljava/lang/Class;" } : Jvm.MethodName) ({ cls := "java/lang/Object", name := "getClass", desc := "()Ljava/lang/Class;" } : Jvm.MethodName)) ∈ BIG := BIG_of 488 (by decide +kernel) (by decide +kernel)
theorem bw_452 : (Jvm.Cond.selects "java/util/NoSuchElementException" ({ cls := "java/lang/Object", name := "getClass", desc := "()Ljava/lang/Class;" } : Jvm.MethodName) ({ cls := "java/lang/Object", name := "getClass", desc := "()Ljava/lang/Class;" } : Jvm.MethodName)) ∈ BIG := BIG_of 489 (by decide +kernel) (by decide +kernel)
theorem bw_453 : (Jvm.Cond.native ({ cls := "java/lang/Object", name := "getClass", desc := "()Ljava/lang/Class;" } : Jvm.MethodName)) ∈ BIG := BIG_of 490 (by decide +kernel) (by decide +kernel)
theorem bw_454 : (Jvm.Cond.methodLink "java/util/Arrays" (300 : Nat) ({ cls := "java/util/Arrays", name := "copyOf", desc := "([Ljava/lang/Object;ILjava/lang/Class;)[Ljava/lang/Object;" } : Jvm.MethodName)) ∈ BIG := BIG_of 491 (by decide +kernel) (by decide +kernel)
theorem bw_455 : (Jvm.Cond.static ({ cls := "java/util/Arrays", name := "copyOf", desc := "([Ljava/lang/Object;ILjava/lang/Class;)[Ljava/lang/Object;" } : Jvm.MethodName)) ∈ BIG := BIG_of 492 (by decide +kernel) (by decide +kernel)
theorem bw_456 : (Jvm.Cond.code ({ cls := "java/util/Arrays", name := "copyOf", desc := "([Ljava/lang/Object;ILjava/lang/Class;)[Ljava/lang/Object;" } : Jvm.MethodName) prog_31_method_120_code (4 : Nat) (Option.some (Jvm.ClassFile.FieldType.array (Jvm.ClassFile.FieldType.object "java/lang/Object")))) ∈ BIG := BIG_of 493 (by decide +kernel) (by decide +kernel)
theorem bw_457 : (Jvm.Cond.classLink "java/util/Arrays" (110 : Nat) "[Ljava/lang/Object;") ∈ BIG := BIG_of 494 (by decide +kernel) (by decide +kernel)
theorem bw_459 : (Jvm.Cond.classLink "java/util/Arrays" (2 : Nat) "java/lang/Object") ∈ BIG := BIG_of 496 (by decide +kernel) (by decide +kernel)
theorem bw_460 : (Jvm.Cond.methodLink "java/util/Arrays" (304 : Nat) ({ cls := "java/lang/Math", name := "min", desc := "(II)I" } : Jvm.MethodName)) ∈ BIG := BIG_of 497 (by decide +kernel) (by decide +kernel)
theorem bw_461 : (Jvm.Cond.static ({ cls := "java/lang/Math", name := "min", desc := "(II)I" } : Jvm.MethodName)) ∈ BIG := BIG_of 498 (by decide +kernel) (by decide +kernel)
theorem bw_462 : (Jvm.Cond.code ({ cls := "java/lang/Math", name := "min", desc := "(II)I" } : Jvm.MethodName) prog_19_method_69_code (2 : Nat) (Option.some Jvm.ClassFile.FieldType.int)) ∈ BIG := BIG_of 499 (by decide +kernel) (by decide +kernel)
theorem bw_463 : (Jvm.Cond.methodLink "java/util/Arrays" (150 : Nat) ({ cls := "java/lang/System", name := "arraycopy", desc := "(Ljava/lang/Object;ILjava/lang/Object;II)V" } : Jvm.MethodName)) ∈ BIG := BIG_of 500 (by decide +kernel) (by decide +kernel)
theorem bw_464 : (Jvm.Cond.static ({ cls := "java/lang/System", name := "arraycopy", desc := "(Ljava/lang/Object;ILjava/lang/Object;II)V" } : Jvm.MethodName)) ∈ BIG := BIG_of 501 (by decide +kernel) (by decide +kernel)
theorem bw_465 : (Jvm.Cond.native ({ cls := "java/lang/System", name := "arraycopy", desc := "(Ljava/lang/Object;ILjava/lang/Object;II)V" } : Jvm.MethodName)) ∈ BIG := BIG_of 502 (by decide +kernel) (by decide +kernel)
theorem bw_466 : (Jvm.Cond.methodLink "java/util/ArrayList" (79 : Nat) ({ cls := "java/lang/Math", name := "max", desc := "(II)I" } : Jvm.MethodName)) ∈ BIG := BIG_of 503 (by decide +kernel) (by decide +kernel)
theorem bw_467 : (Jvm.Cond.classLink "java/util/ArrayList" (7 : Nat) "java/lang/Object") ∈ BIG := BIG_of 504 (by decide +kernel) (by decide +kernel)
theorem bw_468 : (Jvm.Cond.methodLink "ChannelHall" (104 : Nat) ({ cls := "ChannelHall$Channel", name := "accept", desc := "(IDD)V" } : Jvm.MethodName)) ∈ BIG := BIG_of 505 (by decide +kernel) (by decide +kernel)
theorem bw_469 : (Jvm.Cond.instanceMethod ({ cls := "ChannelHall$Channel", name := "accept", desc := "(IDD)V" } : Jvm.MethodName)) ∈ BIG := BIG_of 506 (by decide +kernel) (by decide +kernel)
theorem bw_470 : (Jvm.Cond.selects "ChannelHall$Channel" ({ cls := "ChannelHall$Channel", name := "accept", desc := "(IDD)V" } : Jvm.MethodName) ({ cls := "ChannelHall$Channel", name := "accept", desc := "(IDD)V" } : Jvm.MethodName)) ∈ BIG := BIG_of 507 (by decide +kernel) (by decide +kernel)
theorem bw_471 : (Jvm.Cond.code ({ cls := "ChannelHall$Channel", name := "accept", desc := "(IDD)V" } : Jvm.MethodName) prog_2_method_11_code (7 : Nat) (Option.none : Option Jvm.ClassFile.FieldType)) ∈ BIG := BIG_of 508 (by decide +kernel) (by decide +kernel)
theorem bw_472 : (Jvm.Cond.methodLink "ChannelHall$Channel" (92 : Nat) ({ cls := "ChannelHall$Channel", name := "put", desc := "(IDD)V" } : Jvm.MethodName)) ∈ BIG := BIG_of 509 (by decide +kernel) (by decide +kernel)
theorem bw_474 : (Jvm.Cond.instanceMethod ({ cls := "ChannelHall$Channel", name := "put", desc := "(IDD)V" } : Jvm.MethodName)) ∈ BIG := BIG_of 511 (by decide +kernel) (by decide +kernel)
theorem bw_475 : (Jvm.Cond.code ({ cls := "ChannelHall$Channel", name := "put", desc := "(IDD)V" } : Jvm.MethodName) prog_2_method_16_code (7 : Nat) (Option.none : Option Jvm.ClassFile.FieldType)) ∈ BIG := BIG_of 512 (by decide +kernel) (by decide +kernel)
theorem bw_476 : (Jvm.Cond.classLink "ChannelHall$Channel" (60 : Nat) "ChannelHall$Item") ∈ BIG := BIG_of 513 (by decide +kernel) (by decide +kernel)
theorem bw_477 : (Jvm.Cond.instantiable "ChannelHall$Item" (3 : Nat)) ∈ BIG := BIG_of 514 (by decide +kernel) (by decide +kernel)
theorem bw_478 : (Jvm.Cond.methodLink "ChannelHall$Channel" (117 : Nat) ({ cls := "ChannelHall$Item", name := "<init>", desc := "(IDD)V" } : Jvm.MethodName)) ∈ BIG := BIG_of 515 (by decide +kernel) (by decide +kernel)
theorem bw_479 : (Jvm.Cond.instanceMethod ({ cls := "ChannelHall$Item", name := "<init>", desc := "(IDD)V" } : Jvm.MethodName)) ∈ BIG := BIG_of 516 (by decide +kernel) (by decide +kernel)
theorem bw_480 : (Jvm.Cond.code ({ cls := "ChannelHall$Item", name := "<init>", desc := "(IDD)V" } : Jvm.MethodName) prog_3_method_1_code (6 : Nat) (Option.none : Option Jvm.ClassFile.FieldType)) ∈ BIG := BIG_of 517 (by decide +kernel) (by decide +kernel)
theorem bw_481 : (Jvm.Cond.methodLink "ChannelHall$Item" (1 : Nat) ({ cls := "java/lang/Object", name := "<init>", desc := "()V" } : Jvm.MethodName)) ∈ BIG := BIG_of 518 (by decide +kernel) (by decide +kernel)
theorem bw_482 : (Jvm.Cond.fieldLink "ChannelHall$Item" (7 : Nat) "ChannelHall$Item" "value" "I") ∈ BIG := BIG_of 519 (by decide +kernel) (by decide +kernel)
theorem bw_483 : (Jvm.Cond.fieldLink "ChannelHall" (224 : Nat) "ChannelHall$Item" "value" "I") ∈ BIG := BIG_of 520 (by decide +kernel) (by decide +kernel)
theorem bw_484 : (Jvm.Cond.fieldLink "ChannelHall$Channel" (126 : Nat) "ChannelHall$Item" "value" "I") ∈ BIG := BIG_of 521 (by decide +kernel) (by decide +kernel)
theorem bw_485 : (Jvm.Cond.fieldLink "ChannelHall$Item" (13 : Nat) "ChannelHall$Item" "key" "D") ∈ BIG := BIG_of 522 (by decide +kernel) (by decide +kernel)
theorem bw_486 : (Jvm.Cond.fieldLink "ChannelHall$Channel" (62 : Nat) "ChannelHall$Item" "key" "D") ∈ BIG := BIG_of 523 (by decide +kernel) (by decide +kernel)
theorem bw_487 : (Jvm.Cond.fieldLink "ChannelHall$Item" (17 : Nat) "ChannelHall$Item" "since" "D") ∈ BIG := BIG_of 524 (by decide +kernel) (by decide +kernel)
theorem bw_488 : (Jvm.Cond.fieldLink "ChannelHall$Channel" (133 : Nat) "ChannelHall$Item" "since" "D") ∈ BIG := BIG_of 525 (by decide +kernel) (by decide +kernel)
theorem bw_489 : (Jvm.Cond.laysFinal "ChannelHall$Item" "ChannelHall$Item" "value" "I") ∈ BIG := BIG_of 526 (by decide +kernel) (by decide +kernel)
theorem bw_491 : (Jvm.Cond.laysFinal "ChannelHall$Item" "ChannelHall$Item" "key" "D") ∈ BIG := BIG_of 528 (by decide +kernel) (by decide +kernel)
theorem bw_493 : (Jvm.Cond.laysFinal "ChannelHall$Item" "ChannelHall$Item" "since" "D") ∈ BIG := BIG_of 530 (by decide +kernel) (by decide +kernel)
theorem bw_496 : (Jvm.Cond.methodLink "ChannelHall$Channel" (119 : Nat) ({ cls := "java/util/ArrayList", name := "add", desc := "(ILjava/lang/Object;)V" } : Jvm.MethodName)) ∈ BIG := BIG_of 533 (by decide +kernel) (by decide +kernel)
theorem bw_497 : (Jvm.Cond.instanceMethod ({ cls := "java/util/ArrayList", name := "add", desc := "(ILjava/lang/Object;)V" } : Jvm.MethodName)) ∈ BIG := BIG_of 534 (by decide +kernel) (by decide +kernel)
theorem bw_498 : (Jvm.Cond.selects "java/util/ArrayList" ({ cls := "java/util/ArrayList", name := "add", desc := "(ILjava/lang/Object;)V" } : Jvm.MethodName) ({ cls := "java/util/ArrayList", name := "add", desc := "(ILjava/lang/Object;)V" } : Jvm.MethodName)) ∈ BIG := BIG_of 535 (by decide +kernel) (by decide +kernel)
theorem bw_499 : (Jvm.Cond.code ({ cls := "java/util/ArrayList", name := "add", desc := "(ILjava/lang/Object;)V" } : Jvm.MethodName) prog_30_method_26_code (5 : Nat) (Option.none : Option Jvm.ClassFile.FieldType)) ∈ BIG := BIG_of 536 (by decide +kernel) (by decide +kernel)
theorem bw_500 : (Jvm.Cond.methodLink "java/util/ArrayList" (135 : Nat) ({ cls := "java/util/ArrayList", name := "rangeCheckForAdd", desc := "(I)V" } : Jvm.MethodName)) ∈ BIG := BIG_of 537 (by decide +kernel) (by decide +kernel)
theorem bw_502 : (Jvm.Cond.instanceMethod ({ cls := "java/util/ArrayList", name := "rangeCheckForAdd", desc := "(I)V" } : Jvm.MethodName)) ∈ BIG := BIG_of 539 (by decide +kernel) (by decide +kernel)
theorem bw_503 : (Jvm.Cond.code ({ cls := "java/util/ArrayList", name := "rangeCheckForAdd", desc := "(I)V" } : Jvm.MethodName) prog_30_method_45_code (2 : Nat) (Option.none : Option Jvm.ClassFile.FieldType)) ∈ BIG := BIG_of 540 (by decide +kernel) (by decide +kernel)
theorem bw_504 : (Jvm.Cond.classLink "java/util/ArrayList" (187 : Nat) "java/lang/IndexOutOfBoundsException") ∈ BIG := BIG_of 541 (by decide +kernel) (by decide +kernel)
theorem bw_505 : (Jvm.Cond.instantiable "java/lang/IndexOutOfBoundsException" (6 : Nat)) ∈ BIG := BIG_of 542 (by decide +kernel) (by decide +kernel)
theorem bw_507 : (Jvm.Cond.selects "java/lang/IndexOutOfBoundsException" ({ cls := "java/lang/Throwable", name := "fillInStackTrace", desc := "(I)Ljava/lang/Throwable;" } : Jvm.MethodName) ({ cls := "java/lang/Throwable", name := "fillInStackTrace", desc := "(I)Ljava/lang/Throwable;" } : Jvm.MethodName)) ∈ BIG := BIG_of 544 (by decide +kernel) (by decide +kernel)
theorem bw_508 : (Jvm.Cond.lays "java/lang/IndexOutOfBoundsException" "java/lang/Throwable" "cause" "Ljava/lang/Throwable;") ∈ BIG := BIG_of 545 (by decide +kernel) (by decide +kernel)
theorem bw_509 : (Jvm.Cond.lays "java/lang/IndexOutOfBoundsException" "java/lang/Throwable" "stackTrace" "[Ljava/lang/StackTraceElement;") ∈ BIG := BIG_of 546 (by decide +kernel) (by decide +kernel)
theorem bw_510 : (Jvm.Cond.lays "java/lang/IndexOutOfBoundsException" "java/lang/Throwable" "suppressedExceptions" "Ljava/util/List;") ∈ BIG := BIG_of 547 (by decide +kernel) (by decide +kernel)
theorem bw_511 : (Jvm.Cond.lays "java/lang/IndexOutOfBoundsException" "java/lang/Throwable" "detailMessage" "Ljava/lang/String;") ∈ BIG := BIG_of 548 (by decide +kernel) (by decide +kernel)
theorem bw_512 : (Jvm.Cond.lays "java/lang/IndexOutOfBoundsException" "java/lang/Throwable" "backtrace" "Ljava/lang/Object;") ∈ BIG := BIG_of 549 (by decide +kernel) (by decide +kernel)
theorem bw_513 : (Jvm.Cond.methodLink "java/util/ArrayList" (198 : Nat) ({ cls := "java/util/ArrayList", name := "outOfBoundsMsg", desc := "(I)Ljava/lang/String;" } : Jvm.MethodName)) ∈ BIG := BIG_of 550 (by decide +kernel) (by decide +kernel)
theorem bw_515 : (Jvm.Cond.instanceMethod ({ cls := "java/util/ArrayList", name := "outOfBoundsMsg", desc := "(I)Ljava/lang/String;" } : Jvm.MethodName)) ∈ BIG := BIG_of 552 (by decide +kernel) (by decide +kernel)
theorem bw_548 : (Jvm.Cond.arrayClass Jvm.ClassFile.FieldType.byte) ∈ BIG := BIG_of 585 (by decide +kernel) (by decide +kernel)
theorem bw_576 : (Jvm.Cond.native ({ cls := "java/lang/Object", name := "clone", desc := "()Ljava/lang/Object;" } : Jvm.MethodName)) ∈ BIG := BIG_of 613 (by decide +kernel) (by decide +kernel)
theorem bw_577 : (Jvm.Cond.instanceMethod ({ cls := "java/lang/Object", name := "clone", desc := "()Ljava/lang/Object;" } : Jvm.MethodName)) ∈ BIG := BIG_of 614 (by decide +kernel) (by decide +kernel)
theorem bw_601 : (Jvm.Cond.static ({ cls := "jdk/internal/util/Preconditions", name := "checkFromToIndex", desc := "(IIILjava/util/function/BiFunction;)I" } : Jvm.MethodName)) ∈ BIG := BIG_of 638 (by decide +kernel) (by decide +kernel)
theorem bw_602 : (Jvm.Cond.code ({ cls := "jdk/internal/util/Preconditions", name := "checkFromToIndex", desc := "(IIILjava/util/function/BiFunction;)I" } : Jvm.MethodName) prog_39_method_12_code (4 : Nat) (Option.some Jvm.ClassFile.FieldType.int)) ∈ BIG := BIG_of 639 (by decide +kernel) (by decide +kernel)
theorem bw_647 : (Jvm.Cond.static ({ cls := "jdk/internal/util/Preconditions", name := "checkFromIndexSize", desc := "(IIILjava/util/function/BiFunction;)I" } : Jvm.MethodName)) ∈ BIG := BIG_of 684 (by decide +kernel) (by decide +kernel)
theorem bw_648 : (Jvm.Cond.code ({ cls := "jdk/internal/util/Preconditions", name := "checkFromIndexSize", desc := "(IIILjava/util/function/BiFunction;)I" } : Jvm.MethodName) prog_39_method_13_code (4 : Nat) (Option.some Jvm.ClassFile.FieldType.int)) ∈ BIG := BIG_of 685 (by decide +kernel) (by decide +kernel)
theorem bw_717 : (Jvm.Cond.classLink "java/util/Arrays" (43 : Nat) "java/lang/IllegalArgumentException") ∈ BIG := BIG_of 754 (by decide +kernel) (by decide +kernel)
theorem bw_764 : (Jvm.Cond.lays "java/lang/IndexOutOfBoundsException" "java/lang/Throwable" "depth" "I") ∈ BIG := BIG_of 801 (by decide +kernel) (by decide +kernel)
theorem bw_766 : (Jvm.Cond.methodLink "java/util/ArrayList" (112 : Nat) ({ cls := "java/lang/System", name := "arraycopy", desc := "(Ljava/lang/Object;ILjava/lang/Object;II)V" } : Jvm.MethodName)) ∈ BIG := BIG_of 803 (by decide +kernel) (by decide +kernel)
theorem bw_767 : (Jvm.Cond.methodLink "ChannelHall$Channel" (96 : Nat) ({ cls := "ChannelHall$Channel", name := "handOver", desc := "(ILChannelHall$Worker;)V" } : Jvm.MethodName)) ∈ BIG := BIG_of 804 (by decide +kernel) (by decide +kernel)
theorem bw_769 : (Jvm.Cond.instanceMethod ({ cls := "ChannelHall$Channel", name := "handOver", desc := "(ILChannelHall$Worker;)V" } : Jvm.MethodName)) ∈ BIG := BIG_of 806 (by decide +kernel) (by decide +kernel)
theorem bw_770 : (Jvm.Cond.code ({ cls := "ChannelHall$Channel", name := "handOver", desc := "(ILChannelHall$Worker;)V" } : Jvm.MethodName) prog_2_method_18_code (3 : Nat) (Option.none : Option Jvm.ClassFile.FieldType)) ∈ BIG := BIG_of 807 (by decide +kernel) (by decide +kernel)
theorem bw_771 : (Jvm.Cond.methodLink "ChannelHall$Channel" (129 : Nat) ({ cls := "ChannelHall$Worker", name := "receive", desc := "(I)V" } : Jvm.MethodName)) ∈ BIG := BIG_of 808 (by decide +kernel) (by decide +kernel)
theorem bw_772 : (Jvm.Cond.instanceMethod ({ cls := "ChannelHall$Worker", name := "receive", desc := "(I)V" } : Jvm.MethodName)) ∈ BIG := BIG_of 809 (by decide +kernel) (by decide +kernel)
theorem bw_773 : (Jvm.Cond.selects "ChannelHall$Worker" ({ cls := "ChannelHall$Worker", name := "receive", desc := "(I)V" } : Jvm.MethodName) ({ cls := "ChannelHall$Worker", name := "receive", desc := "(I)V" } : Jvm.MethodName)) ∈ BIG := BIG_of 810 (by decide +kernel) (by decide +kernel)
theorem bw_774 : (Jvm.Cond.code ({ cls := "ChannelHall$Worker", name := "receive", desc := "(I)V" } : Jvm.MethodName) prog_5_method_4_code (2 : Nat) (Option.none : Option Jvm.ClassFile.FieldType)) ∈ BIG := BIG_of 811 (by decide +kernel) (by decide +kernel)
theorem bw_775 : (Jvm.Cond.methodLink "ChannelHall$Channel" (136 : Nat) ({ cls := "ChannelHall$Channel", name := "addStay", desc := "(D)V" } : Jvm.MethodName)) ∈ BIG := BIG_of 812 (by decide +kernel) (by decide +kernel)
theorem bw_777 : (Jvm.Cond.instanceMethod ({ cls := "ChannelHall$Channel", name := "addStay", desc := "(D)V" } : Jvm.MethodName)) ∈ BIG := BIG_of 814 (by decide +kernel) (by decide +kernel)
theorem bw_778 : (Jvm.Cond.code ({ cls := "ChannelHall$Channel", name := "addStay", desc := "(D)V" } : Jvm.MethodName) prog_2_method_19_code (3 : Nat) (Option.none : Option Jvm.ClassFile.FieldType)) ∈ BIG := BIG_of 815 (by decide +kernel) (by decide +kernel)
theorem bw_779 : (Jvm.Cond.methodLink "ChannelHall$Channel" (100 : Nat) ({ cls := "ChannelHall$Channel", name := "release", desc := "(LChannelHall$Worker;I)V" } : Jvm.MethodName)) ∈ BIG := BIG_of 816 (by decide +kernel) (by decide +kernel)
theorem bw_780 : (Jvm.Cond.instanceMethod ({ cls := "ChannelHall$Channel", name := "release", desc := "(LChannelHall$Worker;I)V" } : Jvm.MethodName)) ∈ BIG := BIG_of 817 (by decide +kernel) (by decide +kernel)
theorem bw_781 : (Jvm.Cond.selects "ChannelHall$Channel" ({ cls := "ChannelHall$Channel", name := "release", desc := "(LChannelHall$Worker;I)V" } : Jvm.MethodName) ({ cls := "ChannelHall$Channel", name := "release", desc := "(LChannelHall$Worker;I)V" } : Jvm.MethodName)) ∈ BIG := BIG_of 818 (by decide +kernel) (by decide +kernel)
theorem bw_782 : (Jvm.Cond.code ({ cls := "ChannelHall$Channel", name := "release", desc := "(LChannelHall$Worker;I)V" } : Jvm.MethodName) prog_2_method_20_code (4 : Nat) (Option.none : Option Jvm.ClassFile.FieldType)) ∈ BIG := BIG_of 819 (by decide +kernel) (by decide +kernel)
theorem bw_783 : (Jvm.Cond.methodLink "ChannelHall$Channel" (123 : Nat) ({ cls := "java/util/ArrayList", name := "remove", desc := "(I)Ljava/lang/Object;" } : Jvm.MethodName)) ∈ BIG := BIG_of 820 (by decide +kernel) (by decide +kernel)
theorem bw_784 : (Jvm.Cond.instanceMethod ({ cls := "java/util/ArrayList", name := "remove", desc := "(I)Ljava/lang/Object;" } : Jvm.MethodName)) ∈ BIG := BIG_of 821 (by decide +kernel) (by decide +kernel)
theorem bw_785 : (Jvm.Cond.selects "java/util/ArrayList" ({ cls := "java/util/ArrayList", name := "remove", desc := "(I)Ljava/lang/Object;" } : Jvm.MethodName) ({ cls := "java/util/ArrayList", name := "remove", desc := "(I)Ljava/lang/Object;" } : Jvm.MethodName)) ∈ BIG := BIG_of 822 (by decide +kernel) (by decide +kernel)
theorem bw_786 : (Jvm.Cond.code ({ cls := "java/util/ArrayList", name := "remove", desc := "(I)Ljava/lang/Object;" } : Jvm.MethodName) prog_30_method_29_code (4 : Nat) (Option.some (Jvm.ClassFile.FieldType.object "java/lang/Object"))) ∈ BIG := BIG_of 823 (by decide +kernel) (by decide +kernel)
theorem bw_787 : (Jvm.Cond.methodLink "java/util/ArrayList" (144 : Nat) ({ cls := "java/util/ArrayList", name := "fastRemove", desc := "([Ljava/lang/Object;I)V" } : Jvm.MethodName)) ∈ BIG := BIG_of 824 (by decide +kernel) (by decide +kernel)
theorem bw_789 : (Jvm.Cond.instanceMethod ({ cls := "java/util/ArrayList", name := "fastRemove", desc := "([Ljava/lang/Object;I)V" } : Jvm.MethodName)) ∈ BIG := BIG_of 826 (by decide +kernel) (by decide +kernel)
theorem bw_790 : (Jvm.Cond.code ({ cls := "java/util/ArrayList", name := "fastRemove", desc := "([Ljava/lang/Object;I)V" } : Jvm.MethodName) prog_30_method_39_code (4 : Nat) (Option.none : Option Jvm.ClassFile.FieldType)) ∈ BIG := BIG_of 827 (by decide +kernel) (by decide +kernel)
theorem bw_791 : (Jvm.Cond.methodLink "ChannelHall" (108 : Nat) ({ cls := "ChannelHall$Channel", name := "serve", desc := "(D)V" } : Jvm.MethodName)) ∈ BIG := BIG_of 828 (by decide +kernel) (by decide +kernel)
theorem bw_792 : (Jvm.Cond.instanceMethod ({ cls := "ChannelHall$Channel", name := "serve", desc := "(D)V" } : Jvm.MethodName)) ∈ BIG := BIG_of 829 (by decide +kernel) (by decide +kernel)
theorem bw_793 : (Jvm.Cond.selects "ChannelHall$Channel" ({ cls := "ChannelHall$Channel", name := "serve", desc := "(D)V" } : Jvm.MethodName) ({ cls := "ChannelHall$Channel", name := "serve", desc := "(D)V" } : Jvm.MethodName)) ∈ BIG := BIG_of 830 (by decide +kernel) (by decide +kernel)
theorem bw_794 : (Jvm.Cond.code ({ cls := "ChannelHall$Channel", name := "serve", desc := "(D)V" } : Jvm.MethodName) prog_2_method_14_code (4 : Nat) (Option.none : Option Jvm.ClassFile.FieldType)) ∈ BIG := BIG_of 831 (by decide +kernel) (by decide +kernel)
theorem bw_795 : (Jvm.Cond.methodLink "ChannelHall$Channel" (111 : Nat) ({ cls := "ChannelHall$Channel", name := "serveOnce", desc := "(D)Z" } : Jvm.MethodName)) ∈ BIG := BIG_of 832 (by decide +kernel) (by decide +kernel)
theorem bw_797 : (Jvm.Cond.instanceMethod ({ cls := "ChannelHall$Channel", name := "serveOnce", desc := "(D)Z" } : Jvm.MethodName)) ∈ BIG := BIG_of 834 (by decide +kernel) (by decide +kernel)
theorem bw_798 : (Jvm.Cond.code ({ cls := "ChannelHall$Channel", name := "serveOnce", desc := "(D)Z" } : Jvm.MethodName) prog_2_method_15_code (5 : Nat) (Option.some Jvm.ClassFile.FieldType.boolean)) ∈ BIG := BIG_of 835 (by decide +kernel) (by decide +kernel)
theorem bw_799 : (Jvm.Cond.methodLink "ChannelHall$Channel" (65 : Nat) ({ cls := "ChannelHall$Channel", name := "isReady", desc := "(D)Z" } : Jvm.MethodName)) ∈ BIG := BIG_of 836 (by decide +kernel) (by decide +kernel)
theorem bw_800 : (Jvm.Cond.instanceMethod ({ cls := "ChannelHall$Channel", name := "isReady", desc := "(D)Z" } : Jvm.MethodName)) ∈ BIG := BIG_of 837 (by decide +kernel) (by decide +kernel)
theorem bw_801 : (Jvm.Cond.selects "ChannelHall$Channel" ({ cls := "ChannelHall$Channel", name := "isReady", desc := "(D)Z" } : Jvm.MethodName) ({ cls := "ChannelHall$Channel", name := "isReady", desc := "(D)Z" } : Jvm.MethodName)) ∈ BIG := BIG_of 838 (by decide +kernel) (by decide +kernel)
theorem bw_802 : (Jvm.Cond.code ({ cls := "ChannelHall$Channel", name := "isReady", desc := "(D)Z" } : Jvm.MethodName) prog_2_method_5_code (3 : Nat) (Option.some Jvm.ClassFile.FieldType.boolean)) ∈ BIG := BIG_of 839 (by decide +kernel) (by decide +kernel)
theorem bw_803 : (Jvm.Cond.methodLink "ChannelHall$Channel" (52 : Nat) ({ cls := "java/util/ArrayList", name := "isEmpty", desc := "()Z" } : Jvm.MethodName)) ∈ BIG := BIG_of 840 (by decide +kernel) (by decide +kernel)
theorem bw_804 : (Jvm.Cond.instanceMethod ({ cls := "java/util/ArrayList", name := "isEmpty", desc := "()Z" } : Jvm.MethodName)) ∈ BIG := BIG_of 841 (by decide +kernel) (by decide +kernel)
theorem bw_805 : (Jvm.Cond.selects "java/util/ArrayList" ({ cls := "java/util/ArrayList", name := "isEmpty", desc := "()Z" } : Jvm.MethodName) ({ cls := "java/util/ArrayList", name := "isEmpty", desc := "()Z" } : Jvm.MethodName)) ∈ BIG := BIG_of 842 (by decide +kernel) (by decide +kernel)
theorem bw_806 : (Jvm.Cond.code ({ cls := "java/util/ArrayList", name := "isEmpty", desc := "()Z" } : Jvm.MethodName) prog_30_method_9_code (1 : Nat) (Option.some Jvm.ClassFile.FieldType.boolean)) ∈ BIG := BIG_of 843 (by decide +kernel) (by decide +kernel)
theorem bw_807 : (Jvm.Cond.methodLink "ChannelHall$Channel" (104 : Nat) ({ cls := "ChannelHall$Channel", name := "handFirst", desc := "(LChannelHall$Worker;D)V" } : Jvm.MethodName)) ∈ BIG := BIG_of 844 (by decide +kernel) (by decide +kernel)
theorem bw_809 : (Jvm.Cond.instanceMethod ({ cls := "ChannelHall$Channel", name := "handFirst", desc := "(LChannelHall$Worker;D)V" } : Jvm.MethodName)) ∈ BIG := BIG_of 846 (by decide +kernel) (by decide +kernel)
theorem bw_810 : (Jvm.Cond.code ({ cls := "ChannelHall$Channel", name := "handFirst", desc := "(LChannelHall$Worker;D)V" } : Jvm.MethodName) prog_2_method_17_code (5 : Nat) (Option.none : Option Jvm.ClassFile.FieldType)) ∈ BIG := BIG_of 847 (by decide +kernel) (by decide +kernel)
theorem bw_811 : (Jvm.Cond.methodLink "ChannelHallLaw" (88 : Nat) ({ cls := "ChannelHallLaw", name := "take", desc := "(LChannelHall;IID[J)I" } : Jvm.MethodName)) ∈ BIG := BIG_of 848 (by decide +kernel) (by decide +kernel)
theorem bw_812 : (Jvm.Cond.static ({ cls := "ChannelHallLaw", name := "take", desc := "(LChannelHall;IID[J)I" } : Jvm.MethodName)) ∈ BIG := BIG_of 849 (by decide +kernel) (by decide +kernel)
theorem bw_813 : (Jvm.Cond.codeWith ({ cls := "ChannelHallLaw", name := "take", desc := "(LChannelHall;IID[J)I" } : Jvm.MethodName) method_5_code (7 : Nat) (Option.some Jvm.ClassFile.FieldType.int) [((0 : Nat), (12 : Nat), (15 : Nat), (13 : Nat)), ((0 : Nat), (12 : Nat), (19 : Nat), (21 : Nat)), ((0 : Nat), (12 : Nat), (23 : Nat), (15 : Nat)), ((0 : Nat), (12 : Nat), (27 : Nat), (23 : Nat))]) ∈ BIG := BIG_of 850 (by decide +kernel) (by decide +kernel)
theorem bw_814 : (Jvm.Cond.methodLink "ChannelHallLaw" (25 : Nat) ({ cls := "ChannelHall", name := "take", desc := "(IID)I" } : Jvm.MethodName)) ∈ BIG := BIG_of 851 (by decide +kernel) (by decide +kernel)
theorem bw_815 : (Jvm.Cond.instanceMethod ({ cls := "ChannelHall", name := "take", desc := "(IID)I" } : Jvm.MethodName)) ∈ BIG := BIG_of 852 (by decide +kernel) (by decide +kernel)
theorem bw_816 : (Jvm.Cond.selects "ChannelHall" ({ cls := "ChannelHall", name := "take", desc := "(IID)I" } : Jvm.MethodName) ({ cls := "ChannelHall", name := "take", desc := "(IID)I" } : Jvm.MethodName)) ∈ BIG := BIG_of 853 (by decide +kernel) (by decide +kernel)
theorem bw_817 : (Jvm.Cond.code ({ cls := "ChannelHall", name := "take", desc := "(IID)I" } : Jvm.MethodName) prog_1_method_4_code (7 : Nat) (Option.some Jvm.ClassFile.FieldType.int)) ∈ BIG := BIG_of 854 (by decide +kernel) (by decide +kernel)
theorem bw_818 : (Jvm.Cond.methodLink "ChannelHall" (112 : Nat) ({ cls := "ChannelHall$Channel", name := "yieldsAtOnce", desc := "(D)Z" } : Jvm.MethodName)) ∈ BIG := BIG_of 855 (by decide +kernel) (by decide +kernel)
theorem bw_819 : (Jvm.Cond.instanceMethod ({ cls := "ChannelHall$Channel", name := "yieldsAtOnce", desc := "(D)Z" } : Jvm.MethodName)) ∈ BIG := BIG_of 856 (by decide +kernel) (by decide +kernel)
theorem bw_820 : (Jvm.Cond.selects "ChannelHall$Channel" ({ cls := "ChannelHall$Channel", name := "yieldsAtOnce", desc := "(D)Z" } : Jvm.MethodName) ({ cls := "ChannelHall$Channel", name := "yieldsAtOnce", desc := "(D)Z" } : Jvm.MethodName)) ∈ BIG := BIG_of 857 (by decide +kernel) (by decide +kernel)
theorem bw_821 : (Jvm.Cond.code ({ cls := "ChannelHall$Channel", name := "yieldsAtOnce", desc := "(D)Z" } : Jvm.MethodName) prog_2_method_12_code (3 : Nat) (Option.some Jvm.ClassFile.FieldType.boolean)) ∈ BIG := BIG_of 858 (by decide +kernel) (by decide +kernel)
theorem bw_822 : (Jvm.Cond.fieldLink "ChannelHall" (115 : Nat) "ChannelHall$Role" "TAKER" "LChannelHall$Role;") ∈ BIG := BIG_of 859 (by decide +kernel) (by decide +kernel)
theorem bw_823 : (Jvm.Cond.methodLink "ChannelHall" (118 : Nat) ({ cls := "ChannelHall$Channel", name := "yieldTo", desc := "(LChannelHall$Worker;D)V" } : Jvm.MethodName)) ∈ BIG := BIG_of 860 (by decide +kernel) (by decide +kernel)
theorem bw_824 : (Jvm.Cond.instanceMethod ({ cls := "ChannelHall$Channel", name := "yieldTo", desc := "(LChannelHall$Worker;D)V" } : Jvm.MethodName)) ∈ BIG := BIG_of 861 (by decide +kernel) (by decide +kernel)
theorem bw_825 : (Jvm.Cond.selects "ChannelHall$Channel" ({ cls := "ChannelHall$Channel", name := "yieldTo", desc := "(LChannelHall$Worker;D)V" } : Jvm.MethodName) ({ cls := "ChannelHall$Channel", name := "yieldTo", desc := "(LChannelHall$Worker;D)V" } : Jvm.MethodName)) ∈ BIG := BIG_of 862 (by decide +kernel) (by decide +kernel)
theorem bw_826 : (Jvm.Cond.code ({ cls := "ChannelHall$Channel", name := "yieldTo", desc := "(LChannelHall$Worker;D)V" } : Jvm.MethodName) prog_2_method_13_code (5 : Nat) (Option.none : Option Jvm.ClassFile.FieldType)) ∈ BIG := BIG_of 863 (by decide +kernel) (by decide +kernel)
theorem bw_827 : (Jvm.Cond.methodLink "ChannelHallLaw" (92 : Nat) ({ cls := "ChannelHallLaw", name := "swap", desc := "(LChannelHall;IIID[J)I" } : Jvm.MethodName)) ∈ BIG := BIG_of 864 (by decide +kernel) (by decide +kernel)
theorem bw_828 : (Jvm.Cond.static ({ cls := "ChannelHallLaw", name := "swap", desc := "(LChannelHall;IIID[J)I" } : Jvm.MethodName)) ∈ BIG := BIG_of 865 (by decide +kernel) (by decide +kernel)
theorem bw_829 : (Jvm.Cond.codeWith ({ cls := "ChannelHallLaw", name := "swap", desc := "(LChannelHall;IIID[J)I" } : Jvm.MethodName) method_6_code (8 : Nat) (Option.some Jvm.ClassFile.FieldType.int) [((0 : Nat), (14 : Nat), (17 : Nat), (13 : Nat)), ((0 : Nat), (14 : Nat), (21 : Nat), (21 : Nat)), ((0 : Nat), (14 : Nat), (25 : Nat), (15 : Nat)), ((0 : Nat), (14 : Nat), (29 : Nat), (23 : Nat))]) ∈ BIG := BIG_of 866 (by decide +kernel) (by decide +kernel)
theorem bw_830 : (Jvm.Cond.methodLink "ChannelHallLaw" (29 : Nat) ({ cls := "ChannelHall", name := "swap", desc := "(IIID)I" } : Jvm.MethodName)) ∈ BIG := BIG_of 867 (by decide +kernel) (by decide +kernel)
theorem bw_831 : (Jvm.Cond.instanceMethod ({ cls := "ChannelHall", name := "swap", desc := "(IIID)I" } : Jvm.MethodName)) ∈ BIG := BIG_of 868 (by decide +kernel) (by decide +kernel)
theorem bw_832 : (Jvm.Cond.selects "ChannelHall" ({ cls := "ChannelHall", name := "swap", desc := "(IIID)I" } : Jvm.MethodName) ({ cls := "ChannelHall", name := "swap", desc := "(IIID)I" } : Jvm.MethodName)) ∈ BIG := BIG_of 869 (by decide +kernel) (by decide +kernel)
theorem bw_833 : (Jvm.Cond.code ({ cls := "ChannelHall", name := "swap", desc := "(IIID)I" } : Jvm.MethodName) prog_1_method_5_code (9 : Nat) (Option.some Jvm.ClassFile.FieldType.int)) ∈ BIG := BIG_of 870 (by decide +kernel) (by decide +kernel)
theorem bw_834 : (Jvm.Cond.fieldLink "ChannelHall" (125 : Nat) "ChannelHall$Role" "PARTNER" "LChannelHall$Role;") ∈ BIG := BIG_of 871 (by decide +kernel) (by decide +kernel)
theorem bw_835 : (Jvm.Cond.methodLink "ChannelHall" (128 : Nat) ({ cls := "ChannelHall$Channel", name := "firstWaiter", desc := "(LChannelHall$Role;)LChannelHall$Worker;" } : Jvm.MethodName)) ∈ BIG := BIG_of 872 (by decide +kernel) (by decide +kernel)
theorem bw_836 : (Jvm.Cond.methodLink "ChannelHall" (135 : Nat) ({ cls := "ChannelHall$Worker", name := "receive", desc := "(I)V" } : Jvm.MethodName)) ∈ BIG := BIG_of 873 (by decide +kernel) (by decide +kernel)
theorem bw_837 : (Jvm.Cond.methodLink "ChannelHall" (138 : Nat) ({ cls := "ChannelHall$Channel", name := "release", desc := "(LChannelHall$Worker;I)V" } : Jvm.MethodName)) ∈ BIG := BIG_of 874 (by decide +kernel) (by decide +kernel)
theorem bw_838 : (Jvm.Cond.methodLink "ChannelHallLaw" (96 : Nat) ({ cls := "ChannelHallLaw", name := "arrive", desc := "(LChannelHall;IID[J)I" } : Jvm.MethodName)) ∈ BIG := BIG_of 875 (by decide +kernel) (by decide +kernel)
theorem bw_839 : (Jvm.Cond.static ({ cls := "ChannelHallLaw", name := "arrive", desc := "(LChannelHall;IID[J)I" } : Jvm.MethodName)) ∈ BIG := BIG_of 876 (by decide +kernel) (by decide +kernel)
theorem bw_840 : (Jvm.Cond.codeWith ({ cls := "ChannelHallLaw", name := "arrive", desc := "(LChannelHall;IID[J)I" } : Jvm.MethodName) method_7_code (7 : Nat) (Option.some Jvm.ClassFile.FieldType.int) [((0 : Nat), (12 : Nat), (15 : Nat), (13 : Nat)), ((0 : Nat), (12 : Nat), (19 : Nat), (21 : Nat)), ((0 : Nat), (12 : Nat), (23 : Nat), (15 : Nat)), ((0 : Nat), (12 : Nat), (27 : Nat), (23 : Nat)), ((0 : Nat), (12 : Nat), (31 : Nat), (36 : Nat))]) ∈ BIG := BIG_of 877 (by decide +kernel) (by decide +kernel)
theorem bw_841 : (Jvm.Cond.classLink "ChannelHallLaw" (36 : Nat) "java/lang/ArithmeticException") ∈ BIG := BIG_of 878 (by decide +kernel) (by decide +kernel)
theorem bw_842 : (Jvm.Cond.methodLink "ChannelHallLaw" (33 : Nat) ({ cls := "ChannelHall", name := "arrive", desc := "(IID)I" } : Jvm.MethodName)) ∈ BIG := BIG_of 879 (by decide +kernel) (by decide +kernel)
theorem bw_843 : (Jvm.Cond.instanceMethod ({ cls := "ChannelHall", name := "arrive", desc := "(IID)I" } : Jvm.MethodName)) ∈ BIG := BIG_of 880 (by decide +kernel) (by decide +kernel)
theorem bw_844 : (Jvm.Cond.selects "ChannelHall" ({ cls := "ChannelHall", name := "arrive", desc := "(IID)I" } : Jvm.MethodName) ({ cls := "ChannelHall", name := "arrive", desc := "(IID)I" } : Jvm.MethodName)) ∈ BIG := BIG_of 881 (by decide +kernel) (by decide +kernel)
theorem bw_845 : (Jvm.Cond.code ({ cls := "ChannelHall", name := "arrive", desc := "(IID)I" } : Jvm.MethodName) prog_1_method_6_code (9 : Nat) (Option.some Jvm.ClassFile.FieldType.int)) ∈ BIG := BIG_of 882 (by decide +kernel) (by decide +kernel)
theorem bw_846 : (Jvm.Cond.classLink "ChannelHall" (146 : Nat) "java/lang/ArithmeticException") ∈ BIG := BIG_of 883 (by decide +kernel) (by decide +kernel)
theorem bw_847 : (Jvm.Cond.instantiable "java/lang/ArithmeticException" (6 : Nat)) ∈ BIG := BIG_of 884 (by decide +kernel) (by decide +kernel)
theorem bw_849 : (Jvm.Cond.selects "java/lang/ArithmeticException" ({ cls := "java/lang/Throwable", name := "fillInStackTrace", desc := "(I)Ljava/lang/Throwable;" } : Jvm.MethodName) ({ cls := "java/lang/Throwable", name := "fillInStackTrace", desc := "(I)Ljava/lang/Throwable;" } : Jvm.MethodName)) ∈ BIG := BIG_of 886 (by decide +kernel) (by decide +kernel)
theorem bw_850 : (Jvm.Cond.lays "java/lang/ArithmeticException" "java/lang/Throwable" "cause" "Ljava/lang/Throwable;") ∈ BIG := BIG_of 887 (by decide +kernel) (by decide +kernel)
theorem bw_851 : (Jvm.Cond.lays "java/lang/ArithmeticException" "java/lang/Throwable" "stackTrace" "[Ljava/lang/StackTraceElement;") ∈ BIG := BIG_of 888 (by decide +kernel) (by decide +kernel)
theorem bw_852 : (Jvm.Cond.lays "java/lang/ArithmeticException" "java/lang/Throwable" "suppressedExceptions" "Ljava/util/List;") ∈ BIG := BIG_of 889 (by decide +kernel) (by decide +kernel)
theorem bw_853 : (Jvm.Cond.lays "java/lang/ArithmeticException" "java/lang/Throwable" "detailMessage" "Ljava/lang/String;") ∈ BIG := BIG_of 890 (by decide +kernel) (by decide +kernel)
theorem bw_854 : (Jvm.Cond.lays "java/lang/ArithmeticException" "java/lang/Throwable" "backtrace" "Ljava/lang/Object;") ∈ BIG := BIG_of 891 (by decide +kernel) (by decide +kernel)
theorem bw_855 : (Jvm.Cond.methodLink "ChannelHall" (148 : Nat) ({ cls := "java/lang/ArithmeticException", name := "<init>", desc := "()V" } : Jvm.MethodName)) ∈ BIG := BIG_of 892 (by decide +kernel) (by decide +kernel)
theorem bw_856 : (Jvm.Cond.instanceMethod ({ cls := "java/lang/ArithmeticException", name := "<init>", desc := "()V" } : Jvm.MethodName)) ∈ BIG := BIG_of 893 (by decide +kernel) (by decide +kernel)
theorem bw_857 : (Jvm.Cond.code ({ cls := "java/lang/ArithmeticException", name := "<init>", desc := "()V" } : Jvm.MethodName) prog_10_method_1_code (1 : Nat) (Option.none : Option Jvm.ClassFile.FieldType)) ∈ BIG := BIG_of 894 (by decide +kernel) (by decide +kernel)
theorem bw_858 : (Jvm.Cond.methodLink "java/lang/ArithmeticException" (1 : Nat) ({ cls := "java/lang/RuntimeException", name := "<init>", desc := "()V" } : Jvm.MethodName)) ∈ BIG := BIG_of 895 (by decide +kernel) (by decide +kernel)
theorem bw_859 : (Jvm.Cond.lays "java/lang/ArithmeticException" "java/lang/Throwable" "depth" "I") ∈ BIG := BIG_of 896 (by decide +kernel) (by decide +kernel)
theorem bw_861 : (Jvm.Cond.methodLink "ChannelHall" (149 : Nat) ({ cls := "ChannelHall$Channel", name := "breakUp", desc := "()V" } : Jvm.MethodName)) ∈ BIG := BIG_of 898 (by decide +kernel) (by decide +kernel)
theorem bw_862 : (Jvm.Cond.instanceMethod ({ cls := "ChannelHall$Channel", name := "breakUp", desc := "()V" } : Jvm.MethodName)) ∈ BIG := BIG_of 899 (by decide +kernel) (by decide +kernel)
theorem bw_863 : (Jvm.Cond.selects "ChannelHall$Channel" ({ cls := "ChannelHall$Channel", name := "breakUp", desc := "()V" } : Jvm.MethodName) ({ cls := "ChannelHall$Channel", name := "breakUp", desc := "()V" } : Jvm.MethodName)) ∈ BIG := BIG_of 900 (by decide +kernel) (by decide +kernel)
theorem bw_864 : (Jvm.Cond.code ({ cls := "ChannelHall$Channel", name := "breakUp", desc := "()V" } : Jvm.MethodName) prog_2_method_22_code (1 : Nat) (Option.none : Option Jvm.ClassFile.FieldType)) ∈ BIG := BIG_of 901 (by decide +kernel) (by decide +kernel)
theorem bw_865 : (Jvm.Cond.methodLink "ChannelHall$Channel" (150 : Nat) ({ cls := "ChannelHall$Channel", name := "releaseAll", desc := "(I)V" } : Jvm.MethodName)) ∈ BIG := BIG_of 902 (by decide +kernel) (by decide +kernel)
theorem bw_866 : (Jvm.Cond.instanceMethod ({ cls := "ChannelHall$Channel", name := "releaseAll", desc := "(I)V" } : Jvm.MethodName)) ∈ BIG := BIG_of 903 (by decide +kernel) (by decide +kernel)
theorem bw_867 : (Jvm.Cond.selects "ChannelHall$Channel" ({ cls := "ChannelHall$Channel", name := "releaseAll", desc := "(I)V" } : Jvm.MethodName) ({ cls := "ChannelHall$Channel", name := "releaseAll", desc := "(I)V" } : Jvm.MethodName)) ∈ BIG := BIG_of 904 (by decide +kernel) (by decide +kernel)
theorem bw_868 : (Jvm.Cond.code ({ cls := "ChannelHall$Channel", name := "releaseAll", desc := "(I)V" } : Jvm.MethodName) prog_2_method_21_code (3 : Nat) (Option.none : Option Jvm.ClassFile.FieldType)) ∈ BIG := BIG_of 905 (by decide +kernel) (by decide +kernel)
theorem bw_869 : (Jvm.Cond.methodLink "ChannelHall$Channel" (147 : Nat) ({ cls := "java/util/ArrayList", name := "clear", desc := "()V" } : Jvm.MethodName)) ∈ BIG := BIG_of 906 (by decide +kernel) (by decide +kernel)
theorem bw_870 : (Jvm.Cond.instanceMethod ({ cls := "java/util/ArrayList", name := "clear", desc := "()V" } : Jvm.MethodName)) ∈ BIG := BIG_of 907 (by decide +kernel) (by decide +kernel)
theorem bw_871 : (Jvm.Cond.selects "java/util/ArrayList" ({ cls := "java/util/ArrayList", name := "clear", desc := "()V" } : Jvm.MethodName) ({ cls := "java/util/ArrayList", name := "clear", desc := "()V" } : Jvm.MethodName)) ∈ BIG := BIG_of 908 (by decide +kernel) (by decide +kernel)
theorem bw_872 : (Jvm.Cond.code ({ cls := "java/util/ArrayList", name := "clear", desc := "()V" } : Jvm.MethodName) prog_30_method_40_code (4 : Nat) (Option.none : Option Jvm.ClassFile.FieldType)) ∈ BIG := BIG_of 909 (by decide +kernel) (by decide +kernel)
theorem bw_873 : (Jvm.Cond.methodLink "ChannelHall" (156 : Nat) ({ cls := "java/util/ArrayList", name := "size", desc := "()I" } : Jvm.MethodName)) ∈ BIG := BIG_of 910 (by decide +kernel) (by decide +kernel)
theorem bw_874 : (Jvm.Cond.methodLink "ChannelHall" (165 : Nat) ({ cls := "ChannelHall$Channel", name := "releaseAll", desc := "(I)V" } : Jvm.MethodName)) ∈ BIG := BIG_of 911 (by decide +kernel) (by decide +kernel)
theorem bw_875 : (Jvm.Cond.methodLink "ChannelHallLaw" (99 : Nat) ({ cls := "ChannelHallLaw", name := "reset", desc := "(LChannelHall;I[J)I" } : Jvm.MethodName)) ∈ BIG := BIG_of 912 (by decide +kernel) (by decide +kernel)
theorem bw_876 : (Jvm.Cond.static ({ cls := "ChannelHallLaw", name := "reset", desc := "(LChannelHall;I[J)I" } : Jvm.MethodName)) ∈ BIG := BIG_of 913 (by decide +kernel) (by decide +kernel)
theorem bw_877 : (Jvm.Cond.codeWith ({ cls := "ChannelHallLaw", name := "reset", desc := "(LChannelHall;I[J)I" } : Jvm.MethodName) method_8_code (4 : Nat) (Option.some Jvm.ClassFile.FieldType.int) [((0 : Nat), (9 : Nat), (12 : Nat), (13 : Nat)), ((0 : Nat), (9 : Nat), (15 : Nat), (21 : Nat)), ((0 : Nat), (9 : Nat), (18 : Nat), (23 : Nat))]) ∈ BIG := BIG_of 914 (by decide +kernel) (by decide +kernel)
theorem bw_878 : (Jvm.Cond.methodLink "ChannelHallLaw" (38 : Nat) ({ cls := "ChannelHall", name := "reset", desc := "(I)I" } : Jvm.MethodName)) ∈ BIG := BIG_of 915 (by decide +kernel) (by decide +kernel)
theorem bw_879 : (Jvm.Cond.instanceMethod ({ cls := "ChannelHall", name := "reset", desc := "(I)I" } : Jvm.MethodName)) ∈ BIG := BIG_of 916 (by decide +kernel) (by decide +kernel)
theorem bw_880 : (Jvm.Cond.selects "ChannelHall" ({ cls := "ChannelHall", name := "reset", desc := "(I)I" } : Jvm.MethodName) ({ cls := "ChannelHall", name := "reset", desc := "(I)I" } : Jvm.MethodName)) ∈ BIG := BIG_of 917 (by decide +kernel) (by decide +kernel)
theorem bw_881 : (Jvm.Cond.code ({ cls := "ChannelHall", name := "reset", desc := "(I)I" } : Jvm.MethodName) prog_1_method_7_code (4 : Nat) (Option.some Jvm.ClassFile.FieldType.int)) ∈ BIG := BIG_of 918 (by decide +kernel) (by decide +kernel)
theorem bw_882 : (Jvm.Cond.methodLink "ChannelHallLaw" (103 : Nat) ({ cls := "ChannelHallLaw", name := "interrupt", desc := "(LChannelHall;I[J)I" } : Jvm.MethodName)) ∈ BIG := BIG_of 919 (by decide +kernel) (by decide +kernel)
theorem bw_883 : (Jvm.Cond.static ({ cls := "ChannelHallLaw", name := "interrupt", desc := "(LChannelHall;I[J)I" } : Jvm.MethodName)) ∈ BIG := BIG_of 920 (by decide +kernel) (by decide +kernel)
theorem bw_884 : (Jvm.Cond.codeWith ({ cls := "ChannelHallLaw", name := "interrupt", desc := "(LChannelHall;I[J)I" } : Jvm.MethodName) method_9_code (4 : Nat) (Option.some Jvm.ClassFile.FieldType.int) [((0 : Nat), (9 : Nat), (12 : Nat), (13 : Nat))]) ∈ BIG := BIG_of 921 (by decide +kernel) (by decide +kernel)
theorem bw_885 : (Jvm.Cond.methodLink "ChannelHallLaw" (42 : Nat) ({ cls := "ChannelHall", name := "interrupt", desc := "(I)I" } : Jvm.MethodName)) ∈ BIG := BIG_of 922 (by decide +kernel) (by decide +kernel)
theorem bw_886 : (Jvm.Cond.instanceMethod ({ cls := "ChannelHall", name := "interrupt", desc := "(I)I" } : Jvm.MethodName)) ∈ BIG := BIG_of 923 (by decide +kernel) (by decide +kernel)
theorem bw_887 : (Jvm.Cond.selects "ChannelHall" ({ cls := "ChannelHall", name := "interrupt", desc := "(I)I" } : Jvm.MethodName) ({ cls := "ChannelHall", name := "interrupt", desc := "(I)I" } : Jvm.MethodName)) ∈ BIG := BIG_of 924 (by decide +kernel) (by decide +kernel)
theorem bw_888 : (Jvm.Cond.code ({ cls := "ChannelHall", name := "interrupt", desc := "(I)I" } : Jvm.MethodName) prog_1_method_8_code (3 : Nat) (Option.some Jvm.ClassFile.FieldType.int)) ∈ BIG := BIG_of 925 (by decide +kernel) (by decide +kernel)
theorem bw_889 : (Jvm.Cond.methodLink "ChannelHall" (178 : Nat) ({ cls := "ChannelHall", name := "giveUp", desc := "(LChannelHall$Worker;I)V" } : Jvm.MethodName)) ∈ BIG := BIG_of 926 (by decide +kernel) (by decide +kernel)
theorem bw_891 : (Jvm.Cond.instanceMethod ({ cls := "ChannelHall", name := "giveUp", desc := "(LChannelHall$Worker;I)V" } : Jvm.MethodName)) ∈ BIG := BIG_of 928 (by decide +kernel) (by decide +kernel)
theorem bw_892 : (Jvm.Cond.code ({ cls := "ChannelHall", name := "giveUp", desc := "(LChannelHall$Worker;I)V" } : Jvm.MethodName) prog_1_method_25_code (4 : Nat) (Option.none : Option Jvm.ClassFile.FieldType)) ∈ BIG := BIG_of 929 (by decide +kernel) (by decide +kernel)
theorem bw_893 : (Jvm.Cond.methodLink "ChannelHallLaw" (106 : Nat) ({ cls := "ChannelHallLaw", name := "tick", desc := "(LChannelHall;D[J)I" } : Jvm.MethodName)) ∈ BIG := BIG_of 930 (by decide +kernel) (by decide +kernel)
theorem bw_894 : (Jvm.Cond.static ({ cls := "ChannelHallLaw", name := "tick", desc := "(LChannelHall;D[J)I" } : Jvm.MethodName)) ∈ BIG := BIG_of 931 (by decide +kernel) (by decide +kernel)
theorem bw_895 : (Jvm.Cond.codeWith ({ cls := "ChannelHallLaw", name := "tick", desc := "(LChannelHall;D[J)I" } : Jvm.MethodName) method_10_code (5 : Nat) (Option.some Jvm.ClassFile.FieldType.int) [((0 : Nat), (9 : Nat), (12 : Nat), (13 : Nat))]) ∈ BIG := BIG_of 932 (by decide +kernel) (by decide +kernel)
theorem bw_896 : (Jvm.Cond.methodLink "ChannelHallLaw" (45 : Nat) ({ cls := "ChannelHall", name := "tick", desc := "(D)I" } : Jvm.MethodName)) ∈ BIG := BIG_of 933 (by decide +kernel) (by decide +kernel)
theorem bw_897 : (Jvm.Cond.instanceMethod ({ cls := "ChannelHall", name := "tick", desc := "(D)I" } : Jvm.MethodName)) ∈ BIG := BIG_of 934 (by decide +kernel) (by decide +kernel)
theorem bw_898 : (Jvm.Cond.selects "ChannelHall" ({ cls := "ChannelHall", name := "tick", desc := "(D)I" } : Jvm.MethodName) ({ cls := "ChannelHall", name := "tick", desc := "(D)I" } : Jvm.MethodName)) ∈ BIG := BIG_of 935 (by decide +kernel) (by decide +kernel)
theorem bw_899 : (Jvm.Cond.code ({ cls := "ChannelHall", name := "tick", desc := "(D)I" } : Jvm.MethodName) prog_1_method_9_code (9 : Nat) (Option.some Jvm.ClassFile.FieldType.int)) ∈ BIG := BIG_of 936 (by decide +kernel) (by decide +kernel)
theorem bw_900 : (Jvm.Cond.methodLink "ChannelHall" (184 : Nat) ({ cls := "ChannelHall", name := "nextMoment", desc := "(D)D" } : Jvm.MethodName)) ∈ BIG := BIG_of 937 (by decide +kernel) (by decide +kernel)
theorem bw_902 : (Jvm.Cond.instanceMethod ({ cls := "ChannelHall", name := "nextMoment", desc := "(D)D" } : Jvm.MethodName)) ∈ BIG := BIG_of 939 (by decide +kernel) (by decide +kernel)
theorem bw_903 : (Jvm.Cond.code ({ cls := "ChannelHall", name := "nextMoment", desc := "(D)D" } : Jvm.MethodName) prog_1_method_26_code (9 : Nat) (Option.some Jvm.ClassFile.FieldType.double)) ∈ BIG := BIG_of 940 (by decide +kernel) (by decide +kernel)
theorem bw_904 : (Jvm.Cond.methodLink "ChannelHall" (254 : Nat) ({ cls := "ChannelHall$Channel", name := "earlierDue", desc := "(DD)D" } : Jvm.MethodName)) ∈ BIG := BIG_of 941 (by decide +kernel) (by decide +kernel)
theorem bw_905 : (Jvm.Cond.instanceMethod ({ cls := "ChannelHall$Channel", name := "earlierDue", desc := "(DD)D" } : Jvm.MethodName)) ∈ BIG := BIG_of 942 (by decide +kernel) (by decide +kernel)
theorem bw_906 : (Jvm.Cond.selects "ChannelHall$Channel" ({ cls := "ChannelHall$Channel", name := "earlierDue", desc := "(DD)D" } : Jvm.MethodName) ({ cls := "ChannelHall$Channel", name := "earlierDue", desc := "(DD)D" } : Jvm.MethodName)) ∈ BIG := BIG_of 943 (by decide +kernel) (by decide +kernel)
theorem bw_907 : (Jvm.Cond.code ({ cls := "ChannelHall$Channel", name := "earlierDue", desc := "(DD)D" } : Jvm.MethodName) prog_2_method_7_code (7 : Nat) (Option.some Jvm.ClassFile.FieldType.double)) ∈ BIG := BIG_of 944 (by decide +kernel) (by decide +kernel)
theorem bw_908 : (Jvm.Cond.methodLink "ChannelHall" (188 : Nat) ({ cls := "ChannelHall", name := "serveDelayed", desc := "()V" } : Jvm.MethodName)) ∈ BIG := BIG_of 945 (by decide +kernel) (by decide +kernel)
theorem bw_910 : (Jvm.Cond.instanceMethod ({ cls := "ChannelHall", name := "serveDelayed", desc := "()V" } : Jvm.MethodName)) ∈ BIG := BIG_of 947 (by decide +kernel) (by decide +kernel)
theorem bw_911 : (Jvm.Cond.code ({ cls := "ChannelHall", name := "serveDelayed", desc := "()V" } : Jvm.MethodName) prog_1_method_27_code (5 : Nat) (Option.none : Option Jvm.ClassFile.FieldType)) ∈ BIG := BIG_of 948 (by decide +kernel) (by decide +kernel)
theorem bw_912 : (Jvm.Cond.methodLink "ChannelHall" (191 : Nat) ({ cls := "ChannelHall", name := "endLateWaits", desc := "()I" } : Jvm.MethodName)) ∈ BIG := BIG_of 949 (by decide +kernel) (by decide +kernel)
theorem bw_914 : (Jvm.Cond.instanceMethod ({ cls := "ChannelHall", name := "endLateWaits", desc := "()I" } : Jvm.MethodName)) ∈ BIG := BIG_of 951 (by decide +kernel) (by decide +kernel)
theorem bw_915 : (Jvm.Cond.code ({ cls := "ChannelHall", name := "endLateWaits", desc := "()I" } : Jvm.MethodName) prog_1_method_28_code (6 : Nat) (Option.some Jvm.ClassFile.FieldType.int)) ∈ BIG := BIG_of 952 (by decide +kernel) (by decide +kernel)
theorem bw_916 : (Jvm.Cond.methodLink "ChannelHallLaw" (110 : Nat) ({ cls := "ChannelHallLaw", name := "got", desc := "(LChannelHall;I[J)I" } : Jvm.MethodName)) ∈ BIG := BIG_of 953 (by decide +kernel) (by decide +kernel)
theorem bw_917 : (Jvm.Cond.static ({ cls := "ChannelHallLaw", name := "got", desc := "(LChannelHall;I[J)I" } : Jvm.MethodName)) ∈ BIG := BIG_of 954 (by decide +kernel) (by decide +kernel)
theorem bw_918 : (Jvm.Cond.codeWith ({ cls := "ChannelHallLaw", name := "got", desc := "(LChannelHall;I[J)I" } : Jvm.MethodName) method_11_code (4 : Nat) (Option.some Jvm.ClassFile.FieldType.int) [((0 : Nat), (9 : Nat), (12 : Nat), (13 : Nat)), ((0 : Nat), (9 : Nat), (15 : Nat), (21 : Nat))]) ∈ BIG := BIG_of 955 (by decide +kernel) (by decide +kernel)
theorem bw_919 : (Jvm.Cond.methodLink "ChannelHallLaw" (49 : Nat) ({ cls := "ChannelHall", name := "got", desc := "(I)I" } : Jvm.MethodName)) ∈ BIG := BIG_of 956 (by decide +kernel) (by decide +kernel)
theorem bw_920 : (Jvm.Cond.instanceMethod ({ cls := "ChannelHall", name := "got", desc := "(I)I" } : Jvm.MethodName)) ∈ BIG := BIG_of 957 (by decide +kernel) (by decide +kernel)
theorem bw_921 : (Jvm.Cond.selects "ChannelHall" ({ cls := "ChannelHall", name := "got", desc := "(I)I" } : Jvm.MethodName) ({ cls := "ChannelHall", name := "got", desc := "(I)I" } : Jvm.MethodName)) ∈ BIG := BIG_of 958 (by decide +kernel) (by decide +kernel)
theorem bw_922 : (Jvm.Cond.code ({ cls := "ChannelHall", name := "got", desc := "(I)I" } : Jvm.MethodName) prog_1_method_10_code (3 : Nat) (Option.some Jvm.ClassFile.FieldType.int)) ∈ BIG := BIG_of 959 (by decide +kernel) (by decide +kernel)
theorem bw_923 : (Jvm.Cond.methodLink "ChannelHallLaw" (113 : Nat) ({ cls := "ChannelHallLaw", name := "thread", desc := "(LChannelHall;II[J)I" } : Jvm.MethodName)) ∈ BIG := BIG_of 960 (by decide +kernel) (by decide +kernel)
theorem bw_924 : (Jvm.Cond.static ({ cls := "ChannelHallLaw", name := "thread", desc := "(LChannelHall;II[J)I" } : Jvm.MethodName)) ∈ BIG := BIG_of 961 (by decide +kernel) (by decide +kernel)
theorem bw_925 : (Jvm.Cond.codeWith ({ cls := "ChannelHallLaw", name := "thread", desc := "(LChannelHall;II[J)I" } : Jvm.MethodName) method_12_code (5 : Nat) (Option.some Jvm.ClassFile.FieldType.int) [((0 : Nat), (10 : Nat), (13 : Nat), (13 : Nat))]) ∈ BIG := BIG_of 962 (by decide +kernel) (by decide +kernel)
theorem bw_926 : (Jvm.Cond.methodLink "ChannelHallLaw" (52 : Nat) ({ cls := "ChannelHall", name := "thread", desc := "(II)I" } : Jvm.MethodName)) ∈ BIG := BIG_of 963 (by decide +kernel) (by decide +kernel)
theorem bw_927 : (Jvm.Cond.instanceMethod ({ cls := "ChannelHall", name := "thread", desc := "(II)I" } : Jvm.MethodName)) ∈ BIG := BIG_of 964 (by decide +kernel) (by decide +kernel)
theorem bw_928 : (Jvm.Cond.selects "ChannelHall" ({ cls := "ChannelHall", name := "thread", desc := "(II)I" } : Jvm.MethodName) ({ cls := "ChannelHall", name := "thread", desc := "(II)I" } : Jvm.MethodName)) ∈ BIG := BIG_of 965 (by decide +kernel) (by decide +kernel)
theorem bw_929 : (Jvm.Cond.code ({ cls := "ChannelHall", name := "thread", desc := "(II)I" } : Jvm.MethodName) prog_1_method_11_code (4 : Nat) (Option.some Jvm.ClassFile.FieldType.int)) ∈ BIG := BIG_of 966 (by decide +kernel) (by decide +kernel)
theorem bw_930 : (Jvm.Cond.methodLink "ChannelHallLaw" (117 : Nat) ({ cls := "ChannelHallLaw", name := "channel", desc := "(LChannelHall;II[J)I" } : Jvm.MethodName)) ∈ BIG := BIG_of 967 (by decide +kernel) (by decide +kernel)
theorem bw_931 : (Jvm.Cond.static ({ cls := "ChannelHallLaw", name := "channel", desc := "(LChannelHall;II[J)I" } : Jvm.MethodName)) ∈ BIG := BIG_of 968 (by decide +kernel) (by decide +kernel)
theorem bw_932 : (Jvm.Cond.codeWith ({ cls := "ChannelHallLaw", name := "channel", desc := "(LChannelHall;II[J)I" } : Jvm.MethodName) method_13_code (5 : Nat) (Option.some Jvm.ClassFile.FieldType.int) [((0 : Nat), (10 : Nat), (13 : Nat), (13 : Nat)), ((0 : Nat), (10 : Nat), (17 : Nat), (21 : Nat))]) ∈ BIG := BIG_of 969 (by decide +kernel) (by decide +kernel)
theorem bw_933 : (Jvm.Cond.methodLink "ChannelHallLaw" (56 : Nat) ({ cls := "ChannelHall", name := "channel", desc := "(II)I" } : Jvm.MethodName)) ∈ BIG := BIG_of 970 (by decide +kernel) (by decide +kernel)
theorem bw_934 : (Jvm.Cond.instanceMethod ({ cls := "ChannelHall", name := "channel", desc := "(II)I" } : Jvm.MethodName)) ∈ BIG := BIG_of 971 (by decide +kernel) (by decide +kernel)
theorem bw_935 : (Jvm.Cond.selects "ChannelHall" ({ cls := "ChannelHall", name := "channel", desc := "(II)I" } : Jvm.MethodName) ({ cls := "ChannelHall", name := "channel", desc := "(II)I" } : Jvm.MethodName)) ∈ BIG := BIG_of 972 (by decide +kernel) (by decide +kernel)
theorem bw_936 : (Jvm.Cond.code ({ cls := "ChannelHall", name := "channel", desc := "(II)I" } : Jvm.MethodName) prog_1_method_12_code (4 : Nat) (Option.some Jvm.ClassFile.FieldType.int)) ∈ BIG := BIG_of 973 (by decide +kernel) (by decide +kernel)
theorem bw_937 : (Jvm.Cond.methodLink "ChannelHall" (209 : Nat) ({ cls := "ChannelHall$Channel", name := "isOpen", desc := "(D)Z" } : Jvm.MethodName)) ∈ BIG := BIG_of 974 (by decide +kernel) (by decide +kernel)
theorem bw_938 : (Jvm.Cond.instanceMethod ({ cls := "ChannelHall$Channel", name := "isOpen", desc := "(D)Z" } : Jvm.MethodName)) ∈ BIG := BIG_of 975 (by decide +kernel) (by decide +kernel)
theorem bw_939 : (Jvm.Cond.selects "ChannelHall$Channel" ({ cls := "ChannelHall$Channel", name := "isOpen", desc := "(D)Z" } : Jvm.MethodName) ({ cls := "ChannelHall$Channel", name := "isOpen", desc := "(D)Z" } : Jvm.MethodName)) ∈ BIG := BIG_of 976 (by decide +kernel) (by decide +kernel)
theorem bw_940 : (Jvm.Cond.code ({ cls := "ChannelHall$Channel", name := "isOpen", desc := "(D)Z" } : Jvm.MethodName) prog_2_method_6_code (3 : Nat) (Option.some Jvm.ClassFile.FieldType.boolean)) ∈ BIG := BIG_of 977 (by decide +kernel) (by decide +kernel)
theorem bw_941 : (Jvm.Cond.methodLink "ChannelHall" (212 : Nat) ({ cls := "ChannelHall$Channel", name := "waiterNumber", desc := "(I)I" } : Jvm.MethodName)) ∈ BIG := BIG_of 978 (by decide +kernel) (by decide +kernel)
theorem bw_942 : (Jvm.Cond.instanceMethod ({ cls := "ChannelHall$Channel", name := "waiterNumber", desc := "(I)I" } : Jvm.MethodName)) ∈ BIG := BIG_of 979 (by decide +kernel) (by decide +kernel)
theorem bw_943 : (Jvm.Cond.selects "ChannelHall$Channel" ({ cls := "ChannelHall$Channel", name := "waiterNumber", desc := "(I)I" } : Jvm.MethodName) ({ cls := "ChannelHall$Channel", name := "waiterNumber", desc := "(I)I" } : Jvm.MethodName)) ∈ BIG := BIG_of 980 (by decide +kernel) (by decide +kernel)
theorem bw_944 : (Jvm.Cond.code ({ cls := "ChannelHall$Channel", name := "waiterNumber", desc := "(I)I" } : Jvm.MethodName) prog_2_method_9_code (2 : Nat) (Option.some Jvm.ClassFile.FieldType.int)) ∈ BIG := BIG_of 981 (by decide +kernel) (by decide +kernel)
theorem bw_945 : (Jvm.Cond.methodLink "ChannelHallLaw" (120 : Nat) ({ cls := "ChannelHallLaw", name := "item", desc := "(LChannelHall;II[J)I" } : Jvm.MethodName)) ∈ BIG := BIG_of 982 (by decide +kernel) (by decide +kernel)
theorem bw_946 : (Jvm.Cond.static ({ cls := "ChannelHallLaw", name := "item", desc := "(LChannelHall;II[J)I" } : Jvm.MethodName)) ∈ BIG := BIG_of 983 (by decide +kernel) (by decide +kernel)
theorem bw_947 : (Jvm.Cond.codeWith ({ cls := "ChannelHallLaw", name := "item", desc := "(LChannelHall;II[J)I" } : Jvm.MethodName) method_14_code (5 : Nat) (Option.some Jvm.ClassFile.FieldType.int) [((0 : Nat), (10 : Nat), (13 : Nat), (13 : Nat)), ((0 : Nat), (10 : Nat), (17 : Nat), (21 : Nat)), ((0 : Nat), (10 : Nat), (21 : Nat), (62 : Nat))]) ∈ BIG := BIG_of 984 (by decide +kernel) (by decide +kernel)
theorem bw_948 : (Jvm.Cond.classLink "ChannelHallLaw" (62 : Nat) "java/lang/IndexOutOfBoundsException") ∈ BIG := BIG_of 985 (by decide +kernel) (by decide +kernel)
theorem bw_949 : (Jvm.Cond.methodLink "ChannelHallLaw" (59 : Nat) ({ cls := "ChannelHall", name := "item", desc := "(II)I" } : Jvm.MethodName)) ∈ BIG := BIG_of 986 (by decide +kernel) (by decide +kernel)
theorem bw_950 : (Jvm.Cond.instanceMethod ({ cls := "ChannelHall", name := "item", desc := "(II)I" } : Jvm.MethodName)) ∈ BIG := BIG_of 987 (by decide +kernel) (by decide +kernel)
theorem bw_951 : (Jvm.Cond.selects "ChannelHall" ({ cls := "ChannelHall", name := "item", desc := "(II)I" } : Jvm.MethodName) ({ cls := "ChannelHall", name := "item", desc := "(II)I" } : Jvm.MethodName)) ∈ BIG := BIG_of 988 (by decide +kernel) (by decide +kernel)
theorem bw_952 : (Jvm.Cond.code ({ cls := "ChannelHall", name := "item", desc := "(II)I" } : Jvm.MethodName) prog_1_method_13_code (4 : Nat) (Option.some Jvm.ClassFile.FieldType.int)) ∈ BIG := BIG_of 989 (by decide +kernel) (by decide +kernel)
theorem bw_953 : (Jvm.Cond.classLink "ChannelHall" (215 : Nat) "java/lang/IndexOutOfBoundsException") ∈ BIG := BIG_of 990 (by decide +kernel) (by decide +kernel)
theorem bw_954 : (Jvm.Cond.methodLink "ChannelHall" (217 : Nat) ({ cls := "java/lang/IndexOutOfBoundsException", name := "<init>", desc := "()V" } : Jvm.MethodName)) ∈ BIG := BIG_of 991 (by decide +kernel) (by decide +kernel)
theorem bw_955 : (Jvm.Cond.instanceMethod ({ cls := "java/lang/IndexOutOfBoundsException", name := "<init>", desc := "()V" } : Jvm.MethodName)) ∈ BIG := BIG_of 992 (by decide +kernel) (by decide +kernel)
theorem bw_956 : (Jvm.Cond.code ({ cls := "java/lang/IndexOutOfBoundsException", name := "<init>", desc := "()V" } : Jvm.MethodName) prog_16_method_1_code (1 : Nat) (Option.none : Option Jvm.ClassFile.FieldType)) ∈ BIG := BIG_of 993 (by decide +kernel) (by decide +kernel)
theorem bw_957 : (Jvm.Cond.methodLink "java/lang/IndexOutOfBoundsException" (1 : Nat) ({ cls := "java/lang/RuntimeException", name := "<init>", desc := "()V" } : Jvm.MethodName)) ∈ BIG := BIG_of 994 (by decide +kernel) (by decide +kernel)
theorem bw_958 : (Jvm.Cond.methodLink "ChannelHall" (218 : Nat) ({ cls := "java/util/ArrayList", name := "get", desc := "(I)Ljava/lang/Object;" } : Jvm.MethodName)) ∈ BIG := BIG_of 995 (by decide +kernel) (by decide +kernel)
theorem bw_959 : (Jvm.Cond.classLink "ChannelHall" (222 : Nat) "ChannelHall$Item") ∈ BIG := BIG_of 996 (by decide +kernel) (by decide +kernel)
theorem bw_960 : (Jvm.Cond.methodLink "ChannelHallLaw" (123 : Nat) ({ cls := "ChannelHallLaw", name := "stay", desc := "(LChannelHall;I[D)I" } : Jvm.MethodName)) ∈ BIG := BIG_of 997 (by decide +kernel) (by decide +kernel)
theorem bw_961 : (Jvm.Cond.static ({ cls := "ChannelHallLaw", name := "stay", desc := "(LChannelHall;I[D)I" } : Jvm.MethodName)) ∈ BIG := BIG_of 998 (by decide +kernel) (by decide +kernel)
theorem bw_962 : (Jvm.Cond.codeWith ({ cls := "ChannelHallLaw", name := "stay", desc := "(LChannelHall;I[D)I" } : Jvm.MethodName) method_15_code (4 : Nat) (Option.some Jvm.ClassFile.FieldType.int) [((0 : Nat), (8 : Nat), (11 : Nat), (13 : Nat)), ((0 : Nat), (8 : Nat), (14 : Nat), (21 : Nat)), ((0 : Nat), (8 : Nat), (17 : Nat), (36 : Nat))]) ∈ BIG := BIG_of 999 (by decide +kernel) (by decide +kernel)
theorem bw_963 : (Jvm.Cond.methodLink "ChannelHallLaw" (64 : Nat) ({ cls := "ChannelHall", name := "stay", desc := "(I)D" } : Jvm.MethodName)) ∈ BIG := BIG_of 1000 (by decide +kernel) (by decide +kernel)
theorem bw_964 : (Jvm.Cond.instanceMethod ({ cls := "ChannelHall", name := "stay", desc := "(I)D" } : Jvm.MethodName)) ∈ BIG := BIG_of 1001 (by decide +kernel) (by decide +kernel)
theorem bw_965 : (Jvm.Cond.selects "ChannelHall" ({ cls := "ChannelHall", name := "stay", desc := "(I)D" } : Jvm.MethodName) ({ cls := "ChannelHall", name := "stay", desc := "(I)D" } : Jvm.MethodName)) ∈ BIG := BIG_of 1002 (by decide +kernel) (by decide +kernel)
theorem bw_966 : (Jvm.Cond.code ({ cls := "ChannelHall", name := "stay", desc := "(I)D" } : Jvm.MethodName) prog_1_method_14_code (3 : Nat) (Option.some Jvm.ClassFile.FieldType.double)) ∈ BIG := BIG_of 1003 (by decide +kernel) (by decide +kernel)
theorem bw_967 : (Jvm.Cond.classLink "ChannelHallLaw" (69 : Nat) "ChannelHallModel") ∈ BIG := BIG_of 1004 (by decide +kernel) (by decide +kernel)
theorem bw_968 : (Jvm.Cond.instantiable "ChannelHallModel" (26 : Nat)) ∈ BIG := BIG_of 1005 (by decide +kernel) (by decide +kernel)
theorem bw_969 : (Jvm.Cond.methodLink "ChannelHallLaw" (71 : Nat) ({ cls := "ChannelHallModel", name := "<init>", desc := "()V" } : Jvm.MethodName)) ∈ BIG := BIG_of 1006 (by decide +kernel) (by decide +kernel)
theorem bw_970 : (Jvm.Cond.instanceMethod ({ cls := "ChannelHallModel", name := "<init>", desc := "()V" } : Jvm.MethodName)) ∈ BIG := BIG_of 1007 (by decide +kernel) (by decide +kernel)
theorem bw_971 : (Jvm.Cond.code ({ cls := "ChannelHallModel", name := "<init>", desc := "()V" } : Jvm.MethodName) prog_7_method_1_code (2 : Nat) (Option.none : Option Jvm.ClassFile.FieldType)) ∈ BIG := BIG_of 1008 (by decide +kernel) (by decide +kernel)
theorem bw_972 : (Jvm.Cond.methodLink "ChannelHallModel" (1 : Nat) ({ cls := "java/lang/Object", name := "<init>", desc := "()V" } : Jvm.MethodName)) ∈ BIG := BIG_of 1009 (by decide +kernel) (by decide +kernel)
theorem bw_973 : (Jvm.Cond.constantDouble "ChannelHallModel" (84 : Nat) (13830554455654793216 : UInt64)) ∈ BIG := BIG_of 1010 (by decide +kernel) (by decide +kernel)
theorem bw_974 : (Jvm.Cond.fieldLink "ChannelHallModel" (86 : Nat) "ChannelHallModel" "failed" "I") ∈ BIG := BIG_of 1011 (by decide +kernel) (by decide +kernel)
theorem bw_975 : (Jvm.Cond.fieldLink "ChannelHallModel" (7 : Nat) "ChannelHallModel" "blocked" "[Z") ∈ BIG := BIG_of 1012 (by decide +kernel) (by decide +kernel)
theorem bw_976 : (Jvm.Cond.fieldLink "ChannelHallModel" (13 : Nat) "ChannelHallModel" "flag" "[Z") ∈ BIG := BIG_of 1013 (by decide +kernel) (by decide +kernel)
theorem bw_977 : (Jvm.Cond.fieldLink "ChannelHallModel" (16 : Nat) "ChannelHallModel" "outcome" "[I") ∈ BIG := BIG_of 1014 (by decide +kernel) (by decide +kernel)
theorem bw_978 : (Jvm.Cond.fieldLink "ChannelHallModel" (20 : Nat) "ChannelHallModel" "hasGot" "[Z") ∈ BIG := BIG_of 1015 (by decide +kernel) (by decide +kernel)
theorem bw_979 : (Jvm.Cond.fieldLink "ChannelHallModel" (23 : Nat) "ChannelHallModel" "got" "[I") ∈ BIG := BIG_of 1016 (by decide +kernel) (by decide +kernel)
theorem bw_980 : (Jvm.Cond.fieldLink "ChannelHallModel" (26 : Nat) "ChannelHallModel" "waitsAt" "[I") ∈ BIG := BIG_of 1017 (by decide +kernel) (by decide +kernel)
theorem bw_981 : (Jvm.Cond.fieldLink "ChannelHallModel" (29 : Nat) "ChannelHallModel" "role" "[I") ∈ BIG := BIG_of 1018 (by decide +kernel) (by decide +kernel)
theorem bw_982 : (Jvm.Cond.fieldLink "ChannelHallModel" (32 : Nat) "ChannelHallModel" "gift" "[I") ∈ BIG := BIG_of 1019 (by decide +kernel) (by decide +kernel)
theorem bw_983 : (Jvm.Cond.fieldLink "ChannelHallModel" (35 : Nat) "ChannelHallModel" "giftRank" "[D") ∈ BIG := BIG_of 1020 (by decide +kernel) (by decide +kernel)
theorem bw_984 : (Jvm.Cond.fieldLink "ChannelHallModel" (39 : Nat) "ChannelHallModel" "giftDue" "[D") ∈ BIG := BIG_of 1021 (by decide +kernel) (by decide +kernel)
theorem bw_985 : (Jvm.Cond.fieldLink "ChannelHallModel" (42 : Nat) "ChannelHallModel" "end" "[D") ∈ BIG := BIG_of 1022 (by decide +kernel) (by decide +kernel)
theorem bw_986 : (Jvm.Cond.fieldLink "ChannelHallModel" (102 : Nat) "ChannelHallModel" "time" "D") ∈ BIG := BIG_of 1023 (by decide +kernel) (by decide +kernel)
theorem bw_987 : (Jvm.Cond.fieldLink "ChannelHallModel" (45 : Nat) "ChannelHallModel" "kind" "[I") ∈ BIG := BIG_of 1024 (by decide +kernel) (by decide +kernel)
theorem bw_988 : (Jvm.Cond.fieldLink "ChannelHallModel" (48 : Nat) "ChannelHallModel" "room" "[I") ∈ BIG := BIG_of 1025 (by decide +kernel) (by decide +kernel)
theorem bw_989 : (Jvm.Cond.fieldLink "ChannelHallModel" (51 : Nat) "ChannelHallModel" "broken" "[Z") ∈ BIG := BIG_of 1026 (by decide +kernel) (by decide +kernel)
theorem bw_990 : (Jvm.Cond.fieldLink "ChannelHallModel" (54 : Nat) "ChannelHallModel" "passed" "[I") ∈ BIG := BIG_of 1027 (by decide +kernel) (by decide +kernel)
theorem bw_991 : (Jvm.Cond.fieldLink "ChannelHallModel" (57 : Nat) "ChannelHallModel" "row" "[I") ∈ BIG := BIG_of 1028 (by decide +kernel) (by decide +kernel)
theorem bw_992 : (Jvm.Cond.fieldLink "ChannelHallModel" (60 : Nat) "ChannelHallModel" "waiters" "[I") ∈ BIG := BIG_of 1029 (by decide +kernel) (by decide +kernel)
theorem bw_993 : (Jvm.Cond.fieldLink "ChannelHallModel" (63 : Nat) "ChannelHallModel" "value" "[I") ∈ BIG := BIG_of 1030 (by decide +kernel) (by decide +kernel)
theorem bw_994 : (Jvm.Cond.fieldLink "ChannelHallModel" (66 : Nat) "ChannelHallModel" "rank" "[D") ∈ BIG := BIG_of 1031 (by decide +kernel) (by decide +kernel)
theorem bw_995 : (Jvm.Cond.fieldLink "ChannelHallModel" (69 : Nat) "ChannelHallModel" "due" "[D") ∈ BIG := BIG_of 1032 (by decide +kernel) (by decide +kernel)
theorem bw_996 : (Jvm.Cond.fieldLink "ChannelHallModel" (72 : Nat) "ChannelHallModel" "in" "[D") ∈ BIG := BIG_of 1033 (by decide +kernel) (by decide +kernel)
theorem bw_997 : (Jvm.Cond.fieldLink "ChannelHallModel" (75 : Nat) "ChannelHallModel" "items" "[I") ∈ BIG := BIG_of 1034 (by decide +kernel) (by decide +kernel)
theorem bw_998 : (Jvm.Cond.fieldLink "ChannelHallModel" (78 : Nat) "ChannelHallModel" "staySum" "[D") ∈ BIG := BIG_of 1035 (by decide +kernel) (by decide +kernel)
theorem bw_999 : (Jvm.Cond.fieldLink "ChannelHallModel" (81 : Nat) "ChannelHallModel" "stayCount" "[I") ∈ BIG := BIG_of 1036 (by decide +kernel) (by decide +kernel)
theorem bw_1000 : (Jvm.Cond.lays "ChannelHallModel" "ChannelHallModel" "failed" "I") ∈ BIG := BIG_of 1037 (by decide +kernel) (by decide +kernel)
theorem bw_1002 : (Jvm.Cond.laysFinal "ChannelHallModel" "ChannelHallModel" "blocked" "[Z") ∈ BIG := BIG_of 1039 (by decide +kernel) (by decide +kernel)
theorem bw_1004 : (Jvm.Cond.laysFinal "ChannelHallModel" "ChannelHallModel" "flag" "[Z") ∈ BIG := BIG_of 1041 (by decide +kernel) (by decide +kernel)
theorem bw_1006 : (Jvm.Cond.laysFinal "ChannelHallModel" "ChannelHallModel" "outcome" "[I") ∈ BIG := BIG_of 1043 (by decide +kernel) (by decide +kernel)
theorem bw_1008 : (Jvm.Cond.laysFinal "ChannelHallModel" "ChannelHallModel" "hasGot" "[Z") ∈ BIG := BIG_of 1045 (by decide +kernel) (by decide +kernel)
theorem bw_1010 : (Jvm.Cond.laysFinal "ChannelHallModel" "ChannelHallModel" "got" "[I") ∈ BIG := BIG_of 1047 (by decide +kernel) (by decide +kernel)
theorem bw_1012 : (Jvm.Cond.laysFinal "ChannelHallModel" "ChannelHallModel" "waitsAt" "[I") ∈ BIG := BIG_of 1049 (by decide +kernel) (by decide +kernel)
theorem bw_1014 : (Jvm.Cond.laysFinal "ChannelHallModel" "ChannelHallModel" "role" "[I") ∈ BIG := BIG_of 1051 (by decide +kernel) (by decide +kernel)
theorem bw_1016 : (Jvm.Cond.laysFinal "ChannelHallModel" "ChannelHallModel" "gift" "[I") ∈ BIG := BIG_of 1053 (by decide +kernel) (by decide +kernel)
theorem bw_1018 : (Jvm.Cond.laysFinal "ChannelHallModel" "ChannelHallModel" "giftRank" "[D") ∈ BIG := BIG_of 1055 (by decide +kernel) (by decide +kernel)
theorem bw_1020 : (Jvm.Cond.laysFinal "ChannelHallModel" "ChannelHallModel" "giftDue" "[D") ∈ BIG := BIG_of 1057 (by decide +kernel) (by decide +kernel)
theorem bw_1022 : (Jvm.Cond.laysFinal "ChannelHallModel" "ChannelHallModel" "end" "[D") ∈ BIG := BIG_of 1059 (by decide +kernel) (by decide +kernel)
theorem bw_1024 : (Jvm.Cond.lays "ChannelHallModel" "ChannelHallModel" "time" "D") ∈ BIG := BIG_of 1061 (by decide +kernel) (by decide +kernel)
theorem bw_1026 : (Jvm.Cond.laysFinal "ChannelHallModel" "ChannelHallModel" "kind" "[I") ∈ BIG := BIG_of 1063 (by decide +kernel) (by decide +kernel)
theorem bw_1028 : (Jvm.Cond.laysFinal "ChannelHallModel" "ChannelHallModel" "room" "[I") ∈ BIG := BIG_of 1065 (by decide +kernel) (by decide +kernel)
theorem bw_1030 : (Jvm.Cond.laysFinal "ChannelHallModel" "ChannelHallModel" "broken" "[Z") ∈ BIG := BIG_of 1067 (by decide +kernel) (by decide +kernel)
theorem bw_1032 : (Jvm.Cond.laysFinal "ChannelHallModel" "ChannelHallModel" "passed" "[I") ∈ BIG := BIG_of 1069 (by decide +kernel) (by decide +kernel)
theorem bw_1034 : (Jvm.Cond.laysFinal "ChannelHallModel" "ChannelHallModel" "row" "[I") ∈ BIG := BIG_of 1071 (by decide +kernel) (by decide +kernel)
theorem bw_1036 : (Jvm.Cond.laysFinal "ChannelHallModel" "ChannelHallModel" "waiters" "[I") ∈ BIG := BIG_of 1073 (by decide +kernel) (by decide +kernel)
theorem bw_1038 : (Jvm.Cond.laysFinal "ChannelHallModel" "ChannelHallModel" "value" "[I") ∈ BIG := BIG_of 1075 (by decide +kernel) (by decide +kernel)
theorem bw_1040 : (Jvm.Cond.laysFinal "ChannelHallModel" "ChannelHallModel" "rank" "[D") ∈ BIG := BIG_of 1077 (by decide +kernel) (by decide +kernel)
theorem bw_1042 : (Jvm.Cond.laysFinal "ChannelHallModel" "ChannelHallModel" "due" "[D") ∈ BIG := BIG_of 1079 (by decide +kernel) (by decide +kernel)
theorem bw_1044 : (Jvm.Cond.laysFinal "ChannelHallModel" "ChannelHallModel" "in" "[D") ∈ BIG := BIG_of 1081 (by decide +kernel) (by decide +kernel)
theorem bw_1046 : (Jvm.Cond.laysFinal "ChannelHallModel" "ChannelHallModel" "items" "[I") ∈ BIG := BIG_of 1083 (by decide +kernel) (by decide +kernel)
theorem bw_1048 : (Jvm.Cond.laysFinal "ChannelHallModel" "ChannelHallModel" "staySum" "[D") ∈ BIG := BIG_of 1085 (by decide +kernel) (by decide +kernel)
theorem bw_1050 : (Jvm.Cond.laysFinal "ChannelHallModel" "ChannelHallModel" "stayCount" "[I") ∈ BIG := BIG_of 1087 (by decide +kernel) (by decide +kernel)
theorem bw_1053 : (Jvm.Cond.arrayClass Jvm.ClassFile.FieldType.boolean) ∈ BIG := BIG_of 1090 (by decide +kernel) (by decide +kernel)
theorem bw_1054 : (Jvm.Cond.arrayClass Jvm.ClassFile.FieldType.int) ∈ BIG := BIG_of 1091 (by decide +kernel) (by decide +kernel)
theorem bw_1055 : (Jvm.Cond.arrayClass Jvm.ClassFile.FieldType.double) ∈ BIG := BIG_of 1092 (by decide +kernel) (by decide +kernel)
theorem bw_1056 : (Jvm.Cond.methodLink "ChannelHallLaw" (78 : Nat) ({ cls := "ChannelHallModel", name := "thrown", desc := "()I" } : Jvm.MethodName)) ∈ BIG := BIG_of 1093 (by decide +kernel) (by decide +kernel)
theorem bw_1057 : (Jvm.Cond.instanceMethod ({ cls := "ChannelHallModel", name := "thrown", desc := "()I" } : Jvm.MethodName)) ∈ BIG := BIG_of 1094 (by decide +kernel) (by decide +kernel)
theorem bw_1058 : (Jvm.Cond.selects "ChannelHallModel" ({ cls := "ChannelHallModel", name := "thrown", desc := "()I" } : Jvm.MethodName) ({ cls := "ChannelHallModel", name := "thrown", desc := "()I" } : Jvm.MethodName)) ∈ BIG := BIG_of 1095 (by decide +kernel) (by decide +kernel)
theorem bw_1059 : (Jvm.Cond.code ({ cls := "ChannelHallModel", name := "thrown", desc := "()I" } : Jvm.MethodName) prog_7_method_2_code (1 : Nat) (Option.some Jvm.ClassFile.FieldType.int)) ∈ BIG := BIG_of 1096 (by decide +kernel) (by decide +kernel)
theorem bw_1060 : (Jvm.Cond.methodLink "ChannelHallLaw" (77 : Nat) ({ cls := "ChannelHallModel", name := "make", desc := "(III)I" } : Jvm.MethodName)) ∈ BIG := BIG_of 1097 (by decide +kernel) (by decide +kernel)
theorem bw_1061 : (Jvm.Cond.instanceMethod ({ cls := "ChannelHallModel", name := "make", desc := "(III)I" } : Jvm.MethodName)) ∈ BIG := BIG_of 1098 (by decide +kernel) (by decide +kernel)
theorem bw_1062 : (Jvm.Cond.selects "ChannelHallModel" ({ cls := "ChannelHallModel", name := "make", desc := "(III)I" } : Jvm.MethodName) ({ cls := "ChannelHallModel", name := "make", desc := "(III)I" } : Jvm.MethodName)) ∈ BIG := BIG_of 1099 (by decide +kernel) (by decide +kernel)
theorem bw_1063 : (Jvm.Cond.code ({ cls := "ChannelHallModel", name := "make", desc := "(III)I" } : Jvm.MethodName) prog_7_method_5_code (6 : Nat) (Option.some Jvm.ClassFile.FieldType.int)) ∈ BIG := BIG_of 1100 (by decide +kernel) (by decide +kernel)
theorem bw_1064 : (Jvm.Cond.methodLink "ChannelHallModel" (90 : Nat) ({ cls := "ChannelHallModel", name := "out", desc := "(II)Z" } : Jvm.MethodName)) ∈ BIG := BIG_of 1101 (by decide +kernel) (by decide +kernel)
theorem bw_1066 : (Jvm.Cond.instanceMethod ({ cls := "ChannelHallModel", name := "out", desc := "(II)Z" } : Jvm.MethodName)) ∈ BIG := BIG_of 1103 (by decide +kernel) (by decide +kernel)
theorem bw_1067 : (Jvm.Cond.code ({ cls := "ChannelHallModel", name := "out", desc := "(II)Z" } : Jvm.MethodName) prog_7_method_4_code (3 : Nat) (Option.some Jvm.ClassFile.FieldType.boolean)) ∈ BIG := BIG_of 1104 (by decide +kernel) (by decide +kernel)
theorem bw_1068 : (Jvm.Cond.methodLink "ChannelHallModel" (94 : Nat) ({ cls := "ChannelHallModel", name := "fail", desc := "(I)I" } : Jvm.MethodName)) ∈ BIG := BIG_of 1105 (by decide +kernel) (by decide +kernel)
theorem bw_1070 : (Jvm.Cond.instanceMethod ({ cls := "ChannelHallModel", name := "fail", desc := "(I)I" } : Jvm.MethodName)) ∈ BIG := BIG_of 1107 (by decide +kernel) (by decide +kernel)
theorem bw_1071 : (Jvm.Cond.code ({ cls := "ChannelHallModel", name := "fail", desc := "(I)I" } : Jvm.MethodName) prog_7_method_3_code (2 : Nat) (Option.some Jvm.ClassFile.FieldType.int)) ∈ BIG := BIG_of 1108 (by decide +kernel) (by decide +kernel)
theorem bw_1072 : (Jvm.Cond.methodLink "ChannelHallLaw" (87 : Nat) ({ cls := "ChannelHallModel", name := "give", desc := "(IIIDD)I" } : Jvm.MethodName)) ∈ BIG := BIG_of 1109 (by decide +kernel) (by decide +kernel)
theorem bw_1073 : (Jvm.Cond.instanceMethod ({ cls := "ChannelHallModel", name := "give", desc := "(IIIDD)I" } : Jvm.MethodName)) ∈ BIG := BIG_of 1110 (by decide +kernel) (by decide +kernel)
theorem bw_1074 : (Jvm.Cond.selects "ChannelHallModel" ({ cls := "ChannelHallModel", name := "give", desc := "(IIIDD)I" } : Jvm.MethodName) ({ cls := "ChannelHallModel", name := "give", desc := "(IIIDD)I" } : Jvm.MethodName)) ∈ BIG := BIG_of 1111 (by decide +kernel) (by decide +kernel)
theorem bw_1075 : (Jvm.Cond.code ({ cls := "ChannelHallModel", name := "give", desc := "(IIIDD)I" } : Jvm.MethodName) prog_7_method_21_code (14 : Nat) (Option.some Jvm.ClassFile.FieldType.int)) ∈ BIG := BIG_of 1112 (by decide +kernel) (by decide +kernel)
theorem bw_1076 : (Jvm.Cond.constantDouble "ChannelHallModel" (140 : Nat) (13875379345695965184 : UInt64)) ∈ BIG := BIG_of 1113 (by decide +kernel) (by decide +kernel)
theorem bw_1077 : (Jvm.Cond.constantDouble "ChannelHallModel" (138 : Nat) (4652007308841189376 : UInt64)) ∈ BIG := BIG_of 1114 (by decide +kernel) (by decide +kernel)
theorem bw_1078 : (Jvm.Cond.methodLink "ChannelHallModel" (142 : Nat) ({ cls := "ChannelHallModel", name := "badLimit", desc := "(D)Z" } : Jvm.MethodName)) ∈ BIG := BIG_of 1115 (by decide +kernel) (by decide +kernel)
theorem bw_1080 : (Jvm.Cond.instanceMethod ({ cls := "ChannelHallModel", name := "badLimit", desc := "(D)Z" } : Jvm.MethodName)) ∈ BIG := BIG_of 1117 (by decide +kernel) (by decide +kernel)
theorem bw_1081 : (Jvm.Cond.code ({ cls := "ChannelHallModel", name := "badLimit", desc := "(D)Z" } : Jvm.MethodName) prog_7_method_18_code (3 : Nat) (Option.some Jvm.ClassFile.FieldType.boolean)) ∈ BIG := BIG_of 1118 (by decide +kernel) (by decide +kernel)
theorem bw_1082 : (Jvm.Cond.methodLink "ChannelHallModel" (146 : Nat) ({ cls := "ChannelHallModel", name := "check", desc := "(IIII)I" } : Jvm.MethodName)) ∈ BIG := BIG_of 1119 (by decide +kernel) (by decide +kernel)
theorem bw_1084 : (Jvm.Cond.instanceMethod ({ cls := "ChannelHallModel", name := "check", desc := "(IIII)I" } : Jvm.MethodName)) ∈ BIG := BIG_of 1121 (by decide +kernel) (by decide +kernel)
theorem bw_1085 : (Jvm.Cond.code ({ cls := "ChannelHallModel", name := "check", desc := "(IIII)I" } : Jvm.MethodName) prog_7_method_19_code (5 : Nat) (Option.some Jvm.ClassFile.FieldType.int)) ∈ BIG := BIG_of 1122 (by decide +kernel) (by decide +kernel)
theorem bw_1086 : (Jvm.Cond.methodLink "ChannelHallModel" (150 : Nat) ({ cls := "ChannelHallModel", name := "flagged", desc := "(I)Z" } : Jvm.MethodName)) ∈ BIG := BIG_of 1123 (by decide +kernel) (by decide +kernel)
theorem bw_1088 : (Jvm.Cond.instanceMethod ({ cls := "ChannelHallModel", name := "flagged", desc := "(I)Z" } : Jvm.MethodName)) ∈ BIG := BIG_of 1125 (by decide +kernel) (by decide +kernel)
theorem bw_1089 : (Jvm.Cond.code ({ cls := "ChannelHallModel", name := "flagged", desc := "(I)Z" } : Jvm.MethodName) prog_7_method_20_code (2 : Nat) (Option.some Jvm.ClassFile.FieldType.boolean)) ∈ BIG := BIG_of 1126 (by decide +kernel) (by decide +kernel)
theorem bw_1090 : (Jvm.Cond.methodLink "ChannelHallModel" (124 : Nat) ({ cls := "ChannelHallModel", name := "first", desc := "(II)I" } : Jvm.MethodName)) ∈ BIG := BIG_of 1127 (by decide +kernel) (by decide +kernel)
theorem bw_1092 : (Jvm.Cond.instanceMethod ({ cls := "ChannelHallModel", name := "first", desc := "(II)I" } : Jvm.MethodName)) ∈ BIG := BIG_of 1129 (by decide +kernel) (by decide +kernel)
theorem bw_1093 : (Jvm.Cond.code ({ cls := "ChannelHallModel", name := "first", desc := "(II)I" } : Jvm.MethodName) prog_7_method_6_code (4 : Nat) (Option.some Jvm.ClassFile.FieldType.int)) ∈ BIG := BIG_of 1130 (by decide +kernel) (by decide +kernel)
theorem bw_1094 : (Jvm.Cond.methodLink "ChannelHallModel" (153 : Nat) ({ cls := "ChannelHallModel", name := "waitAt", desc := "(IIID)I" } : Jvm.MethodName)) ∈ BIG := BIG_of 1131 (by decide +kernel) (by decide +kernel)
theorem bw_1096 : (Jvm.Cond.instanceMethod ({ cls := "ChannelHallModel", name := "waitAt", desc := "(IIID)I" } : Jvm.MethodName)) ∈ BIG := BIG_of 1133 (by decide +kernel) (by decide +kernel)
theorem bw_1097 : (Jvm.Cond.code ({ cls := "ChannelHallModel", name := "waitAt", desc := "(IIID)I" } : Jvm.MethodName) prog_7_method_8_code (6 : Nat) (Option.some Jvm.ClassFile.FieldType.int)) ∈ BIG := BIG_of 1134 (by decide +kernel) (by decide +kernel)
theorem bw_1098 : (Jvm.Cond.methodLink "ChannelHallModel" (98 : Nat) ({ cls := "ChannelHallModel", name := "settle", desc := "(II)I" } : Jvm.MethodName)) ∈ BIG := BIG_of 1135 (by decide +kernel) (by decide +kernel)
theorem bw_1100 : (Jvm.Cond.instanceMethod ({ cls := "ChannelHallModel", name := "settle", desc := "(II)I" } : Jvm.MethodName)) ∈ BIG := BIG_of 1137 (by decide +kernel) (by decide +kernel)
theorem bw_1101 : (Jvm.Cond.code ({ cls := "ChannelHallModel", name := "settle", desc := "(II)I" } : Jvm.MethodName) prog_7_method_7_code (3 : Nat) (Option.some Jvm.ClassFile.FieldType.int)) ∈ BIG := BIG_of 1138 (by decide +kernel) (by decide +kernel)
theorem bw_1102 : (Jvm.Cond.methodLink "ChannelHallModel" (120 : Nat) ({ cls := "ChannelHallModel", name := "obtain", desc := "(IIID)V" } : Jvm.MethodName)) ∈ BIG := BIG_of 1139 (by decide +kernel) (by decide +kernel)
theorem bw_1104 : (Jvm.Cond.instanceMethod ({ cls := "ChannelHallModel", name := "obtain", desc := "(IIID)V" } : Jvm.MethodName)) ∈ BIG := BIG_of 1141 (by decide +kernel) (by decide +kernel)
theorem bw_1105 : (Jvm.Cond.code ({ cls := "ChannelHallModel", name := "obtain", desc := "(IIID)V" } : Jvm.MethodName) prog_7_method_15_code (6 : Nat) (Option.none : Option Jvm.ClassFile.FieldType)) ∈ BIG := BIG_of 1142 (by decide +kernel) (by decide +kernel)
theorem bw_1106 : (Jvm.Cond.methodLink "ChannelHallModel" (106 : Nat) ({ cls := "ChannelHallModel", name := "free", desc := "(II)V" } : Jvm.MethodName)) ∈ BIG := BIG_of 1143 (by decide +kernel) (by decide +kernel)
theorem bw_1108 : (Jvm.Cond.instanceMethod ({ cls := "ChannelHallModel", name := "free", desc := "(II)V" } : Jvm.MethodName)) ∈ BIG := BIG_of 1145 (by decide +kernel) (by decide +kernel)
theorem bw_1109 : (Jvm.Cond.code ({ cls := "ChannelHallModel", name := "free", desc := "(II)V" } : Jvm.MethodName) prog_7_method_9_code (6 : Nat) (Option.none : Option Jvm.ClassFile.FieldType)) ∈ BIG := BIG_of 1146 (by decide +kernel) (by decide +kernel)
theorem bw_1110 : (Jvm.Cond.methodLink "ChannelHallModel" (134 : Nat) ({ cls := "ChannelHallModel", name := "lay", desc := "(IIDD)V" } : Jvm.MethodName)) ∈ BIG := BIG_of 1147 (by decide +kernel) (by decide +kernel)
theorem bw_1112 : (Jvm.Cond.instanceMethod ({ cls := "ChannelHallModel", name := "lay", desc := "(IIDD)V" } : Jvm.MethodName)) ∈ BIG := BIG_of 1149 (by decide +kernel) (by decide +kernel)
theorem bw_1113 : (Jvm.Cond.code ({ cls := "ChannelHallModel", name := "lay", desc := "(IIDD)V" } : Jvm.MethodName) prog_7_method_12_code (9 : Nat) (Option.none : Option Jvm.ClassFile.FieldType)) ∈ BIG := BIG_of 1150 (by decide +kernel) (by decide +kernel)
theorem bw_1114 : (Jvm.Cond.methodLink "ChannelHallModel" (117 : Nat) ({ cls := "ChannelHallModel", name := "move", desc := "(II)V" } : Jvm.MethodName)) ∈ BIG := BIG_of 1151 (by decide +kernel) (by decide +kernel)
theorem bw_1116 : (Jvm.Cond.instanceMethod ({ cls := "ChannelHallModel", name := "move", desc := "(II)V" } : Jvm.MethodName)) ∈ BIG := BIG_of 1153 (by decide +kernel) (by decide +kernel)
theorem bw_1117 : (Jvm.Cond.code ({ cls := "ChannelHallModel", name := "move", desc := "(II)V" } : Jvm.MethodName) prog_7_method_13_code (3 : Nat) (Option.none : Option Jvm.ClassFile.FieldType)) ∈ BIG := BIG_of 1154 (by decide +kernel) (by decide +kernel)
theorem bw_1118 : (Jvm.Cond.methodLink "ChannelHallModel" (113 : Nat) ({ cls := "ChannelHallModel", name := "serve", desc := "(I)V" } : Jvm.MethodName)) ∈ BIG := BIG_of 1155 (by decide +kernel) (by decide +kernel)
theorem bw_1120 : (Jvm.Cond.instanceMethod ({ cls := "ChannelHallModel", name := "serve", desc := "(I)V" } : Jvm.MethodName)) ∈ BIG := BIG_of 1157 (by decide +kernel) (by decide +kernel)
theorem bw_1121 : (Jvm.Cond.code ({ cls := "ChannelHallModel", name := "serve", desc := "(I)V" } : Jvm.MethodName) prog_7_method_17_code (5 : Nat) (Option.none : Option Jvm.ClassFile.FieldType)) ∈ BIG := BIG_of 1158 (by decide +kernel) (by decide +kernel)
theorem bw_1122 : (Jvm.Cond.methodLink "ChannelHallModel" (127 : Nat) ({ cls := "ChannelHallModel", name := "ready", desc := "(I)Z" } : Jvm.MethodName)) ∈ BIG := BIG_of 1159 (by decide +kernel) (by decide +kernel)
theorem bw_1124 : (Jvm.Cond.instanceMethod ({ cls := "ChannelHallModel", name := "ready", desc := "(I)Z" } : Jvm.MethodName)) ∈ BIG := BIG_of 1161 (by decide +kernel) (by decide +kernel)
theorem bw_1125 : (Jvm.Cond.code ({ cls := "ChannelHallModel", name := "ready", desc := "(I)Z" } : Jvm.MethodName) prog_7_method_14_code (2 : Nat) (Option.some Jvm.ClassFile.FieldType.boolean)) ∈ BIG := BIG_of 1162 (by decide +kernel) (by decide +kernel)
theorem bw_1126 : (Jvm.Cond.methodLink "ChannelHallModel" (131 : Nat) ({ cls := "ChannelHallModel", name := "takeFirst", desc := "(II)V" } : Jvm.MethodName)) ∈ BIG := BIG_of 1163 (by decide +kernel) (by decide +kernel)
theorem bw_1128 : (Jvm.Cond.instanceMethod ({ cls := "ChannelHallModel", name := "takeFirst", desc := "(II)V" } : Jvm.MethodName)) ∈ BIG := BIG_of 1165 (by decide +kernel) (by decide +kernel)
theorem bw_1129 : (Jvm.Cond.code ({ cls := "ChannelHallModel", name := "takeFirst", desc := "(II)V" } : Jvm.MethodName) prog_7_method_16_code (4 : Nat) (Option.none : Option Jvm.ClassFile.FieldType)) ∈ BIG := BIG_of 1166 (by decide +kernel) (by decide +kernel)
theorem bw_1130 : (Jvm.Cond.methodLink "ChannelHallLaw" (91 : Nat) ({ cls := "ChannelHallModel", name := "take", desc := "(IID)I" } : Jvm.MethodName)) ∈ BIG := BIG_of 1167 (by decide +kernel) (by decide +kernel)
theorem bw_1131 : (Jvm.Cond.instanceMethod ({ cls := "ChannelHallModel", name := "take", desc := "(IID)I" } : Jvm.MethodName)) ∈ BIG := BIG_of 1168 (by decide +kernel) (by decide +kernel)
theorem bw_1132 : (Jvm.Cond.selects "ChannelHallModel" ({ cls := "ChannelHallModel", name := "take", desc := "(IID)I" } : Jvm.MethodName) ({ cls := "ChannelHallModel", name := "take", desc := "(IID)I" } : Jvm.MethodName)) ∈ BIG := BIG_of 1169 (by decide +kernel) (by decide +kernel)
theorem bw_1133 : (Jvm.Cond.code ({ cls := "ChannelHallModel", name := "take", desc := "(IID)I" } : Jvm.MethodName) prog_7_method_22_code (8 : Nat) (Option.some Jvm.ClassFile.FieldType.int)) ∈ BIG := BIG_of 1170 (by decide +kernel) (by decide +kernel)
theorem bw_1134 : (Jvm.Cond.methodLink "ChannelHallLaw" (95 : Nat) ({ cls := "ChannelHallModel", name := "swap", desc := "(IIID)I" } : Jvm.MethodName)) ∈ BIG := BIG_of 1171 (by decide +kernel) (by decide +kernel)
theorem bw_1135 : (Jvm.Cond.instanceMethod ({ cls := "ChannelHallModel", name := "swap", desc := "(IIID)I" } : Jvm.MethodName)) ∈ BIG := BIG_of 1172 (by decide +kernel) (by decide +kernel)
theorem bw_1136 : (Jvm.Cond.selects "ChannelHallModel" ({ cls := "ChannelHallModel", name := "swap", desc := "(IIID)I" } : Jvm.MethodName) ({ cls := "ChannelHallModel", name := "swap", desc := "(IIID)I" } : Jvm.MethodName)) ∈ BIG := BIG_of 1173 (by decide +kernel) (by decide +kernel)
theorem bw_1137 : (Jvm.Cond.code ({ cls := "ChannelHallModel", name := "swap", desc := "(IIID)I" } : Jvm.MethodName) prog_7_method_23_code (7 : Nat) (Option.some Jvm.ClassFile.FieldType.int)) ∈ BIG := BIG_of 1174 (by decide +kernel) (by decide +kernel)
theorem bw_1138 : (Jvm.Cond.methodLink "ChannelHallLaw" (98 : Nat) ({ cls := "ChannelHallModel", name := "arrive", desc := "(IID)I" } : Jvm.MethodName)) ∈ BIG := BIG_of 1175 (by decide +kernel) (by decide +kernel)
theorem bw_1139 : (Jvm.Cond.instanceMethod ({ cls := "ChannelHallModel", name := "arrive", desc := "(IID)I" } : Jvm.MethodName)) ∈ BIG := BIG_of 1176 (by decide +kernel) (by decide +kernel)
theorem bw_1140 : (Jvm.Cond.selects "ChannelHallModel" ({ cls := "ChannelHallModel", name := "arrive", desc := "(IID)I" } : Jvm.MethodName) ({ cls := "ChannelHallModel", name := "arrive", desc := "(IID)I" } : Jvm.MethodName)) ∈ BIG := BIG_of 1177 (by decide +kernel) (by decide +kernel)
theorem bw_1141 : (Jvm.Cond.code ({ cls := "ChannelHallModel", name := "arrive", desc := "(IID)I" } : Jvm.MethodName) prog_7_method_24_code (7 : Nat) (Option.some Jvm.ClassFile.FieldType.int)) ∈ BIG := BIG_of 1178 (by decide +kernel) (by decide +kernel)
theorem bw_1142 : (Jvm.Cond.methodLink "ChannelHallModel" (110 : Nat) ({ cls := "ChannelHallModel", name := "freeAll", desc := "(II)V" } : Jvm.MethodName)) ∈ BIG := BIG_of 1179 (by decide +kernel) (by decide +kernel)
theorem bw_1144 : (Jvm.Cond.instanceMethod ({ cls := "ChannelHallModel", name := "freeAll", desc := "(II)V" } : Jvm.MethodName)) ∈ BIG := BIG_of 1181 (by decide +kernel) (by decide +kernel)
theorem bw_1145 : (Jvm.Cond.code ({ cls := "ChannelHallModel", name := "freeAll", desc := "(II)V" } : Jvm.MethodName) prog_7_method_10_code (3 : Nat) (Option.none : Option Jvm.ClassFile.FieldType)) ∈ BIG := BIG_of 1182 (by decide +kernel) (by decide +kernel)
theorem bw_1146 : (Jvm.Cond.methodLink "ChannelHallLaw" (102 : Nat) ({ cls := "ChannelHallModel", name := "reset", desc := "(I)I" } : Jvm.MethodName)) ∈ BIG := BIG_of 1183 (by decide +kernel) (by decide +kernel)
theorem bw_1147 : (Jvm.Cond.instanceMethod ({ cls := "ChannelHallModel", name := "reset", desc := "(I)I" } : Jvm.MethodName)) ∈ BIG := BIG_of 1184 (by decide +kernel) (by decide +kernel)
theorem bw_1148 : (Jvm.Cond.selects "ChannelHallModel" ({ cls := "ChannelHallModel", name := "reset", desc := "(I)I" } : Jvm.MethodName) ({ cls := "ChannelHallModel", name := "reset", desc := "(I)I" } : Jvm.MethodName)) ∈ BIG := BIG_of 1185 (by decide +kernel) (by decide +kernel)
theorem bw_1149 : (Jvm.Cond.code ({ cls := "ChannelHallModel", name := "reset", desc := "(I)I" } : Jvm.MethodName) prog_7_method_25_code (3 : Nat) (Option.some Jvm.ClassFile.FieldType.int)) ∈ BIG := BIG_of 1186 (by decide +kernel) (by decide +kernel)
theorem bw_1150 : (Jvm.Cond.methodLink "ChannelHallLaw" (105 : Nat) ({ cls := "ChannelHallModel", name := "interrupt", desc := "(I)I" } : Jvm.MethodName)) ∈ BIG := BIG_of 1187 (by decide +kernel) (by decide +kernel)
theorem bw_1151 : (Jvm.Cond.instanceMethod ({ cls := "ChannelHallModel", name := "interrupt", desc := "(I)I" } : Jvm.MethodName)) ∈ BIG := BIG_of 1188 (by decide +kernel) (by decide +kernel)
theorem bw_1152 : (Jvm.Cond.selects "ChannelHallModel" ({ cls := "ChannelHallModel", name := "interrupt", desc := "(I)I" } : Jvm.MethodName) ({ cls := "ChannelHallModel", name := "interrupt", desc := "(I)I" } : Jvm.MethodName)) ∈ BIG := BIG_of 1189 (by decide +kernel) (by decide +kernel)
theorem bw_1153 : (Jvm.Cond.code ({ cls := "ChannelHallModel", name := "interrupt", desc := "(I)I" } : Jvm.MethodName) prog_7_method_26_code (2 : Nat) (Option.some Jvm.ClassFile.FieldType.int)) ∈ BIG := BIG_of 1190 (by decide +kernel) (by decide +kernel)
theorem bw_1154 : (Jvm.Cond.methodLink "ChannelHallModel" (157 : Nat) ({ cls := "ChannelHallModel", name := "leave", desc := "(II)V" } : Jvm.MethodName)) ∈ BIG := BIG_of 1191 (by decide +kernel) (by decide +kernel)
theorem bw_1156 : (Jvm.Cond.instanceMethod ({ cls := "ChannelHallModel", name := "leave", desc := "(II)V" } : Jvm.MethodName)) ∈ BIG := BIG_of 1193 (by decide +kernel) (by decide +kernel)
theorem bw_1157 : (Jvm.Cond.code ({ cls := "ChannelHallModel", name := "leave", desc := "(II)V" } : Jvm.MethodName) prog_7_method_11_code (4 : Nat) (Option.none : Option Jvm.ClassFile.FieldType)) ∈ BIG := BIG_of 1194 (by decide +kernel) (by decide +kernel)
theorem bw_1158 : (Jvm.Cond.methodLink "ChannelHallLaw" (109 : Nat) ({ cls := "ChannelHallModel", name := "tick", desc := "(D)I" } : Jvm.MethodName)) ∈ BIG := BIG_of 1195 (by decide +kernel) (by decide +kernel)
theorem bw_1159 : (Jvm.Cond.instanceMethod ({ cls := "ChannelHallModel", name := "tick", desc := "(D)I" } : Jvm.MethodName)) ∈ BIG := BIG_of 1196 (by decide +kernel) (by decide +kernel)
theorem bw_1160 : (Jvm.Cond.selects "ChannelHallModel" ({ cls := "ChannelHallModel", name := "tick", desc := "(D)I" } : Jvm.MethodName) ({ cls := "ChannelHallModel", name := "tick", desc := "(D)I" } : Jvm.MethodName)) ∈ BIG := BIG_of 1197 (by decide +kernel) (by decide +kernel)
theorem bw_1161 : (Jvm.Cond.code ({ cls := "ChannelHallModel", name := "tick", desc := "(D)I" } : Jvm.MethodName) prog_7_method_28_code (9 : Nat) (Option.some Jvm.ClassFile.FieldType.int)) ∈ BIG := BIG_of 1198 (by decide +kernel) (by decide +kernel)
theorem bw_1162 : (Jvm.Cond.methodLink "ChannelHallModel" (160 : Nat) ({ cls := "ChannelHallModel", name := "coming", desc := "()D" } : Jvm.MethodName)) ∈ BIG := BIG_of 1199 (by decide +kernel) (by decide +kernel)
theorem bw_1164 : (Jvm.Cond.instanceMethod ({ cls := "ChannelHallModel", name := "coming", desc := "()D" } : Jvm.MethodName)) ∈ BIG := BIG_of 1201 (by decide +kernel) (by decide +kernel)
theorem bw_1165 : (Jvm.Cond.code ({ cls := "ChannelHallModel", name := "coming", desc := "()D" } : Jvm.MethodName) prog_7_method_27_code (5 : Nat) (Option.some Jvm.ClassFile.FieldType.double)) ∈ BIG := BIG_of 1202 (by decide +kernel) (by decide +kernel)
theorem bw_1166 : (Jvm.Cond.methodLink "ChannelHallLaw" (112 : Nat) ({ cls := "ChannelHallModel", name := "got", desc := "(I)I" } : Jvm.MethodName)) ∈ BIG := BIG_of 1203 (by decide +kernel) (by decide +kernel)
theorem bw_1167 : (Jvm.Cond.instanceMethod ({ cls := "ChannelHallModel", name := "got", desc := "(I)I" } : Jvm.MethodName)) ∈ BIG := BIG_of 1204 (by decide +kernel) (by decide +kernel)
theorem bw_1168 : (Jvm.Cond.selects "ChannelHallModel" ({ cls := "ChannelHallModel", name := "got", desc := "(I)I" } : Jvm.MethodName) ({ cls := "ChannelHallModel", name := "got", desc := "(I)I" } : Jvm.MethodName)) ∈ BIG := BIG_of 1205 (by decide +kernel) (by decide +kernel)
theorem bw_1169 : (Jvm.Cond.code ({ cls := "ChannelHallModel", name := "got", desc := "(I)I" } : Jvm.MethodName) prog_7_method_29_code (2 : Nat) (Option.some Jvm.ClassFile.FieldType.int)) ∈ BIG := BIG_of 1206 (by decide +kernel) (by decide +kernel)
theorem bw_1170 : (Jvm.Cond.methodLink "ChannelHallLaw" (116 : Nat) ({ cls := "ChannelHallModel", name := "thread", desc := "(II)I" } : Jvm.MethodName)) ∈ BIG := BIG_of 1207 (by decide +kernel) (by decide +kernel)
theorem bw_1171 : (Jvm.Cond.instanceMethod ({ cls := "ChannelHallModel", name := "thread", desc := "(II)I" } : Jvm.MethodName)) ∈ BIG := BIG_of 1208 (by decide +kernel) (by decide +kernel)
theorem bw_1172 : (Jvm.Cond.selects "ChannelHallModel" ({ cls := "ChannelHallModel", name := "thread", desc := "(II)I" } : Jvm.MethodName) ({ cls := "ChannelHallModel", name := "thread", desc := "(II)I" } : Jvm.MethodName)) ∈ BIG := BIG_of 1209 (by decide +kernel) (by decide +kernel)
theorem bw_1173 : (Jvm.Cond.code ({ cls := "ChannelHallModel", name := "thread", desc := "(II)I" } : Jvm.MethodName) prog_7_method_30_code (3 : Nat) (Option.some Jvm.ClassFile.FieldType.int)) ∈ BIG := BIG_of 1210 (by decide +kernel) (by decide +kernel)
theorem bw_1174 : (Jvm.Cond.methodLink "ChannelHallLaw" (119 : Nat) ({ cls := "ChannelHallModel", name := "channel", desc := "(II)I" } : Jvm.MethodName)) ∈ BIG := BIG_of 1211 (by decide +kernel) (by decide +kernel)
theorem bw_1175 : (Jvm.Cond.instanceMethod ({ cls := "ChannelHallModel", name := "channel", desc := "(II)I" } : Jvm.MethodName)) ∈ BIG := BIG_of 1212 (by decide +kernel) (by decide +kernel)
theorem bw_1176 : (Jvm.Cond.selects "ChannelHallModel" ({ cls := "ChannelHallModel", name := "channel", desc := "(II)I" } : Jvm.MethodName) ({ cls := "ChannelHallModel", name := "channel", desc := "(II)I" } : Jvm.MethodName)) ∈ BIG := BIG_of 1213 (by decide +kernel) (by decide +kernel)
theorem bw_1177 : (Jvm.Cond.code ({ cls := "ChannelHallModel", name := "channel", desc := "(II)I" } : Jvm.MethodName) prog_7_method_31_code (3 : Nat) (Option.some Jvm.ClassFile.FieldType.int)) ∈ BIG := BIG_of 1214 (by decide +kernel) (by decide +kernel)
theorem bw_1178 : (Jvm.Cond.methodLink "ChannelHallLaw" (122 : Nat) ({ cls := "ChannelHallModel", name := "item", desc := "(II)I" } : Jvm.MethodName)) ∈ BIG := BIG_of 1215 (by decide +kernel) (by decide +kernel)
theorem bw_1179 : (Jvm.Cond.instanceMethod ({ cls := "ChannelHallModel", name := "item", desc := "(II)I" } : Jvm.MethodName)) ∈ BIG := BIG_of 1216 (by decide +kernel) (by decide +kernel)
theorem bw_1180 : (Jvm.Cond.selects "ChannelHallModel" ({ cls := "ChannelHallModel", name := "item", desc := "(II)I" } : Jvm.MethodName) ({ cls := "ChannelHallModel", name := "item", desc := "(II)I" } : Jvm.MethodName)) ∈ BIG := BIG_of 1217 (by decide +kernel) (by decide +kernel)
theorem bw_1181 : (Jvm.Cond.code ({ cls := "ChannelHallModel", name := "item", desc := "(II)I" } : Jvm.MethodName) prog_7_method_32_code (3 : Nat) (Option.some Jvm.ClassFile.FieldType.int)) ∈ BIG := BIG_of 1218 (by decide +kernel) (by decide +kernel)
theorem bw_1182 : (Jvm.Cond.methodLink "ChannelHallLaw" (126 : Nat) ({ cls := "ChannelHallModel", name := "stay", desc := "(I)D" } : Jvm.MethodName)) ∈ BIG := BIG_of 1219 (by decide +kernel) (by decide +kernel)
theorem bw_1183 : (Jvm.Cond.instanceMethod ({ cls := "ChannelHallModel", name := "stay", desc := "(I)D" } : Jvm.MethodName)) ∈ BIG := BIG_of 1220 (by decide +kernel) (by decide +kernel)
theorem bw_1184 : (Jvm.Cond.selects "ChannelHallModel" ({ cls := "ChannelHallModel", name := "stay", desc := "(I)D" } : Jvm.MethodName) ({ cls := "ChannelHallModel", name := "stay", desc := "(I)D" } : Jvm.MethodName)) ∈ BIG := BIG_of 1221 (by decide +kernel) (by decide +kernel)
theorem bw_1185 : (Jvm.Cond.code ({ cls := "ChannelHallModel", name := "stay", desc := "(I)D" } : Jvm.MethodName) prog_7_method_33_code (2 : Nat) (Option.some Jvm.ClassFile.FieldType.double)) ∈ BIG := BIG_of 1222 (by decide +kernel) (by decide +kernel)
theorem bw_1186 : (Jvm.Cond.methodLink "ChannelHallLaw" (131 : Nat) ({ cls := "ChannelHallModel", name := "time", desc := "()D" } : Jvm.MethodName)) ∈ BIG := BIG_of 1223 (by decide +kernel) (by decide +kernel)
theorem bw_1187 : (Jvm.Cond.instanceMethod ({ cls := "ChannelHallModel", name := "time", desc := "()D" } : Jvm.MethodName)) ∈ BIG := BIG_of 1224 (by decide +kernel) (by decide +kernel)
theorem bw_1188 : (Jvm.Cond.selects "ChannelHallModel" ({ cls := "ChannelHallModel", name := "time", desc := "()D" } : Jvm.MethodName) ({ cls := "ChannelHallModel", name := "time", desc := "()D" } : Jvm.MethodName)) ∈ BIG := BIG_of 1225 (by decide +kernel) (by decide +kernel)
theorem bw_1189 : (Jvm.Cond.code ({ cls := "ChannelHallModel", name := "time", desc := "()D" } : Jvm.MethodName) prog_7_method_34_code (1 : Nat) (Option.some Jvm.ClassFile.FieldType.double)) ∈ BIG := BIG_of 1226 (by decide +kernel) (by decide +kernel)
theorem bw_1190 : (Jvm.Cond.constantDouble "ChannelHallLaw" (82 : Nat) (4593671619917905920 : UInt64)) ∈ BIG := BIG_of 1227 (by decide +kernel) (by decide +kernel)
theorem bw_1191 : (Jvm.Cond.arrayClass Jvm.ClassFile.FieldType.long) ∈ BIG := BIG_of 1228 (by decide +kernel) (by decide +kernel)
theorem bw_1192 : (Jvm.Cond.sameMethod "java/lang/Throwable" "java/lang/Throwable" "fillInStackTrace" "(I)Ljava/lang/Throwable;") ∈ BIG := BIG_of 1229 (by decide +kernel) (by decide +kernel)
theorem bw_1203 : (Jvm.Cond.sameMethod "[Ljava/lang/Object;" "java/lang/Object" "getClass" "()Ljava/lang/Class;") ∈ BIG := BIG_of 1240 (by decide +kernel) (by decide +kernel)
theorem bw_1204 : (Jvm.Cond.selects "[Ljava/lang/Object;" ({ cls := "java/lang/Object", name := "getClass", desc := "()Ljava/lang/Class;" } : Jvm.MethodName) ({ cls := "java/lang/Object", name := "getClass", desc := "()Ljava/lang/Class;" } : Jvm.MethodName)) ∈ BIG := BIG_of 1241 (by decide +kernel) (by decide +kernel)
theorem bs_0 : Cond.selects "java/lang/Throwable" ⟨"java/lang/Throwable", "fillInStackTrace", "(I)Ljava/lang/Throwable;"⟩ ⟨"java/lang/Throwable", "fillInStackTrace", "(I)Ljava/lang/Throwable;"⟩ ∈ BIG := BIG_of 0 (by decide +kernel) (by decide +kernel)
theorem bs_1 : Cond.selects "ChannelHall" ⟨"ChannelHall", "presentChannel", "(I)LChannelHall$Channel;"⟩ ⟨"ChannelHall", "presentChannel", "(I)LChannelHall$Channel;"⟩ ∈ BIG := BIG_of 1 (by decide +kernel) (by decide +kernel)
theorem bs_2 : Cond.selects "ChannelHall" ⟨"ChannelHall", "runningWorker", "(I)LChannelHall$Worker;"⟩ ⟨"ChannelHall", "runningWorker", "(I)LChannelHall$Worker;"⟩ ∈ BIG := BIG_of 2 (by decide +kernel) (by decide +kernel)
theorem bs_3 : Cond.selects "ChannelHall" ⟨"ChannelHall", "startWait", "(LChannelHall$Worker;LChannelHall$Channel;LChannelHall$Role;D)I"⟩ ⟨"ChannelHall", "startWait", "(LChannelHall$Worker;LChannelHall$Channel;LChannelHall$Role;D)I"⟩ ∈ BIG := BIG_of 3 (by decide +kernel) (by decide +kernel)
theorem bs_4 : Cond.selects "java/util/ArrayList" ⟨"java/util/ArrayList", "add", "(Ljava/lang/Object;[Ljava/lang/Object;I)V"⟩ ⟨"java/util/ArrayList", "add", "(Ljava/lang/Object;[Ljava/lang/Object;I)V"⟩ ∈ BIG := BIG_of 4 (by decide +kernel) (by decide +kernel)
theorem bs_5 : Cond.selects "java/util/ArrayList" ⟨"java/util/ArrayList", "grow", "()[Ljava/lang/Object;"⟩ ⟨"java/util/ArrayList", "grow", "()[Ljava/lang/Object;"⟩ ∈ BIG := BIG_of 5 (by decide +kernel) (by decide +kernel)
theorem bs_6 : Cond.selects "java/util/ArrayList" ⟨"java/util/ArrayList", "grow", "(I)[Ljava/lang/Object;"⟩ ⟨"java/util/ArrayList", "grow", "(I)[Ljava/lang/Object;"⟩ ∈ BIG := BIG_of 6 (by decide +kernel) (by decide +kernel)
theorem bs_7 : Cond.selects "ChannelHall$Channel" ⟨"ChannelHall$Channel", "put", "(IDD)V"⟩ ⟨"ChannelHall$Channel", "put", "(IDD)V"⟩ ∈ BIG := BIG_of 7 (by decide +kernel) (by decide +kernel)
theorem bs_8 : Cond.selects "java/util/ArrayList" ⟨"java/util/ArrayList", "rangeCheckForAdd", "(I)V"⟩ ⟨"java/util/ArrayList", "rangeCheckForAdd", "(I)V"⟩ ∈ BIG := BIG_of 8 (by decide +kernel) (by decide +kernel)
theorem bs_9 : Cond.selects "java/util/ArrayList" ⟨"java/util/ArrayList", "outOfBoundsMsg", "(I)Ljava/lang/String;"⟩ ⟨"java/util/ArrayList", "outOfBoundsMsg", "(I)Ljava/lang/String;"⟩ ∈ BIG := BIG_of 9 (by decide +kernel) (by decide +kernel)
theorem bs_10 : Cond.selects "ChannelHall$Channel" ⟨"ChannelHall$Channel", "handOver", "(ILChannelHall$Worker;)V"⟩ ⟨"ChannelHall$Channel", "handOver", "(ILChannelHall$Worker;)V"⟩ ∈ BIG := BIG_of 10 (by decide +kernel) (by decide +kernel)
theorem bs_11 : Cond.selects "ChannelHall$Channel" ⟨"ChannelHall$Channel", "addStay", "(D)V"⟩ ⟨"ChannelHall$Channel", "addStay", "(D)V"⟩ ∈ BIG := BIG_of 11 (by decide +kernel) (by decide +kernel)
theorem bs_12 : Cond.selects "java/util/ArrayList" ⟨"java/util/ArrayList", "fastRemove", "([Ljava/lang/Object;I)V"⟩ ⟨"java/util/ArrayList", "fastRemove", "([Ljava/lang/Object;I)V"⟩ ∈ BIG := BIG_of 12 (by decide +kernel) (by decide +kernel)
theorem bs_13 : Cond.selects "ChannelHall$Channel" ⟨"ChannelHall$Channel", "serveOnce", "(D)Z"⟩ ⟨"ChannelHall$Channel", "serveOnce", "(D)Z"⟩ ∈ BIG := BIG_of 13 (by decide +kernel) (by decide +kernel)
theorem bs_14 : Cond.selects "ChannelHall$Channel" ⟨"ChannelHall$Channel", "handFirst", "(LChannelHall$Worker;D)V"⟩ ⟨"ChannelHall$Channel", "handFirst", "(LChannelHall$Worker;D)V"⟩ ∈ BIG := BIG_of 14 (by decide +kernel) (by decide +kernel)
theorem bs_15 : Cond.selects "ChannelHall" ⟨"ChannelHall", "giveUp", "(LChannelHall$Worker;I)V"⟩ ⟨"ChannelHall", "giveUp", "(LChannelHall$Worker;I)V"⟩ ∈ BIG := BIG_of 15 (by decide +kernel) (by decide +kernel)
theorem bs_16 : Cond.selects "ChannelHall" ⟨"ChannelHall", "nextMoment", "(D)D"⟩ ⟨"ChannelHall", "nextMoment", "(D)D"⟩ ∈ BIG := BIG_of 16 (by decide +kernel) (by decide +kernel)
theorem bs_17 : Cond.selects "ChannelHall" ⟨"ChannelHall", "serveDelayed", "()V"⟩ ⟨"ChannelHall", "serveDelayed", "()V"⟩ ∈ BIG := BIG_of 17 (by decide +kernel) (by decide +kernel)
theorem bs_18 : Cond.selects "ChannelHall" ⟨"ChannelHall", "endLateWaits", "()I"⟩ ⟨"ChannelHall", "endLateWaits", "()I"⟩ ∈ BIG := BIG_of 18 (by decide +kernel) (by decide +kernel)
theorem bs_19 : Cond.selects "ChannelHallModel" ⟨"ChannelHallModel", "out", "(II)Z"⟩ ⟨"ChannelHallModel", "out", "(II)Z"⟩ ∈ BIG := BIG_of 19 (by decide +kernel) (by decide +kernel)
theorem bs_20 : Cond.selects "ChannelHallModel" ⟨"ChannelHallModel", "fail", "(I)I"⟩ ⟨"ChannelHallModel", "fail", "(I)I"⟩ ∈ BIG := BIG_of 20 (by decide +kernel) (by decide +kernel)
theorem bs_21 : Cond.selects "ChannelHallModel" ⟨"ChannelHallModel", "badLimit", "(D)Z"⟩ ⟨"ChannelHallModel", "badLimit", "(D)Z"⟩ ∈ BIG := BIG_of 21 (by decide +kernel) (by decide +kernel)
theorem bs_22 : Cond.selects "ChannelHallModel" ⟨"ChannelHallModel", "check", "(IIII)I"⟩ ⟨"ChannelHallModel", "check", "(IIII)I"⟩ ∈ BIG := BIG_of 22 (by decide +kernel) (by decide +kernel)
theorem bs_23 : Cond.selects "ChannelHallModel" ⟨"ChannelHallModel", "flagged", "(I)Z"⟩ ⟨"ChannelHallModel", "flagged", "(I)Z"⟩ ∈ BIG := BIG_of 23 (by decide +kernel) (by decide +kernel)
theorem bs_24 : Cond.selects "ChannelHallModel" ⟨"ChannelHallModel", "first", "(II)I"⟩ ⟨"ChannelHallModel", "first", "(II)I"⟩ ∈ BIG := BIG_of 24 (by decide +kernel) (by decide +kernel)
theorem bs_25 : Cond.selects "ChannelHallModel" ⟨"ChannelHallModel", "waitAt", "(IIID)I"⟩ ⟨"ChannelHallModel", "waitAt", "(IIID)I"⟩ ∈ BIG := BIG_of 25 (by decide +kernel) (by decide +kernel)
theorem bs_26 : Cond.selects "ChannelHallModel" ⟨"ChannelHallModel", "settle", "(II)I"⟩ ⟨"ChannelHallModel", "settle", "(II)I"⟩ ∈ BIG := BIG_of 26 (by decide +kernel) (by decide +kernel)
theorem bs_27 : Cond.selects "ChannelHallModel" ⟨"ChannelHallModel", "obtain", "(IIID)V"⟩ ⟨"ChannelHallModel", "obtain", "(IIID)V"⟩ ∈ BIG := BIG_of 27 (by decide +kernel) (by decide +kernel)
theorem bs_28 : Cond.selects "ChannelHallModel" ⟨"ChannelHallModel", "free", "(II)V"⟩ ⟨"ChannelHallModel", "free", "(II)V"⟩ ∈ BIG := BIG_of 28 (by decide +kernel) (by decide +kernel)
theorem bs_29 : Cond.selects "ChannelHallModel" ⟨"ChannelHallModel", "lay", "(IIDD)V"⟩ ⟨"ChannelHallModel", "lay", "(IIDD)V"⟩ ∈ BIG := BIG_of 29 (by decide +kernel) (by decide +kernel)
theorem bs_30 : Cond.selects "ChannelHallModel" ⟨"ChannelHallModel", "move", "(II)V"⟩ ⟨"ChannelHallModel", "move", "(II)V"⟩ ∈ BIG := BIG_of 30 (by decide +kernel) (by decide +kernel)
theorem bs_31 : Cond.selects "ChannelHallModel" ⟨"ChannelHallModel", "serve", "(I)V"⟩ ⟨"ChannelHallModel", "serve", "(I)V"⟩ ∈ BIG := BIG_of 31 (by decide +kernel) (by decide +kernel)
theorem bs_32 : Cond.selects "ChannelHallModel" ⟨"ChannelHallModel", "ready", "(I)Z"⟩ ⟨"ChannelHallModel", "ready", "(I)Z"⟩ ∈ BIG := BIG_of 32 (by decide +kernel) (by decide +kernel)
theorem bs_33 : Cond.selects "ChannelHallModel" ⟨"ChannelHallModel", "takeFirst", "(II)V"⟩ ⟨"ChannelHallModel", "takeFirst", "(II)V"⟩ ∈ BIG := BIG_of 33 (by decide +kernel) (by decide +kernel)
theorem bs_34 : Cond.selects "ChannelHallModel" ⟨"ChannelHallModel", "freeAll", "(II)V"⟩ ⟨"ChannelHallModel", "freeAll", "(II)V"⟩ ∈ BIG := BIG_of 34 (by decide +kernel) (by decide +kernel)
theorem bs_35 : Cond.selects "ChannelHallModel" ⟨"ChannelHallModel", "leave", "(II)V"⟩ ⟨"ChannelHallModel", "leave", "(II)V"⟩ ∈ BIG := BIG_of 35 (by decide +kernel) (by decide +kernel)
theorem bs_36 : Cond.selects "ChannelHallModel" ⟨"ChannelHallModel", "coming", "()D"⟩ ⟨"ChannelHallModel", "coming", "()D"⟩ ∈ BIG := BIG_of 36 (by decide +kernel) (by decide +kernel)
end
section
/-! THE FRAME: tables of the classes; what a method is given; the parts of a weakest precondition and their rows. -/
def TCh : u_T := fun k => match k with
  | 0 => ("ChannelHall$Channel", "number", "I", true)
  | 1 => ("ChannelHall$Channel", "kind", "I", true)
  | 2 => ("ChannelHall$Channel", "room", "I", true)
  | 3 => ("ChannelHall$Channel", "parties", "I", true)
  | 4 => ("ChannelHall$Channel", "items", "Ljava/util/ArrayList;", true)
  | 5 => ("ChannelHall$Channel", "waiters", "Ljava/util/ArrayList;", true)
  | 6 => ("ChannelHall$Channel", "broken", "Z", false)
  | 7 => ("ChannelHall$Channel", "passed", "I", false)
  | 8 => ("ChannelHall$Channel", "staySum", "D", false)
  | _ => ("ChannelHall$Channel", "stays", "I", false)
def tCh : Nat → FieldType := fun k => match k with
  | 0 => .int
  | 1 => .int
  | 2 => .int
  | 3 => .int
  | 4 => .object "java/util/ArrayList"
  | 5 => .object "java/util/ArrayList"
  | 6 => .boolean
  | 7 => .int
  | 8 => .double
  | _ => .int
theorem nCh : ∀ a, a < 10 → ∀ b, b < 10 → a ≠ b → (TCh a).2.1 ≠ (TCh b).2.1 := by decide +kernel
theorem tCh_ok : ∀ k, k < 10 → parseFieldDescriptor (TCh k).2.2.1 = some (tCh k) := by decide +kernel
theorem uCh : ∀ w ∈ u_ws "ChannelHall$Channel" TCh 10, w ∈ BIG := List.forall_mem_cons.mpr ⟨bw_270, List.forall_mem_cons.mpr ⟨bw_272, List.forall_mem_cons.mpr ⟨bw_274, List.forall_mem_cons.mpr ⟨bw_276, List.forall_mem_cons.mpr ⟨bw_278, List.forall_mem_cons.mpr ⟨bw_280, List.forall_mem_cons.mpr ⟨bw_282, List.forall_mem_cons.mpr ⟨bw_284, List.forall_mem_cons.mpr ⟨bw_286, List.forall_mem_cons.mpr ⟨bw_288, fun _ h => absurd h List.not_mem_nil⟩⟩⟩⟩⟩⟩⟩⟩⟩⟩
def TIt : u_T := fun k => match k with
  | 0 => ("ChannelHall$Item", "value", "I", true)
  | 1 => ("ChannelHall$Item", "key", "D", true)
  | _ => ("ChannelHall$Item", "since", "D", true)
def tIt : Nat → FieldType := fun k => match k with
  | 0 => .int
  | 1 => .double
  | _ => .double
theorem nIt : ∀ a, a < 3 → ∀ b, b < 3 → a ≠ b → (TIt a).2.1 ≠ (TIt b).2.1 := by decide +kernel
theorem tIt_ok : ∀ k, k < 3 → parseFieldDescriptor (TIt k).2.2.1 = some (tIt k) := by decide +kernel
theorem uIt : ∀ w ∈ u_ws "ChannelHall$Item" TIt 3, w ∈ BIG := List.forall_mem_cons.mpr ⟨bw_489, List.forall_mem_cons.mpr ⟨bw_491, List.forall_mem_cons.mpr ⟨bw_493, fun _ h => absurd h List.not_mem_nil⟩⟩⟩
def TWo : u_T := fun k => match k with
  | 0 => ("ChannelHall$Worker", "number", "I", true)
  | 1 => ("ChannelHall$Worker", "flagged", "Z", false)
  | 2 => ("ChannelHall$Worker", "outcome", "I", false)
  | 3 => ("ChannelHall$Worker", "hasGot", "Z", false)
  | 4 => ("ChannelHall$Worker", "gotValue", "I", false)
  | 5 => ("ChannelHall$Worker", "place", "LChannelHall$Channel;", false)
  | 6 => ("ChannelHall$Worker", "role", "LChannelHall$Role;", false)
  | 7 => ("ChannelHall$Worker", "offeredValue", "I", false)
  | 8 => ("ChannelHall$Worker", "offeredKey", "D", false)
  | 9 => ("ChannelHall$Worker", "hasEnd", "Z", false)
  | _ => ("ChannelHall$Worker", "end", "D", false)
def tWo : Nat → FieldType := fun k => match k with
  | 0 => .int
  | 1 => .boolean
  | 2 => .int
  | 3 => .boolean
  | 4 => .int
  | 5 => .object "ChannelHall$Channel"
  | 6 => .object "ChannelHall$Role"
  | 7 => .int
  | 8 => .double
  | 9 => .boolean
  | _ => .double
theorem nWo : ∀ a, a < 11 → ∀ b, b < 11 → a ≠ b → (TWo a).2.1 ≠ (TWo b).2.1 := by decide +kernel
theorem tWo_ok : ∀ k, k < 11 → parseFieldDescriptor (TWo k).2.2.1 = some (tWo k) := by decide +kernel
theorem uWo : ∀ w ∈ u_ws "ChannelHall$Worker" TWo 11, w ∈ BIG := List.forall_mem_cons.mpr ⟨bw_77, List.forall_mem_cons.mpr ⟨bw_79, List.forall_mem_cons.mpr ⟨bw_81, List.forall_mem_cons.mpr ⟨bw_83, List.forall_mem_cons.mpr ⟨bw_85, List.forall_mem_cons.mpr ⟨bw_87, List.forall_mem_cons.mpr ⟨bw_89, List.forall_mem_cons.mpr ⟨bw_91, List.forall_mem_cons.mpr ⟨bw_93, List.forall_mem_cons.mpr ⟨bw_95, List.forall_mem_cons.mpr ⟨bw_97, fun _ h => absurd h List.not_mem_nil⟩⟩⟩⟩⟩⟩⟩⟩⟩⟩⟩
def THa : u_T := fun k => match k with
  | 0 => ("ChannelHall", "workers", "[LChannelHall$Worker;", true)
  | 1 => ("ChannelHall", "channels", "[LChannelHall$Channel;", true)
  | 2 => ("ChannelHall", "made", "I", false)
  | _ => ("ChannelHall", "now", "D", false)
def tHa : Nat → FieldType := fun k => match k with
  | 0 => .array (.object "ChannelHall$Worker")
  | 1 => .array (.object "ChannelHall$Channel")
  | 2 => .int
  | _ => .double
theorem nHa : ∀ a, a < 4 → ∀ b, b < 4 → a ≠ b → (THa a).2.1 ≠ (THa b).2.1 := by decide +kernel
theorem tHa_ok : ∀ k, k < 4 → parseFieldDescriptor (THa k).2.2.1 = some (tHa k) := by decide +kernel
theorem uHa : ∀ w ∈ u_ws "ChannelHall" THa 4, w ∈ BIG := List.forall_mem_cons.mpr ⟨bw_104, List.forall_mem_cons.mpr ⟨bw_106, List.forall_mem_cons.mpr ⟨bw_108, List.forall_mem_cons.mpr ⟨bw_110, fun _ h => absurd h List.not_mem_nil⟩⟩⟩⟩
def TAl : u_T := fun k => match k with
  | 0 => ("java/util/ArrayList", "elementData", "[Ljava/lang/Object;", false)
  | 1 => ("java/util/ArrayList", "size", "I", false)
  | _ => ("java/util/AbstractList", "modCount", "I", false)
def tAl : Nat → FieldType := fun k => match k with
  | 0 => .array (.object "java/lang/Object")
  | 1 => .int
  | _ => .int
theorem nAl : ∀ a, a < 3 → ∀ b, b < 3 → a ≠ b → (TAl a).2.1 ≠ (TAl b).2.1 := by decide +kernel
theorem tAl_ok : ∀ k, k < 3 → parseFieldDescriptor (TAl k).2.2.1 = some (tAl k) := by decide +kernel
theorem uAl : ∀ w ∈ u_ws "java/util/ArrayList" TAl 3, w ∈ BIG := List.forall_mem_cons.mpr ⟨bw_241, List.forall_mem_cons.mpr ⟨bw_243, List.forall_mem_cons.mpr ⟨bw_245, fun _ h => absurd h List.not_mem_nil⟩⟩⟩
def TMo : u_T := fun k => match k with
  | 0 => ("ChannelHallModel", "failed", "I", false)
  | 1 => ("ChannelHallModel", "blocked", "[Z", true)
  | 2 => ("ChannelHallModel", "flag", "[Z", true)
  | 3 => ("ChannelHallModel", "outcome", "[I", true)
  | 4 => ("ChannelHallModel", "hasGot", "[Z", true)
  | 5 => ("ChannelHallModel", "got", "[I", true)
  | 6 => ("ChannelHallModel", "waitsAt", "[I", true)
  | 7 => ("ChannelHallModel", "role", "[I", true)
  | 8 => ("ChannelHallModel", "gift", "[I", true)
  | 9 => ("ChannelHallModel", "giftRank", "[D", true)
  | 10 => ("ChannelHallModel", "giftDue", "[D", true)
  | 11 => ("ChannelHallModel", "end", "[D", true)
  | 12 => ("ChannelHallModel", "time", "D", false)
  | 13 => ("ChannelHallModel", "kind", "[I", true)
  | 14 => ("ChannelHallModel", "room", "[I", true)
  | 15 => ("ChannelHallModel", "broken", "[Z", true)
  | 16 => ("ChannelHallModel", "passed", "[I", true)
  | 17 => ("ChannelHallModel", "row", "[I", true)
  | 18 => ("ChannelHallModel", "waiters", "[I", true)
  | 19 => ("ChannelHallModel", "value", "[I", true)
  | 20 => ("ChannelHallModel", "rank", "[D", true)
  | 21 => ("ChannelHallModel", "due", "[D", true)
  | 22 => ("ChannelHallModel", "in", "[D", true)
  | 23 => ("ChannelHallModel", "items", "[I", true)
  | 24 => ("ChannelHallModel", "staySum", "[D", true)
  | _ => ("ChannelHallModel", "stayCount", "[I", true)
def tMo : Nat → FieldType := fun k => match k with
  | 0 => .int
  | 1 => .array .boolean
  | 2 => .array .boolean
  | 3 => .array .int
  | 4 => .array .boolean
  | 5 => .array .int
  | 6 => .array .int
  | 7 => .array .int
  | 8 => .array .int
  | 9 => .array .double
  | 10 => .array .double
  | 11 => .array .double
  | 12 => .double
  | 13 => .array .int
  | 14 => .array .int
  | 15 => .array .boolean
  | 16 => .array .int
  | 17 => .array .int
  | 18 => .array .int
  | 19 => .array .int
  | 20 => .array .double
  | 21 => .array .double
  | 22 => .array .double
  | 23 => .array .int
  | 24 => .array .double
  | _ => .array .int
theorem nMo : ∀ a, a < 26 → ∀ b, b < 26 → a ≠ b → (TMo a).2.1 ≠ (TMo b).2.1 := by decide +kernel
theorem tMo_ok : ∀ k, k < 26 → parseFieldDescriptor (TMo k).2.2.1 = some (tMo k) := by decide +kernel
theorem uMo : ∀ w ∈ u_ws "ChannelHallModel" TMo 26, w ∈ BIG := List.forall_mem_cons.mpr ⟨bw_1000, List.forall_mem_cons.mpr ⟨bw_1002, List.forall_mem_cons.mpr ⟨bw_1004, List.forall_mem_cons.mpr ⟨bw_1006, List.forall_mem_cons.mpr ⟨bw_1008, List.forall_mem_cons.mpr ⟨bw_1010, List.forall_mem_cons.mpr ⟨bw_1012, List.forall_mem_cons.mpr ⟨bw_1014, List.forall_mem_cons.mpr ⟨bw_1016, List.forall_mem_cons.mpr ⟨bw_1018, List.forall_mem_cons.mpr ⟨bw_1020, List.forall_mem_cons.mpr ⟨bw_1022, List.forall_mem_cons.mpr ⟨bw_1024, List.forall_mem_cons.mpr ⟨bw_1026, List.forall_mem_cons.mpr ⟨bw_1028, List.forall_mem_cons.mpr ⟨bw_1030, List.forall_mem_cons.mpr ⟨bw_1032, List.forall_mem_cons.mpr ⟨bw_1034, List.forall_mem_cons.mpr ⟨bw_1036, List.forall_mem_cons.mpr ⟨bw_1038, List.forall_mem_cons.mpr ⟨bw_1040, List.forall_mem_cons.mpr ⟨bw_1042, List.forall_mem_cons.mpr ⟨bw_1044, List.forall_mem_cons.mpr ⟨bw_1046, List.forall_mem_cons.mpr ⟨bw_1048, List.forall_mem_cons.mpr ⟨bw_1050, fun _ h => absurd h List.not_mem_nil⟩⟩⟩⟩⟩⟩⟩⟩⟩⟩⟩⟩⟩⟩⟩⟩⟩⟩⟩⟩⟩⟩⟩⟩⟩⟩
abbrev wCl : List vw_C := [("ChannelHall$Channel", TCh, 10), ("ChannelHall$Item", TIt, 3), ("ChannelHall$Worker", TWo, 11), ("ChannelHall", THa, 4), ("java/util/ArrayList", TAl, 3), ("ChannelHallModel", TMo, 26)]
/-- words that the tables keep, but not by rule -/
def NG : List Cond := [.arrayOver (.object "ChannelHall$Worker"), .arrayOver (.object "ChannelHall$Channel"), .castable "java/lang/IllegalArgumentException" "java/lang/IllegalArgumentException", .declares ⟨"java/lang/RuntimeException", "<init>", "()V"⟩, .declares ⟨"java/lang/Exception", "<init>", "()V"⟩, .declares ⟨"java/lang/Throwable", "<init>", "()V"⟩, .castable "java/lang/IllegalStateException" "java/lang/IllegalStateException", .castable "java/util/NoSuchElementException" "java/util/NoSuchElementException", .castable "java/lang/UnsupportedOperationException" "java/lang/UnsupportedOperationException", .arrayOver (.object "java/lang/Object"), .castable "java/lang/IndexOutOfBoundsException" "java/lang/IndexOutOfBoundsException", .castable "[B" "java/lang/Cloneable", .castable "java/lang/ArithmeticException" "java/lang/ArithmeticException", .castable "ChannelHall$Worker" "ChannelHall$Worker", .castable "ChannelHall$Item" "ChannelHall$Item", .declares ⟨"java/lang/Object", "getClass", "()Ljava/lang/Class;"⟩, .castable "ChannelHall" "java/lang/Object", .castable "ChannelHall$Worker" "java/lang/Object", .castable "ChannelHallModel" "java/lang/Object", .castable "ChannelHall$Channel" "java/lang/Object", .castable "ChannelHall$Item" "java/lang/Object", .castable "ChannelHall$Role" "java/lang/Object"]
def hN (U : State) : Prop := ∀ w ∈ NG, va_Nw w U
theorem hN.warm {s U : State} (hW : s.WarmedH U.vm) (h : hN s) : hN U := List.forall_mem_cons.mpr ⟨va_AO.moved hW.alike (h _ (by decide)), List.forall_mem_cons.mpr ⟨va_AO.moved hW.alike (h _ (by decide)), List.forall_mem_cons.mpr ⟨va_Nw.warmC hW (h _ (by decide)), List.forall_mem_cons.mpr ⟨va_Nw.warmD hW (h _ (by decide)), List.forall_mem_cons.mpr ⟨va_Nw.warmD hW (h _ (by decide)), List.forall_mem_cons.mpr ⟨va_Nw.warmD hW (h _ (by decide)), List.forall_mem_cons.mpr ⟨va_Nw.warmC hW (h _ (by decide)), List.forall_mem_cons.mpr ⟨va_Nw.warmC hW (h _ (by decide)), List.forall_mem_cons.mpr ⟨va_Nw.warmC hW (h _ (by decide)), List.forall_mem_cons.mpr ⟨va_AO.moved hW.alike (h _ (by decide)), List.forall_mem_cons.mpr ⟨va_Nw.warmC hW (h _ (by decide)), List.forall_mem_cons.mpr ⟨va_Nw.warmC hW (h _ (by decide)), List.forall_mem_cons.mpr ⟨va_Nw.warmC hW (h _ (by decide)), List.forall_mem_cons.mpr ⟨va_Nw.warmC hW (h _ (by decide)), List.forall_mem_cons.mpr ⟨va_Nw.warmC hW (h _ (by decide)), List.forall_mem_cons.mpr ⟨va_Nw.warmD hW (h _ (by decide)), List.forall_mem_cons.mpr ⟨va_Nw.warmC hW (h _ (by decide)), List.forall_mem_cons.mpr ⟨va_Nw.warmC hW (h _ (by decide)), List.forall_mem_cons.mpr ⟨va_Nw.warmC hW (h _ (by decide)), List.forall_mem_cons.mpr ⟨va_Nw.warmC hW (h _ (by decide)), List.forall_mem_cons.mpr ⟨va_Nw.warmC hW (h _ (by decide)), List.forall_mem_cons.mpr ⟨va_Nw.warmC hW (h _ (by decide)), fun _ h => absurd h List.not_mem_nil⟩⟩⟩⟩⟩⟩⟩⟩⟩⟩⟩⟩⟩⟩⟩⟩⟩⟩⟩⟩⟩⟩
theorem vm_al {u U : State} (e : u.vm = U.vm) : u.vm.Alike U.vm := by rw [← e]; exact Vm.Alike.refl _
theorem hN.same {u U : State} (e : u.vm = U.vm) (h : hN u) : hN U := List.forall_mem_cons.mpr ⟨va_AO.moved (vm_al e) (h _ (by decide)), List.forall_mem_cons.mpr ⟨va_AO.moved (vm_al e) (h _ (by decide)), List.forall_mem_cons.mpr ⟨va_Nw.same rfl e (h _ (by decide)), List.forall_mem_cons.mpr ⟨va_Nw.same rfl e (h _ (by decide)), List.forall_mem_cons.mpr ⟨va_Nw.same rfl e (h _ (by decide)), List.forall_mem_cons.mpr ⟨va_Nw.same rfl e (h _ (by decide)), List.forall_mem_cons.mpr ⟨va_Nw.same rfl e (h _ (by decide)), List.forall_mem_cons.mpr ⟨va_Nw.same rfl e (h _ (by decide)), List.forall_mem_cons.mpr ⟨va_Nw.same rfl e (h _ (by decide)), List.forall_mem_cons.mpr ⟨va_AO.moved (vm_al e) (h _ (by decide)), List.forall_mem_cons.mpr ⟨va_Nw.same rfl e (h _ (by decide)), List.forall_mem_cons.mpr ⟨va_Nw.same rfl e (h _ (by decide)), List.forall_mem_cons.mpr ⟨va_Nw.same rfl e (h _ (by decide)), List.forall_mem_cons.mpr ⟨va_Nw.same rfl e (h _ (by decide)), List.forall_mem_cons.mpr ⟨va_Nw.same rfl e (h _ (by decide)), List.forall_mem_cons.mpr ⟨va_Nw.same rfl e (h _ (by decide)), List.forall_mem_cons.mpr ⟨va_Nw.same rfl e (h _ (by decide)), List.forall_mem_cons.mpr ⟨va_Nw.same rfl e (h _ (by decide)), List.forall_mem_cons.mpr ⟨va_Nw.same rfl e (h _ (by decide)), List.forall_mem_cons.mpr ⟨va_Nw.same rfl e (h _ (by decide)), List.forall_mem_cons.mpr ⟨va_Nw.same rfl e (h _ (by decide)), List.forall_mem_cons.mpr ⟨va_Nw.same rfl e (h _ (by decide)), fun _ h => absurd h List.not_mem_nil⟩⟩⟩⟩⟩⟩⟩⟩⟩⟩⟩⟩⟩⟩⟩⟩⟩⟩⟩⟩⟩⟩
/-- the array classes: which is which -/
abbrev wTys (ca : Nat → Nat) : List (ClassId × FieldType) := [(ca 0, .object "ChannelHall$Worker"), (ca 1, .object "ChannelHall$Channel"), (ca 2, .object "java/lang/Object"), (ca 3, .long), (ca 4, .double), (ca 5, .int), (ca 6, .boolean)]
/-- an array of no places that nobody writes -/
def hE (t : Nat) (A : Nat → Prop) (U : State) (H : Heap) : Prop := ∃ cell : Cell, H[t]? = some cell ∧ U.isArrayOf cell (.object "java/lang/Object") ∧ cell.slots.size = 0 ∧ ¬ A t
theorem hE.moved {t : Nat} {A : Nat → Prop} {u U : State} {H : Heap} (hvm : u.vm.Alike U.vm) (h : hE t A u H) : hE t A U H := by
  obtain ⟨cell, h1, h2, h3, h4⟩ := h
  exact ⟨cell, h1, State.isArrayOf_alike hvm h2, h3, h4⟩
theorem hE.kept {t : Nat} {A : Nat → Prop} {U : State} {H H1 : Heap} (h : hE t A U H) (hq : ∀ a : Nat, a < H.size → ¬ A a → H1[a]? = H[a]?) : hE t A U H1 := by
  obtain ⟨cell, h1, h2, h3, h4⟩ := h
  exact ⟨cell, by rw [hq t (Array.getElem?_eq_some_iff.mp h1).1 h4]; exact h1, h2, h3, h4⟩
theorem hE.narrow {t : Nat} {A B : Nat → Prop} {U : State} {H : Heap} (h : hE t A U H) (hAB : ∀ q, B q → A q) : hE t B U H := by
  obtain ⟨cell, h1, h2, h3, h4⟩ := h
  exact ⟨cell, h1, h2, h3, fun z => h4 (hAB _ z)⟩
/-- the statics that are read: the three roles, the empty table of a list, what a throw reads -/
def hZ (G : Nat → Nat) (A : Nat → Prop) (U : State) (H : Heap) : Prop :=
  va_Z "ChannelHall$Role" "GIVER" "LChannelHall$Role;" (.ref (G 0)) A U H ∧ va_Z "ChannelHall$Role" "TAKER" "LChannelHall$Role;" (.ref (G 1)) A U H ∧ va_Z "ChannelHall$Role" "PARTNER" "LChannelHall$Role;" (.ref (G 2)) A U H ∧
  va_Z "java/util/ArrayList" "DEFAULTCAPACITY_EMPTY_ELEMENTDATA" "[Ljava/lang/Object;" (.ref (G 3)) A U H ∧
  vx_Zq Bundle.tN "UNASSIGNED_STACK" Bundle.steD A U H ∧ vx_Zq Bundle.tN "SUPPRESSED_SENTINEL" Bundle.listD A U H ∧ hN U ∧ hE (G 3) A U H ∧ va_Mi "[Ljava/lang/Object;" (G 4) U ∧ va_Dc U
theorem hZ.pass {G : Nat → Nat} {A B : Nat → Prop} {s U : State} {H : Heap} (h : hZ G A s s.heap) (hq : ∀ a : Nat, a < s.heap.size → ¬ A a → H[a]? = s.heap[a]?) (hB : ∀ q, B q → A q) (hW : s.WarmedH U.vm) : hZ G B U H := by
  obtain ⟨h1, h2, h3, h4, h5, h6, h7, h8, h9, h10⟩ := h
  exact ⟨((h1.kept hq).narrow hB).moved hW.alike, ((h2.kept hq).narrow hB).moved hW.alike, ((h3.kept hq).narrow hB).moved hW.alike, ((h4.kept hq).narrow hB).moved hW.alike, ((h5.kept hq).narrow hB).moved hW.alike, ((h6.kept hq).narrow hB).moved hW.alike, h7.warm hW, ((h8.kept hq).narrow hB).moved hW.alike, h9.moved hW.alike, h10.moved hW.alike⟩
theorem hZ.same {G : Nat → Nat} {A : Nat → Prop} {u U : State} {H : Heap} (e : u.vm = U.vm) (h : hZ G A u H) : hZ G A U H := by
  obtain ⟨h1, h2, h3, h4, h5, h6, h7, h8, h9, h10⟩ := h
  have a : u.vm.Alike U.vm := by rw [← e]; exact Vm.Alike.refl _
  exact ⟨h1.moved a, h2.moved a, h3.moved a, h4.moved a, h5.moved a, h6.moved a, h7.same e, h8.moved a, h9.moved a, h10.moved a⟩
/-- what a method is given: the world M in a heap of sz cells -/
def hI (D : va_G) (ca G : Nat → Nat) (sz : Nat) (M : hM) (U : State) : Prop :=
  U.heap.size = sz ∧ hw D wCl (hp_A M sz) M U.heap ∧ va_K D wCl (wTys ca) U ∧ hZ G (hp_A M sz) U U.heap
theorem hI.blind {D : va_G} {ca G : Nat → Nat} {sz : Nat} {M : hM} {av : List Value} : FrameBlind (va_Pc av (hI D ca G sz M)) := by
  intro a U g mk q
  obtain ⟨q0, q1, qP, qK, qZ⟩ := q
  exact ⟨q0, q1, qP, va_K.moved (u := U) (U := U.calling g mk a) (Vm.Alike.refl U.vm) qK, qZ.same (rfl : U.vm = (U.calling g mk a).vm)⟩
theorem hI.give {D : va_G} {ca G : Nat → Nat} {A : Nat → Prop} {s : State} {M : hM} {H : Heap} {locs : List Loc} {av : List Value} (hW : hw D wCl A M H) (hS : va_S A s.heap H locs) (hA : ∀ q, s.heap.size ≤ q → A q) (hK : va_K D wCl (wTys ca) s) (hZ0 : hZ G A s s.heap) :
    ∀ U : State, U.heap = H → s.WarmedH U.vm → va_Pc av (hI D ca G H.size M) av.toArray U := by
  intro U hU hWm
  exact ⟨rfl, by rw [hU], by rw [hU]; exact hW.self _, va_K.moved hWm.alike hK, by rw [hU]; exact hZ0.pass hS.2.1 (hW.free hS hA) hWm⟩
/-- what stays the same all through a method's walk -/
def hC (p : Program) (s : State) (m : MethodId) (args : Array Value) (meth : Method) (c : Code) (D : va_G) (ca G : Nat → Nat) (cc : ByteArray) (nL : Nat) (ret : Option FieldType) (own : String) (A : Nat → Prop) : Prop :=
  p.tables.exec = Jvm.exec ∧ c.code = cc ∧ meth.sig.returnType = ret ∧ c.maxLocals = nL ∧ s.vm.findClass own = some m.cls ∧ (∀ w ∈ BIG, w.before args s = true) ∧ meth.locks = false ∧ va_K D wCl (wTys ca) s ∧ (∀ q, s.heap.size ≤ q → A q) ∧ hZ G A s s.heap
abbrev wz (y : MethodName) (b : ByteArray) (n : Nat) (r : Option FieldType) : List Cond := .code y b n r :: BIG
/-- the world behind a method -/
abbrev hB (D : va_G) (M : hM) (sz : Nat) : hM → State → Prop := fun M' t => hw D wCl (hp_A M sz) M' t.heap
theorem gi_big : GoodIn BIG BIG := fun _ h => ⟨h, good_of_word (BIG_good h)⟩
theorem gi_c {w : Cond} {L : List Cond} (h : w ∈ BIG) (t : GoodIn BIG L) : GoodIn BIG (w :: L) := fun x hx => by
  rcases List.mem_cons.mp hx with rfl | hx
  · exact gi_big _ h
  · exact t x hx
theorem gi_z {y : MethodName} {b : ByteArray} {n : Nat} {r : Option FieldType} (h5 : Cond.code y b n r ∈ BIG) : GoodIn BIG (wz y b n r) := gi_c h5 gi_big
theorem gi_V {own C : String} {idx : Nat} {y : MethodName} {b : ByteArray} {n : Nat} {r : Option FieldType} (h1 : Cond.methodLink own idx y ∈ BIG) (h2 : Cond.instanceMethod y ∈ BIG) (h3 : Cond.selects C y y ∈ BIG) (h4 : Cond.initialized C ∈ BIG) (h5 : Cond.code y b n r ∈ BIG) : GoodIn BIG (wsV own idx C y (wz y b n r)) := gi_c h1 (gi_c h2 (gi_c h3 (gi_c h4 (gi_z h5))))
theorem gi_S {own : String} {idx : Nat} {y : MethodName} {b : ByteArray} {n : Nat} {r : Option FieldType} (h1 : Cond.methodLink own idx y ∈ BIG) (h2 : Cond.static y ∈ BIG) (h3 : Cond.initialized y.cls ∈ BIG) (h5 : Cond.code y b n r ∈ BIG) : GoodIn BIG (va_wsS own idx y (wz y b n r)) := gi_c h1 (gi_c h2 (gi_c h3 (gi_z h5)))
theorem hw_back {D : va_G} {A : Nat → Prop} {M M1 : hM} {sz : Nat} {t : State} {H1 : Heap} (hF : ∀ q, hp_A M sz q → A q) (ht : t.heap = H1) (h : hw D wCl (hp_A M sz) M1 t.heap) : hw D wCl A M1 H1 := by
  rw [← ht]
  exact h.weaken fun q _ hq => hF q hq
theorem hw_t {D : va_G} {A : Nat → Prop} {M : hM} {t : State} {H : Heap} (ht : t.heap = H) (h : hw D wCl A M H) : hw D wCl A M t.heap := by rw [ht]; exact h
theorem hw_recv {D : va_G} {ca : Nat → Nat} {A : Nat → Prop} {s : State} {M : hM} {H : Heap} {a ci : Nat} {fs : List Value} {q : vw_C} (hK : va_K D wCl (wTys ca) s) (hW : hw D wCl A M H) (h : M a = some (.inr (ci, fs))) (hc : wCl[ci]? = some q) : ∃ cell : Cell, H[a]? = some cell ∧ cell.vm.isStatics = false ∧ s.vm.findClass q.1 = some cell.cls :=
  va_recv hK (hw_one hW h) (ci := ci) (q0 := 0) hc rfl
/-! the parts of a weakest precondition -/
def gI (M : hM) (a ci k : Nat) (K : Int32 → Prop) : Prop := ∃ (fs : List Value) (v : Int32), M a = some (.inr (ci, fs)) ∧ fs[k]? = some (.int v) ∧ K v
def gD (M : hM) (a ci k : Nat) (K : UInt64 → Prop) : Prop := ∃ (fs : List Value) (v : UInt64), M a = some (.inr (ci, fs)) ∧ fs[k]? = some (.double v) ∧ K v
def gR (M : hM) (a ci k : Nat) (K : Option Nat → Prop) : Prop := ∃ (fs : List Value) (v : Option Nat), M a = some (.inr (ci, fs)) ∧ fs[k]? = some (va_rf v) ∧ K v
def pF (M : hM) (a ci k : Nat) (v : Value) (K : hM → Prop) : Prop := ∃ fs : List Value, M a = some (.inr (ci, fs)) ∧ k < fs.length ∧ K (va_up M a (some (.inr (ci, fs.set k v))))
def nN (r : Option Nat) (K : Nat → Prop) : Prop := ∃ a : Nat, r = some a ∧ K a
def aI (M : hM) (a : Nat) (cA : Nat) (i : Int32) (K : Int32 → Prop) : Prop := ∃ (n : Nat) (f : Nat → Int32), M a = some (.inl (cA, n, .inl f)) ∧ vp_in i n ∧ K (f i.toNatClampNeg)
def aD (M : hM) (a : Nat) (cA : Nat) (i : Int32) (K : UInt64 → Prop) : Prop := ∃ (n : Nat) (f : Nat → UInt64), M a = some (.inl (cA, n, .inr (.inr (.inr (.inl f))))) ∧ vp_in i n ∧ K (f i.toNatClampNeg)
def aR (M : hM) (a : Nat) (cA : Nat) (i : Int32) (K : Option Nat → Prop) : Prop := ∃ (n : Nat) (f : Nat → Option Nat), M a = some (.inl (cA, n, .inr (.inr (.inr (.inr f))))) ∧ vp_in i n ∧ K (f i.toNatClampNeg)
def sI (M : hM) (a : Nat) (cA : Nat) (i : Int32) (x : Int32) (K : hM → Prop) : Prop := ∃ (n : Nat) (f : Nat → Int32), M a = some (.inl (cA, n, .inl f)) ∧ vp_in i n ∧ K (va_up M a (some (.inl (cA, n, .inl (upd f i.toNatClampNeg x)))))
def sD (M : hM) (a : Nat) (cA : Nat) (i : Int32) (x : UInt64) (K : hM → Prop) : Prop := ∃ (n : Nat) (f : Nat → UInt64), M a = some (.inl (cA, n, .inr (.inr (.inr (.inl f))))) ∧ vp_in i n ∧ K (va_up M a (some (.inl (cA, n, .inr (.inr (.inr (.inl (vf_upd f i.toNatClampNeg x))))))))
def sJ (M : hM) (a : Nat) (cA : Nat) (i : Int32) (x : Int64) (K : hM → Prop) : Prop := ∃ (n : Nat) (f : Nat → Int64), M a = some (.inl (cA, n, .inr (.inl f))) ∧ vp_in i n ∧ K (va_up M a (some (.inl (cA, n, .inr (.inl (vp_updL f i.toNatClampNeg x))))))
/-- a reference r is laid into an array; an object of the world of a class that C names, or null -/
def sR (M : hM) (a : Nat) (cA : Nat) (i : Int32) (r : Option Nat) (C : Nat → Prop) (K : hM → Prop) : Prop := ∃ (n : Nat) (f : Nat → Option Nat), M a = some (.inl (cA, n, .inr (.inr (.inr (.inr f))))) ∧ vp_in i n ∧ (∀ q, r = some q → ∃ (ci : Nat) (fs : List Value), M q = some (.inr (ci, fs)) ∧ C ci) ∧ K (va_up M a (some (.inl (cA, n, .inr (.inr (.inr (.inr (va_up f i.toNatClampNeg r))))))))
/-- the length of a list's table, which may be the empty one that all new lists share -/
def aZ (G : Nat → Nat) (M : hM) (a : Nat) (cA : Nat) (K : Int32 → Prop) : Prop := (∃ x : vp_A, M a = some (.inl (cA, x)) ∧ K (Int32.ofNat x.1)) ∨ (a = G 3 ∧ K 0)
/-- System.arraycopy of references: objects of one class, or null -/
def cQ (M : hM) (a0 a : Nat) (cA : Nat) (sp dp n : Int32) (K : hM → Prop) : Prop := ∃ (n0 n1 : Nat) (f g : Nat → Option Nat), M a0 = some (.inl (cA, n0, .inr (.inr (.inr (.inr f))))) ∧ M a = some (.inl (cA, n1, .inr (.inr (.inr (.inr g))))) ∧ ¬ sp < 0 ∧ ¬ dp < 0 ∧ ¬ n < 0 ∧ sp.toNatClampNeg + n.toNatClampNeg ≤ n0 ∧ dp.toNatClampNeg + n.toNatClampNeg ≤ n1 ∧
  (∃ ci : Nat, (ci = 1 ∨ ci = 2) ∧ ∀ i : Nat, i < n.toNatClampNeg → ∀ y : Nat, f (sp.toNatClampNeg + i) = some y → ∃ fs : List Value, M y = some (.inr (ci, fs))) ∧
  K (va_up M a (some (.inl (cA, n1, .inr (.inr (.inr (.inr (va_cpy f g sp.toNatClampNeg dp.toNatClampNeg n.toNatClampNeg))))))))
/-- a new array of n places, at most B -/
def nA (M : hM) (n : Int32) (B : Nat) (e : Nat → va_E) (K : Nat → hM → Prop) : Prop := ¬ n < 0 ∧ n.toNatClampNeg ≤ B ∧ ∀ q : Nat, M q = none → K q (va_up M q (some (e n.toNatClampNeg)))
def aL (M : hM) (a : Nat) (cA : Nat) (K : Int32 → Prop) : Prop := ∃ x : vp_A, M a = some (.inl (cA, x)) ∧ K (Int32.ofNat x.1)
def nO (M : hM) (e : va_E) (K : Nat → hM → Prop) : Prop := ∀ q : Nat, M q = none → K q (va_up M q (some e))
def bZ (v : Int32) (K : Prop) : Prop := (v = 0 ∨ v = 1) ∧ K
def nD (x : UInt64) (K : Prop) : Prop := vf_n64 x ∧ K
/-- the receiver of a call is an object of the world -/
def rC (M : hM) (a ci : Nat) (K : Prop) : Prop := (∃ fs : List Value, M a = some (.inr (ci, fs))) ∧ K
def cO (M : hM) (r : Option Nat) (ci : Nat) (K : Nat → Prop) : Prop := ∃ (a : Nat) (fs : List Value), r = some a ∧ M a = some (.inr (ci, fs)) ∧ K a
theorem nb_n {v : Int32} (h : v = 0 ∨ v = 1) : narrow .boolean (.int v) = .int v := by rcases h with rfl | rfl <;> decide
theorem nb_f {v : Int32} (h : v = 0 ∨ v = 1) : fits .boolean (.int v) = true := by rcases h with rfl | rfl <;> decide
theorem nb_v {v : Int32} (h : v = 0 ∨ v = 1) : vp_nar .boolean v = v := by rcases h with rfl | rfl <;> decide
theorem rf_n (C : String) (r : Option Nat) : narrow (.object C) (va_rf r) = va_rf r := by cases r <;> rfl
theorem rf_f (C : String) (r : Option Nat) : fits (.object C) (va_rf r) = true := by cases r <;> rfl
theorem ra_n (t : FieldType) (r : Option Nat) : narrow (.array t) (va_rf r) = va_rf r := by cases r <;> rfl
theorem ra_f (t : FieldType) (r : Option Nat) : fits (.array t) (va_rf r) = true := by cases r <;> rfl
theorem hw_arr {D : va_G} {ca : Nat → Nat} {A : Nat → Prop} {s : State} {M : hM} {H : Heap} {a : Nat} {x : vp_A} (hK : va_K D wCl (wTys ca) s) (hW : hw D wCl A M H) (h : M a = some (.inl (ca 2, x))) : ∃ cell : Cell, H[a]? = some cell ∧ cell.vm.isStatics = false ∧ s.vm.findClass "[Ljava/lang/Object;" = some cell.cls := by
  have h1 : H[a]? = some (vp_cell (ca 2) x) := hw_one hW h 0 _ rfl
  have h2 : s.vm.findClass "[Ljava/lang/Object;" = some (ca 2) := va_nmO (hK.2 2 _ rfl).2 (by decide)
  obtain ⟨n, g | g | g | g | g⟩ := x <;> exact ⟨_, h1, rfl, h2⟩
section HQ
variable {p : Program} {l : Launch} {e : Env} {R : Room} {s : State} {m : MethodId} {args : Array Value} {below : List Frame} {meth : Method} {c : Code} {H : Heap} {locs : List Loc} {cells slots : Nat} {Q : State → Prop} {cc : ByteArray} {pc : Nat} {ls : Array Slot} {rest : List Value}
theorem lq_load_n (hx : p.tables.exec = Jvm.exec) (hb : c.code = cc) {k : Fin 4} {i : Nat} {r : Option Nat} (hdg : decode cc pc = .ok (.aload_n k, 1)) (hi : (k : Nat) = i) (hl : ls[i]? = some (.val (va_rf r)))
    (kk : W p l e R s m args below meth c H locs cells slots Q (F0 m (pc + 1) ls (va_rf r :: rest))) : W p l e R s m args below meth c H locs cells slots Q (F0 m pc ls rest) := by
  cases r with
  | none => exact lv_aload_nN hx hb hdg hi hl kk
  | some a => exact lv_aload_n hx hb hdg hi hl kk
theorem lq_load (hx : p.tables.exec = Jvm.exec) (hb : c.code = cc) {i : Nat} {r : Option Nat} (hdg : decode cc pc = .ok (.aload i, 2)) (hl : ls[i]? = some (.val (va_rf r)))
    (kk : W p l e R s m args below meth c H locs cells slots Q (F0 m (pc + 2) ls (va_rf r :: rest))) : W p l e R s m args below meth c H locs cells slots Q (F0 m pc ls rest) := by
  cases r with
  | none => exact lv_aloadN hx hb hdg hl kk
  | some a => exact lv_aload hx hb hdg hl kk
theorem lq_store_n (hx : p.tables.exec = Jvm.exec) (hb : c.code = cc) {k : Fin 4} {i nL : Nat} {r : Option Nat} {lv lv' : List (Nat × Value)} (hdg : decode cc pc = .ok (.astore_n k, 1)) (hi : (k : Nat) = i) (h : lv_has ls nL lv) (hn : i < nL) (hl : (i, va_rf r) :: lv.filter (fun q => !(q.1 == i) && !(q.1 + 1 == i && q.2.category == 2)) = lv')
    (kk : ∀ ls' : Array Slot, lv_has ls' nL lv' → W p l e R s m args below meth c H locs cells slots Q (F0 m (pc + 1) ls' rest)) : W p l e R s m args below meth c H locs cells slots Q (F0 m pc ls (va_rf r :: rest)) := by
  cases r with
  | none => exact lv_astore_nN hx hb hdg hi h hn hl kk
  | some a => exact lv_astore_n hx hb hdg hi h hn hl kk
theorem lq_store (hx : p.tables.exec = Jvm.exec) (hb : c.code = cc) {i nL : Nat} {r : Option Nat} {lv lv' : List (Nat × Value)} (hdg : decode cc pc = .ok (.astore i, 2)) (h : lv_has ls nL lv) (hn : i < nL) (hl : (i, va_rf r) :: lv.filter (fun q => !(q.1 == i) && !(q.1 + 1 == i && q.2.category == 2)) = lv')
    (kk : ∀ ls' : Array Slot, lv_has ls' nL lv' → W p l e R s m args below meth c H locs cells slots Q (F0 m (pc + 2) ls' rest)) : W p l e R s m args below meth c H locs cells slots Q (F0 m pc ls (va_rf r :: rest)) := by
  cases r with
  | none => exact lv_astoreN hx hb hdg h hn hl kk
  | some a => exact lv_astore hx hb hdg h hn hl kk
end HQ
section HR
variable {p : Program} {l : Launch} {e : Env} {R : Room} {s : State} {m : MethodId} {args : Array Value} {below : List Frame} {meth : Method} {c : Code} {H : Heap} {locs : List Loc} {cells slots : Nat} {Q : State → Prop} {cc : ByteArray} {pc : Nat} {ls : Array Slot} {rest : List Value} {D : va_G} {ca G : Nat → Nat} {A : Nat → Prop} {M : hM}
theorem hq_alen (hx : p.tables.exec = Jvm.exec) (hb : c.code = cc) (hK : va_K D wCl (wTys ca) s) (hZ0 : hZ G A s s.heap) (hW : hw D wCl A M H) (hS : va_S A s.heap H locs) {a : Nat} {K : Int32 → Prop} (h : aZ G M a (ca 2) K) (hdg : decode cc pc = .ok (.arraylength, 1))
    (kk : ∀ v : Int32, K v → W p l e R s m args below meth c H locs cells slots Q (F0 m (pc + 1) ls (.int v :: rest))) : W p l e R s m args below meth c H locs cells slots Q (F0 m pc ls (.ref a :: rest)) := by
  rcases h with ⟨x, h1, h⟩ | ⟨rfl, h⟩
  · exact va_alen hx hb hK (hw_one hW h1) 0 2 rfl rfl rfl hdg (kk _ h)
  · obtain ⟨cell, g1, g2, g3, g4⟩ := (hZ0.2.2.2.2.2.2.2.1)
    refine W.alen (n := 0) hx hb (cell := cell) ?_ g2 (by rw [g3]; rfl) rfl rfl hdg (kk 0 h)
    rw [hS.2.1 _ (Array.getElem?_eq_some_iff.mp g1).1 g4]
    exact g1
theorem hq_ast (t0 ci : Nat) {r0 : vw_C} (hx : p.tables.exec = Jvm.exec) (hb : c.code = cc) (hK : va_K D wCl (wTys ca) s) (hW : hw D wCl A M H) (hS : va_S A s.heap H locs) {a cA : Nat} {i : Int32} {r : Option Nat} {K : hM → Prop} (h : sR M a cA i r (fun z => z = ci) K) (ht : (wTys ca)[t0]? = some (cA, .object r0.1)) (hc : wCl[ci]? = some r0) (hdg : decode cc pc = .ok (.aastore, 1))
    (kk : ∀ (M1 : hM) (H1 : Heap) (locs1 : List Loc), K M1 → hw D wCl A M1 H1 → va_S A s.heap H1 locs1 → W p l e R s m args below meth c H1 locs1 cells slots Q (F0 m (pc + 1) ls rest)) : W p l e R s m args below meth c H locs cells slots Q (F0 m pc ls (va_rf r :: .int i :: .ref a :: rest)) := by
  obtain ⟨n, f, h1, h2, h3, h⟩ := h
  obtain ⟨ws, q0, hq, hP, hD, hback, hother⟩ := hw_open hW h1
  cases r with
  | none => exact va_astqN hx hb hK hP hD hS q0 t0 hq ht h2 hdg (fun H1 locs1 hP hD hS => kk _ H1 locs1 h (hback _ _ hP hD) hS)
  | some q =>
    obtain ⟨ci', fs, g1, rfl⟩ := h3 q rfl
    obtain ⟨q1, hq1⟩ := hother _ _ g1
    exact va_astq hx hb hK hP hD hS q0 t0 q1 ci' hq ht hq1 hc h2 hdg (fun H1 locs1 hP hD hS => kk _ H1 locs1 h (hback _ _ hP hD) hS)
theorem hq_cast (hZ0 : hZ G A s s.heap) {ci : Nat} (h : ci = 1 ∨ ci = 2) : ∃ r : vw_C, wCl[ci]? = some r ∧ va_Nw (.castable r.1 "java/lang/Object") s := by
  rcases h with rfl | rfl
  · exact ⟨_, rfl, hZ0.2.2.2.2.2.2.1 _ (by decide)⟩
  · exact ⟨_, rfl, hZ0.2.2.2.2.2.2.1 _ (by decide)⟩
theorem hq_astO (hx : p.tables.exec = Jvm.exec) (hb : c.code = cc) (hK : va_K D wCl (wTys ca) s) (hZ0 : hZ G A s s.heap) (hW : hw D wCl A M H) (hS : va_S A s.heap H locs) {a : Nat} {i : Int32} {r : Option Nat} {K : hM → Prop} (h : sR M a (ca 2) i r (fun z => z = 1 ∨ z = 2) K) (hdg : decode cc pc = .ok (.aastore, 1))
    (kk : ∀ (M1 : hM) (H1 : Heap) (locs1 : List Loc), K M1 → hw D wCl A M1 H1 → va_S A s.heap H1 locs1 → W p l e R s m args below meth c H1 locs1 cells slots Q (F0 m (pc + 1) ls rest)) : W p l e R s m args below meth c H locs cells slots Q (F0 m pc ls (va_rf r :: .int i :: .ref a :: rest)) := by
  obtain ⟨n, f, h1, h2, h3, h⟩ := h
  obtain ⟨ws, q0, hq, hP, hD, hback, hother⟩ := hw_open hW h1
  cases r with
  | none => exact va_astqN (C := "java/lang/Object") hx hb hK hP hD hS q0 2 hq rfl h2 hdg (fun H1 locs1 hP hD hS => kk _ H1 locs1 h (hback _ _ hP hD) hS)
  | some q =>
    obtain ⟨ci, fs, g1, g2⟩ := h3 q rfl
    obtain ⟨r0, hc, hca⟩ := hq_cast hZ0 g2
    obtain ⟨q1, hq1⟩ := hother _ _ g1
    exact va_astqO hx hb hK hP hD hS q0 2 q1 ci hq rfl hca hq1 hc h2 hdg (fun H1 locs1 hP hD hS => kk _ H1 locs1 h (hback _ _ hP hD) hS)
theorem hq_copy (hx : p.tables.exec = Jvm.exec) (hb : c.code = cc) (hml : c.maxLocals = ls.size) {own : String} {index : Nat} (hown : s.vm.findClass own = some m.cls) (hlink : (Cond.methodLink own index arraycopyName).before args s = true) (hnat : (Cond.native arraycopyName).before args s = true) (hstat : (Cond.static arraycopyName).before args s = true) (hini : (Cond.initialized "java/lang/System").before args s = true)
    (hK : va_K D wCl (wTys ca) s) (hZ0 : hZ G A s s.heap) (hW : hw D wCl A M H) (hS : va_S A s.heap H locs) {a0 a : Nat} {sp dp n : Int32} {K : hM → Prop} (h : cQ M a0 a (ca 2) sp dp n K) (hframes : 1 ≤ R.frames) (hlocals : (rest.map fun v => v.category).sum + (nativeFrameWords "java/lang/System" "arraycopy" 5 + 11) ≤ R.locals) (hdg : decode cc pc = .ok (.invokestatic index, 3))
    (kk : ∀ (M1 : hM) (H1 : Heap) (locs1 : List Loc), K M1 → hw D wCl A M1 H1 → va_S A s.heap H1 locs1 → W p l e R s m args below meth c H1 locs1 cells slots Q (F0 m (pc + 3) ls rest)) : W p l e R s m args below meth c H locs cells slots Q (F0 m pc ls (.int n :: .int dp :: .ref a :: .int sp :: .ref a0 :: rest)) := by
  obtain ⟨n0, n1, f, g, h0, h1, g1, g2, g3, g4, g5, ⟨ci, hci, hel⟩, h⟩ := h
  obtain ⟨ws, q1, hq, hP, hD, hback, hother⟩ := hw_open hW h1
  obtain ⟨q0, hq0⟩ := hother _ _ h0
  obtain ⟨r0, hc, hca⟩ := hq_cast hZ0 hci
  refine va_copyq (C := r0.1) hx hb hml hown hlink hnat hstat hini hK hP hD hS q0 q1 2 2 hq0 hq rfl rfl g1 g2 g3 g4 g5 (fun i hi y hy => ?_) (fun comp c0 e1 e2 => ?_) hframes hlocals hdg (fun H1 locs1 hP hD hS => kk _ H1 locs1 h (hback _ _ hP hD) hS)
  · obtain ⟨fs, hfs⟩ := hel i hi y hy
    exact hw_recv hK hW hfs hc
  · obtain ⟨c2, t2, f1, f2, f3⟩ := Cond.castable_spec (va_Nw.use (A := args) rfl hca)
    cases f1.symm.trans e2
    cases f2.symm.trans e1
    exact f3
theorem ca_eq {j k : Nat} {cA : ClassId} {C : String} (hK : va_K D wCl (wTys ca) s) (hK' : va_K D wCl (wTys ca ++ [(cA, .object C)]) s) (hj : (wTys ca)[j]? = some (k, .object C)) : cA = k := by
  obtain ⟨-, -, -, -, -, e1⟩ := (hK.2 j _ hj).2
  obtain ⟨-, -, -, -, -, e2⟩ := (hK'.2 7 (cA, .object C) rfl).2
  exact Option.some.inj (e2.symm.trans e1)
theorem hq_newq (j : Nat) (B : Nat) (hx : p.tables.exec = Jvm.exec) (hb : c.code = cc) {own C : String} {index : Nat} (hown : s.vm.findClass own = some m.cls) (hclink : (Cond.classLink own index C).before args s = true) (hover : va_AO C s) (hK : va_K D wCl (wTys ca) s) (hW : hw D wCl A M H) (hS : va_S A s.heap H locs) (hA : ∀ q, s.heap.size ≤ q → A q)
    {n : Int32} {cA : Nat} {K : Nat → hM → Prop} (h : nA M n B (fun N => .inl (cA, N, .inr (.inr (.inr (.inr (fun _ => none)))))) K) (hj : (wTys ca)[j]? = some (cA, .object C)) (hB : B ≤ 100000) (hcells : cells + 1 ≤ R.cells) (hslots : slots + B ≤ R.slots) (hdg : decode cc pc = .ok (.anewarray index, 3))
    (kk : ∀ (q : Nat) (M1 : hM) (H1 : Heap), K q M1 → hw D wCl A M1 H1 → va_S A s.heap H1 locs → W p l e R s m args below meth c H1 locs (cells + 1) (slots + B) Q (F0 m (pc + 3) ls (.ref q :: rest))) : W p l e R s m args below meth c H locs cells slots Q (F0 m pc ls (.int n :: rest)) := by
  obtain ⟨h1, h2, h⟩ := h
  obtain ⟨ws, hP, hD, hmake⟩ := hw_make hW
  refine va_newq hx hb hown hclink hover hK hP hD hS hA h1 rfl (by omega) hcells (by omega) hdg (fun q cB H1 hK' hP hD hS => ?_)
  have e1 := ca_eq hK hK' hj
  subst e1
  obtain ⟨hn, hW⟩ := hmake _ _ _ hP hD
  exact W.widen (Nat.le_refl _) (by omega) (kk q _ H1 (h q hn) hW hS)
theorem hq_newa (j : Nat) (B : Nat) {atype : ArrayType} {ty : FieldType} (a0 : Nat → vp_A) (hx : p.tables.exec = Jvm.exec) (hb : c.code = cc) (harr : (Cond.arrayClass (newarray.typeOf atype)).before args s = true) (hty : newarray.typeOf atype = ty) (hprim : ∀ cA, va_RA s cA ty = (s.vm.findClass ("[" ++ ty.toString) = some cA)) (hK : va_K D wCl (wTys ca) s) (hW : hw D wCl A M H) (hS : va_S A s.heap H locs) (hA : ∀ q, s.heap.size ≤ q → A q)
    {n : Int32} {cA : Nat} {K : Nat → hM → Prop} (ha : ∀ (cA : ClassId) (N : Nat), vp_cell cA (a0 N) = arrV cA N (fun _ => defaultValue ty)) (h : nA M n B (fun N => .inl (cA, a0 N)) K) (hj : (wTys ca)[j]? = some (cA, ty)) (hB : B ≤ 100000) (hcb : componentBytes ty ≤ 8) (hcells : cells + 1 ≤ R.cells) (hslots : slots + B ≤ R.slots) (hdg : decode cc pc = .ok (.newarray atype, 2))
    (kk : ∀ (q : Nat) (M1 : hM) (H1 : Heap), K q M1 → hw D wCl A M1 H1 → va_S A s.heap H1 locs → W p l e R s m args below meth c H1 locs (cells + 1) (slots + B) Q (F0 m (pc + 2) ls (.ref q :: rest))) : W p l e R s m args below meth c H locs cells slots Q (F0 m pc ls (.int n :: rest)) := by
  obtain ⟨h1, h2, h⟩ := h
  obtain ⟨ws, hP, hD, hmake⟩ := hw_make hW
  refine va_newa hx hb harr hty hK hP hD hS hA (fun cA => ha cA _) h1 rfl (Nat.le_trans (Nat.mul_le_mul (Nat.le_trans h2 hB) hcb) (by decide)) hcells (by omega) hdg (fun q cB H1 hK' hP hD hS => ?_)
  have r1 := (hK.2 j _ hj).2
  have r2 := (hK'.2 7 (cB, ty) rfl).2
  rw [hprim] at r1 r2
  have e1 : cB = cA := Option.some.inj (r2.symm.trans r1)
  subst e1
  obtain ⟨hn, hW⟩ := hmake _ _ _ hP hD
  exact W.widen (Nat.le_refl _) (by omega) (kk q _ H1 (h q hn) hW hS)
end HR
theorem hw.kept {D : va_G} {cl : List vw_C} {A : Nat → Prop} {M : hM} {H H1 : Heap} (h : hw D cl A M H) (hq : ∀ q : Nat, q < H.size → H1[q]? = H[q]?) : hw D cl A M H1 := by
  obtain ⟨L, f, hM0, hP, hD⟩ := h
  exact ⟨L, f, hM0, fun k q hk => (hP k q hk).kept (hq _ (hP k q hk).lt), hD⟩
/-- what a throw leaves: the class by its name, a world -/
abbrev hX (D : va_G) (xp : String → hM → Prop) (A : Nat → Prop) : String → State → State → Prop := vx_X (fun _ : hM => True) (fun E M' t => xp E M' ∧ hw D wCl A M' t.heap) A
section HT
variable {p : Program} {l : Launch} {e : Env} {R : Room} {s : State} {m : MethodId} {args : Array Value} {below : List Frame} {meth : Method} {c : Code} {H : Heap} {locs : List Loc} {cells slots : Nat} {Q : State → Prop} {cc : ByteArray} {pc : Nat} {ls : Array Slot} {st0 rest : List Value} {D : va_G} {ca G : Nat → Nat} {A : Nat → Prop} {M : hM} {Qc : Array Value → State → Outcome → State → Prop} {xp : String → hM → Prop}
theorem hq_throw (hx : p.tables.exec = Jvm.exec) (hb : c.code = cc) (hl0 : l.stackTraces = false) (hout : ∀ x ∈ c.exceptionTable.toList, False) {own cls : String} {names : List String} {ik ic mc ms : Nat} (hown : s.vm.findClass own = some m.cls) (hcls : Bundle.fit cls = true) (hnames : ∀ n ∈ names, Bundle.fit n = true) (hts : ∀ w ∈ BIG, w.before args s = true)
    (hk : Cond.classLink own ik cls ∈ BIG) (hini : Cond.initialized cls ∈ BIG) (hg : ∀ w ∈ (vx_at0 own ic cls names).filter goodWord, w ∈ lw_tbl) (hn : ∀ w ∈ (vx_at0 own ic cls names).filter (fun w => !goodWord w), w ∈ NG.filter (fun w => w.onTables)) (hgood : ∀ w ∈ Cond.classLink own ik cls :: Cond.initialized cls :: vx_at0 own ic cls names, vx_ot w = true)
    (hZ0 : hZ G A s s.heap) (hW : hw D wCl A M H) (hS : va_S A s.heap H locs) (hsize : ls.size = c.maxLocals) (h : xp cls M)
    (d0 : decode cc pc = .ok (.new ik, 3)) (d3 : decode cc (pc + 3) = .ok (.dup, 1)) (d4 : decode cc (pc + 4) = .ok (.invokespecial ic, 3)) (d7 : decode cc (pc + 7) = .ok (.athrow, 1))
    (hRframes : names.length + 3 < R.frames) (hRlocals : (rest.map fun v => v.category).sum + (13 * (names.length + 1) + 42) ≤ R.locals) (hRcells : cells + 1 ≤ R.cells) (hRslots : slots + 6 ≤ R.slots) (hlocks : meth.locks = false) (hc : cells + 1 ≤ mc) (hs : slots + 6 ≤ ms) :
    W p l e R s m args below meth c H locs cells slots (vx_MQ below Qc (hX D xp A) args s mc ms A) (F0 m pc ls rest) := by
  refine vx_throw0 hx hb hl0 hown hcls hnames (hts _ hk) (hts _ hini) (vx_hat (fun w hw => hts w (List.mem_filter.mpr ⟨hg w hw, (List.mem_filter.mp hw).2⟩)) hn (fun w hw => va_Nw.use (List.mem_filter.mp hw).2 (hZ0.2.2.2.2.2.2.1 w (List.mem_filter.mp hw).1))) hgood hZ0.2.2.2.2.1 hZ0.2.2.2.2.2.1 hS hsize d0 d3 d4 d7 (fun x hx => (hout x hx).elim) hRframes hRlocals hRcells hRslots hlocks (fun t hal hz hq => ?_) hS.2.2 hc hs
  exact ⟨M, trivial, ⟨h, hW.kept hq⟩, Nat.le_trans hS.1 hz, fun q h1 h2 => (hq q (Nat.lt_of_lt_of_le h1 hS.1)).trans (hS.2.1 q h1 h2)⟩
/-- a callee's throw goes on to the caller -/
theorem hq_out (hout : ∀ x ∈ c.exceptionTable.toList, False) (hlocks : meth.locks = false) {E : String} {ce : Cell} {q : Addr} {mc ms : Nat} (hW : hw D wCl A M H) (hS : va_S A s.heap H locs) (h : xp E M) (hcell : H[q]? = some ce) (hv : ce.vm = .none) (hcl : s.vm.findClass E = some ce.cls) (hc : cells ≤ mc) (hs : slots ≤ ms) :
    vx_W p l e R s m args below meth c H locs cells slots (vx_MQ below Qc (hX D xp A) args s mc ms A) (F0 m pc ls rest) q :=
  vx_out (fun x hx => (hout x hx).elim) hlocks hcell hv hcl (fun t ht _ => ⟨M, trivial, ⟨h, hw_t ht hW⟩, hS.F ht⟩) hS.2.2 hc hs
theorem hx_callq {S SX : Type} {post : Option Nat → S → Prop} {px : SX → Prop} {B : S → State → Prop} {BX : String → SX → State → Prop} {A0 A1 AX : Nat → Prop} {H0 : Heap} {a : Array Value} {mc ms : Nat} {free : Addr → Prop} (hr : vx_Run p l e R s m args below meth c H locs cells slots mc ms (F0 m pc ls st0) rest (va_Qq post B A1 a) (vx_X px BX AX) free) (hS : va_S A0 H0 H locs) (hA : ∀ q, q < H.size → A1 q → A0 q) (hf : ∀ q, free q → A0 q) (hAX : ∀ q, q < H.size → AX q → A0 q)
    (kx : ∀ (E : String) (ce : Cell) (q9 : Addr) (u : SX) (t : State) (H1 : Heap) (locs1 : List Loc), t.heap = H1 → s.vm.Alike t.vm → px u → BX E u t → H.size ≤ H1.size → (∀ q : Nat, q < H.size → ¬ AX q → H1[q]? = H[q]?) → va_S A0 H0 H1 locs1 → H1[q9]? = some ce → ce.vm = .none → s.vm.findClass E = some ce.cls → vx_W p l e R s m args below meth c H1 locs1 (cells + mc) (slots + ms) Q (F0 m pc ls rest) q9)
    (kk : ∀ (r : Option Nat) (u : S) (t : State) (H1 : Heap) (locs1 : List Loc), t.heap = H1 → s.vm.Alike t.vm → post r u → B u t → H.size ≤ H1.size → (∀ q : Nat, q < H.size → ¬ A1 q → H1[q]? = H[q]?) → va_S A0 H0 H1 locs1 → W p l e R s m args below meth c H1 locs1 (cells + mc) (slots + ms) Q (F0 m (pc + 3) ls (va_rf r :: rest))) : W p l e R s m args below meth c H locs cells slots Q (F0 m pc ls st0) := by
  intro T hT X
  rcases hr T hT X with ⟨v, st₀, t, T', L, h0, X', hL, e1, e2, ⟨⟨r, u, hv, hp, hb⟩, hF⟩, st⟩ | ⟨q, st₀, t, T', L, E, ce, h0, X', hL, e1, e2, ⟨u, hp, hb, hF⟩, hce, hcv, hcl, st⟩
  · cases hv
    obtain ⟨k1, k2, k3⟩ := vx_keep h0 e1 hS hA hf hL hF
    obtain ⟨t2, a1, b1⟩ := kk r u t T'.heap (locs ++ L) e1.symm (by rw [← e2]; exact X'.warmed.alike) hp hb k1 k2 k3 T' rfl X'
    exact ⟨t2, st t2 a1, b1⟩
  · obtain ⟨k1, k2, k3⟩ := vx_keep h0 e1 hS hAX hf hL hF
    obtain ⟨t2, a1, b1⟩ := kx E ce q u t T'.heap (locs ++ L) e1.symm (by rw [← e2]; exact X'.warmed.alike) hp hb k1 k2 k3 (by rw [e1]; exact hce) hcv hcl T' rfl X'
    exact ⟨t2, st.trans a1, b1⟩
end HT
end
section
theorem d_Wo_losesFlag_0 : decode prog_5_method_2_code 0 = .ok (.aload_n 0, 1) := by decide +kernel
theorem d_Wo_losesFlag_1 : decode prog_5_method_2_code 1 = .ok (.getfield 9, 3) := by decide +kernel
theorem d_Wo_losesFlag_4 : decode prog_5_method_2_code 4 = .ok (.istore_n 1, 1) := by decide +kernel
theorem d_Wo_losesFlag_5 : decode prog_5_method_2_code 5 = .ok (.aload_n 0, 1) := by decide +kernel
theorem d_Wo_losesFlag_6 : decode prog_5_method_2_code 6 = .ok (.iconst 0, 1) := by decide +kernel
theorem d_Wo_losesFlag_7 : decode prog_5_method_2_code 7 = .ok (.putfield 9, 3) := by decide +kernel
theorem d_Wo_losesFlag_10 : decode prog_5_method_2_code 10 = .ok (.iload_n 1, 1) := by decide +kernel
theorem d_Wo_losesFlag_11 : decode prog_5_method_2_code 11 = .ok (.ireturn, 1) := by decide +kernel
def y_Wo_losesFlag : MethodName := ⟨"ChannelHall$Worker", "losesFlag", "()Z"⟩
abbrev rm_Wo_losesFlag : Room := { frames := 0, cells := 0, slots := 0, locals := 0 }
def wp_Wo_losesFlag (G ca : Nat → Nat) (post : Int32 → hM → Prop) (M : hM) (a0 : Nat) : Prop := gI M a0 2 1 fun v3 => pF M a0 2 1 (.int 0) fun M4 => bZ v3 (post v3 M4)
set_option maxHeartbeats 1000000 in
set_option maxRecDepth 20000 in
theorem l_Wo_losesFlag_e {p : Program} {l : Launch} {e : Env} {s : State} {m : MethodId} {args : Array Value} {below : List Frame} {meth : Method} {c : Code} {D : va_G} {ca G : Nat → Nat} {A : Nat → Prop} (C0 : hC p s m args meth c D ca G prog_5_method_2_code 2 (some .boolean) "ChannelHall$Worker" A) {post : Int32 → hM → Prop} {M : hM} {H : Heap} {locs : List Loc} {ls : Array Slot} (a0 : Nat) (h : wp_Wo_losesFlag G ca post M a0) (hW : hw D wCl A M H) (hS : va_S A s.heap H locs) (hl : lv_has ls 2 [(0, .ref a0)]) : W p l e rm_Wo_losesFlag s m args below meth c H locs 0 0 (MQ below (va_Qi post (fun M' t => hw D wCl A M' t.heap) A) args s 0 0 A) (F0 m 0 ls []) := by
  obtain ⟨hx, hb, hr, hml, hown, hts, hlocks, hK, hA, hZ0⟩ := id C0
  refine lv_aload_n hx hb d_Wo_losesFlag_0 rfl (lv_at hl 0 rfl) ?_
  obtain ⟨fs, v3, h1, h2, h⟩ := h
  refine va_get (D := D) (ci := 2) (v := .int v3) (C := "ChannelHall$Worker") (T := TWo) (N := 11) hx hb hts uWo hown hK (hw_one hW h1) 0 rfl rfl 1 (by decide) (hts _ bw_53) (fun _ h9 => h9) h2 d_Wo_losesFlag_1 ?_
  refine lv_istore_n (lv' := [(1, .int v3), (0, .ref a0)]) hx hb d_Wo_losesFlag_4 rfl hl (by decide) rfl (fun ls hl => ?_)
  refine lv_aload_n hx hb d_Wo_losesFlag_5 rfl (lv_at hl 1 rfl) ?_
  refine lv_iconst (v := 0) hx hb d_Wo_losesFlag_6 (by decide) ?_
  obtain ⟨fs, h1, h2, h⟩ := h
  obtain ⟨ws, q0, hq, hP, hD, hback, -⟩ := hw_open hW h1
  refine va_put (D := D) (ci := 2) (v := .int 0) (ty := .boolean) (C := "ChannelHall$Worker") (T := TWo) (N := 11) hx hb hts uWo tWo tWo_ok nWo hown hK hP hD hS q0 hq rfl 1 (by decide) (hts _ bw_53) (fun _ h9 => h9) rfl (by decide +kernel) (by decide) (by decide) h2 d_Wo_losesFlag_7 (fun H locs hP hD hS => ?_)
  have hW := hback _ _ hP hD
  generalize (va_up M a0 (some (.inr (2, fs.set 1 (.int 0))))) = M4 at h hW
  refine lv_iload_n hx hb d_Wo_losesFlag_10 rfl (lv_at hl 0 rfl) ?_
  obtain ⟨hz, h⟩ := h
  exact W.zret hx hb hr (nb_n hz) (fun t ht hWm => ⟨⟨_, _, rfl, h, hw_t ht hW⟩, hS.F ht⟩) hS.2.2 d_Wo_losesFlag_11
set_option maxRecDepth 20000 in
theorem c_Wo_losesFlag {l : Launch} {D : va_G} {ca G : Nat → Nat} (post : Int32 → hM → Prop) {M : hM} {sz : Nat} {a0 : Nat} (h : wp_Wo_losesFlag G ca post M a0) : Met l y_Wo_losesFlag (wz y_Wo_losesFlag prog_5_method_2_code 2 (some .boolean)) rm_Wo_losesFlag (va_Pc [.ref a0] (hI D ca G sz M)) (va_Qi post (hB D M sz) (hp_A M sz)) 0 0 (hp_A M sz) := by
  refine Met.ofW (cc := prog_5_method_2_code) (maxL := 2) (ret := some .boolean) (by decide) rfl ?_
  intro p e s m args below meth c s₁ B hml hv
  obtain ⟨rfl, hsz, hW, hK, hZ0⟩ := hv
  have hts := fun w hw => atoms_spec (ws := wz y_Wo_losesFlag prog_5_method_2_code 2 (some .boolean)) B.pre w (List.mem_cons_of_mem _ hw)
  have hown : s.vm.findClass "ChannelHall$Worker" = some m.cls := findClass_of_methodNamed B.named
  subst hsz
  have hl := lv_entry [.ref a0] (n := 2) (Nat.le_of_ble_eq_true rfl)
  rw [lg_entry_eq]
  exact l_Wo_losesFlag_e ⟨B.exec, B.bytes, B.returns, hml, hown, hts, B.notSynchronized, hK, fun q h => Or.inr h, hZ0⟩ a0 h hW va_S.rf hl

theorem d_Wo_endWith_0 : decode prog_5_method_3_code 0 = .ok (.aload_n 0, 1) := by decide +kernel
theorem d_Wo_endWith_1 : decode prog_5_method_3_code 1 = .ok (.iload_n 1, 1) := by decide +kernel
theorem d_Wo_endWith_2 : decode prog_5_method_3_code 2 = .ok (.putfield 15, 3) := by decide +kernel
theorem d_Wo_endWith_5 : decode prog_5_method_3_code 5 = .ok (.iload_n 1, 1) := by decide +kernel
theorem d_Wo_endWith_6 : decode prog_5_method_3_code 6 = .ok (.ireturn, 1) := by decide +kernel
def y_Wo_endWith : MethodName := ⟨"ChannelHall$Worker", "endWith", "(I)I"⟩
abbrev rm_Wo_endWith : Room := { frames := 0, cells := 0, slots := 0, locals := 0 }
def wp_Wo_endWith (G ca : Nat → Nat) (post : Int32 → hM → Prop) (M : hM) (a0 : Nat) (x1 : Int32) : Prop := pF M a0 2 2 (.int x1) fun M2 => post x1 M2
set_option maxHeartbeats 1000000 in
set_option maxRecDepth 20000 in
theorem l_Wo_endWith_e {p : Program} {l : Launch} {e : Env} {s : State} {m : MethodId} {args : Array Value} {below : List Frame} {meth : Method} {c : Code} {D : va_G} {ca G : Nat → Nat} {A : Nat → Prop} (C0 : hC p s m args meth c D ca G prog_5_method_3_code 2 (some .int) "ChannelHall$Worker" A) {post : Int32 → hM → Prop} {M : hM} {H : Heap} {locs : List Loc} {ls : Array Slot} (a0 : Nat) (x1 : Int32) (h : wp_Wo_endWith G ca post M a0 x1) (hW : hw D wCl A M H) (hS : va_S A s.heap H locs) (hl : lv_has ls 2 [(0, .ref a0), (1, .int x1)]) : W p l e rm_Wo_endWith s m args below meth c H locs 0 0 (MQ below (va_Qi post (fun M' t => hw D wCl A M' t.heap) A) args s 0 0 A) (F0 m 0 ls []) := by
  obtain ⟨hx, hb, hr, hml, hown, hts, hlocks, hK, hA, hZ0⟩ := id C0
  refine lv_aload_n hx hb d_Wo_endWith_0 rfl (lv_at hl 0 rfl) ?_
  refine lv_iload_n hx hb d_Wo_endWith_1 rfl (lv_at hl 1 rfl) ?_
  obtain ⟨fs, h1, h2, h⟩ := h
  obtain ⟨ws, q0, hq, hP, hD, hback, -⟩ := hw_open hW h1
  refine va_put (D := D) (ci := 2) (v := .int x1) (ty := .int) (C := "ChannelHall$Worker") (T := TWo) (N := 11) hx hb hts uWo tWo tWo_ok nWo hown hK hP hD hS q0 hq rfl 2 (by decide) (hts _ bw_55) (fun _ h9 => h9) rfl (by decide +kernel) rfl rfl h2 d_Wo_endWith_2 (fun H locs hP hD hS => ?_)
  have hW := hback _ _ hP hD
  generalize (va_up M a0 (some (.inr (2, fs.set 2 (.int x1))))) = M2 at h hW
  refine lv_iload_n hx hb d_Wo_endWith_5 rfl (lv_at hl 1 rfl) ?_
  exact W.iret hx hb hr (fun t ht hWm => ⟨⟨_, _, rfl, h, hw_t ht hW⟩, hS.F ht⟩) hS.2.2 d_Wo_endWith_6
set_option maxRecDepth 20000 in
theorem c_Wo_endWith {l : Launch} {D : va_G} {ca G : Nat → Nat} (post : Int32 → hM → Prop) {M : hM} {sz : Nat} {a0 : Nat} {x1 : Int32} (h : wp_Wo_endWith G ca post M a0 x1) : Met l y_Wo_endWith (wz y_Wo_endWith prog_5_method_3_code 2 (some .int)) rm_Wo_endWith (va_Pc [.ref a0, .int x1] (hI D ca G sz M)) (va_Qi post (hB D M sz) (hp_A M sz)) 0 0 (hp_A M sz) := by
  refine Met.ofW (cc := prog_5_method_3_code) (maxL := 2) (ret := some .int) (by decide) rfl ?_
  intro p e s m args below meth c s₁ B hml hv
  obtain ⟨rfl, hsz, hW, hK, hZ0⟩ := hv
  have hts := fun w hw => atoms_spec (ws := wz y_Wo_endWith prog_5_method_3_code 2 (some .int)) B.pre w (List.mem_cons_of_mem _ hw)
  have hown : s.vm.findClass "ChannelHall$Worker" = some m.cls := findClass_of_methodNamed B.named
  subst hsz
  have hl := lv_entry [.ref a0, .int x1] (n := 2) (Nat.le_of_ble_eq_true rfl)
  rw [lg_entry_eq]
  exact l_Wo_endWith_e ⟨B.exec, B.bytes, B.returns, hml, hown, hts, B.notSynchronized, hK, fun q h => Or.inr h, hZ0⟩ a0 x1 h hW va_S.rf hl

theorem d_Wo_receive_0 : decode prog_5_method_4_code 0 = .ok (.aload_n 0, 1) := by decide +kernel
theorem d_Wo_receive_1 : decode prog_5_method_4_code 1 = .ok (.iconst 1, 1) := by decide +kernel
theorem d_Wo_receive_2 : decode prog_5_method_4_code 2 = .ok (.putfield 19, 3) := by decide +kernel
theorem d_Wo_receive_5 : decode prog_5_method_4_code 5 = .ok (.aload_n 0, 1) := by decide +kernel
theorem d_Wo_receive_6 : decode prog_5_method_4_code 6 = .ok (.iload_n 1, 1) := by decide +kernel
theorem d_Wo_receive_7 : decode prog_5_method_4_code 7 = .ok (.putfield 22, 3) := by decide +kernel
theorem d_Wo_receive_10 : decode prog_5_method_4_code 10 = .ok (.return_, 1) := by decide +kernel
def y_Wo_receive : MethodName := ⟨"ChannelHall$Worker", "receive", "(I)V"⟩
abbrev rm_Wo_receive : Room := { frames := 0, cells := 0, slots := 0, locals := 0 }
def wp_Wo_receive (G ca : Nat → Nat) (post : hM → Prop) (M : hM) (a0 : Nat) (x1 : Int32) : Prop := pF M a0 2 3 (.int 1) fun M3 => pF M3 a0 2 4 (.int x1) fun M4 => post M4
set_option maxHeartbeats 1000000 in
set_option maxRecDepth 20000 in
theorem l_Wo_receive_e {p : Program} {l : Launch} {e : Env} {s : State} {m : MethodId} {args : Array Value} {below : List Frame} {meth : Method} {c : Code} {D : va_G} {ca G : Nat → Nat} {A : Nat → Prop} (C0 : hC p s m args meth c D ca G prog_5_method_4_code 2 (none) "ChannelHall$Worker" A) {post : hM → Prop} {M : hM} {H : Heap} {locs : List Loc} {ls : Array Slot} (a0 : Nat) (x1 : Int32) (h : wp_Wo_receive G ca post M a0 x1) (hW : hw D wCl A M H) (hS : va_S A s.heap H locs) (hl : lv_has ls 2 [(0, .ref a0), (1, .int x1)]) : W p l e rm_Wo_receive s m args below meth c H locs 0 0 (MQ below (va_Qv post (fun M' t => hw D wCl A M' t.heap) A) args s 0 0 A) (F0 m 0 ls []) := by
  obtain ⟨hx, hb, hr, hml, hown, hts, hlocks, hK, hA, hZ0⟩ := id C0
  refine lv_aload_n hx hb d_Wo_receive_0 rfl (lv_at hl 0 rfl) ?_
  refine lv_iconst (v := 1) hx hb d_Wo_receive_1 (by decide) ?_
  obtain ⟨fs, h1, h2, h⟩ := h
  obtain ⟨ws, q0, hq, hP, hD, hback, -⟩ := hw_open hW h1
  refine va_put (D := D) (ci := 2) (v := .int 1) (ty := .boolean) (C := "ChannelHall$Worker") (T := TWo) (N := 11) hx hb hts uWo tWo tWo_ok nWo hown hK hP hD hS q0 hq rfl 3 (by decide) (hts _ bw_58) (fun _ h9 => h9) rfl (by decide +kernel) (by decide) (by decide) h2 d_Wo_receive_2 (fun H locs hP hD hS => ?_)
  have hW := hback _ _ hP hD
  generalize (va_up M a0 (some (.inr (2, fs.set 3 (.int 1))))) = M3 at h hW
  refine lv_aload_n hx hb d_Wo_receive_5 rfl (lv_at hl 0 rfl) ?_
  refine lv_iload_n hx hb d_Wo_receive_6 rfl (lv_at hl 1 rfl) ?_
  obtain ⟨fs, h1, h2, h⟩ := h
  obtain ⟨ws, q0, hq, hP, hD, hback, -⟩ := hw_open hW h1
  refine va_put (D := D) (ci := 2) (v := .int x1) (ty := .int) (C := "ChannelHall$Worker") (T := TWo) (N := 11) hx hb hts uWo tWo tWo_ok nWo hown hK hP hD hS q0 hq rfl 4 (by decide) (hts _ bw_60) (fun _ h9 => h9) rfl (by decide +kernel) rfl rfl h2 d_Wo_receive_7 (fun H locs hP hD hS => ?_)
  have hW := hback _ _ hP hD
  generalize (va_up M3 a0 (some (.inr (2, fs.set 4 (.int x1))))) = M4 at h hW
  exact W.vret hx hb hr (fun t ht hWm => ⟨⟨_, rfl, h, hw_t ht hW⟩, hS.F ht⟩) hS.2.2 d_Wo_receive_10
set_option maxRecDepth 20000 in
theorem c_Wo_receive {l : Launch} {D : va_G} {ca G : Nat → Nat} (post : hM → Prop) {M : hM} {sz : Nat} {a0 : Nat} {x1 : Int32} (h : wp_Wo_receive G ca post M a0 x1) : Met l y_Wo_receive (wz y_Wo_receive prog_5_method_4_code 2 (none)) rm_Wo_receive (va_Pc [.ref a0, .int x1] (hI D ca G sz M)) (va_Qv post (hB D M sz) (hp_A M sz)) 0 0 (hp_A M sz) := by
  refine Met.ofW (cc := prog_5_method_4_code) (maxL := 2) (ret := none) (by decide) rfl ?_
  intro p e s m args below meth c s₁ B hml hv
  obtain ⟨rfl, hsz, hW, hK, hZ0⟩ := hv
  have hts := fun w hw => atoms_spec (ws := wz y_Wo_receive prog_5_method_4_code 2 (none)) B.pre w (List.mem_cons_of_mem _ hw)
  have hown : s.vm.findClass "ChannelHall$Worker" = some m.cls := findClass_of_methodNamed B.named
  subst hsz
  have hl := lv_entry [.ref a0, .int x1] (n := 2) (Nat.le_of_ble_eq_true rfl)
  rw [lg_entry_eq]
  exact l_Wo_receive_e ⟨B.exec, B.bytes, B.returns, hml, hown, hts, B.notSynchronized, hK, fun q h => Or.inr h, hZ0⟩ a0 x1 h hW va_S.rf hl

theorem d_Wo_offer_0 : decode prog_5_method_5_code 0 = .ok (.aload_n 0, 1) := by decide +kernel
theorem d_Wo_offer_1 : decode prog_5_method_5_code 1 = .ok (.iload_n 1, 1) := by decide +kernel
theorem d_Wo_offer_2 : decode prog_5_method_5_code 2 = .ok (.putfield 38, 3) := by decide +kernel
theorem d_Wo_offer_5 : decode prog_5_method_5_code 5 = .ok (.aload_n 0, 1) := by decide +kernel
theorem d_Wo_offer_6 : decode prog_5_method_5_code 6 = .ok (.dload_n 2, 1) := by decide +kernel
theorem d_Wo_offer_7 : decode prog_5_method_5_code 7 = .ok (.putfield 41, 3) := by decide +kernel
theorem d_Wo_offer_10 : decode prog_5_method_5_code 10 = .ok (.return_, 1) := by decide +kernel
def y_Wo_offer : MethodName := ⟨"ChannelHall$Worker", "offer", "(ID)V"⟩
abbrev rm_Wo_offer : Room := { frames := 0, cells := 0, slots := 0, locals := 0 }
def wp_Wo_offer (G ca : Nat → Nat) (post : hM → Prop) (M : hM) (a0 : Nat) (x1 : Int32) (x2 : UInt64) : Prop := pF M a0 2 7 (.int x1) fun M3 => pF M3 a0 2 8 (.double x2) fun M4 => post M4
set_option maxHeartbeats 1000000 in
set_option maxRecDepth 20000 in
theorem l_Wo_offer_e {p : Program} {l : Launch} {e : Env} {s : State} {m : MethodId} {args : Array Value} {below : List Frame} {meth : Method} {c : Code} {D : va_G} {ca G : Nat → Nat} {A : Nat → Prop} (C0 : hC p s m args meth c D ca G prog_5_method_5_code 4 (none) "ChannelHall$Worker" A) {post : hM → Prop} {M : hM} {H : Heap} {locs : List Loc} {ls : Array Slot} (a0 : Nat) (x1 : Int32) (x2 : UInt64) (h : wp_Wo_offer G ca post M a0 x1 x2) (hW : hw D wCl A M H) (hS : va_S A s.heap H locs) (hl : lv_has ls 4 [(0, .ref a0), (1, .int x1), (2, .double x2)]) : W p l e rm_Wo_offer s m args below meth c H locs 0 0 (MQ below (va_Qv post (fun M' t => hw D wCl A M' t.heap) A) args s 0 0 A) (F0 m 0 ls []) := by
  obtain ⟨hx, hb, hr, hml, hown, hts, hlocks, hK, hA, hZ0⟩ := id C0
  refine lv_aload_n hx hb d_Wo_offer_0 rfl (lv_at hl 0 rfl) ?_
  refine lv_iload_n hx hb d_Wo_offer_1 rfl (lv_at hl 1 rfl) ?_
  obtain ⟨fs, h1, h2, h⟩ := h
  obtain ⟨ws, q0, hq, hP, hD, hback, -⟩ := hw_open hW h1
  refine va_put (D := D) (ci := 2) (v := .int x1) (ty := .int) (C := "ChannelHall$Worker") (T := TWo) (N := 11) hx hb hts uWo tWo tWo_ok nWo hown hK hP hD hS q0 hq rfl 7 (by decide) (hts _ bw_68) (fun _ h9 => h9) rfl (by decide +kernel) rfl rfl h2 d_Wo_offer_2 (fun H locs hP hD hS => ?_)
  have hW := hback _ _ hP hD
  generalize (va_up M a0 (some (.inr (2, fs.set 7 (.int x1))))) = M3 at h hW
  refine lv_aload_n hx hb d_Wo_offer_5 rfl (lv_at hl 0 rfl) ?_
  refine lv_dload_n hx hb d_Wo_offer_6 rfl (lv_at hl 2 rfl) ?_
  obtain ⟨fs, h1, h2, h⟩ := h
  obtain ⟨ws, q0, hq, hP, hD, hback, -⟩ := hw_open hW h1
  refine va_put (D := D) (ci := 2) (v := .double x2) (ty := .double) (C := "ChannelHall$Worker") (T := TWo) (N := 11) hx hb hts uWo tWo tWo_ok nWo hown hK hP hD hS q0 hq rfl 8 (by decide) (hts _ bw_71) (fun _ h9 => h9) rfl (by decide +kernel) rfl rfl h2 d_Wo_offer_7 (fun H locs hP hD hS => ?_)
  have hW := hback _ _ hP hD
  generalize (va_up M3 a0 (some (.inr (2, fs.set 8 (.double x2))))) = M4 at h hW
  exact W.vret hx hb hr (fun t ht hWm => ⟨⟨_, rfl, h, hw_t ht hW⟩, hS.F ht⟩) hS.2.2 d_Wo_offer_10
set_option maxRecDepth 20000 in
theorem c_Wo_offer {l : Launch} {D : va_G} {ca G : Nat → Nat} (post : hM → Prop) {M : hM} {sz : Nat} {a0 : Nat} {x1 : Int32} {x2 : UInt64} (h : wp_Wo_offer G ca post M a0 x1 x2) : Met l y_Wo_offer (wz y_Wo_offer prog_5_method_5_code 4 (none)) rm_Wo_offer (va_Pc [.ref a0, .int x1, .double x2] (hI D ca G sz M)) (va_Qv post (hB D M sz) (hp_A M sz)) 0 0 (hp_A M sz) := by
  refine Met.ofW (cc := prog_5_method_5_code) (maxL := 4) (ret := none) (by decide) rfl ?_
  intro p e s m args below meth c s₁ B hml hv
  obtain ⟨rfl, hsz, hW, hK, hZ0⟩ := hv
  have hts := fun w hw => atoms_spec (ws := wz y_Wo_offer prog_5_method_5_code 4 (none)) B.pre w (List.mem_cons_of_mem _ hw)
  have hown : s.vm.findClass "ChannelHall$Worker" = some m.cls := findClass_of_methodNamed B.named
  subst hsz
  have hl := lv_entry [.ref a0, .int x1, .double x2] (n := 4) (Nat.le_of_ble_eq_true rfl)
  rw [lg_entry_eq]
  exact l_Wo_offer_e ⟨B.exec, B.bytes, B.returns, hml, hown, hts, B.notSynchronized, hK, fun q h => Or.inr h, hZ0⟩ a0 x1 x2 h hW va_S.rf hl

theorem d_Ha_isThread_0 : decode prog_1_method_18_code 0 = .ok (.iload_n 0, 1) := by decide +kernel
theorem d_Ha_isThread_1 : decode prog_1_method_18_code 1 = .ok (.ifCond .lt 13, 3) := by decide +kernel
theorem d_Ha_isThread_4 : decode prog_1_method_18_code 4 = .ok (.iload_n 0, 1) := by decide +kernel
theorem d_Ha_isThread_5 : decode prog_1_method_18_code 5 = .ok (.bipush 6, 2) := by decide +kernel
theorem d_Ha_isThread_7 : decode prog_1_method_18_code 7 = .ok (.if_icmp .ge 7, 3) := by decide +kernel
theorem d_Ha_isThread_10 : decode prog_1_method_18_code 10 = .ok (.iconst 1, 1) := by decide +kernel
theorem d_Ha_isThread_11 : decode prog_1_method_18_code 11 = .ok (.goto 4, 3) := by decide +kernel
theorem d_Ha_isThread_14 : decode prog_1_method_18_code 14 = .ok (.iconst 0, 1) := by decide +kernel
theorem d_Ha_isThread_15 : decode prog_1_method_18_code 15 = .ok (.ireturn, 1) := by decide +kernel
def y_Ha_isThread : MethodName := ⟨"ChannelHall", "isThread", "(I)Z"⟩
abbrev rm_Ha_isThread : Room := { frames := 0, cells := 0, slots := 0, locals := 0 }
def wp_Ha_isThread_15 (G ca : Nat → Nat) (post : Int32 → hM → Prop) (M : hM) (s0b15 : Int32) : Prop := bZ s0b15 (post s0b15 M)
def wp_Ha_isThread_14 (G ca : Nat → Nat) (post : Int32 → hM → Prop) (M : hM)  : Prop := wp_Ha_isThread_15 G ca post M 0
def wp_Ha_isThread (G ca : Nat → Nat) (post : Int32 → hM → Prop) (M : hM) (x0 : Int32) : Prop := (x0 < 0 → wp_Ha_isThread_14 G ca post M) ∧ (¬ x0 < 0 → (6 ≤ x0 → wp_Ha_isThread_14 G ca post M) ∧ (¬ 6 ≤ x0 → wp_Ha_isThread_15 G ca post M 1))
set_option maxHeartbeats 1000000 in
set_option maxRecDepth 20000 in
theorem l_Ha_isThread_15 {p : Program} {l : Launch} {e : Env} {s : State} {m : MethodId} {args : Array Value} {below : List Frame} {meth : Method} {c : Code} {D : va_G} {ca G : Nat → Nat} {A : Nat → Prop} (C0 : hC p s m args meth c D ca G prog_1_method_18_code 1 (some .boolean) "ChannelHall" A) {post : Int32 → hM → Prop} {M : hM} {H : Heap} {locs : List Loc} {ls : Array Slot} (s0b15 : Int32) (h : wp_Ha_isThread_15 G ca post M s0b15) (hW : hw D wCl A M H) (hS : va_S A s.heap H locs) (hl : lv_has ls 1 []) : W p l e rm_Ha_isThread s m args below meth c H locs 0 0 (MQ below (va_Qi post (fun M' t => hw D wCl A M' t.heap) A) args s 0 0 A) (F0 m 15 ls [.int s0b15]) := by
  obtain ⟨hx, hb, hr, hml, hown, hts, hlocks, hK, hA, hZ0⟩ := id C0
  obtain ⟨hz, h⟩ := h
  exact W.zret hx hb hr (nb_n hz) (fun t ht hWm => ⟨⟨_, _, rfl, h, hw_t ht hW⟩, hS.F ht⟩) hS.2.2 d_Ha_isThread_15
set_option maxHeartbeats 1000000 in
set_option maxRecDepth 20000 in
theorem l_Ha_isThread_14 {p : Program} {l : Launch} {e : Env} {s : State} {m : MethodId} {args : Array Value} {below : List Frame} {meth : Method} {c : Code} {D : va_G} {ca G : Nat → Nat} {A : Nat → Prop} (C0 : hC p s m args meth c D ca G prog_1_method_18_code 1 (some .boolean) "ChannelHall" A) {post : Int32 → hM → Prop} {M : hM} {H : Heap} {locs : List Loc} {ls : Array Slot}  (h : wp_Ha_isThread_14 G ca post M) (hW : hw D wCl A M H) (hS : va_S A s.heap H locs) (hl : lv_has ls 1 []) : W p l e rm_Ha_isThread s m args below meth c H locs 0 0 (MQ below (va_Qi post (fun M' t => hw D wCl A M' t.heap) A) args s 0 0 A) (F0 m 14 ls []) := by
  obtain ⟨hx, hb, hr, hml, hown, hts, hlocks, hK, hA, hZ0⟩ := id C0
  refine lv_iconst (v := 0) hx hb d_Ha_isThread_14 (by decide) ?_
  exact l_Ha_isThread_15 C0 0 h hW hS (lv_sub hl [] rfl)
set_option maxHeartbeats 1000000 in
set_option maxRecDepth 20000 in
theorem l_Ha_isThread_e {p : Program} {l : Launch} {e : Env} {s : State} {m : MethodId} {args : Array Value} {below : List Frame} {meth : Method} {c : Code} {D : va_G} {ca G : Nat → Nat} {A : Nat → Prop} (C0 : hC p s m args meth c D ca G prog_1_method_18_code 1 (some .boolean) "ChannelHall" A) {post : Int32 → hM → Prop} {M : hM} {H : Heap} {locs : List Loc} {ls : Array Slot} (x0 : Int32) (h : wp_Ha_isThread G ca post M x0) (hW : hw D wCl A M H) (hS : va_S A s.heap H locs) (hl : lv_has ls 1 [(0, .int x0)]) : W p l e rm_Ha_isThread s m args below meth c H locs 0 0 (MQ below (va_Qi post (fun M' t => hw D wCl A M' t.heap) A) args s 0 0 A) (F0 m 0 ls []) := by
  obtain ⟨hx, hb, hr, hml, hown, hts, hlocks, hK, hA, hZ0⟩ := id C0
  refine lv_iload_n hx hb d_Ha_isThread_0 rfl (lv_at hl 0 rfl) ?_
  obtain ⟨h0, h1⟩ := h
  refine lv_if_lt (tgt := 14) hx hb d_Ha_isThread_1 (by decide) (fun c3 => ?_) (fun c3 => ?_)
  · have h := h0 c3
    exact l_Ha_isThread_14 C0  h hW hS (lv_sub hl [] rfl)
  · have h := h1 c3
    refine lv_iload_n hx hb d_Ha_isThread_4 rfl (lv_at hl 0 rfl) ?_
    refine lv_bipush (v := 6) hx hb d_Ha_isThread_5 (by decide) ?_
    obtain ⟨h0, h1⟩ := h
    refine lv_icmp_ge (tgt := 14) hx hb d_Ha_isThread_7 (by decide) (fun c4 => ?_) (fun c4 => ?_)
    · have h := h0 c4
      exact l_Ha_isThread_14 C0  h hW hS (lv_sub hl [] rfl)
    · have h := h1 c4
      refine lv_iconst (v := 1) hx hb d_Ha_isThread_10 (by decide) ?_
      refine lv_goto (tgt := 15) hx hb d_Ha_isThread_11 (by decide) ?_
      exact l_Ha_isThread_15 C0 1 h hW hS (lv_sub hl [] rfl)
set_option maxRecDepth 20000 in
theorem c_Ha_isThread {l : Launch} {D : va_G} {ca G : Nat → Nat} (post : Int32 → hM → Prop) {M : hM} {sz : Nat} {x0 : Int32} (h : wp_Ha_isThread G ca post M x0) : Met l y_Ha_isThread (wz y_Ha_isThread prog_1_method_18_code 1 (some .boolean)) rm_Ha_isThread (va_Pc [.int x0] (hI D ca G sz M)) (va_Qi post (hB D M sz) (hp_A M sz)) 0 0 (hp_A M sz) := by
  refine Met.ofW (cc := prog_1_method_18_code) (maxL := 1) (ret := some .boolean) (by decide) rfl ?_
  intro p e s m args below meth c s₁ B hml hv
  obtain ⟨rfl, hsz, hW, hK, hZ0⟩ := hv
  have hts := fun w hw => atoms_spec (ws := wz y_Ha_isThread prog_1_method_18_code 1 (some .boolean)) B.pre w (List.mem_cons_of_mem _ hw)
  have hown : s.vm.findClass "ChannelHall" = some m.cls := findClass_of_methodNamed B.named
  subst hsz
  have hl := lv_entry [.int x0] (n := 1) (Nat.le_of_ble_eq_true rfl)
  rw [lg_entry_eq]
  exact l_Ha_isThread_e ⟨B.exec, B.bytes, B.returns, hml, hown, hts, B.notSynchronized, hK, fun q h => Or.inr h, hZ0⟩ x0 h hW va_S.rf hl

theorem d_Ha_isChannel_0 : decode prog_1_method_19_code 0 = .ok (.iload_n 0, 1) := by decide +kernel
theorem d_Ha_isChannel_1 : decode prog_1_method_19_code 1 = .ok (.ifCond .lt 13, 3) := by decide +kernel
theorem d_Ha_isChannel_4 : decode prog_1_method_19_code 4 = .ok (.iload_n 0, 1) := by decide +kernel
theorem d_Ha_isChannel_5 : decode prog_1_method_19_code 5 = .ok (.bipush 8, 2) := by decide +kernel
theorem d_Ha_isChannel_7 : decode prog_1_method_19_code 7 = .ok (.if_icmp .ge 7, 3) := by decide +kernel
theorem d_Ha_isChannel_10 : decode prog_1_method_19_code 10 = .ok (.iconst 1, 1) := by decide +kernel
theorem d_Ha_isChannel_11 : decode prog_1_method_19_code 11 = .ok (.goto 4, 3) := by decide +kernel
theorem d_Ha_isChannel_14 : decode prog_1_method_19_code 14 = .ok (.iconst 0, 1) := by decide +kernel
theorem d_Ha_isChannel_15 : decode prog_1_method_19_code 15 = .ok (.ireturn, 1) := by decide +kernel
def y_Ha_isChannel : MethodName := ⟨"ChannelHall", "isChannel", "(I)Z"⟩
abbrev rm_Ha_isChannel : Room := { frames := 0, cells := 0, slots := 0, locals := 0 }
def wp_Ha_isChannel_15 (G ca : Nat → Nat) (post : Int32 → hM → Prop) (M : hM) (s0b15 : Int32) : Prop := bZ s0b15 (post s0b15 M)
def wp_Ha_isChannel_14 (G ca : Nat → Nat) (post : Int32 → hM → Prop) (M : hM)  : Prop := wp_Ha_isChannel_15 G ca post M 0
def wp_Ha_isChannel (G ca : Nat → Nat) (post : Int32 → hM → Prop) (M : hM) (x0 : Int32) : Prop := (x0 < 0 → wp_Ha_isChannel_14 G ca post M) ∧ (¬ x0 < 0 → (8 ≤ x0 → wp_Ha_isChannel_14 G ca post M) ∧ (¬ 8 ≤ x0 → wp_Ha_isChannel_15 G ca post M 1))
set_option maxHeartbeats 1000000 in
set_option maxRecDepth 20000 in
theorem l_Ha_isChannel_15 {p : Program} {l : Launch} {e : Env} {s : State} {m : MethodId} {args : Array Value} {below : List Frame} {meth : Method} {c : Code} {D : va_G} {ca G : Nat → Nat} {A : Nat → Prop} (C0 : hC p s m args meth c D ca G prog_1_method_19_code 1 (some .boolean) "ChannelHall" A) {post : Int32 → hM → Prop} {M : hM} {H : Heap} {locs : List Loc} {ls : Array Slot} (s0b15 : Int32) (h : wp_Ha_isChannel_15 G ca post M s0b15) (hW : hw D wCl A M H) (hS : va_S A s.heap H locs) (hl : lv_has ls 1 []) : W p l e rm_Ha_isChannel s m args below meth c H locs 0 0 (MQ below (va_Qi post (fun M' t => hw D wCl A M' t.heap) A) args s 0 0 A) (F0 m 15 ls [.int s0b15]) := by
  obtain ⟨hx, hb, hr, hml, hown, hts, hlocks, hK, hA, hZ0⟩ := id C0
  obtain ⟨hz, h⟩ := h
  exact W.zret hx hb hr (nb_n hz) (fun t ht hWm => ⟨⟨_, _, rfl, h, hw_t ht hW⟩, hS.F ht⟩) hS.2.2 d_Ha_isChannel_15
set_option maxHeartbeats 1000000 in
set_option maxRecDepth 20000 in
theorem l_Ha_isChannel_14 {p : Program} {l : Launch} {e : Env} {s : State} {m : MethodId} {args : Array Value} {below : List Frame} {meth : Method} {c : Code} {D : va_G} {ca G : Nat → Nat} {A : Nat → Prop} (C0 : hC p s m args meth c D ca G prog_1_method_19_code 1 (some .boolean) "ChannelHall" A) {post : Int32 → hM → Prop} {M : hM} {H : Heap} {locs : List Loc} {ls : Array Slot}  (h : wp_Ha_isChannel_14 G ca post M) (hW : hw D wCl A M H) (hS : va_S A s.heap H locs) (hl : lv_has ls 1 []) : W p l e rm_Ha_isChannel s m args below meth c H locs 0 0 (MQ below (va_Qi post (fun M' t => hw D wCl A M' t.heap) A) args s 0 0 A) (F0 m 14 ls []) := by
  obtain ⟨hx, hb, hr, hml, hown, hts, hlocks, hK, hA, hZ0⟩ := id C0
  refine lv_iconst (v := 0) hx hb d_Ha_isChannel_14 (by decide) ?_
  exact l_Ha_isChannel_15 C0 0 h hW hS (lv_sub hl [] rfl)
set_option maxHeartbeats 1000000 in
set_option maxRecDepth 20000 in
theorem l_Ha_isChannel_e {p : Program} {l : Launch} {e : Env} {s : State} {m : MethodId} {args : Array Value} {below : List Frame} {meth : Method} {c : Code} {D : va_G} {ca G : Nat → Nat} {A : Nat → Prop} (C0 : hC p s m args meth c D ca G prog_1_method_19_code 1 (some .boolean) "ChannelHall" A) {post : Int32 → hM → Prop} {M : hM} {H : Heap} {locs : List Loc} {ls : Array Slot} (x0 : Int32) (h : wp_Ha_isChannel G ca post M x0) (hW : hw D wCl A M H) (hS : va_S A s.heap H locs) (hl : lv_has ls 1 [(0, .int x0)]) : W p l e rm_Ha_isChannel s m args below meth c H locs 0 0 (MQ below (va_Qi post (fun M' t => hw D wCl A M' t.heap) A) args s 0 0 A) (F0 m 0 ls []) := by
  obtain ⟨hx, hb, hr, hml, hown, hts, hlocks, hK, hA, hZ0⟩ := id C0
  refine lv_iload_n hx hb d_Ha_isChannel_0 rfl (lv_at hl 0 rfl) ?_
  obtain ⟨h0, h1⟩ := h
  refine lv_if_lt (tgt := 14) hx hb d_Ha_isChannel_1 (by decide) (fun c3 => ?_) (fun c3 => ?_)
  · have h := h0 c3
    exact l_Ha_isChannel_14 C0  h hW hS (lv_sub hl [] rfl)
  · have h := h1 c3
    refine lv_iload_n hx hb d_Ha_isChannel_4 rfl (lv_at hl 0 rfl) ?_
    refine lv_bipush (v := 8) hx hb d_Ha_isChannel_5 (by decide) ?_
    obtain ⟨h0, h1⟩ := h
    refine lv_icmp_ge (tgt := 14) hx hb d_Ha_isChannel_7 (by decide) (fun c4 => ?_) (fun c4 => ?_)
    · have h := h0 c4
      exact l_Ha_isChannel_14 C0  h hW hS (lv_sub hl [] rfl)
    · have h := h1 c4
      refine lv_iconst (v := 1) hx hb d_Ha_isChannel_10 (by decide) ?_
      refine lv_goto (tgt := 15) hx hb d_Ha_isChannel_11 (by decide) ?_
      exact l_Ha_isChannel_15 C0 1 h hW hS (lv_sub hl [] rfl)
set_option maxRecDepth 20000 in
theorem c_Ha_isChannel {l : Launch} {D : va_G} {ca G : Nat → Nat} (post : Int32 → hM → Prop) {M : hM} {sz : Nat} {x0 : Int32} (h : wp_Ha_isChannel G ca post M x0) : Met l y_Ha_isChannel (wz y_Ha_isChannel prog_1_method_19_code 1 (some .boolean)) rm_Ha_isChannel (va_Pc [.int x0] (hI D ca G sz M)) (va_Qi post (hB D M sz) (hp_A M sz)) 0 0 (hp_A M sz) := by
  refine Met.ofW (cc := prog_1_method_19_code) (maxL := 1) (ret := some .boolean) (by decide) rfl ?_
  intro p e s m args below meth c s₁ B hml hv
  obtain ⟨rfl, hsz, hW, hK, hZ0⟩ := hv
  have hts := fun w hw => atoms_spec (ws := wz y_Ha_isChannel prog_1_method_19_code 1 (some .boolean)) B.pre w (List.mem_cons_of_mem _ hw)
  have hown : s.vm.findClass "ChannelHall" = some m.cls := findClass_of_methodNamed B.named
  subst hsz
  have hl := lv_entry [.int x0] (n := 1) (Nat.le_of_ble_eq_true rfl)
  rw [lg_entry_eq]
  exact l_Ha_isChannel_e ⟨B.exec, B.bytes, B.returns, hml, hown, hts, B.notSynchronized, hK, fun q h => Or.inr h, hZ0⟩ x0 h hW va_S.rf hl

theorem d_Ha_isLimit_0 : decode prog_1_method_20_code 0 = .ok (.dload_n 0, 1) := by decide +kernel
theorem d_Ha_isLimit_1 : decode prog_1_method_20_code 1 = .ok (.ldc2_w 239, 3) := by decide +kernel
theorem d_Ha_isLimit_4 : decode prog_1_method_20_code 4 = .ok (.dcmp .l, 1) := by decide +kernel
theorem d_Ha_isLimit_5 : decode prog_1_method_20_code 5 = .ok (.ifCond .lt 15, 3) := by decide +kernel
theorem d_Ha_isLimit_8 : decode prog_1_method_20_code 8 = .ok (.dload_n 0, 1) := by decide +kernel
theorem d_Ha_isLimit_9 : decode prog_1_method_20_code 9 = .ok (.ldc2_w 55, 3) := by decide +kernel
theorem d_Ha_isLimit_12 : decode prog_1_method_20_code 12 = .ok (.dcmp .g, 1) := by decide +kernel
theorem d_Ha_isLimit_13 : decode prog_1_method_20_code 13 = .ok (.ifCond .gt 7, 3) := by decide +kernel
theorem d_Ha_isLimit_16 : decode prog_1_method_20_code 16 = .ok (.iconst 1, 1) := by decide +kernel
theorem d_Ha_isLimit_17 : decode prog_1_method_20_code 17 = .ok (.goto 4, 3) := by decide +kernel
theorem d_Ha_isLimit_20 : decode prog_1_method_20_code 20 = .ok (.iconst 0, 1) := by decide +kernel
theorem d_Ha_isLimit_21 : decode prog_1_method_20_code 21 = .ok (.ireturn, 1) := by decide +kernel
def y_Ha_isLimit : MethodName := ⟨"ChannelHall", "isLimit", "(D)Z"⟩
abbrev rm_Ha_isLimit : Room := { frames := 0, cells := 0, slots := 0, locals := 0 }
def wp_Ha_isLimit_21 (G ca : Nat → Nat) (post : Int32 → hM → Prop) (M : hM) (s0b21 : Int32) : Prop := bZ s0b21 (post s0b21 M)
def wp_Ha_isLimit_20 (G ca : Nat → Nat) (post : Int32 → hM → Prop) (M : hM)  : Prop := wp_Ha_isLimit_21 G ca post M 0
def wp_Ha_isLimit (G ca : Nat → Nat) (post : Int32 → hM → Prop) (M : hM) (x0 : UInt64) : Prop := ((Op.cmpValue (FP.dcmp x0 13830554455654793216) .l) < 0 → wp_Ha_isLimit_20 G ca post M) ∧ (¬ (Op.cmpValue (FP.dcmp x0 13830554455654793216) .l) < 0 → (0 < (Op.cmpValue (FP.dcmp x0 4652007308841189376) .g) → wp_Ha_isLimit_20 G ca post M) ∧ (¬ 0 < (Op.cmpValue (FP.dcmp x0 4652007308841189376) .g) → wp_Ha_isLimit_21 G ca post M 1))
set_option maxHeartbeats 1000000 in
set_option maxRecDepth 20000 in
theorem l_Ha_isLimit_21 {p : Program} {l : Launch} {e : Env} {s : State} {m : MethodId} {args : Array Value} {below : List Frame} {meth : Method} {c : Code} {D : va_G} {ca G : Nat → Nat} {A : Nat → Prop} (C0 : hC p s m args meth c D ca G prog_1_method_20_code 2 (some .boolean) "ChannelHall" A) {post : Int32 → hM → Prop} {M : hM} {H : Heap} {locs : List Loc} {ls : Array Slot} (s0b21 : Int32) (h : wp_Ha_isLimit_21 G ca post M s0b21) (hW : hw D wCl A M H) (hS : va_S A s.heap H locs) (hl : lv_has ls 2 []) : W p l e rm_Ha_isLimit s m args below meth c H locs 0 0 (MQ below (va_Qi post (fun M' t => hw D wCl A M' t.heap) A) args s 0 0 A) (F0 m 21 ls [.int s0b21]) := by
  obtain ⟨hx, hb, hr, hml, hown, hts, hlocks, hK, hA, hZ0⟩ := id C0
  obtain ⟨hz, h⟩ := h
  exact W.zret hx hb hr (nb_n hz) (fun t ht hWm => ⟨⟨_, _, rfl, h, hw_t ht hW⟩, hS.F ht⟩) hS.2.2 d_Ha_isLimit_21
set_option maxHeartbeats 1000000 in
set_option maxRecDepth 20000 in
theorem l_Ha_isLimit_20 {p : Program} {l : Launch} {e : Env} {s : State} {m : MethodId} {args : Array Value} {below : List Frame} {meth : Method} {c : Code} {D : va_G} {ca G : Nat → Nat} {A : Nat → Prop} (C0 : hC p s m args meth c D ca G prog_1_method_20_code 2 (some .boolean) "ChannelHall" A) {post : Int32 → hM → Prop} {M : hM} {H : Heap} {locs : List Loc} {ls : Array Slot}  (h : wp_Ha_isLimit_20 G ca post M) (hW : hw D wCl A M H) (hS : va_S A s.heap H locs) (hl : lv_has ls 2 []) : W p l e rm_Ha_isLimit s m args below meth c H locs 0 0 (MQ below (va_Qi post (fun M' t => hw D wCl A M' t.heap) A) args s 0 0 A) (F0 m 20 ls []) := by
  obtain ⟨hx, hb, hr, hml, hown, hts, hlocks, hK, hA, hZ0⟩ := id C0
  refine lv_iconst (v := 0) hx hb d_Ha_isLimit_20 (by decide) ?_
  exact l_Ha_isLimit_21 C0 0 h hW hS (lv_sub hl [] rfl)
set_option maxHeartbeats 1000000 in
set_option maxRecDepth 20000 in
theorem l_Ha_isLimit_e {p : Program} {l : Launch} {e : Env} {s : State} {m : MethodId} {args : Array Value} {below : List Frame} {meth : Method} {c : Code} {D : va_G} {ca G : Nat → Nat} {A : Nat → Prop} (C0 : hC p s m args meth c D ca G prog_1_method_20_code 2 (some .boolean) "ChannelHall" A) {post : Int32 → hM → Prop} {M : hM} {H : Heap} {locs : List Loc} {ls : Array Slot} (x0 : UInt64) (h : wp_Ha_isLimit G ca post M x0) (hW : hw D wCl A M H) (hS : va_S A s.heap H locs) (hl : lv_has ls 2 [(0, .double x0)]) : W p l e rm_Ha_isLimit s m args below meth c H locs 0 0 (MQ below (va_Qi post (fun M' t => hw D wCl A M' t.heap) A) args s 0 0 A) (F0 m 0 ls []) := by
  obtain ⟨hx, hb, hr, hml, hown, hts, hlocks, hK, hA, hZ0⟩ := id C0
  refine lv_dload_n hx hb d_Ha_isLimit_0 rfl (lv_at hl 0 rfl) ?_
  refine lv_ldc2d (v := 13830554455654793216) hx hb hown (hts _ bw_308) d_Ha_isLimit_1 ?_
  refine lv_dcmp hx hb d_Ha_isLimit_4 ?_
  obtain ⟨h0, h1⟩ := h
  refine lv_if_lt (tgt := 20) hx hb d_Ha_isLimit_5 (by decide) (fun c3 => ?_) (fun c3 => ?_)
  · have h := h0 c3
    exact l_Ha_isLimit_20 C0  h hW hS (lv_sub hl [] rfl)
  · have h := h1 c3
    refine lv_dload_n hx hb d_Ha_isLimit_8 rfl (lv_at hl 0 rfl) ?_
    refine lv_ldc2d (v := 4652007308841189376) hx hb hown (hts _ bw_304) d_Ha_isLimit_9 ?_
    refine lv_dcmp hx hb d_Ha_isLimit_12 ?_
    obtain ⟨h0, h1⟩ := h
    refine lv_if_gt (tgt := 20) hx hb d_Ha_isLimit_13 (by decide) (fun c4 => ?_) (fun c4 => ?_)
    · have h := h0 c4
      exact l_Ha_isLimit_20 C0  h hW hS (lv_sub hl [] rfl)
    · have h := h1 c4
      refine lv_iconst (v := 1) hx hb d_Ha_isLimit_16 (by decide) ?_
      refine lv_goto (tgt := 21) hx hb d_Ha_isLimit_17 (by decide) ?_
      exact l_Ha_isLimit_21 C0 1 h hW hS (lv_sub hl [] rfl)
set_option maxRecDepth 20000 in
theorem c_Ha_isLimit {l : Launch} {D : va_G} {ca G : Nat → Nat} (post : Int32 → hM → Prop) {M : hM} {sz : Nat} {x0 : UInt64} (h : wp_Ha_isLimit G ca post M x0) : Met l y_Ha_isLimit (wz y_Ha_isLimit prog_1_method_20_code 2 (some .boolean)) rm_Ha_isLimit (va_Pc [.double x0] (hI D ca G sz M)) (va_Qi post (hB D M sz) (hp_A M sz)) 0 0 (hp_A M sz) := by
  refine Met.ofW (cc := prog_1_method_20_code) (maxL := 2) (ret := some .boolean) (by decide) rfl ?_
  intro p e s m args below meth c s₁ B hml hv
  obtain ⟨rfl, hsz, hW, hK, hZ0⟩ := hv
  have hts := fun w hw => atoms_spec (ws := wz y_Ha_isLimit prog_1_method_20_code 2 (some .boolean)) B.pre w (List.mem_cons_of_mem _ hw)
  have hown : s.vm.findClass "ChannelHall" = some m.cls := findClass_of_methodNamed B.named
  subst hsz
  have hl := lv_entry [.double x0] (n := 2) (Nat.le_of_ble_eq_true rfl)
  rw [lg_entry_eq]
  exact l_Ha_isLimit_e ⟨B.exec, B.bytes, B.returns, hml, hown, hts, B.notSynchronized, hK, fun q h => Or.inr h, hZ0⟩ x0 h hW va_S.rf hl

theorem d_Ch_holdsItems_0 : decode prog_2_method_3_code 0 = .ok (.aload_n 0, 1) := by decide +kernel
theorem d_Ch_holdsItems_1 : decode prog_2_method_3_code 1 = .ok (.getfield 39, 3) := by decide +kernel
theorem d_Ch_holdsItems_4 : decode prog_2_method_3_code 4 = .ok (.iconst 4, 1) := by decide +kernel
theorem d_Ch_holdsItems_5 : decode prog_2_method_3_code 5 = .ok (.if_icmp .gt 7, 3) := by decide +kernel
theorem d_Ch_holdsItems_8 : decode prog_2_method_3_code 8 = .ok (.iconst 1, 1) := by decide +kernel
theorem d_Ch_holdsItems_9 : decode prog_2_method_3_code 9 = .ok (.goto 4, 3) := by decide +kernel
theorem d_Ch_holdsItems_12 : decode prog_2_method_3_code 12 = .ok (.iconst 0, 1) := by decide +kernel
theorem d_Ch_holdsItems_13 : decode prog_2_method_3_code 13 = .ok (.ireturn, 1) := by decide +kernel
def y_Ch_holdsItems : MethodName := ⟨"ChannelHall$Channel", "holdsItems", "()Z"⟩
abbrev rm_Ch_holdsItems : Room := { frames := 0, cells := 0, slots := 0, locals := 0 }
def wp_Ch_holdsItems_13 (G ca : Nat → Nat) (post : Int32 → hM → Prop) (M : hM) (s0b13 : Int32) : Prop := bZ s0b13 (post s0b13 M)
def wp_Ch_holdsItems (G ca : Nat → Nat) (post : Int32 → hM → Prop) (M : hM) (a0 : Nat) : Prop := gI M a0 0 1 fun v3 => (4 < v3 → wp_Ch_holdsItems_13 G ca post M 0) ∧ (¬ 4 < v3 → wp_Ch_holdsItems_13 G ca post M 1)
set_option maxHeartbeats 1000000 in
set_option maxRecDepth 20000 in
theorem l_Ch_holdsItems_13 {p : Program} {l : Launch} {e : Env} {s : State} {m : MethodId} {args : Array Value} {below : List Frame} {meth : Method} {c : Code} {D : va_G} {ca G : Nat → Nat} {A : Nat → Prop} (C0 : hC p s m args meth c D ca G prog_2_method_3_code 1 (some .boolean) "ChannelHall$Channel" A) {post : Int32 → hM → Prop} {M : hM} {H : Heap} {locs : List Loc} {ls : Array Slot} (s0b13 : Int32) (h : wp_Ch_holdsItems_13 G ca post M s0b13) (hW : hw D wCl A M H) (hS : va_S A s.heap H locs) (hl : lv_has ls 1 []) : W p l e rm_Ch_holdsItems s m args below meth c H locs 0 0 (MQ below (va_Qi post (fun M' t => hw D wCl A M' t.heap) A) args s 0 0 A) (F0 m 13 ls [.int s0b13]) := by
  obtain ⟨hx, hb, hr, hml, hown, hts, hlocks, hK, hA, hZ0⟩ := id C0
  obtain ⟨hz, h⟩ := h
  exact W.zret hx hb hr (nb_n hz) (fun t ht hWm => ⟨⟨_, _, rfl, h, hw_t ht hW⟩, hS.F ht⟩) hS.2.2 d_Ch_holdsItems_13
set_option maxHeartbeats 1000000 in
set_option maxRecDepth 20000 in
theorem l_Ch_holdsItems_e {p : Program} {l : Launch} {e : Env} {s : State} {m : MethodId} {args : Array Value} {below : List Frame} {meth : Method} {c : Code} {D : va_G} {ca G : Nat → Nat} {A : Nat → Prop} (C0 : hC p s m args meth c D ca G prog_2_method_3_code 1 (some .boolean) "ChannelHall$Channel" A) {post : Int32 → hM → Prop} {M : hM} {H : Heap} {locs : List Loc} {ls : Array Slot} (a0 : Nat) (h : wp_Ch_holdsItems G ca post M a0) (hW : hw D wCl A M H) (hS : va_S A s.heap H locs) (hl : lv_has ls 1 [(0, .ref a0)]) : W p l e rm_Ch_holdsItems s m args below meth c H locs 0 0 (MQ below (va_Qi post (fun M' t => hw D wCl A M' t.heap) A) args s 0 0 A) (F0 m 0 ls []) := by
  obtain ⟨hx, hb, hr, hml, hown, hts, hlocks, hK, hA, hZ0⟩ := id C0
  refine lv_aload_n hx hb d_Ch_holdsItems_0 rfl (lv_at hl 0 rfl) ?_
  obtain ⟨fs, v3, h1, h2, h⟩ := h
  refine va_get (D := D) (ci := 0) (v := .int v3) (C := "ChannelHall$Channel") (T := TCh) (N := 10) hx hb hts uCh hown hK (hw_one hW h1) 0 rfl rfl 1 (by decide) (hts _ bw_253) (fun _ h9 => h9) h2 d_Ch_holdsItems_1 ?_
  refine lv_iconst (v := 4) hx hb d_Ch_holdsItems_4 (by decide) ?_
  obtain ⟨h0, h1⟩ := h
  refine lv_icmp_gt (tgt := 12) hx hb d_Ch_holdsItems_5 (by decide) (fun c4 => ?_) (fun c4 => ?_)
  · have h := h0 c4
    refine lv_iconst (v := 0) hx hb d_Ch_holdsItems_12 (by decide) ?_
    exact l_Ch_holdsItems_13 C0 0 h hW hS (lv_sub hl [] rfl)
  · have h := h1 c4
    refine lv_iconst (v := 1) hx hb d_Ch_holdsItems_8 (by decide) ?_
    refine lv_goto (tgt := 13) hx hb d_Ch_holdsItems_9 (by decide) ?_
    exact l_Ch_holdsItems_13 C0 1 h hW hS (lv_sub hl [] rfl)
set_option maxRecDepth 20000 in
theorem c_Ch_holdsItems {l : Launch} {D : va_G} {ca G : Nat → Nat} (post : Int32 → hM → Prop) {M : hM} {sz : Nat} {a0 : Nat} (h : wp_Ch_holdsItems G ca post M a0) : Met l y_Ch_holdsItems (wz y_Ch_holdsItems prog_2_method_3_code 1 (some .boolean)) rm_Ch_holdsItems (va_Pc [.ref a0] (hI D ca G sz M)) (va_Qi post (hB D M sz) (hp_A M sz)) 0 0 (hp_A M sz) := by
  refine Met.ofW (cc := prog_2_method_3_code) (maxL := 1) (ret := some .boolean) (by decide) rfl ?_
  intro p e s m args below meth c s₁ B hml hv
  obtain ⟨rfl, hsz, hW, hK, hZ0⟩ := hv
  have hts := fun w hw => atoms_spec (ws := wz y_Ch_holdsItems prog_2_method_3_code 1 (some .boolean)) B.pre w (List.mem_cons_of_mem _ hw)
  have hown : s.vm.findClass "ChannelHall$Channel" = some m.cls := findClass_of_methodNamed B.named
  subst hsz
  have hl := lv_entry [.ref a0] (n := 1) (Nat.le_of_ble_eq_true rfl)
  rw [lg_entry_eq]
  exact l_Ch_holdsItems_e ⟨B.exec, B.bytes, B.returns, hml, hown, hts, B.notSynchronized, hK, fun q h => Or.inr h, hZ0⟩ a0 h hW va_S.rf hl

theorem d_Ch_addStay_0 : decode prog_2_method_19_code 0 = .ok (.aload_n 0, 1) := by decide +kernel
theorem d_Ch_addStay_1 : decode prog_2_method_19_code 1 = .ok (.dup, 1) := by decide +kernel
theorem d_Ch_addStay_2 : decode prog_2_method_19_code 2 = .ok (.getfield 29, 3) := by decide +kernel
theorem d_Ch_addStay_5 : decode prog_2_method_19_code 5 = .ok (.dload_n 1, 1) := by decide +kernel
theorem d_Ch_addStay_6 : decode prog_2_method_19_code 6 = .ok (.dadd, 1) := by decide +kernel
theorem d_Ch_addStay_7 : decode prog_2_method_19_code 7 = .ok (.putfield 29, 3) := by decide +kernel
theorem d_Ch_addStay_10 : decode prog_2_method_19_code 10 = .ok (.aload_n 0, 1) := by decide +kernel
theorem d_Ch_addStay_11 : decode prog_2_method_19_code 11 = .ok (.dup, 1) := by decide +kernel
theorem d_Ch_addStay_12 : decode prog_2_method_19_code 12 = .ok (.getfield 33, 3) := by decide +kernel
theorem d_Ch_addStay_15 : decode prog_2_method_19_code 15 = .ok (.iconst 1, 1) := by decide +kernel
theorem d_Ch_addStay_16 : decode prog_2_method_19_code 16 = .ok (.iadd, 1) := by decide +kernel
theorem d_Ch_addStay_17 : decode prog_2_method_19_code 17 = .ok (.putfield 33, 3) := by decide +kernel
theorem d_Ch_addStay_20 : decode prog_2_method_19_code 20 = .ok (.return_, 1) := by decide +kernel
def y_Ch_addStay : MethodName := ⟨"ChannelHall$Channel", "addStay", "(D)V"⟩
abbrev rm_Ch_addStay : Room := { frames := 0, cells := 0, slots := 0, locals := 0 }
def wp_Ch_addStay (G ca : Nat → Nat) (post : hM → Prop) (M : hM) (a0 : Nat) (x1 : UInt64) : Prop := gD M a0 0 8 fun v5 => nD (FP.dadd v5 x1) (pF M a0 0 8 (.double (FP.dadd v5 x1)) fun M6 => gI M6 a0 0 9 fun v7 => pF M6 a0 0 9 (.int (v7 + 1)) fun M8 => post M8)
set_option maxHeartbeats 1000000 in
set_option maxRecDepth 20000 in
theorem l_Ch_addStay_e {p : Program} {l : Launch} {e : Env} {s : State} {m : MethodId} {args : Array Value} {below : List Frame} {meth : Method} {c : Code} {D : va_G} {ca G : Nat → Nat} {A : Nat → Prop} (C0 : hC p s m args meth c D ca G prog_2_method_19_code 3 (none) "ChannelHall$Channel" A) {post : hM → Prop} {M : hM} {H : Heap} {locs : List Loc} {ls : Array Slot} (a0 : Nat) (x1 : UInt64) (h : wp_Ch_addStay G ca post M a0 x1) (hW : hw D wCl A M H) (hS : va_S A s.heap H locs) (hl : lv_has ls 3 [(0, .ref a0), (1, .double x1)]) : W p l e rm_Ch_addStay s m args below meth c H locs 0 0 (MQ below (va_Qv post (fun M' t => hw D wCl A M' t.heap) A) args s 0 0 A) (F0 m 0 ls []) := by
  obtain ⟨hx, hb, hr, hml, hown, hts, hlocks, hK, hA, hZ0⟩ := id C0
  refine lv_aload_n hx hb d_Ch_addStay_0 rfl (lv_at hl 0 rfl) ?_
  refine lv_dup hx hb d_Ch_addStay_1 rfl ?_
  obtain ⟨fs, v5, h1, h2, h⟩ := h
  refine va_get (D := D) (ci := 0) (v := .double v5) (C := "ChannelHall$Channel") (T := TCh) (N := 10) hx hb hts uCh hown hK (hw_one hW h1) 0 rfl rfl 8 (by decide) (hts _ bw_266) (fun _ h9 => h9) h2 d_Ch_addStay_2 ?_
  refine lv_dload_n hx hb d_Ch_addStay_5 rfl (lv_at hl 1 rfl) ?_
  obtain ⟨hn, h⟩ := h
  refine lv_dadd hx hb d_Ch_addStay_6 hn ?_
  obtain ⟨fs, h1, h2, h⟩ := h
  obtain ⟨ws, q0, hq, hP, hD, hback, -⟩ := hw_open hW h1
  refine va_put (D := D) (ci := 0) (v := .double (FP.dadd v5 x1)) (ty := .double) (C := "ChannelHall$Channel") (T := TCh) (N := 10) hx hb hts uCh tCh tCh_ok nCh hown hK hP hD hS q0 hq rfl 8 (by decide) (hts _ bw_266) (fun _ h9 => h9) rfl (by decide +kernel) rfl rfl h2 d_Ch_addStay_7 (fun H locs hP hD hS => ?_)
  have hW := hback _ _ hP hD
  generalize (va_up M a0 (some (.inr (0, fs.set 8 (.double (FP.dadd v5 x1)))))) = M6 at h hW
  refine lv_aload_n hx hb d_Ch_addStay_10 rfl (lv_at hl 0 rfl) ?_
  refine lv_dup hx hb d_Ch_addStay_11 rfl ?_
  obtain ⟨fs, v7, h1, h2, h⟩ := h
  refine va_get (D := D) (ci := 0) (v := .int v7) (C := "ChannelHall$Channel") (T := TCh) (N := 10) hx hb hts uCh hown hK (hw_one hW h1) 0 rfl rfl 9 (by decide) (hts _ bw_268) (fun _ h9 => h9) h2 d_Ch_addStay_12 ?_
  refine lv_iconst (v := 1) hx hb d_Ch_addStay_15 (by decide) ?_
  refine lv_iadd hx hb d_Ch_addStay_16 ?_
  obtain ⟨fs, h1, h2, h⟩ := h
  obtain ⟨ws, q0, hq, hP, hD, hback, -⟩ := hw_open hW h1
  refine va_put (D := D) (ci := 0) (v := .int (v7 + 1)) (ty := .int) (C := "ChannelHall$Channel") (T := TCh) (N := 10) hx hb hts uCh tCh tCh_ok nCh hown hK hP hD hS q0 hq rfl 9 (by decide) (hts _ bw_268) (fun _ h9 => h9) rfl (by decide +kernel) rfl rfl h2 d_Ch_addStay_17 (fun H locs hP hD hS => ?_)
  have hW := hback _ _ hP hD
  generalize (va_up M6 a0 (some (.inr (0, fs.set 9 (.int (v7 + 1)))))) = M8 at h hW
  exact W.vret hx hb hr (fun t ht hWm => ⟨⟨_, rfl, h, hw_t ht hW⟩, hS.F ht⟩) hS.2.2 d_Ch_addStay_20
set_option maxRecDepth 20000 in
theorem c_Ch_addStay {l : Launch} {D : va_G} {ca G : Nat → Nat} (post : hM → Prop) {M : hM} {sz : Nat} {a0 : Nat} {x1 : UInt64} (h : wp_Ch_addStay G ca post M a0 x1) : Met l y_Ch_addStay (wz y_Ch_addStay prog_2_method_19_code 3 (none)) rm_Ch_addStay (va_Pc [.ref a0, .double x1] (hI D ca G sz M)) (va_Qv post (hB D M sz) (hp_A M sz)) 0 0 (hp_A M sz) := by
  refine Met.ofW (cc := prog_2_method_19_code) (maxL := 3) (ret := none) (by decide) rfl ?_
  intro p e s m args below meth c s₁ B hml hv
  obtain ⟨rfl, hsz, hW, hK, hZ0⟩ := hv
  have hts := fun w hw => atoms_spec (ws := wz y_Ch_addStay prog_2_method_19_code 3 (none)) B.pre w (List.mem_cons_of_mem _ hw)
  have hown : s.vm.findClass "ChannelHall$Channel" = some m.cls := findClass_of_methodNamed B.named
  subst hsz
  have hl := lv_entry [.ref a0, .double x1] (n := 3) (Nat.le_of_ble_eq_true rfl)
  rw [lg_entry_eq]
  exact l_Ch_addStay_e ⟨B.exec, B.bytes, B.returns, hml, hown, hts, B.notSynchronized, hK, fun q h => Or.inr h, hZ0⟩ a0 x1 h hW va_S.rf hl

theorem d_Ch_roomOf_0 : decode prog_2_method_2_code 0 = .ok (.iload_n 0, 1) := by decide +kernel
theorem d_Ch_roomOf_1 : decode prog_2_method_2_code 1 = .ok (.tableswitch 43 0 4 #[35, 37, 43, 40, 40], 35) := by decide +kernel
theorem d_Ch_roomOf_36 : decode prog_2_method_2_code 36 = .ok (.iload_n 1, 1) := by decide +kernel
theorem d_Ch_roomOf_37 : decode prog_2_method_2_code 37 = .ok (.ireturn, 1) := by decide +kernel
theorem d_Ch_roomOf_38 : decode prog_2_method_2_code 38 = .ok (.bipush 16, 2) := by decide +kernel
theorem d_Ch_roomOf_40 : decode prog_2_method_2_code 40 = .ok (.ireturn, 1) := by decide +kernel
theorem d_Ch_roomOf_41 : decode prog_2_method_2_code 41 = .ok (.bipush 6, 2) := by decide +kernel
theorem d_Ch_roomOf_43 : decode prog_2_method_2_code 43 = .ok (.ireturn, 1) := by decide +kernel
theorem d_Ch_roomOf_44 : decode prog_2_method_2_code 44 = .ok (.iconst 0, 1) := by decide +kernel
theorem d_Ch_roomOf_45 : decode prog_2_method_2_code 45 = .ok (.ireturn, 1) := by decide +kernel
def y_Ch_roomOf : MethodName := ⟨"ChannelHall$Channel", "roomOf", "(II)I"⟩
abbrev rm_Ch_roomOf : Room := { frames := 0, cells := 0, slots := 0, locals := 0 }
def wp_Ch_roomOf_44 (G ca : Nat → Nat) (post : Int32 → hM → Prop) (M : hM)  : Prop := post 0 M
def wp_Ch_roomOf_41 (G ca : Nat → Nat) (post : Int32 → hM → Prop) (M : hM)  : Prop := post 6 M
def wp_Ch_roomOf (G ca : Nat → Nat) (post : Int32 → hM → Prop) (M : hM) (x0 : Int32) (x1 : Int32) : Prop := (x0 = 0 → post x1 M) ∧ (¬ x0 = 0 → (x0 = 1 → post 16 M) ∧ (¬ x0 = 1 → (x0 = 2 → wp_Ch_roomOf_44 G ca post M) ∧ (¬ x0 = 2 → (x0 = 3 → wp_Ch_roomOf_41 G ca post M) ∧ (¬ x0 = 3 → (x0 = 4 → wp_Ch_roomOf_41 G ca post M) ∧ (¬ x0 = 4 → wp_Ch_roomOf_44 G ca post M)))))
set_option maxHeartbeats 1000000 in
set_option maxRecDepth 20000 in
theorem l_Ch_roomOf_44 {p : Program} {l : Launch} {e : Env} {s : State} {m : MethodId} {args : Array Value} {below : List Frame} {meth : Method} {c : Code} {D : va_G} {ca G : Nat → Nat} {A : Nat → Prop} (C0 : hC p s m args meth c D ca G prog_2_method_2_code 2 (some .int) "ChannelHall$Channel" A) {post : Int32 → hM → Prop} {M : hM} {H : Heap} {locs : List Loc} {ls : Array Slot}  (h : wp_Ch_roomOf_44 G ca post M) (hW : hw D wCl A M H) (hS : va_S A s.heap H locs) (hl : lv_has ls 2 []) : W p l e rm_Ch_roomOf s m args below meth c H locs 0 0 (MQ below (va_Qi post (fun M' t => hw D wCl A M' t.heap) A) args s 0 0 A) (F0 m 44 ls []) := by
  obtain ⟨hx, hb, hr, hml, hown, hts, hlocks, hK, hA, hZ0⟩ := id C0
  refine lv_iconst (v := 0) hx hb d_Ch_roomOf_44 (by decide) ?_
  exact W.iret hx hb hr (fun t ht hWm => ⟨⟨_, _, rfl, h, hw_t ht hW⟩, hS.F ht⟩) hS.2.2 d_Ch_roomOf_45
set_option maxHeartbeats 1000000 in
set_option maxRecDepth 20000 in
theorem l_Ch_roomOf_41 {p : Program} {l : Launch} {e : Env} {s : State} {m : MethodId} {args : Array Value} {below : List Frame} {meth : Method} {c : Code} {D : va_G} {ca G : Nat → Nat} {A : Nat → Prop} (C0 : hC p s m args meth c D ca G prog_2_method_2_code 2 (some .int) "ChannelHall$Channel" A) {post : Int32 → hM → Prop} {M : hM} {H : Heap} {locs : List Loc} {ls : Array Slot}  (h : wp_Ch_roomOf_41 G ca post M) (hW : hw D wCl A M H) (hS : va_S A s.heap H locs) (hl : lv_has ls 2 []) : W p l e rm_Ch_roomOf s m args below meth c H locs 0 0 (MQ below (va_Qi post (fun M' t => hw D wCl A M' t.heap) A) args s 0 0 A) (F0 m 41 ls []) := by
  obtain ⟨hx, hb, hr, hml, hown, hts, hlocks, hK, hA, hZ0⟩ := id C0
  refine lv_bipush (v := 6) hx hb d_Ch_roomOf_41 (by decide) ?_
  exact W.iret hx hb hr (fun t ht hWm => ⟨⟨_, _, rfl, h, hw_t ht hW⟩, hS.F ht⟩) hS.2.2 d_Ch_roomOf_43
set_option maxHeartbeats 1000000 in
set_option maxRecDepth 20000 in
theorem l_Ch_roomOf_e {p : Program} {l : Launch} {e : Env} {s : State} {m : MethodId} {args : Array Value} {below : List Frame} {meth : Method} {c : Code} {D : va_G} {ca G : Nat → Nat} {A : Nat → Prop} (C0 : hC p s m args meth c D ca G prog_2_method_2_code 2 (some .int) "ChannelHall$Channel" A) {post : Int32 → hM → Prop} {M : hM} {H : Heap} {locs : List Loc} {ls : Array Slot} (x0 : Int32) (x1 : Int32) (h : wp_Ch_roomOf G ca post M x0 x1) (hW : hw D wCl A M H) (hS : va_S A s.heap H locs) (hl : lv_has ls 2 [(0, .int x0), (1, .int x1)]) : W p l e rm_Ch_roomOf s m args below meth c H locs 0 0 (MQ below (va_Qi post (fun M' t => hw D wCl A M' t.heap) A) args s 0 0 A) (F0 m 0 ls []) := by
  obtain ⟨hx, hb, hr, hml, hown, hts, hlocks, hK, hA, hZ0⟩ := id C0
  refine lv_iload_n hx hb d_Ch_roomOf_0 rfl (lv_at hl 0 rfl) ?_
  obtain ⟨h0, h1⟩ := h
  by_cases c0 : x0 = 0
  · have h := h0 c0
    rw [c0]
    refine lv_tableIn (off := 35) (tgt := 36) hx hb d_Ch_roomOf_1 (by decide) (by decide) (by decide) (by decide) ?_
    refine lv_iload_n hx hb d_Ch_roomOf_36 rfl (lv_at hl 1 rfl) ?_
    exact W.iret hx hb hr (fun t ht hWm => ⟨⟨_, _, rfl, h, hw_t ht hW⟩, hS.F ht⟩) hS.2.2 d_Ch_roomOf_37
  · have h := h1 c0
    obtain ⟨h0, h1⟩ := h
    by_cases c1 : x0 = 1
    · have h := h0 c1
      rw [c1]
      refine lv_tableIn (off := 37) (tgt := 38) hx hb d_Ch_roomOf_1 (by decide) (by decide) (by decide) (by decide) ?_
      refine lv_bipush (v := 16) hx hb d_Ch_roomOf_38 (by decide) ?_
      exact W.iret hx hb hr (fun t ht hWm => ⟨⟨_, _, rfl, h, hw_t ht hW⟩, hS.F ht⟩) hS.2.2 d_Ch_roomOf_40
    · have h := h1 c1
      obtain ⟨h0, h1⟩ := h
      by_cases c2 : x0 = 2
      · have h := h0 c2
        rw [c2]
        refine lv_tableIn (off := 43) (tgt := 44) hx hb d_Ch_roomOf_1 (by decide) (by decide) (by decide) (by decide) ?_
        exact l_Ch_roomOf_44 C0  h hW hS (lv_sub hl [] rfl)
      · have h := h1 c2
        obtain ⟨h0, h1⟩ := h
        by_cases c3 : x0 = 3
        · have h := h0 c3
          rw [c3]
          refine lv_tableIn (off := 40) (tgt := 41) hx hb d_Ch_roomOf_1 (by decide) (by decide) (by decide) (by decide) ?_
          exact l_Ch_roomOf_41 C0  h hW hS (lv_sub hl [] rfl)
        · have h := h1 c3
          obtain ⟨h0, h1⟩ := h
          by_cases c4 : x0 = 4
          · have h := h0 c4
            rw [c4]
            refine lv_tableIn (off := 40) (tgt := 41) hx hb d_Ch_roomOf_1 (by decide) (by decide) (by decide) (by decide) ?_
            exact l_Ch_roomOf_41 C0  h hW hS (lv_sub hl [] rfl)
          · have h := h1 c4
            have n0 := lv_neT c0 (a := 0) (by decide); have n1 := lv_neT c1 (a := 1) (by decide); have n2 := lv_neT c2 (a := 2) (by decide); have n3 := lv_neT c3 (a := 3) (by decide); have n4 := lv_neT c4 (a := 4) (by decide)
            refine lv_tableOut (tgt := 44) hx hb d_Ch_roomOf_1 (by omega) (by decide) ?_
            exact l_Ch_roomOf_44 C0  h hW hS (lv_sub hl [] rfl)
set_option maxRecDepth 20000 in
theorem c_Ch_roomOf {l : Launch} {D : va_G} {ca G : Nat → Nat} (post : Int32 → hM → Prop) {M : hM} {sz : Nat} {x0 : Int32} {x1 : Int32} (h : wp_Ch_roomOf G ca post M x0 x1) : Met l y_Ch_roomOf (wz y_Ch_roomOf prog_2_method_2_code 2 (some .int)) rm_Ch_roomOf (va_Pc [.int x0, .int x1] (hI D ca G sz M)) (va_Qi post (hB D M sz) (hp_A M sz)) 0 0 (hp_A M sz) := by
  refine Met.ofW (cc := prog_2_method_2_code) (maxL := 2) (ret := some .int) (by decide) rfl ?_
  intro p e s m args below meth c s₁ B hml hv
  obtain ⟨rfl, hsz, hW, hK, hZ0⟩ := hv
  have hts := fun w hw => atoms_spec (ws := wz y_Ch_roomOf prog_2_method_2_code 2 (some .int)) B.pre w (List.mem_cons_of_mem _ hw)
  have hown : s.vm.findClass "ChannelHall$Channel" = some m.cls := findClass_of_methodNamed B.named
  subst hsz
  have hl := lv_entry [.int x0, .int x1] (n := 2) (Nat.le_of_ble_eq_true rfl)
  rw [lg_entry_eq]
  exact l_Ch_roomOf_e ⟨B.exec, B.bytes, B.returns, hml, hown, hts, B.notSynchronized, hK, fun q h => Or.inr h, hZ0⟩ x0 x1 h hW va_S.rf hl

theorem d_Ha_isSize_0 : decode prog_1_method_21_code 0 = .ok (.iload_n 0, 1) := by decide +kernel
theorem d_Ha_isSize_1 : decode prog_1_method_21_code 1 = .ok (.lookupswitch 59 #[(0, 27), (6, 43)], 27) := by decide +kernel
theorem d_Ha_isSize_28 : decode prog_1_method_21_code 28 = .ok (.iload_n 1, 1) := by decide +kernel
theorem d_Ha_isSize_29 : decode prog_1_method_21_code 29 = .ok (.iconst 1, 1) := by decide +kernel
theorem d_Ha_isSize_30 : decode prog_1_method_21_code 30 = .ok (.if_icmp .lt 12, 3) := by decide +kernel
theorem d_Ha_isSize_33 : decode prog_1_method_21_code 33 = .ok (.iload_n 1, 1) := by decide +kernel
theorem d_Ha_isSize_34 : decode prog_1_method_21_code 34 = .ok (.iconst 4, 1) := by decide +kernel
theorem d_Ha_isSize_35 : decode prog_1_method_21_code 35 = .ok (.if_icmp .gt 7, 3) := by decide +kernel
theorem d_Ha_isSize_38 : decode prog_1_method_21_code 38 = .ok (.iconst 1, 1) := by decide +kernel
theorem d_Ha_isSize_39 : decode prog_1_method_21_code 39 = .ok (.goto 4, 3) := by decide +kernel
theorem d_Ha_isSize_42 : decode prog_1_method_21_code 42 = .ok (.iconst 0, 1) := by decide +kernel
theorem d_Ha_isSize_43 : decode prog_1_method_21_code 43 = .ok (.ireturn, 1) := by decide +kernel
theorem d_Ha_isSize_44 : decode prog_1_method_21_code 44 = .ok (.iload_n 1, 1) := by decide +kernel
theorem d_Ha_isSize_45 : decode prog_1_method_21_code 45 = .ok (.iconst 2, 1) := by decide +kernel
theorem d_Ha_isSize_46 : decode prog_1_method_21_code 46 = .ok (.if_icmp .lt 12, 3) := by decide +kernel
theorem d_Ha_isSize_49 : decode prog_1_method_21_code 49 = .ok (.iload_n 1, 1) := by decide +kernel
theorem d_Ha_isSize_50 : decode prog_1_method_21_code 50 = .ok (.iconst 5, 1) := by decide +kernel
theorem d_Ha_isSize_51 : decode prog_1_method_21_code 51 = .ok (.if_icmp .gt 7, 3) := by decide +kernel
theorem d_Ha_isSize_54 : decode prog_1_method_21_code 54 = .ok (.iconst 1, 1) := by decide +kernel
theorem d_Ha_isSize_55 : decode prog_1_method_21_code 55 = .ok (.goto 4, 3) := by decide +kernel
theorem d_Ha_isSize_58 : decode prog_1_method_21_code 58 = .ok (.iconst 0, 1) := by decide +kernel
theorem d_Ha_isSize_59 : decode prog_1_method_21_code 59 = .ok (.ireturn, 1) := by decide +kernel
theorem d_Ha_isSize_60 : decode prog_1_method_21_code 60 = .ok (.iload_n 0, 1) := by decide +kernel
theorem d_Ha_isSize_61 : decode prog_1_method_21_code 61 = .ok (.ifCond .le 17, 3) := by decide +kernel
theorem d_Ha_isSize_64 : decode prog_1_method_21_code 64 = .ok (.iload_n 0, 1) := by decide +kernel
theorem d_Ha_isSize_65 : decode prog_1_method_21_code 65 = .ok (.bipush 6, 2) := by decide +kernel
theorem d_Ha_isSize_67 : decode prog_1_method_21_code 67 = .ok (.if_icmp .ge 11, 3) := by decide +kernel
theorem d_Ha_isSize_70 : decode prog_1_method_21_code 70 = .ok (.iload_n 1, 1) := by decide +kernel
theorem d_Ha_isSize_71 : decode prog_1_method_21_code 71 = .ok (.ifCond .ne 7, 3) := by decide +kernel
theorem d_Ha_isSize_74 : decode prog_1_method_21_code 74 = .ok (.iconst 1, 1) := by decide +kernel
theorem d_Ha_isSize_75 : decode prog_1_method_21_code 75 = .ok (.goto 4, 3) := by decide +kernel
theorem d_Ha_isSize_78 : decode prog_1_method_21_code 78 = .ok (.iconst 0, 1) := by decide +kernel
theorem d_Ha_isSize_79 : decode prog_1_method_21_code 79 = .ok (.ireturn, 1) := by decide +kernel
def y_Ha_isSize : MethodName := ⟨"ChannelHall", "isSize", "(II)Z"⟩
abbrev rm_Ha_isSize : Room := { frames := 0, cells := 0, slots := 0, locals := 0 }
def wp_Ha_isSize_79 (G ca : Nat → Nat) (post : Int32 → hM → Prop) (M : hM) (s0b79 : Int32) : Prop := bZ s0b79 (post s0b79 M)
def wp_Ha_isSize_78 (G ca : Nat → Nat) (post : Int32 → hM → Prop) (M : hM)  : Prop := wp_Ha_isSize_79 G ca post M 0
def wp_Ha_isSize_59 (G ca : Nat → Nat) (post : Int32 → hM → Prop) (M : hM) (s0b59 : Int32) : Prop := bZ s0b59 (post s0b59 M)
def wp_Ha_isSize_58 (G ca : Nat → Nat) (post : Int32 → hM → Prop) (M : hM)  : Prop := wp_Ha_isSize_59 G ca post M 0
def wp_Ha_isSize_43 (G ca : Nat → Nat) (post : Int32 → hM → Prop) (M : hM) (s0b43 : Int32) : Prop := bZ s0b43 (post s0b43 M)
def wp_Ha_isSize_42 (G ca : Nat → Nat) (post : Int32 → hM → Prop) (M : hM)  : Prop := wp_Ha_isSize_43 G ca post M 0
def wp_Ha_isSize (G ca : Nat → Nat) (post : Int32 → hM → Prop) (M : hM) (x0 : Int32) (x1 : Int32) : Prop := (x0 = 0 → (x1 < 1 → wp_Ha_isSize_42 G ca post M) ∧ (¬ x1 < 1 → (4 < x1 → wp_Ha_isSize_42 G ca post M) ∧ (¬ 4 < x1 → wp_Ha_isSize_43 G ca post M 1))) ∧ (¬ x0 = 0 → (x0 = 6 → (x1 < 2 → wp_Ha_isSize_58 G ca post M) ∧ (¬ x1 < 2 → (5 < x1 → wp_Ha_isSize_58 G ca post M) ∧ (¬ 5 < x1 → wp_Ha_isSize_59 G ca post M 1))) ∧ (¬ x0 = 6 → (x0 ≤ 0 → wp_Ha_isSize_78 G ca post M) ∧ (¬ x0 ≤ 0 → (6 ≤ x0 → wp_Ha_isSize_78 G ca post M) ∧ (¬ 6 ≤ x0 → (¬ x1 = 0 → wp_Ha_isSize_78 G ca post M) ∧ (x1 = 0 → wp_Ha_isSize_79 G ca post M 1)))))
set_option maxHeartbeats 1000000 in
set_option maxRecDepth 20000 in
theorem l_Ha_isSize_79 {p : Program} {l : Launch} {e : Env} {s : State} {m : MethodId} {args : Array Value} {below : List Frame} {meth : Method} {c : Code} {D : va_G} {ca G : Nat → Nat} {A : Nat → Prop} (C0 : hC p s m args meth c D ca G prog_1_method_21_code 2 (some .boolean) "ChannelHall" A) {post : Int32 → hM → Prop} {M : hM} {H : Heap} {locs : List Loc} {ls : Array Slot} (s0b79 : Int32) (h : wp_Ha_isSize_79 G ca post M s0b79) (hW : hw D wCl A M H) (hS : va_S A s.heap H locs) (hl : lv_has ls 2 []) : W p l e rm_Ha_isSize s m args below meth c H locs 0 0 (MQ below (va_Qi post (fun M' t => hw D wCl A M' t.heap) A) args s 0 0 A) (F0 m 79 ls [.int s0b79]) := by
  obtain ⟨hx, hb, hr, hml, hown, hts, hlocks, hK, hA, hZ0⟩ := id C0
  obtain ⟨hz, h⟩ := h
  exact W.zret hx hb hr (nb_n hz) (fun t ht hWm => ⟨⟨_, _, rfl, h, hw_t ht hW⟩, hS.F ht⟩) hS.2.2 d_Ha_isSize_79
set_option maxHeartbeats 1000000 in
set_option maxRecDepth 20000 in
theorem l_Ha_isSize_78 {p : Program} {l : Launch} {e : Env} {s : State} {m : MethodId} {args : Array Value} {below : List Frame} {meth : Method} {c : Code} {D : va_G} {ca G : Nat → Nat} {A : Nat → Prop} (C0 : hC p s m args meth c D ca G prog_1_method_21_code 2 (some .boolean) "ChannelHall" A) {post : Int32 → hM → Prop} {M : hM} {H : Heap} {locs : List Loc} {ls : Array Slot}  (h : wp_Ha_isSize_78 G ca post M) (hW : hw D wCl A M H) (hS : va_S A s.heap H locs) (hl : lv_has ls 2 []) : W p l e rm_Ha_isSize s m args below meth c H locs 0 0 (MQ below (va_Qi post (fun M' t => hw D wCl A M' t.heap) A) args s 0 0 A) (F0 m 78 ls []) := by
  obtain ⟨hx, hb, hr, hml, hown, hts, hlocks, hK, hA, hZ0⟩ := id C0
  refine lv_iconst (v := 0) hx hb d_Ha_isSize_78 (by decide) ?_
  exact l_Ha_isSize_79 C0 0 h hW hS (lv_sub hl [] rfl)
set_option maxHeartbeats 1000000 in
set_option maxRecDepth 20000 in
theorem l_Ha_isSize_59 {p : Program} {l : Launch} {e : Env} {s : State} {m : MethodId} {args : Array Value} {below : List Frame} {meth : Method} {c : Code} {D : va_G} {ca G : Nat → Nat} {A : Nat → Prop} (C0 : hC p s m args meth c D ca G prog_1_method_21_code 2 (some .boolean) "ChannelHall" A) {post : Int32 → hM → Prop} {M : hM} {H : Heap} {locs : List Loc} {ls : Array Slot} (s0b59 : Int32) (h : wp_Ha_isSize_59 G ca post M s0b59) (hW : hw D wCl A M H) (hS : va_S A s.heap H locs) (hl : lv_has ls 2 []) : W p l e rm_Ha_isSize s m args below meth c H locs 0 0 (MQ below (va_Qi post (fun M' t => hw D wCl A M' t.heap) A) args s 0 0 A) (F0 m 59 ls [.int s0b59]) := by
  obtain ⟨hx, hb, hr, hml, hown, hts, hlocks, hK, hA, hZ0⟩ := id C0
  obtain ⟨hz, h⟩ := h
  exact W.zret hx hb hr (nb_n hz) (fun t ht hWm => ⟨⟨_, _, rfl, h, hw_t ht hW⟩, hS.F ht⟩) hS.2.2 d_Ha_isSize_59
set_option maxHeartbeats 1000000 in
set_option maxRecDepth 20000 in
theorem l_Ha_isSize_58 {p : Program} {l : Launch} {e : Env} {s : State} {m : MethodId} {args : Array Value} {below : List Frame} {meth : Method} {c : Code} {D : va_G} {ca G : Nat → Nat} {A : Nat → Prop} (C0 : hC p s m args meth c D ca G prog_1_method_21_code 2 (some .boolean) "ChannelHall" A) {post : Int32 → hM → Prop} {M : hM} {H : Heap} {locs : List Loc} {ls : Array Slot}  (h : wp_Ha_isSize_58 G ca post M) (hW : hw D wCl A M H) (hS : va_S A s.heap H locs) (hl : lv_has ls 2 []) : W p l e rm_Ha_isSize s m args below meth c H locs 0 0 (MQ below (va_Qi post (fun M' t => hw D wCl A M' t.heap) A) args s 0 0 A) (F0 m 58 ls []) := by
  obtain ⟨hx, hb, hr, hml, hown, hts, hlocks, hK, hA, hZ0⟩ := id C0
  refine lv_iconst (v := 0) hx hb d_Ha_isSize_58 (by decide) ?_
  exact l_Ha_isSize_59 C0 0 h hW hS (lv_sub hl [] rfl)
set_option maxHeartbeats 1000000 in
set_option maxRecDepth 20000 in
theorem l_Ha_isSize_43 {p : Program} {l : Launch} {e : Env} {s : State} {m : MethodId} {args : Array Value} {below : List Frame} {meth : Method} {c : Code} {D : va_G} {ca G : Nat → Nat} {A : Nat → Prop} (C0 : hC p s m args meth c D ca G prog_1_method_21_code 2 (some .boolean) "ChannelHall" A) {post : Int32 → hM → Prop} {M : hM} {H : Heap} {locs : List Loc} {ls : Array Slot} (s0b43 : Int32) (h : wp_Ha_isSize_43 G ca post M s0b43) (hW : hw D wCl A M H) (hS : va_S A s.heap H locs) (hl : lv_has ls 2 []) : W p l e rm_Ha_isSize s m args below meth c H locs 0 0 (MQ below (va_Qi post (fun M' t => hw D wCl A M' t.heap) A) args s 0 0 A) (F0 m 43 ls [.int s0b43]) := by
  obtain ⟨hx, hb, hr, hml, hown, hts, hlocks, hK, hA, hZ0⟩ := id C0
  obtain ⟨hz, h⟩ := h
  exact W.zret hx hb hr (nb_n hz) (fun t ht hWm => ⟨⟨_, _, rfl, h, hw_t ht hW⟩, hS.F ht⟩) hS.2.2 d_Ha_isSize_43
set_option maxHeartbeats 1000000 in
set_option maxRecDepth 20000 in
theorem l_Ha_isSize_42 {p : Program} {l : Launch} {e : Env} {s : State} {m : MethodId} {args : Array Value} {below : List Frame} {meth : Method} {c : Code} {D : va_G} {ca G : Nat → Nat} {A : Nat → Prop} (C0 : hC p s m args meth c D ca G prog_1_method_21_code 2 (some .boolean) "ChannelHall" A) {post : Int32 → hM → Prop} {M : hM} {H : Heap} {locs : List Loc} {ls : Array Slot}  (h : wp_Ha_isSize_42 G ca post M) (hW : hw D wCl A M H) (hS : va_S A s.heap H locs) (hl : lv_has ls 2 []) : W p l e rm_Ha_isSize s m args below meth c H locs 0 0 (MQ below (va_Qi post (fun M' t => hw D wCl A M' t.heap) A) args s 0 0 A) (F0 m 42 ls []) := by
  obtain ⟨hx, hb, hr, hml, hown, hts, hlocks, hK, hA, hZ0⟩ := id C0
  refine lv_iconst (v := 0) hx hb d_Ha_isSize_42 (by decide) ?_
  exact l_Ha_isSize_43 C0 0 h hW hS (lv_sub hl [] rfl)
set_option maxHeartbeats 1000000 in
set_option maxRecDepth 20000 in
theorem l_Ha_isSize_e {p : Program} {l : Launch} {e : Env} {s : State} {m : MethodId} {args : Array Value} {below : List Frame} {meth : Method} {c : Code} {D : va_G} {ca G : Nat → Nat} {A : Nat → Prop} (C0 : hC p s m args meth c D ca G prog_1_method_21_code 2 (some .boolean) "ChannelHall" A) {post : Int32 → hM → Prop} {M : hM} {H : Heap} {locs : List Loc} {ls : Array Slot} (x0 : Int32) (x1 : Int32) (h : wp_Ha_isSize G ca post M x0 x1) (hW : hw D wCl A M H) (hS : va_S A s.heap H locs) (hl : lv_has ls 2 [(0, .int x0), (1, .int x1)]) : W p l e rm_Ha_isSize s m args below meth c H locs 0 0 (MQ below (va_Qi post (fun M' t => hw D wCl A M' t.heap) A) args s 0 0 A) (F0 m 0 ls []) := by
  obtain ⟨hx, hb, hr, hml, hown, hts, hlocks, hK, hA, hZ0⟩ := id C0
  refine lv_iload_n hx hb d_Ha_isSize_0 rfl (lv_at hl 0 rfl) ?_
  obtain ⟨h0, h1⟩ := h
  by_cases c0 : x0 = 0
  · have h := h0 c0
    rw [c0]
    refine lv_lookup (off := 27) (tgt := 28) hx hb d_Ha_isSize_1 (by decide) (by decide) (by decide) ?_
    refine lv_iload_n hx hb d_Ha_isSize_28 rfl (lv_at hl 1 rfl) ?_
    refine lv_iconst (v := 1) hx hb d_Ha_isSize_29 (by decide) ?_
    obtain ⟨h0, h1⟩ := h
    refine lv_icmp_lt (tgt := 42) hx hb d_Ha_isSize_30 (by decide) (fun c8 => ?_) (fun c8 => ?_)
    · have h := h0 c8
      exact l_Ha_isSize_42 C0  h hW hS (lv_sub hl [] rfl)
    · have h := h1 c8
      refine lv_iload_n hx hb d_Ha_isSize_33 rfl (lv_at hl 1 rfl) ?_
      refine lv_iconst (v := 4) hx hb d_Ha_isSize_34 (by decide) ?_
      obtain ⟨h0, h1⟩ := h
      refine lv_icmp_gt (tgt := 42) hx hb d_Ha_isSize_35 (by decide) (fun c9 => ?_) (fun c9 => ?_)
      · have h := h0 c9
        exact l_Ha_isSize_42 C0  h hW hS (lv_sub hl [] rfl)
      · have h := h1 c9
        refine lv_iconst (v := 1) hx hb d_Ha_isSize_38 (by decide) ?_
        refine lv_goto (tgt := 43) hx hb d_Ha_isSize_39 (by decide) ?_
        exact l_Ha_isSize_43 C0 1 h hW hS (lv_sub hl [] rfl)
  · have h := h1 c0
    obtain ⟨h0, h1⟩ := h
    by_cases c1 : x0 = 6
    · have h := h0 c1
      rw [c1]
      refine lv_lookup (off := 43) (tgt := 44) hx hb d_Ha_isSize_1 (by decide) (by decide) (by decide) ?_
      refine lv_iload_n hx hb d_Ha_isSize_44 rfl (lv_at hl 1 rfl) ?_
      refine lv_iconst (v := 2) hx hb d_Ha_isSize_45 (by decide) ?_
      obtain ⟨h0, h1⟩ := h
      refine lv_icmp_lt (tgt := 58) hx hb d_Ha_isSize_46 (by decide) (fun c10 => ?_) (fun c10 => ?_)
      · have h := h0 c10
        exact l_Ha_isSize_58 C0  h hW hS (lv_sub hl [] rfl)
      · have h := h1 c10
        refine lv_iload_n hx hb d_Ha_isSize_49 rfl (lv_at hl 1 rfl) ?_
        refine lv_iconst (v := 5) hx hb d_Ha_isSize_50 (by decide) ?_
        obtain ⟨h0, h1⟩ := h
        refine lv_icmp_gt (tgt := 58) hx hb d_Ha_isSize_51 (by decide) (fun c11 => ?_) (fun c11 => ?_)
        · have h := h0 c11
          exact l_Ha_isSize_58 C0  h hW hS (lv_sub hl [] rfl)
        · have h := h1 c11
          refine lv_iconst (v := 1) hx hb d_Ha_isSize_54 (by decide) ?_
          refine lv_goto (tgt := 59) hx hb d_Ha_isSize_55 (by decide) ?_
          exact l_Ha_isSize_59 C0 1 h hW hS (lv_sub hl [] rfl)
    · have h := h1 c1
      refine lv_lookup (off := 59) (tgt := 60) hx hb d_Ha_isSize_1 (by decide) ((lv_osw c0 (by decide)).trans ((lv_osw c1 (by decide)).trans rfl)) (by decide) ?_
      refine lv_iload_n hx hb d_Ha_isSize_60 rfl (lv_at hl 0 rfl) ?_
      obtain ⟨h0, h1⟩ := h
      refine lv_if_le (tgt := 78) hx hb d_Ha_isSize_61 (by decide) (fun c12 => ?_) (fun c12 => ?_)
      · have h := h0 c12
        exact l_Ha_isSize_78 C0  h hW hS (lv_sub hl [] rfl)
      · have h := h1 c12
        refine lv_iload_n hx hb d_Ha_isSize_64 rfl (lv_at hl 0 rfl) ?_
        refine lv_bipush (v := 6) hx hb d_Ha_isSize_65 (by decide) ?_
        obtain ⟨h0, h1⟩ := h
        refine lv_icmp_ge (tgt := 78) hx hb d_Ha_isSize_67 (by decide) (fun c13 => ?_) (fun c13 => ?_)
        · have h := h0 c13
          exact l_Ha_isSize_78 C0  h hW hS (lv_sub hl [] rfl)
        · have h := h1 c13
          refine lv_iload_n hx hb d_Ha_isSize_70 rfl (lv_at hl 1 rfl) ?_
          obtain ⟨h0, h1⟩ := h
          refine lv_if_ne (tgt := 78) hx hb d_Ha_isSize_71 (by decide) (fun c14 => ?_) (fun c14 => ?_)
          · have h := h0 c14
            exact l_Ha_isSize_78 C0  h hW hS (lv_sub hl [] rfl)
          · have h := h1 c14
            refine lv_iconst (v := 1) hx hb d_Ha_isSize_74 (by decide) ?_
            refine lv_goto (tgt := 79) hx hb d_Ha_isSize_75 (by decide) ?_
            exact l_Ha_isSize_79 C0 1 h hW hS (lv_sub hl [] rfl)
set_option maxRecDepth 20000 in
theorem c_Ha_isSize {l : Launch} {D : va_G} {ca G : Nat → Nat} (post : Int32 → hM → Prop) {M : hM} {sz : Nat} {x0 : Int32} {x1 : Int32} (h : wp_Ha_isSize G ca post M x0 x1) : Met l y_Ha_isSize (wz y_Ha_isSize prog_1_method_21_code 2 (some .boolean)) rm_Ha_isSize (va_Pc [.int x0, .int x1] (hI D ca G sz M)) (va_Qi post (hB D M sz) (hp_A M sz)) 0 0 (hp_A M sz) := by
  refine Met.ofW (cc := prog_1_method_21_code) (maxL := 2) (ret := some .boolean) (by decide) rfl ?_
  intro p e s m args below meth c s₁ B hml hv
  obtain ⟨rfl, hsz, hW, hK, hZ0⟩ := hv
  have hts := fun w hw => atoms_spec (ws := wz y_Ha_isSize prog_1_method_21_code 2 (some .boolean)) B.pre w (List.mem_cons_of_mem _ hw)
  have hown : s.vm.findClass "ChannelHall" = some m.cls := findClass_of_methodNamed B.named
  subst hsz
  have hl := lv_entry [.int x0, .int x1] (n := 2) (Nat.le_of_ble_eq_true rfl)
  rw [lg_entry_eq]
  exact l_Ha_isSize_e ⟨B.exec, B.bytes, B.returns, hml, hown, hts, B.notSynchronized, hK, fun q h => Or.inr h, hZ0⟩ x0 x1 h hW va_S.rf hl

theorem d_Al_size_0 : decode prog_30_method_8_code 0 = .ok (.aload_n 0, 1) := by decide +kernel
theorem d_Al_size_1 : decode prog_30_method_8_code 1 = .ok (.getfield 48, 3) := by decide +kernel
theorem d_Al_size_4 : decode prog_30_method_8_code 4 = .ok (.ireturn, 1) := by decide +kernel
def y_Al_size : MethodName := ⟨"java/util/ArrayList", "size", "()I"⟩
abbrev rm_Al_size : Room := { frames := 0, cells := 0, slots := 0, locals := 0 }
def wp_Al_size (G ca : Nat → Nat) (post : Int32 → hM → Prop) (M : hM) (a0 : Nat) : Prop := gI M a0 4 1 fun v2 => post v2 M
set_option maxHeartbeats 1000000 in
set_option maxRecDepth 20000 in
theorem l_Al_size_e {p : Program} {l : Launch} {e : Env} {s : State} {m : MethodId} {args : Array Value} {below : List Frame} {meth : Method} {c : Code} {D : va_G} {ca G : Nat → Nat} {A : Nat → Prop} (C0 : hC p s m args meth c D ca G prog_30_method_8_code 1 (some .int) "java/util/ArrayList" A) {post : Int32 → hM → Prop} {M : hM} {H : Heap} {locs : List Loc} {ls : Array Slot} (a0 : Nat) (h : wp_Al_size G ca post M a0) (hW : hw D wCl A M H) (hS : va_S A s.heap H locs) (hl : lv_has ls 1 [(0, .ref a0)]) : W p l e rm_Al_size s m args below meth c H locs 0 0 (MQ below (va_Qi post (fun M' t => hw D wCl A M' t.heap) A) args s 0 0 A) (F0 m 0 ls []) := by
  obtain ⟨hx, hb, hr, hml, hown, hts, hlocks, hK, hA, hZ0⟩ := id C0
  refine lv_aload_n hx hb d_Al_size_0 rfl (lv_at hl 0 rfl) ?_
  obtain ⟨fs, v2, h1, h2, h⟩ := h
  refine va_get (D := D) (ci := 4) (v := .int v2) (C := "java/util/ArrayList") (T := TAl) (N := 3) hx hb hts uAl hown hK (hw_one hW h1) 0 rfl rfl 1 (by decide) (hts _ bw_237) (fun _ h9 => h9) h2 d_Al_size_1 ?_
  exact W.iret hx hb hr (fun t ht hWm => ⟨⟨_, _, rfl, h, hw_t ht hW⟩, hS.F ht⟩) hS.2.2 d_Al_size_4
set_option maxRecDepth 20000 in
theorem c_Al_size {l : Launch} {D : va_G} {ca G : Nat → Nat} (post : Int32 → hM → Prop) {M : hM} {sz : Nat} {a0 : Nat} (h : wp_Al_size G ca post M a0) : Met l y_Al_size (wz y_Al_size prog_30_method_8_code 1 (some .int)) rm_Al_size (va_Pc [.ref a0] (hI D ca G sz M)) (va_Qi post (hB D M sz) (hp_A M sz)) 0 0 (hp_A M sz) := by
  refine Met.ofW (cc := prog_30_method_8_code) (maxL := 1) (ret := some .int) (by decide) rfl ?_
  intro p e s m args below meth c s₁ B hml hv
  obtain ⟨rfl, hsz, hW, hK, hZ0⟩ := hv
  have hts := fun w hw => atoms_spec (ws := wz y_Al_size prog_30_method_8_code 1 (some .int)) B.pre w (List.mem_cons_of_mem _ hw)
  have hown : s.vm.findClass "java/util/ArrayList" = some m.cls := findClass_of_methodNamed B.named
  subst hsz
  have hl := lv_entry [.ref a0] (n := 1) (Nat.le_of_ble_eq_true rfl)
  rw [lg_entry_eq]
  exact l_Al_size_e ⟨B.exec, B.bytes, B.returns, hml, hown, hts, B.notSynchronized, hK, fun q h => Or.inr h, hZ0⟩ a0 h hW va_S.rf hl

theorem d_Al_isEmpty_0 : decode prog_30_method_9_code 0 = .ok (.aload_n 0, 1) := by decide +kernel
theorem d_Al_isEmpty_1 : decode prog_30_method_9_code 1 = .ok (.getfield 48, 3) := by decide +kernel
theorem d_Al_isEmpty_4 : decode prog_30_method_9_code 4 = .ok (.ifCond .ne 7, 3) := by decide +kernel
theorem d_Al_isEmpty_7 : decode prog_30_method_9_code 7 = .ok (.iconst 1, 1) := by decide +kernel
theorem d_Al_isEmpty_8 : decode prog_30_method_9_code 8 = .ok (.goto 4, 3) := by decide +kernel
theorem d_Al_isEmpty_11 : decode prog_30_method_9_code 11 = .ok (.iconst 0, 1) := by decide +kernel
theorem d_Al_isEmpty_12 : decode prog_30_method_9_code 12 = .ok (.ireturn, 1) := by decide +kernel
def y_Al_isEmpty : MethodName := ⟨"java/util/ArrayList", "isEmpty", "()Z"⟩
abbrev rm_Al_isEmpty : Room := { frames := 0, cells := 0, slots := 0, locals := 0 }
def wp_Al_isEmpty_12 (G ca : Nat → Nat) (post : Int32 → hM → Prop) (M : hM) (s0b12 : Int32) : Prop := bZ s0b12 (post s0b12 M)
def wp_Al_isEmpty (G ca : Nat → Nat) (post : Int32 → hM → Prop) (M : hM) (a0 : Nat) : Prop := gI M a0 4 1 fun v3 => (¬ v3 = 0 → wp_Al_isEmpty_12 G ca post M 0) ∧ (v3 = 0 → wp_Al_isEmpty_12 G ca post M 1)
set_option maxHeartbeats 1000000 in
set_option maxRecDepth 20000 in
theorem l_Al_isEmpty_12 {p : Program} {l : Launch} {e : Env} {s : State} {m : MethodId} {args : Array Value} {below : List Frame} {meth : Method} {c : Code} {D : va_G} {ca G : Nat → Nat} {A : Nat → Prop} (C0 : hC p s m args meth c D ca G prog_30_method_9_code 1 (some .boolean) "java/util/ArrayList" A) {post : Int32 → hM → Prop} {M : hM} {H : Heap} {locs : List Loc} {ls : Array Slot} (s0b12 : Int32) (h : wp_Al_isEmpty_12 G ca post M s0b12) (hW : hw D wCl A M H) (hS : va_S A s.heap H locs) (hl : lv_has ls 1 []) : W p l e rm_Al_isEmpty s m args below meth c H locs 0 0 (MQ below (va_Qi post (fun M' t => hw D wCl A M' t.heap) A) args s 0 0 A) (F0 m 12 ls [.int s0b12]) := by
  obtain ⟨hx, hb, hr, hml, hown, hts, hlocks, hK, hA, hZ0⟩ := id C0
  obtain ⟨hz, h⟩ := h
  exact W.zret hx hb hr (nb_n hz) (fun t ht hWm => ⟨⟨_, _, rfl, h, hw_t ht hW⟩, hS.F ht⟩) hS.2.2 d_Al_isEmpty_12
set_option maxHeartbeats 1000000 in
set_option maxRecDepth 20000 in
theorem l_Al_isEmpty_e {p : Program} {l : Launch} {e : Env} {s : State} {m : MethodId} {args : Array Value} {below : List Frame} {meth : Method} {c : Code} {D : va_G} {ca G : Nat → Nat} {A : Nat → Prop} (C0 : hC p s m args meth c D ca G prog_30_method_9_code 1 (some .boolean) "java/util/ArrayList" A) {post : Int32 → hM → Prop} {M : hM} {H : Heap} {locs : List Loc} {ls : Array Slot} (a0 : Nat) (h : wp_Al_isEmpty G ca post M a0) (hW : hw D wCl A M H) (hS : va_S A s.heap H locs) (hl : lv_has ls 1 [(0, .ref a0)]) : W p l e rm_Al_isEmpty s m args below meth c H locs 0 0 (MQ below (va_Qi post (fun M' t => hw D wCl A M' t.heap) A) args s 0 0 A) (F0 m 0 ls []) := by
  obtain ⟨hx, hb, hr, hml, hown, hts, hlocks, hK, hA, hZ0⟩ := id C0
  refine lv_aload_n hx hb d_Al_isEmpty_0 rfl (lv_at hl 0 rfl) ?_
  obtain ⟨fs, v3, h1, h2, h⟩ := h
  refine va_get (D := D) (ci := 4) (v := .int v3) (C := "java/util/ArrayList") (T := TAl) (N := 3) hx hb hts uAl hown hK (hw_one hW h1) 0 rfl rfl 1 (by decide) (hts _ bw_237) (fun _ h9 => h9) h2 d_Al_isEmpty_1 ?_
  obtain ⟨h0, h1⟩ := h
  refine lv_if_ne (tgt := 11) hx hb d_Al_isEmpty_4 (by decide) (fun c4 => ?_) (fun c4 => ?_)
  · have h := h0 c4
    refine lv_iconst (v := 0) hx hb d_Al_isEmpty_11 (by decide) ?_
    exact l_Al_isEmpty_12 C0 0 h hW hS (lv_sub hl [] rfl)
  · have h := h1 c4
    refine lv_iconst (v := 1) hx hb d_Al_isEmpty_7 (by decide) ?_
    refine lv_goto (tgt := 12) hx hb d_Al_isEmpty_8 (by decide) ?_
    exact l_Al_isEmpty_12 C0 1 h hW hS (lv_sub hl [] rfl)
set_option maxRecDepth 20000 in
theorem c_Al_isEmpty {l : Launch} {D : va_G} {ca G : Nat → Nat} (post : Int32 → hM → Prop) {M : hM} {sz : Nat} {a0 : Nat} (h : wp_Al_isEmpty G ca post M a0) : Met l y_Al_isEmpty (wz y_Al_isEmpty prog_30_method_9_code 1 (some .boolean)) rm_Al_isEmpty (va_Pc [.ref a0] (hI D ca G sz M)) (va_Qi post (hB D M sz) (hp_A M sz)) 0 0 (hp_A M sz) := by
  refine Met.ofW (cc := prog_30_method_9_code) (maxL := 1) (ret := some .boolean) (by decide) rfl ?_
  intro p e s m args below meth c s₁ B hml hv
  obtain ⟨rfl, hsz, hW, hK, hZ0⟩ := hv
  have hts := fun w hw => atoms_spec (ws := wz y_Al_isEmpty prog_30_method_9_code 1 (some .boolean)) B.pre w (List.mem_cons_of_mem _ hw)
  have hown : s.vm.findClass "java/util/ArrayList" = some m.cls := findClass_of_methodNamed B.named
  subst hsz
  have hl := lv_entry [.ref a0] (n := 1) (Nat.le_of_ble_eq_true rfl)
  rw [lg_entry_eq]
  exact l_Al_isEmpty_e ⟨B.exec, B.bytes, B.returns, hml, hown, hts, B.notSynchronized, hK, fun q h => Or.inr h, hZ0⟩ a0 h hW va_S.rf hl

theorem d_Ha_time_0 : decode prog_1_method_15_code 0 = .ok (.aload_n 0, 1) := by decide +kernel
theorem d_Ha_time_1 : decode prog_1_method_15_code 1 = .ok (.getfield 25, 3) := by decide +kernel
theorem d_Ha_time_4 : decode prog_1_method_15_code 4 = .ok (.dreturn, 1) := by decide +kernel
def y_Ha_time : MethodName := ⟨"ChannelHall", "time", "()D"⟩
abbrev rm_Ha_time : Room := { frames := 0, cells := 0, slots := 0, locals := 0 }
def wp_Ha_time (G ca : Nat → Nat) (post : UInt64 → hM → Prop) (M : hM) (a0 : Nat) : Prop := gD M a0 3 3 fun v2 => post v2 M
set_option maxHeartbeats 1000000 in
set_option maxRecDepth 20000 in
theorem l_Ha_time_e {p : Program} {l : Launch} {e : Env} {s : State} {m : MethodId} {args : Array Value} {below : List Frame} {meth : Method} {c : Code} {D : va_G} {ca G : Nat → Nat} {A : Nat → Prop} (C0 : hC p s m args meth c D ca G prog_1_method_15_code 1 (some .double) "ChannelHall" A) {post : UInt64 → hM → Prop} {M : hM} {H : Heap} {locs : List Loc} {ls : Array Slot} (a0 : Nat) (h : wp_Ha_time G ca post M a0) (hW : hw D wCl A M H) (hS : va_S A s.heap H locs) (hl : lv_has ls 1 [(0, .ref a0)]) : W p l e rm_Ha_time s m args below meth c H locs 0 0 (MQ below (va_Qd post (fun M' t => hw D wCl A M' t.heap) A) args s 0 0 A) (F0 m 0 ls []) := by
  obtain ⟨hx, hb, hr, hml, hown, hts, hlocks, hK, hA, hZ0⟩ := id C0
  refine lv_aload_n hx hb d_Ha_time_0 rfl (lv_at hl 0 rfl) ?_
  obtain ⟨fs, v2, h1, h2, h⟩ := h
  refine va_get (D := D) (ci := 3) (v := .double v2) (C := "ChannelHall") (T := THa) (N := 4) hx hb hts uHa hown hK (hw_one hW h1) 0 rfl rfl 3 (by decide) (hts _ bw_103) (fun _ h9 => h9) h2 d_Ha_time_1 ?_
  exact W.dret hx hb hr (fun t ht hWm => ⟨⟨_, _, rfl, h, hw_t ht hW⟩, hS.F ht⟩) hS.2.2 d_Ha_time_4
set_option maxRecDepth 20000 in
theorem c_Ha_time {l : Launch} {D : va_G} {ca G : Nat → Nat} (post : UInt64 → hM → Prop) {M : hM} {sz : Nat} {a0 : Nat} (h : wp_Ha_time G ca post M a0) : Met l y_Ha_time (wz y_Ha_time prog_1_method_15_code 1 (some .double)) rm_Ha_time (va_Pc [.ref a0] (hI D ca G sz M)) (va_Qd post (hB D M sz) (hp_A M sz)) 0 0 (hp_A M sz) := by
  refine Met.ofW (cc := prog_1_method_15_code) (maxL := 1) (ret := some .double) (by decide) rfl ?_
  intro p e s m args below meth c s₁ B hml hv
  obtain ⟨rfl, hsz, hW, hK, hZ0⟩ := hv
  have hts := fun w hw => atoms_spec (ws := wz y_Ha_time prog_1_method_15_code 1 (some .double)) B.pre w (List.mem_cons_of_mem _ hw)
  have hown : s.vm.findClass "ChannelHall" = some m.cls := findClass_of_methodNamed B.named
  subst hsz
  have hl := lv_entry [.ref a0] (n := 1) (Nat.le_of_ble_eq_true rfl)
  rw [lg_entry_eq]
  exact l_Ha_time_e ⟨B.exec, B.bytes, B.returns, hml, hown, hts, B.notSynchronized, hK, fun q h => Or.inr h, hZ0⟩ a0 h hW va_S.rf hl

theorem d_Ch_keyOf_0 : decode prog_2_method_4_code 0 = .ok (.aload_n 0, 1) := by decide +kernel
theorem d_Ch_keyOf_1 : decode prog_2_method_4_code 1 = .ok (.getfield 39, 3) := by decide +kernel
theorem d_Ch_keyOf_4 : decode prog_2_method_4_code 4 = .ok (.lookupswitch 45 #[(3, 28), (4, 31)], 28) := by decide +kernel
theorem d_Ch_keyOf_32 : decode prog_2_method_4_code 32 = .ok (.dload_n 1, 1) := by decide +kernel
theorem d_Ch_keyOf_33 : decode prog_2_method_4_code 33 = .ok (.dneg, 1) := by decide +kernel
theorem d_Ch_keyOf_34 : decode prog_2_method_4_code 34 = .ok (.dreturn, 1) := by decide +kernel
theorem d_Ch_keyOf_35 : decode prog_2_method_4_code 35 = .ok (.dload_n 3, 1) := by decide +kernel
theorem d_Ch_keyOf_36 : decode prog_2_method_4_code 36 = .ok (.dload_n 1, 1) := by decide +kernel
theorem d_Ch_keyOf_37 : decode prog_2_method_4_code 37 = .ok (.dconst 0, 1) := by decide +kernel
theorem d_Ch_keyOf_38 : decode prog_2_method_4_code 38 = .ok (.dcmp .g, 1) := by decide +kernel
theorem d_Ch_keyOf_39 : decode prog_2_method_4_code 39 = .ok (.ifCond .ge 7, 3) := by decide +kernel
theorem d_Ch_keyOf_42 : decode prog_2_method_4_code 42 = .ok (.dconst 0, 1) := by decide +kernel
theorem d_Ch_keyOf_43 : decode prog_2_method_4_code 43 = .ok (.goto 4, 3) := by decide +kernel
theorem d_Ch_keyOf_46 : decode prog_2_method_4_code 46 = .ok (.dload_n 1, 1) := by decide +kernel
theorem d_Ch_keyOf_47 : decode prog_2_method_4_code 47 = .ok (.dadd, 1) := by decide +kernel
theorem d_Ch_keyOf_48 : decode prog_2_method_4_code 48 = .ok (.dreturn, 1) := by decide +kernel
theorem d_Ch_keyOf_49 : decode prog_2_method_4_code 49 = .ok (.dconst 0, 1) := by decide +kernel
theorem d_Ch_keyOf_50 : decode prog_2_method_4_code 50 = .ok (.dreturn, 1) := by decide +kernel
def y_Ch_keyOf : MethodName := ⟨"ChannelHall$Channel", "keyOf", "(DD)D"⟩
abbrev rm_Ch_keyOf : Room := { frames := 0, cells := 0, slots := 0, locals := 0 }
def wp_Ch_keyOf_47 (G ca : Nat → Nat) (post : UInt64 → hM → Prop) (M : hM) (s0b47 : UInt64) (s1b47 : UInt64) : Prop := nD (FP.dadd s1b47 s0b47) (post (FP.dadd s1b47 s0b47) M)
def wp_Ch_keyOf (G ca : Nat → Nat) (post : UInt64 → hM → Prop) (M : hM) (a0 : Nat) (x1 : UInt64) (x3 : UInt64) : Prop := gI M a0 0 1 fun v3 => (v3 = 3 → post (FP.dneg x1) M) ∧ (¬ v3 = 3 → (v3 = 4 → (0 ≤ (Op.cmpValue (FP.dcmp x1 FP.dconst0) .g) → wp_Ch_keyOf_47 G ca post M x1 x3) ∧ (¬ 0 ≤ (Op.cmpValue (FP.dcmp x1 FP.dconst0) .g) → wp_Ch_keyOf_47 G ca post M FP.dconst0 x3)) ∧ (¬ v3 = 4 → post FP.dconst0 M))
set_option maxHeartbeats 1000000 in
set_option maxRecDepth 20000 in
theorem l_Ch_keyOf_47 {p : Program} {l : Launch} {e : Env} {s : State} {m : MethodId} {args : Array Value} {below : List Frame} {meth : Method} {c : Code} {D : va_G} {ca G : Nat → Nat} {A : Nat → Prop} (C0 : hC p s m args meth c D ca G prog_2_method_4_code 5 (some .double) "ChannelHall$Channel" A) {post : UInt64 → hM → Prop} {M : hM} {H : Heap} {locs : List Loc} {ls : Array Slot} (s0b47 : UInt64) (s1b47 : UInt64) (h : wp_Ch_keyOf_47 G ca post M s0b47 s1b47) (hW : hw D wCl A M H) (hS : va_S A s.heap H locs) (hl : lv_has ls 5 []) : W p l e rm_Ch_keyOf s m args below meth c H locs 0 0 (MQ below (va_Qd post (fun M' t => hw D wCl A M' t.heap) A) args s 0 0 A) (F0 m 47 ls [.double s0b47, .double s1b47]) := by
  obtain ⟨hx, hb, hr, hml, hown, hts, hlocks, hK, hA, hZ0⟩ := id C0
  obtain ⟨hn, h⟩ := h
  refine lv_dadd hx hb d_Ch_keyOf_47 hn ?_
  exact W.dret hx hb hr (fun t ht hWm => ⟨⟨_, _, rfl, h, hw_t ht hW⟩, hS.F ht⟩) hS.2.2 d_Ch_keyOf_48
set_option maxHeartbeats 1000000 in
set_option maxRecDepth 20000 in
theorem l_Ch_keyOf_e {p : Program} {l : Launch} {e : Env} {s : State} {m : MethodId} {args : Array Value} {below : List Frame} {meth : Method} {c : Code} {D : va_G} {ca G : Nat → Nat} {A : Nat → Prop} (C0 : hC p s m args meth c D ca G prog_2_method_4_code 5 (some .double) "ChannelHall$Channel" A) {post : UInt64 → hM → Prop} {M : hM} {H : Heap} {locs : List Loc} {ls : Array Slot} (a0 : Nat) (x1 : UInt64) (x3 : UInt64) (h : wp_Ch_keyOf G ca post M a0 x1 x3) (hW : hw D wCl A M H) (hS : va_S A s.heap H locs) (hl : lv_has ls 5 [(0, .ref a0), (1, .double x1), (3, .double x3)]) : W p l e rm_Ch_keyOf s m args below meth c H locs 0 0 (MQ below (va_Qd post (fun M' t => hw D wCl A M' t.heap) A) args s 0 0 A) (F0 m 0 ls []) := by
  obtain ⟨hx, hb, hr, hml, hown, hts, hlocks, hK, hA, hZ0⟩ := id C0
  refine lv_aload_n hx hb d_Ch_keyOf_0 rfl (lv_at hl 0 rfl) ?_
  obtain ⟨fs, v3, h1, h2, h⟩ := h
  refine va_get (D := D) (ci := 0) (v := .int v3) (C := "ChannelHall$Channel") (T := TCh) (N := 10) hx hb hts uCh hown hK (hw_one hW h1) 0 rfl rfl 1 (by decide) (hts _ bw_253) (fun _ h9 => h9) h2 d_Ch_keyOf_1 ?_
  obtain ⟨h0, h1⟩ := h
  by_cases c0 : v3 = 3
  · have h := h0 c0
    rw [c0]
    refine lv_lookup (off := 28) (tgt := 32) hx hb d_Ch_keyOf_4 (by decide) (by decide) (by decide) ?_
    refine lv_dload_n hx hb d_Ch_keyOf_32 rfl (lv_at hl 1 rfl) ?_
    refine lv_dneg hx hb d_Ch_keyOf_33 ?_
    exact W.dret hx hb hr (fun t ht hWm => ⟨⟨_, _, rfl, h, hw_t ht hW⟩, hS.F ht⟩) hS.2.2 d_Ch_keyOf_34
  · have h := h1 c0
    obtain ⟨h0, h1⟩ := h
    by_cases c1 : v3 = 4
    · have h := h0 c1
      rw [c1]
      refine lv_lookup (off := 31) (tgt := 35) hx hb d_Ch_keyOf_4 (by decide) (by decide) (by decide) ?_
      refine lv_dload_n hx hb d_Ch_keyOf_35 rfl (lv_at hl 2 rfl) ?_
      refine lv_dload_n hx hb d_Ch_keyOf_36 rfl (lv_at hl 1 rfl) ?_
      refine lv_dconst0 hx hb d_Ch_keyOf_37 ?_
      refine lv_dcmp hx hb d_Ch_keyOf_38 ?_
      obtain ⟨h0, h1⟩ := h
      refine lv_if_ge (tgt := 46) hx hb d_Ch_keyOf_39 (by decide) (fun c4 => ?_) (fun c4 => ?_)
      · have h := h0 c4
        refine lv_dload_n hx hb d_Ch_keyOf_46 rfl (lv_at hl 1 rfl) ?_
        exact l_Ch_keyOf_47 C0 x1 x3 h hW hS (lv_sub hl [] rfl)
      · have h := h1 c4
        refine lv_dconst0 hx hb d_Ch_keyOf_42 ?_
        refine lv_goto (tgt := 47) hx hb d_Ch_keyOf_43 (by decide) ?_
        exact l_Ch_keyOf_47 C0 FP.dconst0 x3 h hW hS (lv_sub hl [] rfl)
    · have h := h1 c1
      refine lv_lookup (off := 45) (tgt := 49) hx hb d_Ch_keyOf_4 (by decide) ((lv_osw c0 (by decide)).trans ((lv_osw c1 (by decide)).trans rfl)) (by decide) ?_
      refine lv_dconst0 hx hb d_Ch_keyOf_49 ?_
      exact W.dret hx hb hr (fun t ht hWm => ⟨⟨_, _, rfl, h, hw_t ht hW⟩, hS.F ht⟩) hS.2.2 d_Ch_keyOf_50
set_option maxRecDepth 20000 in
theorem c_Ch_keyOf {l : Launch} {D : va_G} {ca G : Nat → Nat} (post : UInt64 → hM → Prop) {M : hM} {sz : Nat} {a0 : Nat} {x1 : UInt64} {x3 : UInt64} (h : wp_Ch_keyOf G ca post M a0 x1 x3) : Met l y_Ch_keyOf (wz y_Ch_keyOf prog_2_method_4_code 5 (some .double)) rm_Ch_keyOf (va_Pc [.ref a0, .double x1, .double x3] (hI D ca G sz M)) (va_Qd post (hB D M sz) (hp_A M sz)) 0 0 (hp_A M sz) := by
  refine Met.ofW (cc := prog_2_method_4_code) (maxL := 5) (ret := some .double) (by decide) rfl ?_
  intro p e s m args below meth c s₁ B hml hv
  obtain ⟨rfl, hsz, hW, hK, hZ0⟩ := hv
  have hts := fun w hw => atoms_spec (ws := wz y_Ch_keyOf prog_2_method_4_code 5 (some .double)) B.pre w (List.mem_cons_of_mem _ hw)
  have hown : s.vm.findClass "ChannelHall$Channel" = some m.cls := findClass_of_methodNamed B.named
  subst hsz
  have hl := lv_entry [.ref a0, .double x1, .double x3] (n := 5) (Nat.le_of_ble_eq_true rfl)
  rw [lg_entry_eq]
  exact l_Ch_keyOf_e ⟨B.exec, B.bytes, B.returns, hml, hown, hts, B.notSynchronized, hK, fun q h => Or.inr h, hZ0⟩ a0 x1 x3 h hW va_S.rf hl

theorem d_Wo_init_0 : decode prog_5_method_1_code 0 = .ok (.aload_n 0, 1) := by decide +kernel
theorem d_Wo_init_1 : decode prog_5_method_1_code 1 = .ok (.invokespecial 3, 3) := by decide +kernel
theorem d_Wo_init_4 : decode prog_5_method_1_code 4 = .ok (.aload_n 0, 1) := by decide +kernel
theorem d_Wo_init_5 : decode prog_5_method_1_code 5 = .ok (.iconst 0, 1) := by decide +kernel
theorem d_Wo_init_6 : decode prog_5_method_1_code 6 = .ok (.putfield 9, 3) := by decide +kernel
theorem d_Wo_init_9 : decode prog_5_method_1_code 9 = .ok (.aload_n 0, 1) := by decide +kernel
theorem d_Wo_init_10 : decode prog_5_method_1_code 10 = .ok (.iconst (-1), 1) := by decide +kernel
theorem d_Wo_init_11 : decode prog_5_method_1_code 11 = .ok (.putfield 15, 3) := by decide +kernel
theorem d_Wo_init_14 : decode prog_5_method_1_code 14 = .ok (.aload_n 0, 1) := by decide +kernel
theorem d_Wo_init_15 : decode prog_5_method_1_code 15 = .ok (.iconst 0, 1) := by decide +kernel
theorem d_Wo_init_16 : decode prog_5_method_1_code 16 = .ok (.putfield 19, 3) := by decide +kernel
theorem d_Wo_init_19 : decode prog_5_method_1_code 19 = .ok (.aload_n 0, 1) := by decide +kernel
theorem d_Wo_init_20 : decode prog_5_method_1_code 20 = .ok (.iconst 0, 1) := by decide +kernel
theorem d_Wo_init_21 : decode prog_5_method_1_code 21 = .ok (.putfield 22, 3) := by decide +kernel
theorem d_Wo_init_24 : decode prog_5_method_1_code 24 = .ok (.aload_n 0, 1) := by decide +kernel
theorem d_Wo_init_25 : decode prog_5_method_1_code 25 = .ok (.aconst_null, 1) := by decide +kernel
theorem d_Wo_init_26 : decode prog_5_method_1_code 26 = .ok (.putfield 25, 3) := by decide +kernel
theorem d_Wo_init_29 : decode prog_5_method_1_code 29 = .ok (.aload_n 0, 1) := by decide +kernel
theorem d_Wo_init_30 : decode prog_5_method_1_code 30 = .ok (.getstatic 29, 3) := by decide +kernel
theorem d_Wo_init_33 : decode prog_5_method_1_code 33 = .ok (.putfield 35, 3) := by decide +kernel
theorem d_Wo_init_36 : decode prog_5_method_1_code 36 = .ok (.aload_n 0, 1) := by decide +kernel
theorem d_Wo_init_37 : decode prog_5_method_1_code 37 = .ok (.iconst 0, 1) := by decide +kernel
theorem d_Wo_init_38 : decode prog_5_method_1_code 38 = .ok (.putfield 38, 3) := by decide +kernel
theorem d_Wo_init_41 : decode prog_5_method_1_code 41 = .ok (.aload_n 0, 1) := by decide +kernel
theorem d_Wo_init_42 : decode prog_5_method_1_code 42 = .ok (.dconst 0, 1) := by decide +kernel
theorem d_Wo_init_43 : decode prog_5_method_1_code 43 = .ok (.putfield 41, 3) := by decide +kernel
theorem d_Wo_init_46 : decode prog_5_method_1_code 46 = .ok (.aload_n 0, 1) := by decide +kernel
theorem d_Wo_init_47 : decode prog_5_method_1_code 47 = .ok (.iconst 0, 1) := by decide +kernel
theorem d_Wo_init_48 : decode prog_5_method_1_code 48 = .ok (.putfield 45, 3) := by decide +kernel
theorem d_Wo_init_51 : decode prog_5_method_1_code 51 = .ok (.aload_n 0, 1) := by decide +kernel
theorem d_Wo_init_52 : decode prog_5_method_1_code 52 = .ok (.dconst 0, 1) := by decide +kernel
theorem d_Wo_init_53 : decode prog_5_method_1_code 53 = .ok (.putfield 48, 3) := by decide +kernel
theorem d_Wo_init_56 : decode prog_5_method_1_code 56 = .ok (.aload_n 0, 1) := by decide +kernel
theorem d_Wo_init_57 : decode prog_5_method_1_code 57 = .ok (.iload_n 1, 1) := by decide +kernel
theorem d_Wo_init_58 : decode prog_5_method_1_code 58 = .ok (.putfield 51, 3) := by decide +kernel
theorem d_Wo_init_61 : decode prog_5_method_1_code 61 = .ok (.return_, 1) := by decide +kernel
def y_Wo_init : MethodName := ⟨"ChannelHall$Worker", "<init>", "(I)V"⟩
abbrev rm_Wo_init : Room := { frames := 1, cells := 0, slots := 0, locals := 12 }
def wp_Wo_init (G ca : Nat → Nat) (post : hM → Prop) (M : hM) (a0 : Nat) (x1 : Int32) : Prop := pF M a0 2 1 (.int 0) fun M12 => pF M12 a0 2 2 (.int (-1)) fun M13 => pF M13 a0 2 3 (.int 0) fun M14 => pF M14 a0 2 4 (.int 0) fun M15 => pF M15 a0 2 5 (.null) fun M16 => pF M16 a0 2 6 (.ref (G 2)) fun M17 => pF M17 a0 2 7 (.int 0) fun M18 => pF M18 a0 2 8 (.double FP.dconst0) fun M19 => pF M19 a0 2 9 (.int 0) fun M20 => pF M20 a0 2 10 (.double FP.dconst0) fun M21 => pF M21 a0 2 0 (.int x1) fun M22 => post M22
set_option maxHeartbeats 1000000 in
set_option maxRecDepth 20000 in
theorem l_Wo_init_e {p : Program} {l : Launch} {e : Env} {s : State} {m : MethodId} {args : Array Value} {below : List Frame} {meth : Method} {c : Code} {D : va_G} {ca G : Nat → Nat} {A : Nat → Prop} (C0 : hC p s m args meth c D ca G prog_5_method_1_code 2 (none) "ChannelHall$Worker" A) (hin : meth.name = "<init>") {post : hM → Prop} {M : hM} {H : Heap} {locs : List Loc} {ls : Array Slot} (a0 : Nat) (x1 : Int32) (h : wp_Wo_init G ca post M a0 x1) (hW : hw D wCl A M H) (hS : va_S A s.heap H locs) (hl : lv_has ls 2 [(0, .ref a0), (1, .int x1)]) : W p l e rm_Wo_init s m args below meth c H locs 0 0 (MQ below (va_Qv post (fun M' t => hw D wCl A M' t.heap) A) args s 0 0 A) (F0 m 0 ls []) := by
  obtain ⟨hx, hb, hr, hml, hown, hts, hlocks, hK, hA, hZ0⟩ := id C0
  refine lv_aload_n hx hb d_Wo_init_0 rfl (lv_at hl 0 rfl) ?_
  refine W.objInit (rest := []) hx hb hown (hts _ bw_48) (hts _ bw_38) (hts _ bw_39) rfl (hl.1.trans hml.symm) rfl d_Wo_init_1 (Nat.le_of_ble_eq_true rfl) (Nat.le_of_ble_eq_true rfl) ?_
  refine W.eq (g2 := F0 m 4 ls []) rfl ?_
  refine lv_aload_n hx hb d_Wo_init_4 rfl (lv_at hl 0 rfl) ?_
  refine lv_iconst (v := 0) hx hb d_Wo_init_5 (by decide) ?_
  obtain ⟨fs, h1, h2, h⟩ := h
  obtain ⟨ws, q0, hq, hP, hD, hback, -⟩ := hw_open hW h1
  refine va_put (D := D) (ci := 2) (v := .int 0) (ty := .boolean) (C := "ChannelHall$Worker") (T := TWo) (N := 11) hx hb hts uWo tWo tWo_ok nWo hown hK hP hD hS q0 hq rfl 1 (by decide) (hts _ bw_53) (fun _ h9 => h9) rfl (by decide +kernel) (by decide) (by decide) h2 d_Wo_init_6 (fun H locs hP hD hS => ?_)
  have hW := hback _ _ hP hD
  generalize (va_up M a0 (some (.inr (2, fs.set 1 (.int 0))))) = M12 at h hW
  refine lv_aload_n hx hb d_Wo_init_9 rfl (lv_at hl 0 rfl) ?_
  refine lv_iconst (v := (-1)) hx hb d_Wo_init_10 (by decide) ?_
  obtain ⟨fs, h1, h2, h⟩ := h
  obtain ⟨ws, q0, hq, hP, hD, hback, -⟩ := hw_open hW h1
  refine va_put (D := D) (ci := 2) (v := .int (-1)) (ty := .int) (C := "ChannelHall$Worker") (T := TWo) (N := 11) hx hb hts uWo tWo tWo_ok nWo hown hK hP hD hS q0 hq rfl 2 (by decide) (hts _ bw_55) (fun _ h9 => h9) rfl (by decide +kernel) rfl rfl h2 d_Wo_init_11 (fun H locs hP hD hS => ?_)
  have hW := hback _ _ hP hD
  generalize (va_up M12 a0 (some (.inr (2, fs.set 2 (.int (-1)))))) = M13 at h hW
  refine lv_aload_n hx hb d_Wo_init_14 rfl (lv_at hl 0 rfl) ?_
  refine lv_iconst (v := 0) hx hb d_Wo_init_15 (by decide) ?_
  obtain ⟨fs, h1, h2, h⟩ := h
  obtain ⟨ws, q0, hq, hP, hD, hback, -⟩ := hw_open hW h1
  refine va_put (D := D) (ci := 2) (v := .int 0) (ty := .boolean) (C := "ChannelHall$Worker") (T := TWo) (N := 11) hx hb hts uWo tWo tWo_ok nWo hown hK hP hD hS q0 hq rfl 3 (by decide) (hts _ bw_58) (fun _ h9 => h9) rfl (by decide +kernel) (by decide) (by decide) h2 d_Wo_init_16 (fun H locs hP hD hS => ?_)
  have hW := hback _ _ hP hD
  generalize (va_up M13 a0 (some (.inr (2, fs.set 3 (.int 0))))) = M14 at h hW
  refine lv_aload_n hx hb d_Wo_init_19 rfl (lv_at hl 0 rfl) ?_
  refine lv_iconst (v := 0) hx hb d_Wo_init_20 (by decide) ?_
  obtain ⟨fs, h1, h2, h⟩ := h
  obtain ⟨ws, q0, hq, hP, hD, hback, -⟩ := hw_open hW h1
  refine va_put (D := D) (ci := 2) (v := .int 0) (ty := .int) (C := "ChannelHall$Worker") (T := TWo) (N := 11) hx hb hts uWo tWo tWo_ok nWo hown hK hP hD hS q0 hq rfl 4 (by decide) (hts _ bw_60) (fun _ h9 => h9) rfl (by decide +kernel) rfl rfl h2 d_Wo_init_21 (fun H locs hP hD hS => ?_)
  have hW := hback _ _ hP hD
  generalize (va_up M14 a0 (some (.inr (2, fs.set 4 (.int 0))))) = M15 at h hW
  refine lv_aload_n hx hb d_Wo_init_24 rfl (lv_at hl 0 rfl) ?_
  refine lv_null hx hb d_Wo_init_25 ?_
  obtain ⟨fs, h1, h2, h⟩ := h
  obtain ⟨ws, q0, hq, hP, hD, hback, -⟩ := hw_open hW h1
  refine va_put (D := D) (ci := 2) (v := .null) (ty := .object "ChannelHall$Channel") (C := "ChannelHall$Worker") (T := TWo) (N := 11) hx hb hts uWo tWo tWo_ok nWo hown hK hP hD hS q0 hq rfl 5 (by decide) (hts _ bw_62) (fun _ h9 => h9) rfl (by decide +kernel) rfl rfl h2 d_Wo_init_26 (fun H locs hP hD hS => ?_)
  have hW := hback _ _ hP hD
  generalize (va_up M15 a0 (some (.inr (2, fs.set 5 (.null))))) = M16 at h hW
  refine lv_aload_n hx hb d_Wo_init_29 rfl (lv_at hl 0 rfl) ?_
  refine va_gets (v := .ref (G 2)) hx hb (hZ0.2.2.1) hS hown (hts _ bw_49) (fun _ h9 => h9) d_Wo_init_30 ?_
  obtain ⟨fs, h1, h2, h⟩ := h
  obtain ⟨ws, q0, hq, hP, hD, hback, -⟩ := hw_open hW h1
  refine va_put (D := D) (ci := 2) (v := .ref (G 2)) (ty := .object "ChannelHall$Role") (C := "ChannelHall$Worker") (T := TWo) (N := 11) hx hb hts uWo tWo tWo_ok nWo hown hK hP hD hS q0 hq rfl 6 (by decide) (hts _ bw_65) (fun _ h9 => h9) rfl (by decide +kernel) rfl rfl h2 d_Wo_init_33 (fun H locs hP hD hS => ?_)
  have hW := hback _ _ hP hD
  generalize (va_up M16 a0 (some (.inr (2, fs.set 6 (.ref (G 2)))))) = M17 at h hW
  refine lv_aload_n hx hb d_Wo_init_36 rfl (lv_at hl 0 rfl) ?_
  refine lv_iconst (v := 0) hx hb d_Wo_init_37 (by decide) ?_
  obtain ⟨fs, h1, h2, h⟩ := h
  obtain ⟨ws, q0, hq, hP, hD, hback, -⟩ := hw_open hW h1
  refine va_put (D := D) (ci := 2) (v := .int 0) (ty := .int) (C := "ChannelHall$Worker") (T := TWo) (N := 11) hx hb hts uWo tWo tWo_ok nWo hown hK hP hD hS q0 hq rfl 7 (by decide) (hts _ bw_68) (fun _ h9 => h9) rfl (by decide +kernel) rfl rfl h2 d_Wo_init_38 (fun H locs hP hD hS => ?_)
  have hW := hback _ _ hP hD
  generalize (va_up M17 a0 (some (.inr (2, fs.set 7 (.int 0))))) = M18 at h hW
  refine lv_aload_n hx hb d_Wo_init_41 rfl (lv_at hl 0 rfl) ?_
  refine lv_dconst0 hx hb d_Wo_init_42 ?_
  obtain ⟨fs, h1, h2, h⟩ := h
  obtain ⟨ws, q0, hq, hP, hD, hback, -⟩ := hw_open hW h1
  refine va_put (D := D) (ci := 2) (v := .double FP.dconst0) (ty := .double) (C := "ChannelHall$Worker") (T := TWo) (N := 11) hx hb hts uWo tWo tWo_ok nWo hown hK hP hD hS q0 hq rfl 8 (by decide) (hts _ bw_71) (fun _ h9 => h9) rfl (by decide +kernel) rfl rfl h2 d_Wo_init_43 (fun H locs hP hD hS => ?_)
  have hW := hback _ _ hP hD
  generalize (va_up M18 a0 (some (.inr (2, fs.set 8 (.double FP.dconst0))))) = M19 at h hW
  refine lv_aload_n hx hb d_Wo_init_46 rfl (lv_at hl 0 rfl) ?_
  refine lv_iconst (v := 0) hx hb d_Wo_init_47 (by decide) ?_
  obtain ⟨fs, h1, h2, h⟩ := h
  obtain ⟨ws, q0, hq, hP, hD, hback, -⟩ := hw_open hW h1
  refine va_put (D := D) (ci := 2) (v := .int 0) (ty := .boolean) (C := "ChannelHall$Worker") (T := TWo) (N := 11) hx hb hts uWo tWo tWo_ok nWo hown hK hP hD hS q0 hq rfl 9 (by decide) (hts _ bw_73) (fun _ h9 => h9) rfl (by decide +kernel) (by decide) (by decide) h2 d_Wo_init_48 (fun H locs hP hD hS => ?_)
  have hW := hback _ _ hP hD
  generalize (va_up M19 a0 (some (.inr (2, fs.set 9 (.int 0))))) = M20 at h hW
  refine lv_aload_n hx hb d_Wo_init_51 rfl (lv_at hl 0 rfl) ?_
  refine lv_dconst0 hx hb d_Wo_init_52 ?_
  obtain ⟨fs, h1, h2, h⟩ := h
  obtain ⟨ws, q0, hq, hP, hD, hback, -⟩ := hw_open hW h1
  refine va_put (D := D) (ci := 2) (v := .double FP.dconst0) (ty := .double) (C := "ChannelHall$Worker") (T := TWo) (N := 11) hx hb hts uWo tWo tWo_ok nWo hown hK hP hD hS q0 hq rfl 10 (by decide) (hts _ bw_75) (fun _ h9 => h9) rfl (by decide +kernel) rfl rfl h2 d_Wo_init_53 (fun H locs hP hD hS => ?_)
  have hW := hback _ _ hP hD
  generalize (va_up M20 a0 (some (.inr (2, fs.set 10 (.double FP.dconst0))))) = M21 at h hW
  refine lv_aload_n hx hb d_Wo_init_56 rfl (lv_at hl 0 rfl) ?_
  refine lv_iload_n hx hb d_Wo_init_57 rfl (lv_at hl 1 rfl) ?_
  obtain ⟨fs, h1, h2, h⟩ := h
  obtain ⟨ws, q0, hq, hP, hD, hback, -⟩ := hw_open hW h1
  refine va_putF (D := D) (ci := 2) (v := .int x1) (ty := .int) (C := "ChannelHall$Worker") (T := TWo) (N := 11) hx hb hts uWo tWo tWo_ok nWo hown hK hP hD hS q0 hq rfl 0 (by decide) (hts _ bw_51) (fun _ h9 => h9) rfl hin rfl (by decide +kernel) rfl rfl h2 d_Wo_init_58 (fun H locs hP hD hS => ?_)
  have hW := hback _ _ hP hD
  generalize (va_up M21 a0 (some (.inr (2, fs.set 0 (.int x1))))) = M22 at h hW
  exact W.vret hx hb hr (fun t ht hWm => ⟨⟨_, rfl, h, hw_t ht hW⟩, hS.F ht⟩) hS.2.2 d_Wo_init_61
set_option maxRecDepth 20000 in
theorem c_Wo_init {l : Launch} {D : va_G} {ca G : Nat → Nat} (post : hM → Prop) {M : hM} {sz : Nat} {a0 : Nat} {x1 : Int32} (h : wp_Wo_init G ca post M a0 x1) : Met l y_Wo_init (wz y_Wo_init prog_5_method_1_code 2 (none)) rm_Wo_init (va_Pc [.ref a0, .int x1] (hI D ca G sz M)) (va_Qv post (hB D M sz) (hp_A M sz)) 0 0 (hp_A M sz) := by
  refine Met.ofW (cc := prog_5_method_1_code) (maxL := 2) (ret := none) (by decide) rfl ?_
  intro p e s m args below meth c s₁ B hml hv
  obtain ⟨rfl, hsz, hW, hK, hZ0⟩ := hv
  have hts := fun w hw => atoms_spec (ws := wz y_Wo_init prog_5_method_1_code 2 (none)) B.pre w (List.mem_cons_of_mem _ hw)
  have hown : s.vm.findClass "ChannelHall$Worker" = some m.cls := findClass_of_methodNamed B.named
  subst hsz
  have hl := lv_entry [.ref a0, .int x1] (n := 2) (Nat.le_of_ble_eq_true rfl)
  rw [lg_entry_eq]
  exact l_Wo_init_e ⟨B.exec, B.bytes, B.returns, hml, hown, hts, B.notSynchronized, hK, fun q h => Or.inr h, hZ0⟩ (name_of_methodNamed B.named B.method).1 a0 x1 h hW va_S.rf hl

theorem d_It_init_0 : decode prog_3_method_1_code 0 = .ok (.aload_n 0, 1) := by decide +kernel
theorem d_It_init_1 : decode prog_3_method_1_code 1 = .ok (.invokespecial 1, 3) := by decide +kernel
theorem d_It_init_4 : decode prog_3_method_1_code 4 = .ok (.aload_n 0, 1) := by decide +kernel
theorem d_It_init_5 : decode prog_3_method_1_code 5 = .ok (.iload_n 1, 1) := by decide +kernel
theorem d_It_init_6 : decode prog_3_method_1_code 6 = .ok (.putfield 7, 3) := by decide +kernel
theorem d_It_init_9 : decode prog_3_method_1_code 9 = .ok (.aload_n 0, 1) := by decide +kernel
theorem d_It_init_10 : decode prog_3_method_1_code 10 = .ok (.dload_n 2, 1) := by decide +kernel
theorem d_It_init_11 : decode prog_3_method_1_code 11 = .ok (.putfield 13, 3) := by decide +kernel
theorem d_It_init_14 : decode prog_3_method_1_code 14 = .ok (.aload_n 0, 1) := by decide +kernel
theorem d_It_init_15 : decode prog_3_method_1_code 15 = .ok (.dload 4, 2) := by decide +kernel
theorem d_It_init_17 : decode prog_3_method_1_code 17 = .ok (.putfield 17, 3) := by decide +kernel
theorem d_It_init_20 : decode prog_3_method_1_code 20 = .ok (.return_, 1) := by decide +kernel
def y_It_init : MethodName := ⟨"ChannelHall$Item", "<init>", "(IDD)V"⟩
abbrev rm_It_init : Room := { frames := 1, cells := 0, slots := 0, locals := 12 }
def wp_It_init (G ca : Nat → Nat) (post : hM → Prop) (M : hM) (a0 : Nat) (x1 : Int32) (x2 : UInt64) (x4 : UInt64) : Prop := pF M a0 1 0 (.int x1) fun M4 => pF M4 a0 1 1 (.double x2) fun M5 => pF M5 a0 1 2 (.double x4) fun M6 => post M6
set_option maxHeartbeats 1000000 in
set_option maxRecDepth 20000 in
theorem l_It_init_e {p : Program} {l : Launch} {e : Env} {s : State} {m : MethodId} {args : Array Value} {below : List Frame} {meth : Method} {c : Code} {D : va_G} {ca G : Nat → Nat} {A : Nat → Prop} (C0 : hC p s m args meth c D ca G prog_3_method_1_code 6 (none) "ChannelHall$Item" A) (hin : meth.name = "<init>") {post : hM → Prop} {M : hM} {H : Heap} {locs : List Loc} {ls : Array Slot} (a0 : Nat) (x1 : Int32) (x2 : UInt64) (x4 : UInt64) (h : wp_It_init G ca post M a0 x1 x2 x4) (hW : hw D wCl A M H) (hS : va_S A s.heap H locs) (hl : lv_has ls 6 [(0, .ref a0), (1, .int x1), (2, .double x2), (4, .double x4)]) : W p l e rm_It_init s m args below meth c H locs 0 0 (MQ below (va_Qv post (fun M' t => hw D wCl A M' t.heap) A) args s 0 0 A) (F0 m 0 ls []) := by
  obtain ⟨hx, hb, hr, hml, hown, hts, hlocks, hK, hA, hZ0⟩ := id C0
  refine lv_aload_n hx hb d_It_init_0 rfl (lv_at hl 0 rfl) ?_
  refine W.objInit (rest := []) hx hb hown (hts _ bw_481) (hts _ bw_38) (hts _ bw_39) rfl (hl.1.trans hml.symm) rfl d_It_init_1 (Nat.le_of_ble_eq_true rfl) (Nat.le_of_ble_eq_true rfl) ?_
  refine W.eq (g2 := F0 m 4 ls []) rfl ?_
  refine lv_aload_n hx hb d_It_init_4 rfl (lv_at hl 0 rfl) ?_
  refine lv_iload_n hx hb d_It_init_5 rfl (lv_at hl 1 rfl) ?_
  obtain ⟨fs, h1, h2, h⟩ := h
  obtain ⟨ws, q0, hq, hP, hD, hback, -⟩ := hw_open hW h1
  refine va_putF (D := D) (ci := 1) (v := .int x1) (ty := .int) (C := "ChannelHall$Item") (T := TIt) (N := 3) hx hb hts uIt tIt tIt_ok nIt hown hK hP hD hS q0 hq rfl 0 (by decide) (hts _ bw_482) (fun _ h9 => h9) rfl hin rfl (by decide +kernel) rfl rfl h2 d_It_init_6 (fun H locs hP hD hS => ?_)
  have hW := hback _ _ hP hD
  generalize (va_up M a0 (some (.inr (1, fs.set 0 (.int x1))))) = M4 at h hW
  refine lv_aload_n hx hb d_It_init_9 rfl (lv_at hl 0 rfl) ?_
  refine lv_dload_n hx hb d_It_init_10 rfl (lv_at hl 2 rfl) ?_
  obtain ⟨fs, h1, h2, h⟩ := h
  obtain ⟨ws, q0, hq, hP, hD, hback, -⟩ := hw_open hW h1
  refine va_putF (D := D) (ci := 1) (v := .double x2) (ty := .double) (C := "ChannelHall$Item") (T := TIt) (N := 3) hx hb hts uIt tIt tIt_ok nIt hown hK hP hD hS q0 hq rfl 1 (by decide) (hts _ bw_485) (fun _ h9 => h9) rfl hin rfl (by decide +kernel) rfl rfl h2 d_It_init_11 (fun H locs hP hD hS => ?_)
  have hW := hback _ _ hP hD
  generalize (va_up M4 a0 (some (.inr (1, fs.set 1 (.double x2))))) = M5 at h hW
  refine lv_aload_n hx hb d_It_init_14 rfl (lv_at hl 0 rfl) ?_
  refine lv_dload hx hb d_It_init_15 (lv_at hl 3 rfl) ?_
  obtain ⟨fs, h1, h2, h⟩ := h
  obtain ⟨ws, q0, hq, hP, hD, hback, -⟩ := hw_open hW h1
  refine va_putF (D := D) (ci := 1) (v := .double x4) (ty := .double) (C := "ChannelHall$Item") (T := TIt) (N := 3) hx hb hts uIt tIt tIt_ok nIt hown hK hP hD hS q0 hq rfl 2 (by decide) (hts _ bw_487) (fun _ h9 => h9) rfl hin rfl (by decide +kernel) rfl rfl h2 d_It_init_17 (fun H locs hP hD hS => ?_)
  have hW := hback _ _ hP hD
  generalize (va_up M5 a0 (some (.inr (1, fs.set 2 (.double x4))))) = M6 at h hW
  exact W.vret hx hb hr (fun t ht hWm => ⟨⟨_, rfl, h, hw_t ht hW⟩, hS.F ht⟩) hS.2.2 d_It_init_20
set_option maxRecDepth 20000 in
theorem c_It_init {l : Launch} {D : va_G} {ca G : Nat → Nat} (post : hM → Prop) {M : hM} {sz : Nat} {a0 : Nat} {x1 : Int32} {x2 : UInt64} {x4 : UInt64} (h : wp_It_init G ca post M a0 x1 x2 x4) : Met l y_It_init (wz y_It_init prog_3_method_1_code 6 (none)) rm_It_init (va_Pc [.ref a0, .int x1, .double x2, .double x4] (hI D ca G sz M)) (va_Qv post (hB D M sz) (hp_A M sz)) 0 0 (hp_A M sz) := by
  refine Met.ofW (cc := prog_3_method_1_code) (maxL := 6) (ret := none) (by decide) rfl ?_
  intro p e s m args below meth c s₁ B hml hv
  obtain ⟨rfl, hsz, hW, hK, hZ0⟩ := hv
  have hts := fun w hw => atoms_spec (ws := wz y_It_init prog_3_method_1_code 6 (none)) B.pre w (List.mem_cons_of_mem _ hw)
  have hown : s.vm.findClass "ChannelHall$Item" = some m.cls := findClass_of_methodNamed B.named
  subst hsz
  have hl := lv_entry [.ref a0, .int x1, .double x2, .double x4] (n := 6) (Nat.le_of_ble_eq_true rfl)
  rw [lg_entry_eq]
  exact l_It_init_e ⟨B.exec, B.bytes, B.returns, hml, hown, hts, B.notSynchronized, hK, fun q h => Or.inr h, hZ0⟩ (name_of_methodNamed B.named B.method).1 a0 x1 x2 x4 h hW va_S.rf hl

theorem d_Ac_init_0 : decode prog_28_method_1_code 0 = .ok (.aload_n 0, 1) := by decide +kernel
theorem d_Ac_init_1 : decode prog_28_method_1_code 1 = .ok (.invokespecial 1, 3) := by decide +kernel
theorem d_Ac_init_4 : decode prog_28_method_1_code 4 = .ok (.return_, 1) := by decide +kernel
def y_Ac_init : MethodName := ⟨"java/util/AbstractCollection", "<init>", "()V"⟩
abbrev rm_Ac_init : Room := { frames := 1, cells := 0, slots := 0, locals := 12 }
def wp_Ac_init (G ca : Nat → Nat) (post : hM → Prop) (M : hM) (a0 : Nat) : Prop := post M
set_option maxHeartbeats 1000000 in
set_option maxRecDepth 20000 in
theorem l_Ac_init_e {p : Program} {l : Launch} {e : Env} {s : State} {m : MethodId} {args : Array Value} {below : List Frame} {meth : Method} {c : Code} {D : va_G} {ca G : Nat → Nat} {A : Nat → Prop} (C0 : hC p s m args meth c D ca G prog_28_method_1_code 1 (none) "java/util/AbstractCollection" A) (hin : meth.name = "<init>") {post : hM → Prop} {M : hM} {H : Heap} {locs : List Loc} {ls : Array Slot} (a0 : Nat) (h : wp_Ac_init G ca post M a0) (hW : hw D wCl A M H) (hS : va_S A s.heap H locs) (hl : lv_has ls 1 [(0, .ref a0)]) : W p l e rm_Ac_init s m args below meth c H locs 0 0 (MQ below (va_Qv post (fun M' t => hw D wCl A M' t.heap) A) args s 0 0 A) (F0 m 0 ls []) := by
  obtain ⟨hx, hb, hr, hml, hown, hts, hlocks, hK, hA, hZ0⟩ := id C0
  refine lv_aload_n hx hb d_Ac_init_0 rfl (lv_at hl 0 rfl) ?_
  refine W.objInit (rest := []) hx hb hown (hts _ bw_233) (hts _ bw_38) (hts _ bw_39) rfl (hl.1.trans hml.symm) rfl d_Ac_init_1 (Nat.le_of_ble_eq_true rfl) (Nat.le_of_ble_eq_true rfl) ?_
  refine W.eq (g2 := F0 m 4 ls []) rfl ?_
  exact W.vret hx hb hr (fun t ht hWm => ⟨⟨_, rfl, h, hw_t ht hW⟩, hS.F ht⟩) hS.2.2 d_Ac_init_4
set_option maxRecDepth 20000 in
theorem c_Ac_init {l : Launch} {D : va_G} {ca G : Nat → Nat} (post : hM → Prop) {M : hM} {sz : Nat} {a0 : Nat} (h : wp_Ac_init G ca post M a0) : Met l y_Ac_init (wz y_Ac_init prog_28_method_1_code 1 (none)) rm_Ac_init (va_Pc [.ref a0] (hI D ca G sz M)) (va_Qv post (hB D M sz) (hp_A M sz)) 0 0 (hp_A M sz) := by
  refine Met.ofW (cc := prog_28_method_1_code) (maxL := 1) (ret := none) (by decide) rfl ?_
  intro p e s m args below meth c s₁ B hml hv
  obtain ⟨rfl, hsz, hW, hK, hZ0⟩ := hv
  have hts := fun w hw => atoms_spec (ws := wz y_Ac_init prog_28_method_1_code 1 (none)) B.pre w (List.mem_cons_of_mem _ hw)
  have hown : s.vm.findClass "java/util/AbstractCollection" = some m.cls := findClass_of_methodNamed B.named
  subst hsz
  have hl := lv_entry [.ref a0] (n := 1) (Nat.le_of_ble_eq_true rfl)
  rw [lg_entry_eq]
  exact l_Ac_init_e ⟨B.exec, B.bytes, B.returns, hml, hown, hts, B.notSynchronized, hK, fun q h => Or.inr h, hZ0⟩ (name_of_methodNamed B.named B.method).1 a0 h hW va_S.rf hl

theorem d_Ab_init_0 : decode prog_29_method_1_code 0 = .ok (.aload_n 0, 1) := by decide +kernel
theorem d_Ab_init_1 : decode prog_29_method_1_code 1 = .ok (.invokespecial 1, 3) := by decide +kernel
theorem d_Ab_init_4 : decode prog_29_method_1_code 4 = .ok (.aload_n 0, 1) := by decide +kernel
theorem d_Ab_init_5 : decode prog_29_method_1_code 5 = .ok (.iconst 0, 1) := by decide +kernel
theorem d_Ab_init_6 : decode prog_29_method_1_code 6 = .ok (.putfield 7, 3) := by decide +kernel
theorem d_Ab_init_9 : decode prog_29_method_1_code 9 = .ok (.return_, 1) := by decide +kernel
def y_Ab_init : MethodName := ⟨"java/util/AbstractList", "<init>", "()V"⟩
abbrev rm_Ab_init : Room := { frames := 2, cells := 0, slots := 0, locals := 32 }
def wp_Ab_init (G ca : Nat → Nat) (post : hM → Prop) (M : hM) (a0 : Nat) : Prop := wp_Ac_init G ca (fun M3 => pF M3 a0 4 2 (.int 0) fun M4 => post M4) M a0
set_option maxHeartbeats 1000000 in
set_option maxRecDepth 20000 in
theorem l_Ab_init_e {p : Program} {l : Launch} {e : Env} {s : State} {m : MethodId} {args : Array Value} {below : List Frame} {meth : Method} {c : Code} {D : va_G} {ca G : Nat → Nat} {A : Nat → Prop} (C0 : hC p s m args meth c D ca G prog_29_method_1_code 1 (none) "java/util/AbstractList" A) (hin : meth.name = "<init>") {post : hM → Prop} {M : hM} {H : Heap} {locs : List Loc} {ls : Array Slot} (a0 : Nat) (h : wp_Ab_init G ca post M a0) (hW : hw D wCl A M H) (hS : va_S A s.heap H locs) (hl : lv_has ls 1 [(0, .ref a0)]) : W p l e rm_Ab_init s m args below meth c H locs 0 0 (MQ below (va_Qv post (fun M' t => hw D wCl A M' t.heap) A) args s 0 0 A) (F0 m 0 ls []) := by
  obtain ⟨hx, hb, hr, hml, hown, hts, hlocks, hK, hA, hZ0⟩ := id C0
  refine lv_aload_n hx hb d_Ab_init_0 rfl (lv_at hl 0 rfl) ?_
  have h9 := h
  clear h
  have hF := hW.free hS hA
  refine va_callv (va_runI (As := []) (rest := []) ⟨hx, hb, hml, hown, hts⟩ (c_Ac_init _ h9) (cwI 0 hts (gi_z bw_232) rfl rfl rfl (hts _ bw_12) (hts _ bw_230) (hts _ bw_231) rfl (by decide +kernel) ⟨Nat.le_of_ble_eq_true rfl, Nat.le_of_ble_eq_true rfl⟩) ⟨hI.blind, hI.give hW hS hA hK hZ0⟩ rfl rfl hl.1 rfl (lv_room (Nat.le_of_ble_eq_true rfl)) d_Ab_init_1 ⟨(show _ ≤ 0 by omega), (show _ ≤ 0 by omega)⟩) hS (fun q _ z => hF q z) hF (fun M3 t H locs ht _ h hB1 _ _ hS => ?_)
  have hW := hw_back hF ht hB1
  clear h9
  refine lv_aload_n hx hb d_Ab_init_4 rfl (lv_at hl 0 rfl) ?_
  refine lv_iconst (v := 0) hx hb d_Ab_init_5 (by decide) ?_
  obtain ⟨fs, h1, h2, h⟩ := h
  obtain ⟨ws, q0, hq, hP, hD, hback, -⟩ := hw_open hW h1
  refine va_put (D := D) (ci := 4) (v := .int 0) (ty := .int) (C := "java/util/ArrayList") (T := TAl) (N := 3) hx hb hts uAl tAl tAl_ok nAl hown hK hP hD hS q0 hq rfl 2 (by decide) (hts _ bw_238) (fun _ h9 => h9) rfl (by decide +kernel) rfl rfl h2 d_Ab_init_6 (fun H locs hP hD hS => ?_)
  have hW := hback _ _ hP hD
  generalize (va_up M3 a0 (some (.inr (4, fs.set 2 (.int 0))))) = M4 at h hW
  exact W.vret hx hb hr (fun t ht hWm => ⟨⟨_, rfl, h, hw_t ht hW⟩, hS.F ht⟩) hS.2.2 d_Ab_init_9
set_option maxRecDepth 20000 in
theorem c_Ab_init {l : Launch} {D : va_G} {ca G : Nat → Nat} (post : hM → Prop) {M : hM} {sz : Nat} {a0 : Nat} (h : wp_Ab_init G ca post M a0) : Met l y_Ab_init (wz y_Ab_init prog_29_method_1_code 1 (none)) rm_Ab_init (va_Pc [.ref a0] (hI D ca G sz M)) (va_Qv post (hB D M sz) (hp_A M sz)) 0 0 (hp_A M sz) := by
  refine Met.ofW (cc := prog_29_method_1_code) (maxL := 1) (ret := none) (by decide) rfl ?_
  intro p e s m args below meth c s₁ B hml hv
  obtain ⟨rfl, hsz, hW, hK, hZ0⟩ := hv
  have hts := fun w hw => atoms_spec (ws := wz y_Ab_init prog_29_method_1_code 1 (none)) B.pre w (List.mem_cons_of_mem _ hw)
  have hown : s.vm.findClass "java/util/AbstractList" = some m.cls := findClass_of_methodNamed B.named
  subst hsz
  have hl := lv_entry [.ref a0] (n := 1) (Nat.le_of_ble_eq_true rfl)
  rw [lg_entry_eq]
  exact l_Ab_init_e ⟨B.exec, B.bytes, B.returns, hml, hown, hts, B.notSynchronized, hK, fun q h => Or.inr h, hZ0⟩ (name_of_methodNamed B.named B.method).1 a0 h hW va_S.rf hl

theorem d_Al_init_0 : decode prog_30_method_2_code 0 = .ok (.aload_n 0, 1) := by decide +kernel
theorem d_Al_init_1 : decode prog_30_method_2_code 1 = .ok (.invokespecial 1, 3) := by decide +kernel
theorem d_Al_init_4 : decode prog_30_method_2_code 4 = .ok (.aload_n 0, 1) := by decide +kernel
theorem d_Al_init_5 : decode prog_30_method_2_code 5 = .ok (.getstatic 39, 3) := by decide +kernel
theorem d_Al_init_8 : decode prog_30_method_2_code 8 = .ok (.putfield 9, 3) := by decide +kernel
theorem d_Al_init_11 : decode prog_30_method_2_code 11 = .ok (.return_, 1) := by decide +kernel
def y_Al_init : MethodName := ⟨"java/util/ArrayList", "<init>", "()V"⟩
abbrev rm_Al_init : Room := { frames := 3, cells := 0, slots := 0, locals := 52 }
def wp_Al_init (G ca : Nat → Nat) (post : hM → Prop) (M : hM) (a0 : Nat) : Prop := wp_Ab_init G ca (fun M3 => pF M3 a0 4 0 (.ref (G 3)) fun M4 => post M4) M a0
set_option maxHeartbeats 1000000 in
set_option maxRecDepth 20000 in
theorem l_Al_init_e {p : Program} {l : Launch} {e : Env} {s : State} {m : MethodId} {args : Array Value} {below : List Frame} {meth : Method} {c : Code} {D : va_G} {ca G : Nat → Nat} {A : Nat → Prop} (C0 : hC p s m args meth c D ca G prog_30_method_2_code 1 (none) "java/util/ArrayList" A) (hin : meth.name = "<init>") {post : hM → Prop} {M : hM} {H : Heap} {locs : List Loc} {ls : Array Slot} (a0 : Nat) (h : wp_Al_init G ca post M a0) (hW : hw D wCl A M H) (hS : va_S A s.heap H locs) (hl : lv_has ls 1 [(0, .ref a0)]) : W p l e rm_Al_init s m args below meth c H locs 0 0 (MQ below (va_Qv post (fun M' t => hw D wCl A M' t.heap) A) args s 0 0 A) (F0 m 0 ls []) := by
  obtain ⟨hx, hb, hr, hml, hown, hts, hlocks, hK, hA, hZ0⟩ := id C0
  refine lv_aload_n hx hb d_Al_init_0 rfl (lv_at hl 0 rfl) ?_
  have h9 := h
  clear h
  have hF := hW.free hS hA
  refine va_callv (va_runI (As := []) (rest := []) ⟨hx, hb, hml, hown, hts⟩ (c_Ab_init _ h9) (cwI 0 hts (gi_z bw_229) rfl rfl rfl (hts _ bw_13) (hts _ bw_227) (hts _ bw_228) rfl (by decide +kernel) ⟨Nat.le_of_ble_eq_true rfl, Nat.le_of_ble_eq_true rfl⟩) ⟨hI.blind, hI.give hW hS hA hK hZ0⟩ rfl rfl hl.1 rfl (lv_room (Nat.le_of_ble_eq_true rfl)) d_Al_init_1 ⟨(show _ ≤ 0 by omega), (show _ ≤ 0 by omega)⟩) hS (fun q _ z => hF q z) hF (fun M3 t H locs ht _ h hB1 _ _ hS => ?_)
  have hW := hw_back hF ht hB1
  clear h9
  refine lv_aload_n hx hb d_Al_init_4 rfl (lv_at hl 0 rfl) ?_
  refine va_gets (v := .ref (G 3)) hx hb (hZ0.2.2.2.1) hS hown (hts _ bw_234) (fun _ h9 => h9) d_Al_init_5 ?_
  obtain ⟨fs, h1, h2, h⟩ := h
  obtain ⟨ws, q0, hq, hP, hD, hback, -⟩ := hw_open hW h1
  refine va_put (D := D) (ci := 4) (v := .ref (G 3)) (ty := .array (.object "java/lang/Object")) (C := "java/util/ArrayList") (T := TAl) (N := 3) hx hb hts uAl tAl tAl_ok nAl hown hK hP hD hS q0 hq rfl 0 (by decide) (hts _ bw_236) (fun _ h9 => h9) rfl (by decide +kernel) rfl rfl h2 d_Al_init_8 (fun H locs hP hD hS => ?_)
  have hW := hback _ _ hP hD
  generalize (va_up M3 a0 (some (.inr (4, fs.set 0 (.ref (G 3)))))) = M4 at h hW
  exact W.vret hx hb hr (fun t ht hWm => ⟨⟨_, rfl, h, hw_t ht hW⟩, hS.F ht⟩) hS.2.2 d_Al_init_11
set_option maxRecDepth 20000 in
theorem c_Al_init {l : Launch} {D : va_G} {ca G : Nat → Nat} (post : hM → Prop) {M : hM} {sz : Nat} {a0 : Nat} (h : wp_Al_init G ca post M a0) : Met l y_Al_init (wz y_Al_init prog_30_method_2_code 1 (none)) rm_Al_init (va_Pc [.ref a0] (hI D ca G sz M)) (va_Qv post (hB D M sz) (hp_A M sz)) 0 0 (hp_A M sz) := by
  refine Met.ofW (cc := prog_30_method_2_code) (maxL := 1) (ret := none) (by decide) rfl ?_
  intro p e s m args below meth c s₁ B hml hv
  obtain ⟨rfl, hsz, hW, hK, hZ0⟩ := hv
  have hts := fun w hw => atoms_spec (ws := wz y_Al_init prog_30_method_2_code 1 (none)) B.pre w (List.mem_cons_of_mem _ hw)
  have hown : s.vm.findClass "java/util/ArrayList" = some m.cls := findClass_of_methodNamed B.named
  subst hsz
  have hl := lv_entry [.ref a0] (n := 1) (Nat.le_of_ble_eq_true rfl)
  rw [lg_entry_eq]
  exact l_Al_init_e ⟨B.exec, B.bytes, B.returns, hml, hown, hts, B.notSynchronized, hK, fun q h => Or.inr h, hZ0⟩ (name_of_methodNamed B.named B.method).1 a0 h hW va_S.rf hl

theorem d_Ch_init_0 : decode prog_2_method_1_code 0 = .ok (.aload_n 0, 1) := by decide +kernel
theorem d_Ch_init_1 : decode prog_2_method_1_code 1 = .ok (.invokespecial 3, 3) := by decide +kernel
theorem d_Ch_init_4 : decode prog_2_method_1_code 4 = .ok (.aload_n 0, 1) := by decide +kernel
theorem d_Ch_init_5 : decode prog_2_method_1_code 5 = .ok (.new 9, 3) := by decide +kernel
theorem d_Ch_init_8 : decode prog_2_method_1_code 8 = .ok (.dup, 1) := by decide +kernel
theorem d_Ch_init_9 : decode prog_2_method_1_code 9 = .ok (.invokespecial 11, 3) := by decide +kernel
theorem d_Ch_init_12 : decode prog_2_method_1_code 12 = .ok (.putfield 12, 3) := by decide +kernel
theorem d_Ch_init_15 : decode prog_2_method_1_code 15 = .ok (.aload_n 0, 1) := by decide +kernel
theorem d_Ch_init_16 : decode prog_2_method_1_code 16 = .ok (.new 9, 3) := by decide +kernel
theorem d_Ch_init_19 : decode prog_2_method_1_code 19 = .ok (.dup, 1) := by decide +kernel
theorem d_Ch_init_20 : decode prog_2_method_1_code 20 = .ok (.invokespecial 11, 3) := by decide +kernel
theorem d_Ch_init_23 : decode prog_2_method_1_code 23 = .ok (.putfield 18, 3) := by decide +kernel
theorem d_Ch_init_26 : decode prog_2_method_1_code 26 = .ok (.aload_n 0, 1) := by decide +kernel
theorem d_Ch_init_27 : decode prog_2_method_1_code 27 = .ok (.iconst 0, 1) := by decide +kernel
theorem d_Ch_init_28 : decode prog_2_method_1_code 28 = .ok (.putfield 21, 3) := by decide +kernel
theorem d_Ch_init_31 : decode prog_2_method_1_code 31 = .ok (.aload_n 0, 1) := by decide +kernel
theorem d_Ch_init_32 : decode prog_2_method_1_code 32 = .ok (.iconst 0, 1) := by decide +kernel
theorem d_Ch_init_33 : decode prog_2_method_1_code 33 = .ok (.putfield 25, 3) := by decide +kernel
theorem d_Ch_init_36 : decode prog_2_method_1_code 36 = .ok (.aload_n 0, 1) := by decide +kernel
theorem d_Ch_init_37 : decode prog_2_method_1_code 37 = .ok (.dconst 0, 1) := by decide +kernel
theorem d_Ch_init_38 : decode prog_2_method_1_code 38 = .ok (.putfield 29, 3) := by decide +kernel
theorem d_Ch_init_41 : decode prog_2_method_1_code 41 = .ok (.aload_n 0, 1) := by decide +kernel
theorem d_Ch_init_42 : decode prog_2_method_1_code 42 = .ok (.iconst 0, 1) := by decide +kernel
theorem d_Ch_init_43 : decode prog_2_method_1_code 43 = .ok (.putfield 33, 3) := by decide +kernel
theorem d_Ch_init_46 : decode prog_2_method_1_code 46 = .ok (.aload_n 0, 1) := by decide +kernel
theorem d_Ch_init_47 : decode prog_2_method_1_code 47 = .ok (.iload_n 1, 1) := by decide +kernel
theorem d_Ch_init_48 : decode prog_2_method_1_code 48 = .ok (.putfield 36, 3) := by decide +kernel
theorem d_Ch_init_51 : decode prog_2_method_1_code 51 = .ok (.aload_n 0, 1) := by decide +kernel
theorem d_Ch_init_52 : decode prog_2_method_1_code 52 = .ok (.iload_n 2, 1) := by decide +kernel
theorem d_Ch_init_53 : decode prog_2_method_1_code 53 = .ok (.putfield 39, 3) := by decide +kernel
theorem d_Ch_init_56 : decode prog_2_method_1_code 56 = .ok (.aload_n 0, 1) := by decide +kernel
theorem d_Ch_init_57 : decode prog_2_method_1_code 57 = .ok (.iload_n 2, 1) := by decide +kernel
theorem d_Ch_init_58 : decode prog_2_method_1_code 58 = .ok (.iload_n 3, 1) := by decide +kernel
theorem d_Ch_init_59 : decode prog_2_method_1_code 59 = .ok (.invokestatic 42, 3) := by decide +kernel
theorem d_Ch_init_62 : decode prog_2_method_1_code 62 = .ok (.putfield 46, 3) := by decide +kernel
theorem d_Ch_init_65 : decode prog_2_method_1_code 65 = .ok (.aload_n 0, 1) := by decide +kernel
theorem d_Ch_init_66 : decode prog_2_method_1_code 66 = .ok (.iload_n 2, 1) := by decide +kernel
theorem d_Ch_init_67 : decode prog_2_method_1_code 67 = .ok (.bipush 6, 2) := by decide +kernel
theorem d_Ch_init_69 : decode prog_2_method_1_code 69 = .ok (.if_icmp .ne 7, 3) := by decide +kernel
theorem d_Ch_init_72 : decode prog_2_method_1_code 72 = .ok (.iload_n 3, 1) := by decide +kernel
theorem d_Ch_init_73 : decode prog_2_method_1_code 73 = .ok (.goto 4, 3) := by decide +kernel
theorem d_Ch_init_76 : decode prog_2_method_1_code 76 = .ok (.iconst 0, 1) := by decide +kernel
theorem d_Ch_init_77 : decode prog_2_method_1_code 77 = .ok (.putfield 49, 3) := by decide +kernel
theorem d_Ch_init_80 : decode prog_2_method_1_code 80 = .ok (.return_, 1) := by decide +kernel
def y_Ch_init : MethodName := ⟨"ChannelHall$Channel", "<init>", "(III)V"⟩
abbrev rm_Ch_init : Room := { frames := 4, cells := 2, slots := 6, locals := 72 }
def wp_Ch_init_77 (G ca : Nat → Nat) (post : hM → Prop) (M : hM) (s0b77 : Int32) (s1b77 : Nat) : Prop := pF M s1b77 0 3 (.int s0b77) fun M20 => post M20
def wp_Ch_init (G ca : Nat → Nat) (post : hM → Prop) (M : hM) (a0 : Nat) (x1 : Int32) (x2 : Int32) (x3 : Int32) : Prop := nO M (.inr (4, [.null, .int 0, .int 0])) fun q21 M22 => wp_Al_init G ca (fun M23 => pF M23 a0 0 4 (.ref q21) fun M24 => nO M24 (.inr (4, [.null, .int 0, .int 0])) fun q25 M26 => wp_Al_init G ca (fun M27 => pF M27 a0 0 5 (.ref q25) fun M28 => pF M28 a0 0 6 (.int 0) fun M29 => pF M29 a0 0 7 (.int 0) fun M30 => pF M30 a0 0 8 (.double FP.dconst0) fun M31 => pF M31 a0 0 9 (.int 0) fun M32 => pF M32 a0 0 0 (.int x1) fun M33 => pF M33 a0 0 1 (.int x2) fun M34 => wp_Ch_roomOf G ca (fun r35 M36 => pF M36 a0 0 2 (.int r35) fun M37 => (¬ x2 = 6 → wp_Ch_init_77 G ca post M37 0 a0) ∧ (x2 = 6 → wp_Ch_init_77 G ca post M37 x3 a0)) M34 x2 x3) M26 q25) M22 q21
set_option maxHeartbeats 1000000 in
set_option maxRecDepth 20000 in
theorem l_Ch_init_77 {p : Program} {l : Launch} {e : Env} {s : State} {m : MethodId} {args : Array Value} {below : List Frame} {meth : Method} {c : Code} {D : va_G} {ca G : Nat → Nat} {A : Nat → Prop} (C0 : hC p s m args meth c D ca G prog_2_method_1_code 4 (none) "ChannelHall$Channel" A) (hin : meth.name = "<init>") {post : hM → Prop} {M : hM} {H : Heap} {locs : List Loc} {ls : Array Slot} {cells slots : Nat} (s0b77 : Int32) (s1b77 : Nat) (hc : cells ≤ 2) (hs : slots ≤ 6) (h : wp_Ch_init_77 G ca post M s0b77 s1b77) (hW : hw D wCl A M H) (hS : va_S A s.heap H locs) (hl : lv_has ls 4 []) : W p l e rm_Ch_init s m args below meth c H locs cells slots (MQ below (va_Qv post (fun M' t => hw D wCl A M' t.heap) A) args s 2 6 A) (F0 m 77 ls [.int s0b77, .ref s1b77]) := by
  obtain ⟨hx, hb, hr, hml, hown, hts, hlocks, hK, hA, hZ0⟩ := id C0
  obtain ⟨fs, h1, h2, h⟩ := h
  obtain ⟨ws, q0, hq, hP, hD, hback, -⟩ := hw_open hW h1
  refine va_putF (D := D) (ci := 0) (v := .int s0b77) (ty := .int) (C := "ChannelHall$Channel") (T := TCh) (N := 10) hx hb hts uCh tCh tCh_ok nCh hown hK hP hD hS q0 hq rfl 3 (by decide) (hts _ bw_256) (fun _ h9 => h9) rfl hin rfl (by decide +kernel) rfl rfl h2 d_Ch_init_77 (fun H locs hP hD hS => ?_)
  have hW := hback _ _ hP hD
  generalize (va_up M s1b77 (some (.inr (0, fs.set 3 (.int s0b77))))) = M20 at h hW
  refine W.widen (k := 2) (n := 6) (by omega) (by omega) ?_
  exact W.vret hx hb hr (fun t ht hWm => ⟨⟨_, rfl, h, hw_t ht hW⟩, hS.F ht⟩) hS.2.2 d_Ch_init_80
set_option maxHeartbeats 1000000 in
set_option maxRecDepth 20000 in
theorem l_Ch_init_e {p : Program} {l : Launch} {e : Env} {s : State} {m : MethodId} {args : Array Value} {below : List Frame} {meth : Method} {c : Code} {D : va_G} {ca G : Nat → Nat} {A : Nat → Prop} (C0 : hC p s m args meth c D ca G prog_2_method_1_code 4 (none) "ChannelHall$Channel" A) (hin : meth.name = "<init>") {post : hM → Prop} {M : hM} {H : Heap} {locs : List Loc} {ls : Array Slot} {cells slots : Nat} (a0 : Nat) (x1 : Int32) (x2 : Int32) (x3 : Int32) (hc : cells ≤ 0) (hs : slots ≤ 0) (h : wp_Ch_init G ca post M a0 x1 x2 x3) (hW : hw D wCl A M H) (hS : va_S A s.heap H locs) (hl : lv_has ls 4 [(0, .ref a0), (1, .int x1), (2, .int x2), (3, .int x3)]) : W p l e rm_Ch_init s m args below meth c H locs cells slots (MQ below (va_Qv post (fun M' t => hw D wCl A M' t.heap) A) args s 2 6 A) (F0 m 0 ls []) := by
  obtain ⟨hx, hb, hr, hml, hown, hts, hlocks, hK, hA, hZ0⟩ := id C0
  refine lv_aload_n hx hb d_Ch_init_0 rfl (lv_at hl 0 rfl) ?_
  refine W.objInit (rest := []) hx hb hown (hts _ bw_221) (hts _ bw_38) (hts _ bw_39) rfl (hl.1.trans hml.symm) rfl d_Ch_init_1 (Nat.le_of_ble_eq_true rfl) (Nat.le_of_ble_eq_true rfl) ?_
  refine W.eq (g2 := F0 m 4 ls []) rfl ?_
  refine lv_aload_n hx hb d_Ch_init_4 rfl (lv_at hl 0 rfl) ?_
  obtain ⟨ws, hP, hD, hmake⟩ := hw_make hW
  refine va_new (ci := 4) (fs := [.null, .int 0, .int 0]) (C := "java/util/ArrayList") (T := TAl) (N := 3) hx hb hts uAl tAl tAl_ok hown (hts _ bw_222) (hts _ bw_223) (hts _ bw_14) hK hP hD hS hA rfl (by decide) (show _ ≤ 2 by omega) (show _ ≤ 6 by omega) d_Ch_init_5 (fun q21 H hP hD hS => ?_)
  obtain ⟨hfr, hW⟩ := hmake _ _ _ hP hD
  replace h := h q21 hfr
  generalize va_up M q21 _ = M22 at h hW
  refine lv_dup hx hb d_Ch_init_8 rfl ?_
  have h9 := h
  clear h
  have hF := hW.free hS hA
  refine va_callv (va_runI (As := []) (rest := [.ref q21, .ref a0]) ⟨hx, hb, hml, hown, hts⟩ (c_Al_init _ h9) (cwI 0 hts (gi_z bw_226) rfl rfl rfl (hts _ bw_14) (hts _ bw_224) (hts _ bw_225) rfl (by decide +kernel) ⟨Nat.le_of_ble_eq_true rfl, Nat.le_of_ble_eq_true rfl⟩) ⟨hI.blind, hI.give hW hS hA hK hZ0⟩ rfl rfl hl.1 rfl (lv_room (Nat.le_of_ble_eq_true rfl)) d_Ch_init_9 ⟨(show _ ≤ 2 by omega), (show _ ≤ 6 by omega)⟩) hS (fun q _ z => hF q z) hF (fun M23 t H locs ht _ h hB1 _ _ hS => ?_)
  have hW := hw_back hF ht hB1
  clear h9
  obtain ⟨fs, h1, h2, h⟩ := h
  obtain ⟨ws, q0, hq, hP, hD, hback, -⟩ := hw_open hW h1
  refine va_putF (D := D) (ci := 0) (v := .ref q21) (ty := .object "java/util/ArrayList") (C := "ChannelHall$Channel") (T := TCh) (N := 10) hx hb hts uCh tCh tCh_ok nCh hown hK hP hD hS q0 hq rfl 4 (by decide) (hts _ bw_258) (fun _ h9 => h9) rfl hin rfl (by decide +kernel) rfl rfl h2 d_Ch_init_12 (fun H locs hP hD hS => ?_)
  have hW := hback _ _ hP hD
  generalize (va_up M23 a0 (some (.inr (0, fs.set 4 (.ref q21))))) = M24 at h hW
  refine lv_aload_n hx hb d_Ch_init_15 rfl (lv_at hl 0 rfl) ?_
  obtain ⟨ws, hP, hD, hmake⟩ := hw_make hW
  refine va_new (ci := 4) (fs := [.null, .int 0, .int 0]) (C := "java/util/ArrayList") (T := TAl) (N := 3) hx hb hts uAl tAl tAl_ok hown (hts _ bw_222) (hts _ bw_223) (hts _ bw_14) hK hP hD hS hA rfl (by decide) (show _ ≤ 2 by omega) (show _ ≤ 6 by omega) d_Ch_init_16 (fun q25 H hP hD hS => ?_)
  obtain ⟨hfr, hW⟩ := hmake _ _ _ hP hD
  replace h := h q25 hfr
  generalize va_up M24 q25 _ = M26 at h hW
  refine lv_dup hx hb d_Ch_init_19 rfl ?_
  have h9 := h
  clear h
  have hF := hW.free hS hA
  refine va_callv (va_runI (As := []) (rest := [.ref q25, .ref a0]) ⟨hx, hb, hml, hown, hts⟩ (c_Al_init _ h9) (cwI 0 hts (gi_z bw_226) rfl rfl rfl (hts _ bw_14) (hts _ bw_224) (hts _ bw_225) rfl (by decide +kernel) ⟨Nat.le_of_ble_eq_true rfl, Nat.le_of_ble_eq_true rfl⟩) ⟨hI.blind, hI.give hW hS hA hK hZ0⟩ rfl rfl hl.1 rfl (lv_room (Nat.le_of_ble_eq_true rfl)) d_Ch_init_20 ⟨(show _ ≤ 2 by omega), (show _ ≤ 6 by omega)⟩) hS (fun q _ z => hF q z) hF (fun M27 t H locs ht _ h hB1 _ _ hS => ?_)
  have hW := hw_back hF ht hB1
  clear h9
  obtain ⟨fs, h1, h2, h⟩ := h
  obtain ⟨ws, q0, hq, hP, hD, hback, -⟩ := hw_open hW h1
  refine va_putF (D := D) (ci := 0) (v := .ref q25) (ty := .object "java/util/ArrayList") (C := "ChannelHall$Channel") (T := TCh) (N := 10) hx hb hts uCh tCh tCh_ok nCh hown hK hP hD hS q0 hq rfl 5 (by decide) (hts _ bw_260) (fun _ h9 => h9) rfl hin rfl (by decide +kernel) rfl rfl h2 d_Ch_init_23 (fun H locs hP hD hS => ?_)
  have hW := hback _ _ hP hD
  generalize (va_up M27 a0 (some (.inr (0, fs.set 5 (.ref q25))))) = M28 at h hW
  refine lv_aload_n hx hb d_Ch_init_26 rfl (lv_at hl 0 rfl) ?_
  refine lv_iconst (v := 0) hx hb d_Ch_init_27 (by decide) ?_
  obtain ⟨fs, h1, h2, h⟩ := h
  obtain ⟨ws, q0, hq, hP, hD, hback, -⟩ := hw_open hW h1
  refine va_put (D := D) (ci := 0) (v := .int 0) (ty := .boolean) (C := "ChannelHall$Channel") (T := TCh) (N := 10) hx hb hts uCh tCh tCh_ok nCh hown hK hP hD hS q0 hq rfl 6 (by decide) (hts _ bw_262) (fun _ h9 => h9) rfl (by decide +kernel) (by decide) (by decide) h2 d_Ch_init_28 (fun H locs hP hD hS => ?_)
  have hW := hback _ _ hP hD
  generalize (va_up M28 a0 (some (.inr (0, fs.set 6 (.int 0))))) = M29 at h hW
  refine lv_aload_n hx hb d_Ch_init_31 rfl (lv_at hl 0 rfl) ?_
  refine lv_iconst (v := 0) hx hb d_Ch_init_32 (by decide) ?_
  obtain ⟨fs, h1, h2, h⟩ := h
  obtain ⟨ws, q0, hq, hP, hD, hback, -⟩ := hw_open hW h1
  refine va_put (D := D) (ci := 0) (v := .int 0) (ty := .int) (C := "ChannelHall$Channel") (T := TCh) (N := 10) hx hb hts uCh tCh tCh_ok nCh hown hK hP hD hS q0 hq rfl 7 (by decide) (hts _ bw_264) (fun _ h9 => h9) rfl (by decide +kernel) rfl rfl h2 d_Ch_init_33 (fun H locs hP hD hS => ?_)
  have hW := hback _ _ hP hD
  generalize (va_up M29 a0 (some (.inr (0, fs.set 7 (.int 0))))) = M30 at h hW
  refine lv_aload_n hx hb d_Ch_init_36 rfl (lv_at hl 0 rfl) ?_
  refine lv_dconst0 hx hb d_Ch_init_37 ?_
  obtain ⟨fs, h1, h2, h⟩ := h
  obtain ⟨ws, q0, hq, hP, hD, hback, -⟩ := hw_open hW h1
  refine va_put (D := D) (ci := 0) (v := .double FP.dconst0) (ty := .double) (C := "ChannelHall$Channel") (T := TCh) (N := 10) hx hb hts uCh tCh tCh_ok nCh hown hK hP hD hS q0 hq rfl 8 (by decide) (hts _ bw_266) (fun _ h9 => h9) rfl (by decide +kernel) rfl rfl h2 d_Ch_init_38 (fun H locs hP hD hS => ?_)
  have hW := hback _ _ hP hD
  generalize (va_up M30 a0 (some (.inr (0, fs.set 8 (.double FP.dconst0))))) = M31 at h hW
  refine lv_aload_n hx hb d_Ch_init_41 rfl (lv_at hl 0 rfl) ?_
  refine lv_iconst (v := 0) hx hb d_Ch_init_42 (by decide) ?_
  obtain ⟨fs, h1, h2, h⟩ := h
  obtain ⟨ws, q0, hq, hP, hD, hback, -⟩ := hw_open hW h1
  refine va_put (D := D) (ci := 0) (v := .int 0) (ty := .int) (C := "ChannelHall$Channel") (T := TCh) (N := 10) hx hb hts uCh tCh tCh_ok nCh hown hK hP hD hS q0 hq rfl 9 (by decide) (hts _ bw_268) (fun _ h9 => h9) rfl (by decide +kernel) rfl rfl h2 d_Ch_init_43 (fun H locs hP hD hS => ?_)
  have hW := hback _ _ hP hD
  generalize (va_up M31 a0 (some (.inr (0, fs.set 9 (.int 0))))) = M32 at h hW
  refine lv_aload_n hx hb d_Ch_init_46 rfl (lv_at hl 0 rfl) ?_
  refine lv_iload_n hx hb d_Ch_init_47 rfl (lv_at hl 1 rfl) ?_
  obtain ⟨fs, h1, h2, h⟩ := h
  obtain ⟨ws, q0, hq, hP, hD, hback, -⟩ := hw_open hW h1
  refine va_putF (D := D) (ci := 0) (v := .int x1) (ty := .int) (C := "ChannelHall$Channel") (T := TCh) (N := 10) hx hb hts uCh tCh tCh_ok nCh hown hK hP hD hS q0 hq rfl 0 (by decide) (hts _ bw_251) (fun _ h9 => h9) rfl hin rfl (by decide +kernel) rfl rfl h2 d_Ch_init_48 (fun H locs hP hD hS => ?_)
  have hW := hback _ _ hP hD
  generalize (va_up M32 a0 (some (.inr (0, fs.set 0 (.int x1))))) = M33 at h hW
  refine lv_aload_n hx hb d_Ch_init_51 rfl (lv_at hl 0 rfl) ?_
  refine lv_iload_n hx hb d_Ch_init_52 rfl (lv_at hl 2 rfl) ?_
  obtain ⟨fs, h1, h2, h⟩ := h
  obtain ⟨ws, q0, hq, hP, hD, hback, -⟩ := hw_open hW h1
  refine va_putF (D := D) (ci := 0) (v := .int x2) (ty := .int) (C := "ChannelHall$Channel") (T := TCh) (N := 10) hx hb hts uCh tCh tCh_ok nCh hown hK hP hD hS q0 hq rfl 1 (by decide) (hts _ bw_253) (fun _ h9 => h9) rfl hin rfl (by decide +kernel) rfl rfl h2 d_Ch_init_53 (fun H locs hP hD hS => ?_)
  have hW := hback _ _ hP hD
  generalize (va_up M33 a0 (some (.inr (0, fs.set 1 (.int x2))))) = M34 at h hW
  refine lv_aload_n hx hb d_Ch_init_56 rfl (lv_at hl 0 rfl) ?_
  refine lv_iload_n hx hb d_Ch_init_57 rfl (lv_at hl 2 rfl) ?_
  refine lv_iload_n hx hb d_Ch_init_58 rfl (lv_at hl 3 rfl) ?_
  have h9 := h
  clear h
  have hF := hW.free hS hA
  refine va_calli (va_runS (As := [.int x2, .int x3]) (rest := [.ref a0]) ⟨hx, hb, hml, hown, hts⟩ (c_Ch_roomOf _ h9) (va_cwS 2 hts (gi_S bw_248 bw_249 bw_11 bw_250) rfl rfl rfl (by decide +kernel) ⟨Nat.le_of_ble_eq_true rfl, Nat.le_of_ble_eq_true rfl⟩) ⟨hI.blind, hI.give hW hS hA hK hZ0⟩ rfl rfl hl.1 rfl (lv_room (Nat.le_of_ble_eq_true rfl)) d_Ch_init_59 ⟨(show _ ≤ 2 by omega), (show _ ≤ 6 by omega)⟩) hS (fun q _ z => hF q z) hF (fun r35 M36 t H locs ht _ h hB1 _ _ hS => ?_)
  have hW := hw_back hF ht hB1
  clear h9
  obtain ⟨fs, h1, h2, h⟩ := h
  obtain ⟨ws, q0, hq, hP, hD, hback, -⟩ := hw_open hW h1
  refine va_putF (D := D) (ci := 0) (v := .int r35) (ty := .int) (C := "ChannelHall$Channel") (T := TCh) (N := 10) hx hb hts uCh tCh tCh_ok nCh hown hK hP hD hS q0 hq rfl 2 (by decide) (hts _ bw_255) (fun _ h9 => h9) rfl hin rfl (by decide +kernel) rfl rfl h2 d_Ch_init_62 (fun H locs hP hD hS => ?_)
  have hW := hback _ _ hP hD
  generalize (va_up M36 a0 (some (.inr (0, fs.set 2 (.int r35))))) = M37 at h hW
  refine lv_aload_n hx hb d_Ch_init_65 rfl (lv_at hl 0 rfl) ?_
  refine lv_iload_n hx hb d_Ch_init_66 rfl (lv_at hl 2 rfl) ?_
  refine lv_bipush (v := 6) hx hb d_Ch_init_67 (by decide) ?_
  obtain ⟨h0, h1⟩ := h
  refine lv_icmp_ne (tgt := 76) hx hb d_Ch_init_69 (by decide) (fun c38 => ?_) (fun c38 => ?_)
  · have h := h0 c38
    refine lv_iconst (v := 0) hx hb d_Ch_init_76 (by decide) ?_
    exact l_Ch_init_77 C0 hin 0 a0 (by omega) (by omega) h hW hS (lv_sub hl [] rfl)
  · have h := h1 c38
    refine lv_iload_n hx hb d_Ch_init_72 rfl (lv_at hl 3 rfl) ?_
    refine lv_goto (tgt := 77) hx hb d_Ch_init_73 (by decide) ?_
    exact l_Ch_init_77 C0 hin x3 a0 (by omega) (by omega) h hW hS (lv_sub hl [] rfl)
set_option maxRecDepth 20000 in
theorem c_Ch_init {l : Launch} {D : va_G} {ca G : Nat → Nat} (post : hM → Prop) {M : hM} {sz : Nat} {a0 : Nat} {x1 : Int32} {x2 : Int32} {x3 : Int32} (h : wp_Ch_init G ca post M a0 x1 x2 x3) : Met l y_Ch_init (wz y_Ch_init prog_2_method_1_code 4 (none)) rm_Ch_init (va_Pc [.ref a0, .int x1, .int x2, .int x3] (hI D ca G sz M)) (va_Qv post (hB D M sz) (hp_A M sz)) 2 6 (hp_A M sz) := by
  refine Met.ofW (cc := prog_2_method_1_code) (maxL := 4) (ret := none) (by decide) rfl ?_
  intro p e s m args below meth c s₁ B hml hv
  obtain ⟨rfl, hsz, hW, hK, hZ0⟩ := hv
  have hts := fun w hw => atoms_spec (ws := wz y_Ch_init prog_2_method_1_code 4 (none)) B.pre w (List.mem_cons_of_mem _ hw)
  have hown : s.vm.findClass "ChannelHall$Channel" = some m.cls := findClass_of_methodNamed B.named
  subst hsz
  have hl := lv_entry [.ref a0, .int x1, .int x2, .int x3] (n := 4) (Nat.le_of_ble_eq_true rfl)
  rw [lg_entry_eq]
  exact l_Ch_init_e ⟨B.exec, B.bytes, B.returns, hml, hown, hts, B.notSynchronized, hK, fun q h => Or.inr h, hZ0⟩ (name_of_methodNamed B.named B.method).1 a0 x1 x2 x3 (Nat.zero_le _) (Nat.zero_le _) h hW va_S.rf hl

theorem d_As_newLength_0 : decode prog_38_method_27_code 0 = .ok (.iload_n 0, 1) := by decide +kernel
theorem d_As_newLength_1 : decode prog_38_method_27_code 1 = .ok (.iload_n 1, 1) := by decide +kernel
theorem d_As_newLength_2 : decode prog_38_method_27_code 2 = .ok (.iload_n 2, 1) := by decide +kernel
theorem d_As_newLength_3 : decode prog_38_method_27_code 3 = .ok (.invokestatic 194, 3) := by decide +kernel
theorem d_As_newLength_6 : decode prog_38_method_27_code 6 = .ok (.iadd, 1) := by decide +kernel
theorem d_As_newLength_7 : decode prog_38_method_27_code 7 = .ok (.istore_n 3, 1) := by decide +kernel
theorem d_As_newLength_8 : decode prog_38_method_27_code 8 = .ok (.iconst 0, 1) := by decide +kernel
theorem d_As_newLength_9 : decode prog_38_method_27_code 9 = .ok (.iload_n 3, 1) := by decide +kernel
theorem d_As_newLength_10 : decode prog_38_method_27_code 10 = .ok (.if_icmp .ge 11, 3) := by decide +kernel
theorem d_As_newLength_13 : decode prog_38_method_27_code 13 = .ok (.iload_n 3, 1) := by decide +kernel
theorem d_As_newLength_14 : decode prog_38_method_27_code 14 = .ok (.ldc 200, 2) := by decide +kernel
theorem d_As_newLength_16 : decode prog_38_method_27_code 16 = .ok (.if_icmp .gt 5, 3) := by decide +kernel
theorem d_As_newLength_19 : decode prog_38_method_27_code 19 = .ok (.iload_n 3, 1) := by decide +kernel
theorem d_As_newLength_20 : decode prog_38_method_27_code 20 = .ok (.ireturn, 1) := by decide +kernel
theorem d_As_newLength_21 : decode prog_38_method_27_code 21 = .ok (.iload_n 0, 1) := by decide +kernel
def y_As_newLength : MethodName := ⟨"jdk/internal/util/ArraysSupport", "newLength", "(III)I"⟩
abbrev rm_As_newLength : Room := { frames := 1, cells := 0, slots := 0, locals := 14 }
def wp_As_newLength_21 (G ca : Nat → Nat) (post : Int32 → hM → Prop) (M : hM) (l0b21 : Int32) : Prop := False
def wp_As_newLength (G ca : Nat → Nat) (post : Int32 → hM → Prop) (M : hM) (x0 : Int32) (x1 : Int32) (x2 : Int32) : Prop := ((x0 + (if x1 < x2 then x2 else x1)) ≤ 0 → wp_As_newLength_21 G ca post M x0) ∧ (¬ (x0 + (if x1 < x2 then x2 else x1)) ≤ 0 → (2147483639 < (x0 + (if x1 < x2 then x2 else x1)) → wp_As_newLength_21 G ca post M x0) ∧ (¬ 2147483639 < (x0 + (if x1 < x2 then x2 else x1)) → post (x0 + (if x1 < x2 then x2 else x1)) M))
set_option maxHeartbeats 1000000 in
set_option maxRecDepth 20000 in
theorem l_As_newLength_21 {p : Program} {l : Launch} {e : Env} {s : State} {m : MethodId} {args : Array Value} {below : List Frame} {meth : Method} {c : Code} {D : va_G} {ca G : Nat → Nat} {A : Nat → Prop} (C0 : hC p s m args meth c D ca G prog_38_method_27_code 4 (some .int) "jdk/internal/util/ArraysSupport" A) {post : Int32 → hM → Prop} {M : hM} {H : Heap} {locs : List Loc} {ls : Array Slot} (l0b21 : Int32) (h : wp_As_newLength_21 G ca post M l0b21) (hW : hw D wCl A M H) (hS : va_S A s.heap H locs) (hl : lv_has ls 4 [(0, .int l0b21)]) : W p l e rm_As_newLength s m args below meth c H locs 0 0 (MQ below (va_Qi post (fun M' t => hw D wCl A M' t.heap) A) args s 0 0 A) (F0 m 21 ls []) := by
  obtain ⟨hx, hb, hr, hml, hown, hts, hlocks, hK, hA, hZ0⟩ := id C0
  exact h.elim
set_option maxHeartbeats 1000000 in
set_option maxRecDepth 20000 in
theorem l_As_newLength_e {p : Program} {l : Launch} {e : Env} {s : State} {m : MethodId} {args : Array Value} {below : List Frame} {meth : Method} {c : Code} {D : va_G} {ca G : Nat → Nat} {A : Nat → Prop} (C0 : hC p s m args meth c D ca G prog_38_method_27_code 4 (some .int) "jdk/internal/util/ArraysSupport" A) {post : Int32 → hM → Prop} {M : hM} {H : Heap} {locs : List Loc} {ls : Array Slot} (x0 : Int32) (x1 : Int32) (x2 : Int32) (h : wp_As_newLength G ca post M x0 x1 x2) (hW : hw D wCl A M H) (hS : va_S A s.heap H locs) (hl : lv_has ls 4 [(0, .int x0), (1, .int x1), (2, .int x2)]) : W p l e rm_As_newLength s m args below meth c H locs 0 0 (MQ below (va_Qi post (fun M' t => hw D wCl A M' t.heap) A) args s 0 0 A) (F0 m 0 ls []) := by
  obtain ⟨hx, hb, hr, hml, hown, hts, hlocks, hK, hA, hZ0⟩ := id C0
  refine lv_iload_n hx hb d_As_newLength_0 rfl (lv_at hl 0 rfl) ?_
  refine lv_iload_n hx hb d_As_newLength_1 rfl (lv_at hl 1 rfl) ?_
  refine lv_iload_n hx hb d_As_newLength_2 rfl (lv_at hl 2 rfl) ?_
  refine va_mmax (rest := [.int x0]) hx hb (hml.trans hl.1.symm) hown (hts _ bw_425) (hts _ bw_426) (hts _ bw_20) (hts _ bw_427) (by decide) (Nat.le_of_ble_eq_true rfl) (show _ ≤ 0 by omega) (show _ ≤ 0 by omega) d_As_newLength_3 ?_
  refine lv_iadd hx hb d_As_newLength_6 ?_
  refine lv_istore_n (lv' := [(3, .int (x0 + (if x1 < x2 then x2 else x1))), (0, .int x0), (1, .int x1), (2, .int x2)]) hx hb d_As_newLength_7 rfl hl (by decide) rfl (fun ls hl => ?_)
  refine lv_iconst (v := 0) hx hb d_As_newLength_8 (by decide) ?_
  refine lv_iload_n hx hb d_As_newLength_9 rfl (lv_at hl 0 rfl) ?_
  obtain ⟨h0, h1⟩ := h
  refine lv_icmp_ge (tgt := 21) hx hb d_As_newLength_10 (by decide) (fun c3 => ?_) (fun c3 => ?_)
  · have h := h0 c3
    exact l_As_newLength_21 C0 x0 h hW hS (lv_sub hl [1] rfl)
  · have h := h1 c3
    refine lv_iload_n hx hb d_As_newLength_13 rfl (lv_at hl 0 rfl) ?_
    refine lv_ldc (v := 2147483639) hx hb hown (hts _ bw_428) d_As_newLength_14 ?_
    obtain ⟨h0, h1⟩ := h
    refine lv_icmp_gt (tgt := 21) hx hb d_As_newLength_16 (by decide) (fun c4 => ?_) (fun c4 => ?_)
    · have h := h0 c4
      exact l_As_newLength_21 C0 x0 h hW hS (lv_sub hl [1] rfl)
    · have h := h1 c4
      refine lv_iload_n hx hb d_As_newLength_19 rfl (lv_at hl 0 rfl) ?_
      exact W.iret hx hb hr (fun t ht hWm => ⟨⟨_, _, rfl, h, hw_t ht hW⟩, hS.F ht⟩) hS.2.2 d_As_newLength_20
set_option maxRecDepth 20000 in
theorem c_As_newLength {l : Launch} {D : va_G} {ca G : Nat → Nat} (post : Int32 → hM → Prop) {M : hM} {sz : Nat} {x0 : Int32} {x1 : Int32} {x2 : Int32} (h : wp_As_newLength G ca post M x0 x1 x2) : Met l y_As_newLength (wz y_As_newLength prog_38_method_27_code 4 (some .int)) rm_As_newLength (va_Pc [.int x0, .int x1, .int x2] (hI D ca G sz M)) (va_Qi post (hB D M sz) (hp_A M sz)) 0 0 (hp_A M sz) := by
  refine Met.ofW (cc := prog_38_method_27_code) (maxL := 4) (ret := some .int) (by decide) rfl ?_
  intro p e s m args below meth c s₁ B hml hv
  obtain ⟨rfl, hsz, hW, hK, hZ0⟩ := hv
  have hts := fun w hw => atoms_spec (ws := wz y_As_newLength prog_38_method_27_code 4 (some .int)) B.pre w (List.mem_cons_of_mem _ hw)
  have hown : s.vm.findClass "jdk/internal/util/ArraysSupport" = some m.cls := findClass_of_methodNamed B.named
  subst hsz
  have hl := lv_entry [.int x0, .int x1, .int x2] (n := 4) (Nat.le_of_ble_eq_true rfl)
  rw [lg_entry_eq]
  exact l_As_newLength_e ⟨B.exec, B.bytes, B.returns, hml, hown, hts, B.notSynchronized, hK, fun q h => Or.inr h, hZ0⟩ x0 x1 x2 h hW va_S.rf hl

theorem d_Pc_checkIndex_0 : decode prog_39_method_11_code 0 = .ok (.iload_n 0, 1) := by decide +kernel
theorem d_Pc_checkIndex_1 : decode prog_39_method_11_code 1 = .ok (.ifCond .lt 8, 3) := by decide +kernel
theorem d_Pc_checkIndex_4 : decode prog_39_method_11_code 4 = .ok (.iload_n 0, 1) := by decide +kernel
theorem d_Pc_checkIndex_5 : decode prog_39_method_11_code 5 = .ok (.iload_n 1, 1) := by decide +kernel
theorem d_Pc_checkIndex_6 : decode prog_39_method_11_code 6 = .ok (.if_icmp .lt 10, 3) := by decide +kernel
theorem d_Pc_checkIndex_9 : decode prog_39_method_11_code 9 = .ok (.aload_n 2, 1) := by decide +kernel
theorem d_Pc_checkIndex_16 : decode prog_39_method_11_code 16 = .ok (.iload_n 0, 1) := by decide +kernel
theorem d_Pc_checkIndex_17 : decode prog_39_method_11_code 17 = .ok (.ireturn, 1) := by decide +kernel
def y_Pc_checkIndex : MethodName := ⟨"jdk/internal/util/Preconditions", "checkIndex", "(IILjava/util/function/BiFunction;)I"⟩
abbrev rm_Pc_checkIndex : Room := { frames := 0, cells := 0, slots := 0, locals := 0 }
def wp_Pc_checkIndex_9 (G ca : Nat → Nat) (post : Int32 → hM → Prop) (M : hM) (l2b9 : Option Nat) : Prop := False
def wp_Pc_checkIndex (G ca : Nat → Nat) (post : Int32 → hM → Prop) (M : hM) (x0 : Int32) (x1 : Int32) (a2 : Option Nat) : Prop := (x0 < 0 → wp_Pc_checkIndex_9 G ca post M a2) ∧ (¬ x0 < 0 → (x0 < x1 → post x0 M) ∧ (¬ x0 < x1 → wp_Pc_checkIndex_9 G ca post M a2))
set_option maxHeartbeats 1000000 in
set_option maxRecDepth 20000 in
theorem l_Pc_checkIndex_9 {p : Program} {l : Launch} {e : Env} {s : State} {m : MethodId} {args : Array Value} {below : List Frame} {meth : Method} {c : Code} {D : va_G} {ca G : Nat → Nat} {A : Nat → Prop} (C0 : hC p s m args meth c D ca G prog_39_method_11_code 3 (some .int) "jdk/internal/util/Preconditions" A) {post : Int32 → hM → Prop} {M : hM} {H : Heap} {locs : List Loc} {ls : Array Slot} (l2b9 : Option Nat) (h : wp_Pc_checkIndex_9 G ca post M l2b9) (hW : hw D wCl A M H) (hS : va_S A s.heap H locs) (hl : lv_has ls 3 [(2, va_rf l2b9)]) : W p l e rm_Pc_checkIndex s m args below meth c H locs 0 0 (MQ below (va_Qi post (fun M' t => hw D wCl A M' t.heap) A) args s 0 0 A) (F0 m 9 ls []) := by
  obtain ⟨hx, hb, hr, hml, hown, hts, hlocks, hK, hA, hZ0⟩ := id C0
  exact h.elim
set_option maxHeartbeats 1000000 in
set_option maxRecDepth 20000 in
theorem l_Pc_checkIndex_e {p : Program} {l : Launch} {e : Env} {s : State} {m : MethodId} {args : Array Value} {below : List Frame} {meth : Method} {c : Code} {D : va_G} {ca G : Nat → Nat} {A : Nat → Prop} (C0 : hC p s m args meth c D ca G prog_39_method_11_code 3 (some .int) "jdk/internal/util/Preconditions" A) {post : Int32 → hM → Prop} {M : hM} {H : Heap} {locs : List Loc} {ls : Array Slot} (x0 : Int32) (x1 : Int32) (a2 : Option Nat) (h : wp_Pc_checkIndex G ca post M x0 x1 a2) (hW : hw D wCl A M H) (hS : va_S A s.heap H locs) (hl : lv_has ls 3 [(0, .int x0), (1, .int x1), (2, va_rf a2)]) : W p l e rm_Pc_checkIndex s m args below meth c H locs 0 0 (MQ below (va_Qi post (fun M' t => hw D wCl A M' t.heap) A) args s 0 0 A) (F0 m 0 ls []) := by
  obtain ⟨hx, hb, hr, hml, hown, hts, hlocks, hK, hA, hZ0⟩ := id C0
  refine lv_iload_n hx hb d_Pc_checkIndex_0 rfl (lv_at hl 0 rfl) ?_
  obtain ⟨h0, h1⟩ := h
  refine lv_if_lt (tgt := 9) hx hb d_Pc_checkIndex_1 (by decide) (fun c3 => ?_) (fun c3 => ?_)
  · have h := h0 c3
    exact l_Pc_checkIndex_9 C0 a2 h hW hS (lv_sub hl [2] rfl)
  · have h := h1 c3
    refine lv_iload_n hx hb d_Pc_checkIndex_4 rfl (lv_at hl 0 rfl) ?_
    refine lv_iload_n hx hb d_Pc_checkIndex_5 rfl (lv_at hl 1 rfl) ?_
    obtain ⟨h0, h1⟩ := h
    refine lv_icmp_lt (tgt := 16) hx hb d_Pc_checkIndex_6 (by decide) (fun c4 => ?_) (fun c4 => ?_)
    · have h := h0 c4
      refine lv_iload_n hx hb d_Pc_checkIndex_16 rfl (lv_at hl 0 rfl) ?_
      exact W.iret hx hb hr (fun t ht hWm => ⟨⟨_, _, rfl, h, hw_t ht hW⟩, hS.F ht⟩) hS.2.2 d_Pc_checkIndex_17
    · have h := h1 c4
      exact l_Pc_checkIndex_9 C0 a2 h hW hS (lv_sub hl [2] rfl)
set_option maxRecDepth 20000 in
theorem c_Pc_checkIndex {l : Launch} {D : va_G} {ca G : Nat → Nat} (post : Int32 → hM → Prop) {M : hM} {sz : Nat} {x0 : Int32} {x1 : Int32} {a2 : Option Nat} (h : wp_Pc_checkIndex G ca post M x0 x1 a2) : Met l y_Pc_checkIndex (wz y_Pc_checkIndex prog_39_method_11_code 3 (some .int)) rm_Pc_checkIndex (va_Pc [.int x0, .int x1, va_rf a2] (hI D ca G sz M)) (va_Qi post (hB D M sz) (hp_A M sz)) 0 0 (hp_A M sz) := by
  refine Met.ofW (cc := prog_39_method_11_code) (maxL := 3) (ret := some .int) (by decide) rfl ?_
  intro p e s m args below meth c s₁ B hml hv
  obtain ⟨rfl, hsz, hW, hK, hZ0⟩ := hv
  have hts := fun w hw => atoms_spec (ws := wz y_Pc_checkIndex prog_39_method_11_code 3 (some .int)) B.pre w (List.mem_cons_of_mem _ hw)
  have hown : s.vm.findClass "jdk/internal/util/Preconditions" = some m.cls := findClass_of_methodNamed B.named
  subst hsz
  have hl : lv_has ((lg_sl [.int x0, .int x1, va_rf a2] ++ List.replicate (3 - (lg_sl [.int x0, .int x1, va_rf a2]).length) Slot.unset).toArray) 3 [(0, .int x0), (1, .int x1), (2, va_rf a2)] := by cases a2 <;> exact lv_entry _ (Nat.le_of_ble_eq_true rfl)
  rw [lg_entry_eq]
  exact l_Pc_checkIndex_e ⟨B.exec, B.bytes, B.returns, hml, hown, hts, B.notSynchronized, hK, fun q h => Or.inr h, hZ0⟩ x0 x1 a2 h hW va_S.rf hl

theorem d_Ob_checkIndex_0 : decode prog_35_method_17_code 0 = .ok (.iload_n 0, 1) := by decide +kernel
theorem d_Ob_checkIndex_1 : decode prog_35_method_17_code 1 = .ok (.iload_n 1, 1) := by decide +kernel
theorem d_Ob_checkIndex_2 : decode prog_35_method_17_code 2 = .ok (.aconst_null, 1) := by decide +kernel
theorem d_Ob_checkIndex_3 : decode prog_35_method_17_code 3 = .ok (.invokestatic 105, 3) := by decide +kernel
theorem d_Ob_checkIndex_6 : decode prog_35_method_17_code 6 = .ok (.ireturn, 1) := by decide +kernel
def y_Ob_checkIndex : MethodName := ⟨"java/util/Objects", "checkIndex", "(II)I"⟩
abbrev rm_Ob_checkIndex : Room := { frames := 1, cells := 0, slots := 0, locals := 22 }
def wp_Ob_checkIndex (G ca : Nat → Nat) (post : Int32 → hM → Prop) (M : hM) (x0 : Int32) (x1 : Int32) : Prop := wp_Pc_checkIndex G ca (fun r3 M4 => post r3 M4) M x0 x1 none
set_option maxHeartbeats 1000000 in
set_option maxRecDepth 20000 in
theorem l_Ob_checkIndex_e {p : Program} {l : Launch} {e : Env} {s : State} {m : MethodId} {args : Array Value} {below : List Frame} {meth : Method} {c : Code} {D : va_G} {ca G : Nat → Nat} {A : Nat → Prop} (C0 : hC p s m args meth c D ca G prog_35_method_17_code 2 (some .int) "java/util/Objects" A) {post : Int32 → hM → Prop} {M : hM} {H : Heap} {locs : List Loc} {ls : Array Slot} (x0 : Int32) (x1 : Int32) (h : wp_Ob_checkIndex G ca post M x0 x1) (hW : hw D wCl A M H) (hS : va_S A s.heap H locs) (hl : lv_has ls 2 [(0, .int x0), (1, .int x1)]) : W p l e rm_Ob_checkIndex s m args below meth c H locs 0 0 (MQ below (va_Qi post (fun M' t => hw D wCl A M' t.heap) A) args s 0 0 A) (F0 m 0 ls []) := by
  obtain ⟨hx, hb, hr, hml, hown, hts, hlocks, hK, hA, hZ0⟩ := id C0
  refine lv_iload_n hx hb d_Ob_checkIndex_0 rfl (lv_at hl 0 rfl) ?_
  refine lv_iload_n hx hb d_Ob_checkIndex_1 rfl (lv_at hl 1 rfl) ?_
  refine lv_null hx hb d_Ob_checkIndex_2 ?_
  have h9 := h
  clear h
  have hF := hW.free hS hA
  refine va_calli (va_runS (As := [.int x0, .int x1, .null]) (rest := []) ⟨hx, hb, hml, hown, hts⟩ (c_Pc_checkIndex _ h9) (va_cwS 3 hts (gi_S bw_387 bw_388 bw_18 bw_389) rfl rfl rfl (by decide +kernel) ⟨Nat.le_of_ble_eq_true rfl, Nat.le_of_ble_eq_true rfl⟩) ⟨hI.blind, hI.give hW hS hA hK hZ0⟩ rfl rfl hl.1 rfl (lv_room (Nat.le_of_ble_eq_true rfl)) d_Ob_checkIndex_3 ⟨(show _ ≤ 0 by omega), (show _ ≤ 0 by omega)⟩) hS (fun q _ z => hF q z) hF (fun r3 M4 t H locs ht _ h hB1 _ _ hS => ?_)
  have hW := hw_back hF ht hB1
  clear h9
  exact W.iret hx hb hr (fun t ht hWm => ⟨⟨_, _, rfl, h, hw_t ht hW⟩, hS.F ht⟩) hS.2.2 d_Ob_checkIndex_6
set_option maxRecDepth 20000 in
theorem c_Ob_checkIndex {l : Launch} {D : va_G} {ca G : Nat → Nat} (post : Int32 → hM → Prop) {M : hM} {sz : Nat} {x0 : Int32} {x1 : Int32} (h : wp_Ob_checkIndex G ca post M x0 x1) : Met l y_Ob_checkIndex (wz y_Ob_checkIndex prog_35_method_17_code 2 (some .int)) rm_Ob_checkIndex (va_Pc [.int x0, .int x1] (hI D ca G sz M)) (va_Qi post (hB D M sz) (hp_A M sz)) 0 0 (hp_A M sz) := by
  refine Met.ofW (cc := prog_35_method_17_code) (maxL := 2) (ret := some .int) (by decide) rfl ?_
  intro p e s m args below meth c s₁ B hml hv
  obtain ⟨rfl, hsz, hW, hK, hZ0⟩ := hv
  have hts := fun w hw => atoms_spec (ws := wz y_Ob_checkIndex prog_35_method_17_code 2 (some .int)) B.pre w (List.mem_cons_of_mem _ hw)
  have hown : s.vm.findClass "java/util/Objects" = some m.cls := findClass_of_methodNamed B.named
  subst hsz
  have hl := lv_entry [.int x0, .int x1] (n := 2) (Nat.le_of_ble_eq_true rfl)
  rw [lg_entry_eq]
  exact l_Ob_checkIndex_e ⟨B.exec, B.bytes, B.returns, hml, hown, hts, B.notSynchronized, hK, fun q h => Or.inr h, hZ0⟩ x0 x1 h hW va_S.rf hl

theorem d_Al_elementData_0 : decode prog_30_method_18_code 0 = .ok (.aload_n 0, 1) := by decide +kernel
theorem d_Al_elementData_1 : decode prog_30_method_18_code 1 = .ok (.getfield 9, 3) := by decide +kernel
theorem d_Al_elementData_4 : decode prog_30_method_18_code 4 = .ok (.iload_n 1, 1) := by decide +kernel
theorem d_Al_elementData_5 : decode prog_30_method_18_code 5 = .ok (.aaload, 1) := by decide +kernel
theorem d_Al_elementData_6 : decode prog_30_method_18_code 6 = .ok (.areturn, 1) := by decide +kernel
def y_Al_elementData : MethodName := ⟨"java/util/ArrayList", "elementData", "(I)Ljava/lang/Object;"⟩
abbrev rm_Al_elementData : Room := { frames := 0, cells := 0, slots := 0, locals := 0 }
def wp_Al_elementData (G ca : Nat → Nat) (post : Option Nat → hM → Prop) (M : hM) (a0 : Nat) (x1 : Int32) : Prop := gR M a0 4 0 fun v4 => nN v4 fun b5 => aR M b5 (ca 2) x1 fun v6 => post v6 M
set_option maxHeartbeats 1000000 in
set_option maxRecDepth 20000 in
theorem l_Al_elementData_e {p : Program} {l : Launch} {e : Env} {s : State} {m : MethodId} {args : Array Value} {below : List Frame} {meth : Method} {c : Code} {D : va_G} {ca G : Nat → Nat} {A : Nat → Prop} (C0 : hC p s m args meth c D ca G prog_30_method_18_code 2 (some (.object "java/lang/Object")) "java/util/ArrayList" A) {post : Option Nat → hM → Prop} {M : hM} {H : Heap} {locs : List Loc} {ls : Array Slot} (a0 : Nat) (x1 : Int32) (h : wp_Al_elementData G ca post M a0 x1) (hW : hw D wCl A M H) (hS : va_S A s.heap H locs) (hl : lv_has ls 2 [(0, .ref a0), (1, .int x1)]) : W p l e rm_Al_elementData s m args below meth c H locs 0 0 (MQ below (va_Qq post (fun M' t => hw D wCl A M' t.heap) A) args s 0 0 A) (F0 m 0 ls []) := by
  obtain ⟨hx, hb, hr, hml, hown, hts, hlocks, hK, hA, hZ0⟩ := id C0
  refine lv_aload_n hx hb d_Al_elementData_0 rfl (lv_at hl 0 rfl) ?_
  obtain ⟨fs, v4, h1, h2, h⟩ := h
  refine va_get (D := D) (ci := 4) (v := va_rf v4) (C := "java/util/ArrayList") (T := TAl) (N := 3) hx hb hts uAl hown hK (hw_one hW h1) 0 rfl rfl 0 (by decide) (hts _ bw_236) (fun _ h9 => h9) h2 d_Al_elementData_1 ?_
  refine lv_iload_n hx hb d_Al_elementData_4 rfl (lv_at hl 1 rfl) ?_
  obtain ⟨b5, rfl, h⟩ := h
  obtain ⟨n, f, h1, h2, h⟩ := h
  refine va_aldq hx hb hK (hw_one hW h1) 0 2 rfl rfl h2 d_Al_elementData_5 ?_
  generalize f (x1).toNatClampNeg = v6 at h ⊢
  exact W.aret hx hb hr (Or.inl ⟨_, rfl⟩) (va_rf_or _) (fun t ht hWm => ⟨⟨v6, _, rfl, h, hw_t ht hW⟩, hS.F ht⟩) hS.2.2 d_Al_elementData_6
set_option maxRecDepth 20000 in
theorem c_Al_elementData {l : Launch} {D : va_G} {ca G : Nat → Nat} (post : Option Nat → hM → Prop) {M : hM} {sz : Nat} {a0 : Nat} {x1 : Int32} (h : wp_Al_elementData G ca post M a0 x1) : Met l y_Al_elementData (wz y_Al_elementData prog_30_method_18_code 2 (some (.object "java/lang/Object"))) rm_Al_elementData (va_Pc [.ref a0, .int x1] (hI D ca G sz M)) (va_Qq post (hB D M sz) (hp_A M sz)) 0 0 (hp_A M sz) := by
  refine Met.ofW (cc := prog_30_method_18_code) (maxL := 2) (ret := some (.object "java/lang/Object")) (by decide) rfl ?_
  intro p e s m args below meth c s₁ B hml hv
  obtain ⟨rfl, hsz, hW, hK, hZ0⟩ := hv
  have hts := fun w hw => atoms_spec (ws := wz y_Al_elementData prog_30_method_18_code 2 (some (.object "java/lang/Object"))) B.pre w (List.mem_cons_of_mem _ hw)
  have hown : s.vm.findClass "java/util/ArrayList" = some m.cls := findClass_of_methodNamed B.named
  subst hsz
  have hl := lv_entry [.ref a0, .int x1] (n := 2) (Nat.le_of_ble_eq_true rfl)
  rw [lg_entry_eq]
  exact l_Al_elementData_e ⟨B.exec, B.bytes, B.returns, hml, hown, hts, B.notSynchronized, hK, fun q h => Or.inr h, hZ0⟩ a0 x1 h hW va_S.rf hl

theorem d_Al_get_0 : decode prog_30_method_20_code 0 = .ok (.iload_n 1, 1) := by decide +kernel
theorem d_Al_get_1 : decode prog_30_method_20_code 1 = .ok (.aload_n 0, 1) := by decide +kernel
theorem d_Al_get_2 : decode prog_30_method_20_code 2 = .ok (.getfield 48, 3) := by decide +kernel
theorem d_Al_get_5 : decode prog_30_method_20_code 5 = .ok (.invokestatic 118, 3) := by decide +kernel
theorem d_Al_get_8 : decode prog_30_method_20_code 8 = .ok (.pop, 1) := by decide +kernel
theorem d_Al_get_9 : decode prog_30_method_20_code 9 = .ok (.aload_n 0, 1) := by decide +kernel
theorem d_Al_get_10 : decode prog_30_method_20_code 10 = .ok (.iload_n 1, 1) := by decide +kernel
theorem d_Al_get_11 : decode prog_30_method_20_code 11 = .ok (.invokevirtual 123, 3) := by decide +kernel
theorem d_Al_get_14 : decode prog_30_method_20_code 14 = .ok (.areturn, 1) := by decide +kernel
def y_Al_get : MethodName := ⟨"java/util/ArrayList", "get", "(I)Ljava/lang/Object;"⟩
abbrev rm_Al_get : Room := { frames := 2, cells := 0, slots := 0, locals := 43 }
def wp_Al_get (G ca : Nat → Nat) (post : Option Nat → hM → Prop) (M : hM) (a0 : Nat) (x1 : Int32) : Prop := gI M a0 4 1 fun v6 => wp_Ob_checkIndex G ca (fun r7 M8 => rC M8 a0 4 (wp_Al_elementData G ca (fun r9 M10 => post r9 M10) M8 a0 x1)) M x1 v6
set_option maxHeartbeats 1000000 in
set_option maxRecDepth 20000 in
theorem l_Al_get_e {p : Program} {l : Launch} {e : Env} {s : State} {m : MethodId} {args : Array Value} {below : List Frame} {meth : Method} {c : Code} {D : va_G} {ca G : Nat → Nat} {A : Nat → Prop} (C0 : hC p s m args meth c D ca G prog_30_method_20_code 2 (some (.object "java/lang/Object")) "java/util/ArrayList" A) {post : Option Nat → hM → Prop} {M : hM} {H : Heap} {locs : List Loc} {ls : Array Slot} (a0 : Nat) (x1 : Int32) (h : wp_Al_get G ca post M a0 x1) (hW : hw D wCl A M H) (hS : va_S A s.heap H locs) (hl : lv_has ls 2 [(0, .ref a0), (1, .int x1)]) : W p l e rm_Al_get s m args below meth c H locs 0 0 (MQ below (va_Qq post (fun M' t => hw D wCl A M' t.heap) A) args s 0 0 A) (F0 m 0 ls []) := by
  obtain ⟨hx, hb, hr, hml, hown, hts, hlocks, hK, hA, hZ0⟩ := id C0
  refine lv_iload_n hx hb d_Al_get_0 rfl (lv_at hl 1 rfl) ?_
  refine lv_aload_n hx hb d_Al_get_1 rfl (lv_at hl 0 rfl) ?_
  obtain ⟨fs, v6, h1, h2, h⟩ := h
  refine va_get (D := D) (ci := 4) (v := .int v6) (C := "java/util/ArrayList") (T := TAl) (N := 3) hx hb hts uAl hown hK (hw_one hW h1) 0 rfl rfl 1 (by decide) (hts _ bw_237) (fun _ h9 => h9) h2 d_Al_get_2 ?_
  have h9 := h
  clear h
  have hF := hW.free hS hA
  refine va_calli (va_runS (As := [.int x1, .int v6]) (rest := []) ⟨hx, hb, hml, hown, hts⟩ (c_Ob_checkIndex _ h9) (va_cwS 2 hts (gi_S bw_384 bw_385 bw_17 bw_386) rfl rfl rfl (by decide +kernel) ⟨Nat.le_of_ble_eq_true rfl, Nat.le_of_ble_eq_true rfl⟩) ⟨hI.blind, hI.give hW hS hA hK hZ0⟩ rfl rfl hl.1 rfl (lv_room (Nat.le_of_ble_eq_true rfl)) d_Al_get_5 ⟨(show _ ≤ 0 by omega), (show _ ≤ 0 by omega)⟩) hS (fun q _ z => hF q z) hF (fun r7 M8 t H locs ht _ h hB1 _ _ hS => ?_)
  have hW := hw_back hF ht hB1
  clear h9
  refine lv_pop hx hb d_Al_get_8 rfl ?_
  refine lv_aload_n hx hb d_Al_get_9 rfl (lv_at hl 0 rfl) ?_
  refine lv_iload_n hx hb d_Al_get_10 rfl (lv_at hl 1 rfl) ?_
  obtain ⟨⟨fs, h1⟩, h⟩ := h
  have h9 := h
  clear h
  have hF := hW.free hS hA
  refine va_callq (va_runV (As := [.int x1]) (rest := []) ⟨hx, hb, hml, hown, hts⟩ (c_Al_elementData _ h9) (cwV 1 hts (gi_V bw_390 bw_391 bw_392 bw_14 bw_393) rfl rfl rfl (by decide +kernel) ⟨Nat.le_of_ble_eq_true rfl, Nat.le_of_ble_eq_true rfl⟩) ⟨hI.blind, hw_recv hK hW h1 rfl, hI.give hW hS hA hK hZ0⟩ rfl rfl hl.1 rfl (lv_room (Nat.le_of_ble_eq_true rfl)) d_Al_get_11 ⟨(show _ ≤ 0 by omega), (show _ ≤ 0 by omega)⟩) hS (fun q _ z => hF q z) hF (fun r9 M10 t H locs ht _ h hB1 _ _ hS => ?_)
  have hW := hw_back hF ht hB1
  clear h9
  exact W.aret hx hb hr (Or.inl ⟨_, rfl⟩) (va_rf_or _) (fun t ht hWm => ⟨⟨r9, _, rfl, h, hw_t ht hW⟩, hS.F ht⟩) hS.2.2 d_Al_get_14
set_option maxRecDepth 20000 in
theorem c_Al_get {l : Launch} {D : va_G} {ca G : Nat → Nat} (post : Option Nat → hM → Prop) {M : hM} {sz : Nat} {a0 : Nat} {x1 : Int32} (h : wp_Al_get G ca post M a0 x1) : Met l y_Al_get (wz y_Al_get prog_30_method_20_code 2 (some (.object "java/lang/Object"))) rm_Al_get (va_Pc [.ref a0, .int x1] (hI D ca G sz M)) (va_Qq post (hB D M sz) (hp_A M sz)) 0 0 (hp_A M sz) := by
  refine Met.ofW (cc := prog_30_method_20_code) (maxL := 2) (ret := some (.object "java/lang/Object")) (by decide) rfl ?_
  intro p e s m args below meth c s₁ B hml hv
  obtain ⟨rfl, hsz, hW, hK, hZ0⟩ := hv
  have hts := fun w hw => atoms_spec (ws := wz y_Al_get prog_30_method_20_code 2 (some (.object "java/lang/Object"))) B.pre w (List.mem_cons_of_mem _ hw)
  have hown : s.vm.findClass "java/util/ArrayList" = some m.cls := findClass_of_methodNamed B.named
  subst hsz
  have hl := lv_entry [.ref a0, .int x1] (n := 2) (Nat.le_of_ble_eq_true rfl)
  rw [lg_entry_eq]
  exact l_Al_get_e ⟨B.exec, B.bytes, B.returns, hml, hown, hts, B.notSynchronized, hK, fun q h => Or.inr h, hZ0⟩ a0 x1 h hW va_S.rf hl

theorem d_Al_fastRemove_0 : decode prog_30_method_39_code 0 = .ok (.aload_n 0, 1) := by decide +kernel
theorem d_Al_fastRemove_1 : decode prog_30_method_39_code 1 = .ok (.dup, 1) := by decide +kernel
theorem d_Al_fastRemove_2 : decode prog_30_method_39_code 2 = .ok (.getfield 63, 3) := by decide +kernel
theorem d_Al_fastRemove_5 : decode prog_30_method_39_code 5 = .ok (.iconst 1, 1) := by decide +kernel
theorem d_Al_fastRemove_6 : decode prog_30_method_39_code 6 = .ok (.iadd, 1) := by decide +kernel
theorem d_Al_fastRemove_7 : decode prog_30_method_39_code 7 = .ok (.putfield 63, 3) := by decide +kernel
theorem d_Al_fastRemove_10 : decode prog_30_method_39_code 10 = .ok (.aload_n 0, 1) := by decide +kernel
theorem d_Al_fastRemove_11 : decode prog_30_method_39_code 11 = .ok (.getfield 48, 3) := by decide +kernel
theorem d_Al_fastRemove_14 : decode prog_30_method_39_code 14 = .ok (.iconst 1, 1) := by decide +kernel
theorem d_Al_fastRemove_15 : decode prog_30_method_39_code 15 = .ok (.isub, 1) := by decide +kernel
theorem d_Al_fastRemove_16 : decode prog_30_method_39_code 16 = .ok (.dup, 1) := by decide +kernel
theorem d_Al_fastRemove_17 : decode prog_30_method_39_code 17 = .ok (.istore_n 3, 1) := by decide +kernel
theorem d_Al_fastRemove_18 : decode prog_30_method_39_code 18 = .ok (.iload_n 2, 1) := by decide +kernel
theorem d_Al_fastRemove_19 : decode prog_30_method_39_code 19 = .ok (.if_icmp .le 15, 3) := by decide +kernel
theorem d_Al_fastRemove_22 : decode prog_30_method_39_code 22 = .ok (.aload_n 1, 1) := by decide +kernel
theorem d_Al_fastRemove_23 : decode prog_30_method_39_code 23 = .ok (.iload_n 2, 1) := by decide +kernel
theorem d_Al_fastRemove_24 : decode prog_30_method_39_code 24 = .ok (.iconst 1, 1) := by decide +kernel
theorem d_Al_fastRemove_25 : decode prog_30_method_39_code 25 = .ok (.iadd, 1) := by decide +kernel
theorem d_Al_fastRemove_26 : decode prog_30_method_39_code 26 = .ok (.aload_n 1, 1) := by decide +kernel
theorem d_Al_fastRemove_27 : decode prog_30_method_39_code 27 = .ok (.iload_n 2, 1) := by decide +kernel
theorem d_Al_fastRemove_28 : decode prog_30_method_39_code 28 = .ok (.iload_n 3, 1) := by decide +kernel
theorem d_Al_fastRemove_29 : decode prog_30_method_39_code 29 = .ok (.iload_n 2, 1) := by decide +kernel
theorem d_Al_fastRemove_30 : decode prog_30_method_39_code 30 = .ok (.isub, 1) := by decide +kernel
theorem d_Al_fastRemove_31 : decode prog_30_method_39_code 31 = .ok (.invokestatic 112, 3) := by decide +kernel
theorem d_Al_fastRemove_34 : decode prog_30_method_39_code 34 = .ok (.aload_n 1, 1) := by decide +kernel
theorem d_Al_fastRemove_35 : decode prog_30_method_39_code 35 = .ok (.aload_n 0, 1) := by decide +kernel
theorem d_Al_fastRemove_36 : decode prog_30_method_39_code 36 = .ok (.iload_n 3, 1) := by decide +kernel
theorem d_Al_fastRemove_37 : decode prog_30_method_39_code 37 = .ok (.dup_x1, 1) := by decide +kernel
theorem d_Al_fastRemove_38 : decode prog_30_method_39_code 38 = .ok (.putfield 48, 3) := by decide +kernel
theorem d_Al_fastRemove_41 : decode prog_30_method_39_code 41 = .ok (.aconst_null, 1) := by decide +kernel
theorem d_Al_fastRemove_42 : decode prog_30_method_39_code 42 = .ok (.aastore, 1) := by decide +kernel
theorem d_Al_fastRemove_43 : decode prog_30_method_39_code 43 = .ok (.return_, 1) := by decide +kernel
def y_Al_fastRemove : MethodName := ⟨"java/util/ArrayList", "fastRemove", "([Ljava/lang/Object;I)V"⟩
abbrev rm_Al_fastRemove : Room := { frames := 1, cells := 0, slots := 0, locals := 40 }
def wp_Al_fastRemove_34 (G ca : Nat → Nat) (post : hM → Prop) (M : hM) (l0b34 : Nat) (l1b34 : Option Nat) (l3b34 : Int32) : Prop := pF M l0b34 4 1 (.int l3b34) fun M10 => nN l1b34 fun b11 => sR M10 b11 (ca 2) l3b34 none (fun z => z = 1 ∨ z = 2) fun M12 => post M12
def wp_Al_fastRemove (G ca : Nat → Nat) (post : hM → Prop) (M : hM) (a0 : Nat) (a1 : Option Nat) (x2 : Int32) : Prop := gI M a0 4 2 fun v13 => pF M a0 4 2 (.int (v13 + 1)) fun M14 => gI M14 a0 4 1 fun v15 => ((v15 - 1) ≤ x2 → wp_Al_fastRemove_34 G ca post M14 a0 a1 (v15 - 1)) ∧ (¬ (v15 - 1) ≤ x2 → nN a1 fun b17 => cQ M14 b17 b17 (ca 2) (x2 + 1) x2 ((v15 - 1) - x2) fun M18 => wp_Al_fastRemove_34 G ca post M18 a0 (some b17) (v15 - 1))
set_option maxHeartbeats 1000000 in
set_option maxRecDepth 20000 in
theorem l_Al_fastRemove_34 {p : Program} {l : Launch} {e : Env} {s : State} {m : MethodId} {args : Array Value} {below : List Frame} {meth : Method} {c : Code} {D : va_G} {ca G : Nat → Nat} {A : Nat → Prop} (C0 : hC p s m args meth c D ca G prog_30_method_39_code 4 (none) "java/util/ArrayList" A) {post : hM → Prop} {M : hM} {H : Heap} {locs : List Loc} {ls : Array Slot} (l0b34 : Nat) (l1b34 : Option Nat) (l3b34 : Int32) (h : wp_Al_fastRemove_34 G ca post M l0b34 l1b34 l3b34) (hW : hw D wCl A M H) (hS : va_S A s.heap H locs) (hl : lv_has ls 4 [(0, .ref l0b34), (1, va_rf l1b34), (3, .int l3b34)]) : W p l e rm_Al_fastRemove s m args below meth c H locs 0 0 (MQ below (va_Qv post (fun M' t => hw D wCl A M' t.heap) A) args s 0 0 A) (F0 m 34 ls []) := by
  obtain ⟨hx, hb, hr, hml, hown, hts, hlocks, hK, hA, hZ0⟩ := id C0
  refine lq_load_n hx hb d_Al_fastRemove_34 rfl (lv_at hl 1 rfl) ?_
  refine lv_aload_n hx hb d_Al_fastRemove_35 rfl (lv_at hl 0 rfl) ?_
  refine lv_iload_n hx hb d_Al_fastRemove_36 rfl (lv_at hl 2 rfl) ?_
  refine lv_dup_x1 hx hb d_Al_fastRemove_37 rfl rfl ?_
  obtain ⟨fs, h1, h2, h⟩ := h
  obtain ⟨ws, q0, hq, hP, hD, hback, -⟩ := hw_open hW h1
  refine va_put (D := D) (ci := 4) (v := .int l3b34) (ty := .int) (C := "java/util/ArrayList") (T := TAl) (N := 3) hx hb hts uAl tAl tAl_ok nAl hown hK hP hD hS q0 hq rfl 1 (by decide) (hts _ bw_237) (fun _ h9 => h9) rfl (by decide +kernel) rfl rfl h2 d_Al_fastRemove_38 (fun H locs hP hD hS => ?_)
  have hW := hback _ _ hP hD
  generalize (va_up M l0b34 (some (.inr (4, fs.set 1 (.int l3b34))))) = M10 at h hW
  refine lv_null hx hb d_Al_fastRemove_41 ?_
  obtain ⟨b11, rfl, h⟩ := h
  have h9 := h
  clear h
  refine hq_astO (r := none) hx hb hK hZ0 hW hS h9 d_Al_fastRemove_42 (fun M12 H locs h hW hS => ?_)
  clear h9
  exact W.vret hx hb hr (fun t ht hWm => ⟨⟨_, rfl, h, hw_t ht hW⟩, hS.F ht⟩) hS.2.2 d_Al_fastRemove_43
set_option maxHeartbeats 1000000 in
set_option maxRecDepth 20000 in
theorem l_Al_fastRemove_e {p : Program} {l : Launch} {e : Env} {s : State} {m : MethodId} {args : Array Value} {below : List Frame} {meth : Method} {c : Code} {D : va_G} {ca G : Nat → Nat} {A : Nat → Prop} (C0 : hC p s m args meth c D ca G prog_30_method_39_code 4 (none) "java/util/ArrayList" A) {post : hM → Prop} {M : hM} {H : Heap} {locs : List Loc} {ls : Array Slot} (a0 : Nat) (a1 : Option Nat) (x2 : Int32) (h : wp_Al_fastRemove G ca post M a0 a1 x2) (hW : hw D wCl A M H) (hS : va_S A s.heap H locs) (hl : lv_has ls 4 [(0, .ref a0), (1, va_rf a1), (2, .int x2)]) : W p l e rm_Al_fastRemove s m args below meth c H locs 0 0 (MQ below (va_Qv post (fun M' t => hw D wCl A M' t.heap) A) args s 0 0 A) (F0 m 0 ls []) := by
  obtain ⟨hx, hb, hr, hml, hown, hts, hlocks, hK, hA, hZ0⟩ := id C0
  refine lv_aload_n hx hb d_Al_fastRemove_0 rfl (lv_at hl 0 rfl) ?_
  refine lv_dup hx hb d_Al_fastRemove_1 rfl ?_
  obtain ⟨fs, v13, h1, h2, h⟩ := h
  refine va_get (D := D) (ci := 4) (v := .int v13) (C := "java/util/ArrayList") (T := TAl) (N := 3) hx hb hts uAl hown hK (hw_one hW h1) 0 rfl rfl 2 (by decide) (hts _ bw_239) (u_same (hts _ bw_240)) h2 d_Al_fastRemove_2 ?_
  refine lv_iconst (v := 1) hx hb d_Al_fastRemove_5 (by decide) ?_
  refine lv_iadd hx hb d_Al_fastRemove_6 ?_
  obtain ⟨fs, h1, h2, h⟩ := h
  obtain ⟨ws, q0, hq, hP, hD, hback, -⟩ := hw_open hW h1
  refine va_put (D := D) (ci := 4) (v := .int (v13 + 1)) (ty := .int) (C := "java/util/ArrayList") (T := TAl) (N := 3) hx hb hts uAl tAl tAl_ok nAl hown hK hP hD hS q0 hq rfl 2 (by decide) (hts _ bw_239) (u_same (hts _ bw_240)) rfl (by decide +kernel) rfl rfl h2 d_Al_fastRemove_7 (fun H locs hP hD hS => ?_)
  have hW := hback _ _ hP hD
  generalize (va_up M a0 (some (.inr (4, fs.set 2 (.int (v13 + 1)))))) = M14 at h hW
  refine lv_aload_n hx hb d_Al_fastRemove_10 rfl (lv_at hl 0 rfl) ?_
  obtain ⟨fs, v15, h1, h2, h⟩ := h
  refine va_get (D := D) (ci := 4) (v := .int v15) (C := "java/util/ArrayList") (T := TAl) (N := 3) hx hb hts uAl hown hK (hw_one hW h1) 0 rfl rfl 1 (by decide) (hts _ bw_237) (fun _ h9 => h9) h2 d_Al_fastRemove_11 ?_
  refine lv_iconst (v := 1) hx hb d_Al_fastRemove_14 (by decide) ?_
  refine lv_isub hx hb d_Al_fastRemove_15 ?_
  refine lv_dup hx hb d_Al_fastRemove_16 rfl ?_
  refine lv_istore_n (lv' := [(3, .int (v15 - 1)), (0, .ref a0), (1, va_rf a1), (2, .int x2)]) hx hb d_Al_fastRemove_17 rfl hl (by decide) rfl (fun ls hl => ?_)
  refine lv_iload_n hx hb d_Al_fastRemove_18 rfl (lv_at hl 3 rfl) ?_
  obtain ⟨h0, h1⟩ := h
  refine lv_icmp_le (tgt := 34) hx hb d_Al_fastRemove_19 (by decide) (fun c16 => ?_) (fun c16 => ?_)
  · have h := h0 c16
    exact l_Al_fastRemove_34 C0 a0 a1 (v15 - 1) h hW hS (lv_sub hl [1, 2, 0] rfl)
  · have h := h1 c16
    refine lq_load_n hx hb d_Al_fastRemove_22 rfl (lv_at hl 2 rfl) ?_
    refine lv_iload_n hx hb d_Al_fastRemove_23 rfl (lv_at hl 3 rfl) ?_
    refine lv_iconst (v := 1) hx hb d_Al_fastRemove_24 (by decide) ?_
    refine lv_iadd hx hb d_Al_fastRemove_25 ?_
    refine lq_load_n hx hb d_Al_fastRemove_26 rfl (lv_at hl 2 rfl) ?_
    refine lv_iload_n hx hb d_Al_fastRemove_27 rfl (lv_at hl 3 rfl) ?_
    refine lv_iload_n hx hb d_Al_fastRemove_28 rfl (lv_at hl 0 rfl) ?_
    refine lv_iload_n hx hb d_Al_fastRemove_29 rfl (lv_at hl 3 rfl) ?_
    refine lv_isub hx hb d_Al_fastRemove_30 ?_
    obtain ⟨b17, rfl, h⟩ := h
    have h9 := h
    clear h
    refine hq_copy (rest := []) hx hb (hml.trans hl.1.symm) hown (hts _ bw_766) (hts _ bw_465) (hts _ bw_464) (hts _ bw_22) hK hZ0 hW hS h9 (by decide) (Nat.le_of_ble_eq_true rfl) d_Al_fastRemove_31 (fun M18 H locs h hW hS => ?_)
    clear h9
    exact l_Al_fastRemove_34 C0 a0 (some b17) (v15 - 1) h hW hS (lv_sub hl [1, 2, 0] rfl)
set_option maxRecDepth 20000 in
theorem c_Al_fastRemove {l : Launch} {D : va_G} {ca G : Nat → Nat} (post : hM → Prop) {M : hM} {sz : Nat} {a0 : Nat} {a1 : Option Nat} {x2 : Int32} (h : wp_Al_fastRemove G ca post M a0 a1 x2) : Met l y_Al_fastRemove (wz y_Al_fastRemove prog_30_method_39_code 4 (none)) rm_Al_fastRemove (va_Pc [.ref a0, va_rf a1, .int x2] (hI D ca G sz M)) (va_Qv post (hB D M sz) (hp_A M sz)) 0 0 (hp_A M sz) := by
  refine Met.ofW (cc := prog_30_method_39_code) (maxL := 4) (ret := none) (by decide) rfl ?_
  intro p e s m args below meth c s₁ B hml hv
  obtain ⟨rfl, hsz, hW, hK, hZ0⟩ := hv
  have hts := fun w hw => atoms_spec (ws := wz y_Al_fastRemove prog_30_method_39_code 4 (none)) B.pre w (List.mem_cons_of_mem _ hw)
  have hown : s.vm.findClass "java/util/ArrayList" = some m.cls := findClass_of_methodNamed B.named
  subst hsz
  have hl : lv_has ((lg_sl [.ref a0, va_rf a1, .int x2] ++ List.replicate (4 - (lg_sl [.ref a0, va_rf a1, .int x2]).length) Slot.unset).toArray) 4 [(0, .ref a0), (1, va_rf a1), (2, .int x2)] := by cases a1 <;> exact lv_entry _ (Nat.le_of_ble_eq_true rfl)
  rw [lg_entry_eq]
  exact l_Al_fastRemove_e ⟨B.exec, B.bytes, B.returns, hml, hown, hts, B.notSynchronized, hK, fun q h => Or.inr h, hZ0⟩ a0 a1 x2 h hW va_S.rf hl

theorem d_Al_remove_0 : decode prog_30_method_29_code 0 = .ok (.iload_n 1, 1) := by decide +kernel
theorem d_Al_remove_1 : decode prog_30_method_29_code 1 = .ok (.aload_n 0, 1) := by decide +kernel
theorem d_Al_remove_2 : decode prog_30_method_29_code 2 = .ok (.getfield 48, 3) := by decide +kernel
theorem d_Al_remove_5 : decode prog_30_method_29_code 5 = .ok (.invokestatic 118, 3) := by decide +kernel
theorem d_Al_remove_8 : decode prog_30_method_29_code 8 = .ok (.pop, 1) := by decide +kernel
theorem d_Al_remove_9 : decode prog_30_method_29_code 9 = .ok (.aload_n 0, 1) := by decide +kernel
theorem d_Al_remove_10 : decode prog_30_method_29_code 10 = .ok (.getfield 9, 3) := by decide +kernel
theorem d_Al_remove_13 : decode prog_30_method_29_code 13 = .ok (.astore_n 2, 1) := by decide +kernel
theorem d_Al_remove_14 : decode prog_30_method_29_code 14 = .ok (.aload_n 2, 1) := by decide +kernel
theorem d_Al_remove_15 : decode prog_30_method_29_code 15 = .ok (.iload_n 1, 1) := by decide +kernel
theorem d_Al_remove_16 : decode prog_30_method_29_code 16 = .ok (.aaload, 1) := by decide +kernel
theorem d_Al_remove_17 : decode prog_30_method_29_code 17 = .ok (.astore_n 3, 1) := by decide +kernel
theorem d_Al_remove_18 : decode prog_30_method_29_code 18 = .ok (.aload_n 0, 1) := by decide +kernel
theorem d_Al_remove_19 : decode prog_30_method_29_code 19 = .ok (.aload_n 2, 1) := by decide +kernel
theorem d_Al_remove_20 : decode prog_30_method_29_code 20 = .ok (.iload_n 1, 1) := by decide +kernel
theorem d_Al_remove_21 : decode prog_30_method_29_code 21 = .ok (.invokevirtual 144, 3) := by decide +kernel
theorem d_Al_remove_24 : decode prog_30_method_29_code 24 = .ok (.aload_n 3, 1) := by decide +kernel
theorem d_Al_remove_25 : decode prog_30_method_29_code 25 = .ok (.areturn, 1) := by decide +kernel
def y_Al_remove : MethodName := ⟨"java/util/ArrayList", "remove", "(I)Ljava/lang/Object;"⟩
abbrev rm_Al_remove : Room := { frames := 2, cells := 0, slots := 0, locals := 63 }
def wp_Al_remove (G ca : Nat → Nat) (post : Option Nat → hM → Prop) (M : hM) (a0 : Nat) (x1 : Int32) : Prop := gI M a0 4 1 fun v8 => wp_Ob_checkIndex G ca (fun r9 M10 => gR M10 a0 4 0 fun v11 => nN v11 fun b12 => aR M10 b12 (ca 2) x1 fun v13 => rC M10 a0 4 (wp_Al_fastRemove G ca (fun M14 => post v13 M14) M10 a0 (some b12) x1)) M x1 v8
set_option maxHeartbeats 1000000 in
set_option maxRecDepth 20000 in
theorem l_Al_remove_e {p : Program} {l : Launch} {e : Env} {s : State} {m : MethodId} {args : Array Value} {below : List Frame} {meth : Method} {c : Code} {D : va_G} {ca G : Nat → Nat} {A : Nat → Prop} (C0 : hC p s m args meth c D ca G prog_30_method_29_code 4 (some (.object "java/lang/Object")) "java/util/ArrayList" A) {post : Option Nat → hM → Prop} {M : hM} {H : Heap} {locs : List Loc} {ls : Array Slot} (a0 : Nat) (x1 : Int32) (h : wp_Al_remove G ca post M a0 x1) (hW : hw D wCl A M H) (hS : va_S A s.heap H locs) (hl : lv_has ls 4 [(0, .ref a0), (1, .int x1)]) : W p l e rm_Al_remove s m args below meth c H locs 0 0 (MQ below (va_Qq post (fun M' t => hw D wCl A M' t.heap) A) args s 0 0 A) (F0 m 0 ls []) := by
  obtain ⟨hx, hb, hr, hml, hown, hts, hlocks, hK, hA, hZ0⟩ := id C0
  refine lv_iload_n hx hb d_Al_remove_0 rfl (lv_at hl 1 rfl) ?_
  refine lv_aload_n hx hb d_Al_remove_1 rfl (lv_at hl 0 rfl) ?_
  obtain ⟨fs, v8, h1, h2, h⟩ := h
  refine va_get (D := D) (ci := 4) (v := .int v8) (C := "java/util/ArrayList") (T := TAl) (N := 3) hx hb hts uAl hown hK (hw_one hW h1) 0 rfl rfl 1 (by decide) (hts _ bw_237) (fun _ h9 => h9) h2 d_Al_remove_2 ?_
  have h9 := h
  clear h
  have hF := hW.free hS hA
  refine va_calli (va_runS (As := [.int x1, .int v8]) (rest := []) ⟨hx, hb, hml, hown, hts⟩ (c_Ob_checkIndex _ h9) (va_cwS 2 hts (gi_S bw_384 bw_385 bw_17 bw_386) rfl rfl rfl (by decide +kernel) ⟨Nat.le_of_ble_eq_true rfl, Nat.le_of_ble_eq_true rfl⟩) ⟨hI.blind, hI.give hW hS hA hK hZ0⟩ rfl rfl hl.1 rfl (lv_room (Nat.le_of_ble_eq_true rfl)) d_Al_remove_5 ⟨(show _ ≤ 0 by omega), (show _ ≤ 0 by omega)⟩) hS (fun q _ z => hF q z) hF (fun r9 M10 t H locs ht _ h hB1 _ _ hS => ?_)
  have hW := hw_back hF ht hB1
  clear h9
  refine lv_pop hx hb d_Al_remove_8 rfl ?_
  refine lv_aload_n hx hb d_Al_remove_9 rfl (lv_at hl 0 rfl) ?_
  obtain ⟨fs, v11, h1, h2, h⟩ := h
  refine va_get (D := D) (ci := 4) (v := va_rf v11) (C := "java/util/ArrayList") (T := TAl) (N := 3) hx hb hts uAl hown hK (hw_one hW h1) 0 rfl rfl 0 (by decide) (hts _ bw_236) (fun _ h9 => h9) h2 d_Al_remove_10 ?_
  refine lq_store_n (lv' := [(2, va_rf v11), (0, .ref a0), (1, .int x1)]) hx hb d_Al_remove_13 rfl hl (by decide) rfl (fun ls hl => ?_)
  refine lq_load_n hx hb d_Al_remove_14 rfl (lv_at hl 0 rfl) ?_
  refine lv_iload_n hx hb d_Al_remove_15 rfl (lv_at hl 2 rfl) ?_
  obtain ⟨b12, rfl, h⟩ := h
  obtain ⟨n, f, h1, h2, h⟩ := h
  refine va_aldq hx hb hK (hw_one hW h1) 0 2 rfl rfl h2 d_Al_remove_16 ?_
  generalize f (x1).toNatClampNeg = v13 at h ⊢
  refine lq_store_n (lv' := [(3, va_rf v13), (2, .ref b12), (0, .ref a0), (1, .int x1)]) hx hb d_Al_remove_17 rfl hl (by decide) rfl (fun ls hl => ?_)
  refine lv_aload_n hx hb d_Al_remove_18 rfl (lv_at hl 2 rfl) ?_
  refine lv_aload_n hx hb d_Al_remove_19 rfl (lv_at hl 1 rfl) ?_
  refine lv_iload_n hx hb d_Al_remove_20 rfl (lv_at hl 3 rfl) ?_
  obtain ⟨⟨fs, h1⟩, h⟩ := h
  have h9 := h
  clear h
  have hF := hW.free hS hA
  refine va_callv (va_runV (As := [.ref b12, .int x1]) (rest := []) ⟨hx, hb, hml, hown, hts⟩ (c_Al_fastRemove _ h9) (cwV 2 hts (gi_V bw_787 bw_789 bs_12 bw_14 bw_790) rfl rfl rfl (by decide +kernel) ⟨Nat.le_of_ble_eq_true rfl, Nat.le_of_ble_eq_true rfl⟩) ⟨hI.blind, hw_recv hK hW h1 rfl, hI.give hW hS hA hK hZ0⟩ rfl rfl hl.1 rfl (lv_room (Nat.le_of_ble_eq_true rfl)) d_Al_remove_21 ⟨(show _ ≤ 0 by omega), (show _ ≤ 0 by omega)⟩) hS (fun q _ z => hF q z) hF (fun M14 t H locs ht _ h hB1 _ _ hS => ?_)
  have hW := hw_back hF ht hB1
  clear h9
  refine lq_load_n hx hb d_Al_remove_24 rfl (lv_at hl 0 rfl) ?_
  exact W.aret hx hb hr (Or.inl ⟨_, rfl⟩) (va_rf_or _) (fun t ht hWm => ⟨⟨v13, _, rfl, h, hw_t ht hW⟩, hS.F ht⟩) hS.2.2 d_Al_remove_25
set_option maxRecDepth 20000 in
theorem c_Al_remove {l : Launch} {D : va_G} {ca G : Nat → Nat} (post : Option Nat → hM → Prop) {M : hM} {sz : Nat} {a0 : Nat} {x1 : Int32} (h : wp_Al_remove G ca post M a0 x1) : Met l y_Al_remove (wz y_Al_remove prog_30_method_29_code 4 (some (.object "java/lang/Object"))) rm_Al_remove (va_Pc [.ref a0, .int x1] (hI D ca G sz M)) (va_Qq post (hB D M sz) (hp_A M sz)) 0 0 (hp_A M sz) := by
  refine Met.ofW (cc := prog_30_method_29_code) (maxL := 4) (ret := some (.object "java/lang/Object")) (by decide) rfl ?_
  intro p e s m args below meth c s₁ B hml hv
  obtain ⟨rfl, hsz, hW, hK, hZ0⟩ := hv
  have hts := fun w hw => atoms_spec (ws := wz y_Al_remove prog_30_method_29_code 4 (some (.object "java/lang/Object"))) B.pre w (List.mem_cons_of_mem _ hw)
  have hown : s.vm.findClass "java/util/ArrayList" = some m.cls := findClass_of_methodNamed B.named
  subst hsz
  have hl := lv_entry [.ref a0, .int x1] (n := 4) (Nat.le_of_ble_eq_true rfl)
  rw [lg_entry_eq]
  exact l_Al_remove_e ⟨B.exec, B.bytes, B.returns, hml, hown, hts, B.notSynchronized, hK, fun q h => Or.inr h, hZ0⟩ a0 x1 h hW va_S.rf hl

theorem d_Al_clear_0 : decode prog_30_method_40_code 0 = .ok (.aload_n 0, 1) := by decide +kernel
theorem d_Al_clear_1 : decode prog_30_method_40_code 1 = .ok (.dup, 1) := by decide +kernel
theorem d_Al_clear_2 : decode prog_30_method_40_code 2 = .ok (.getfield 63, 3) := by decide +kernel
theorem d_Al_clear_5 : decode prog_30_method_40_code 5 = .ok (.iconst 1, 1) := by decide +kernel
theorem d_Al_clear_6 : decode prog_30_method_40_code 6 = .ok (.iadd, 1) := by decide +kernel
theorem d_Al_clear_7 : decode prog_30_method_40_code 7 = .ok (.putfield 63, 3) := by decide +kernel
theorem d_Al_clear_10 : decode prog_30_method_40_code 10 = .ok (.aload_n 0, 1) := by decide +kernel
theorem d_Al_clear_11 : decode prog_30_method_40_code 11 = .ok (.getfield 9, 3) := by decide +kernel
theorem d_Al_clear_14 : decode prog_30_method_40_code 14 = .ok (.astore_n 1, 1) := by decide +kernel
theorem d_Al_clear_15 : decode prog_30_method_40_code 15 = .ok (.aload_n 0, 1) := by decide +kernel
theorem d_Al_clear_16 : decode prog_30_method_40_code 16 = .ok (.getfield 48, 3) := by decide +kernel
theorem d_Al_clear_19 : decode prog_30_method_40_code 19 = .ok (.istore_n 2, 1) := by decide +kernel
theorem d_Al_clear_20 : decode prog_30_method_40_code 20 = .ok (.aload_n 0, 1) := by decide +kernel
theorem d_Al_clear_21 : decode prog_30_method_40_code 21 = .ok (.iconst 0, 1) := by decide +kernel
theorem d_Al_clear_22 : decode prog_30_method_40_code 22 = .ok (.dup_x1, 1) := by decide +kernel
theorem d_Al_clear_23 : decode prog_30_method_40_code 23 = .ok (.putfield 48, 3) := by decide +kernel
theorem d_Al_clear_26 : decode prog_30_method_40_code 26 = .ok (.istore_n 3, 1) := by decide +kernel
theorem d_Al_clear_27 : decode prog_30_method_40_code 27 = .ok (.iload_n 3, 1) := by decide +kernel
theorem d_Al_clear_28 : decode prog_30_method_40_code 28 = .ok (.iload_n 2, 1) := by decide +kernel
theorem d_Al_clear_29 : decode prog_30_method_40_code 29 = .ok (.if_icmp .ge 13, 3) := by decide +kernel
theorem d_Al_clear_32 : decode prog_30_method_40_code 32 = .ok (.aload_n 1, 1) := by decide +kernel
theorem d_Al_clear_33 : decode prog_30_method_40_code 33 = .ok (.iload_n 3, 1) := by decide +kernel
theorem d_Al_clear_34 : decode prog_30_method_40_code 34 = .ok (.aconst_null, 1) := by decide +kernel
theorem d_Al_clear_35 : decode prog_30_method_40_code 35 = .ok (.aastore, 1) := by decide +kernel
theorem d_Al_clear_36 : decode prog_30_method_40_code 36 = .ok (.iinc 3 1, 3) := by decide +kernel
theorem d_Al_clear_39 : decode prog_30_method_40_code 39 = .ok (.goto (-12), 3) := by decide +kernel
theorem d_Al_clear_42 : decode prog_30_method_40_code 42 = .ok (.return_, 1) := by decide +kernel
def y_Al_clear : MethodName := ⟨"java/util/ArrayList", "clear", "()V"⟩
abbrev rm_Al_clear : Room := { frames := 0, cells := 0, slots := 0, locals := 0 }
def wp_Al_clear_27 (G ca : Nat → Nat) (post : hM → Prop) : Nat → hM → Option Nat → Int32 → Int32 → Prop
  | 0, _, _, _, _ => False
  | n + 1, M, l1b27, l2b27, l3b27 => (l2b27 ≤ l3b27 → post M) ∧ (¬ l2b27 ≤ l3b27 → nN l1b27 fun b10 => sR M b10 (ca 2) l3b27 none (fun z => z = 1 ∨ z = 2) fun M11 => (wp_Al_clear_27 G ca post n) M11 (some b10) l2b27 (l3b27 + 1))
def wp_Al_clear (G ca : Nat → Nat) (post : hM → Prop) (M : hM) (a0 : Nat) : Prop := gI M a0 4 2 fun v12 => pF M a0 4 2 (.int (v12 + 1)) fun M13 => gR M13 a0 4 0 fun v14 => gI M13 a0 4 1 fun v15 => pF M13 a0 4 1 (.int 0) fun M16 => ∃ n, wp_Al_clear_27 G ca post n M16 v14 v15 0
set_option maxHeartbeats 1000000 in
set_option maxRecDepth 20000 in
theorem l_Al_clear_27 {p : Program} {l : Launch} {e : Env} {s : State} {m : MethodId} {args : Array Value} {below : List Frame} {meth : Method} {c : Code} {D : va_G} {ca G : Nat → Nat} {A : Nat → Prop} (C0 : hC p s m args meth c D ca G prog_30_method_40_code 4 (none) "java/util/ArrayList" A) {post : hM → Prop} : ∀ (n : Nat) {M : hM} {H : Heap} {locs : List Loc} {ls : Array Slot} (l1b27 : Option Nat) (l2b27 : Int32) (l3b27 : Int32) (h : wp_Al_clear_27 G ca post n M l1b27 l2b27 l3b27) (hW : hw D wCl A M H) (hS : va_S A s.heap H locs) (hl : lv_has ls 4 [(1, va_rf l1b27), (2, .int l2b27), (3, .int l3b27)]), W p l e rm_Al_clear s m args below meth c H locs 0 0 (MQ below (va_Qv post (fun M' t => hw D wCl A M' t.heap) A) args s 0 0 A) (F0 m 27 ls []) := by
  obtain ⟨hx, hb, hr, hml, hown, hts, hlocks, hK, hA, hZ0⟩ := id C0
  intro n
  induction n with
  | zero =>
    intro M H locs ls l1b27 l2b27 l3b27 h
    exact False.elim h
  | succ n ih =>
    intro M H locs ls l1b27 l2b27 l3b27 h hW hS hl
    have hk_17 := fun M H locs ls l1b27 l2b27 l3b27 h hW hS hl => @ih M H locs ls l1b27 l2b27 l3b27 h hW hS hl
    refine lv_iload_n hx hb d_Al_clear_27 rfl (lv_at hl 2 rfl) ?_
    refine lv_iload_n hx hb d_Al_clear_28 rfl (lv_at hl 1 rfl) ?_
    obtain ⟨h0, h1⟩ := h
    refine lv_icmp_ge (tgt := 42) hx hb d_Al_clear_29 (by decide) (fun c9 => ?_) (fun c9 => ?_)
    · have h := h0 c9
      exact W.vret hx hb hr (fun t ht hWm => ⟨⟨_, rfl, h, hw_t ht hW⟩, hS.F ht⟩) hS.2.2 d_Al_clear_42
    · have h := h1 c9
      refine lq_load_n hx hb d_Al_clear_32 rfl (lv_at hl 0 rfl) ?_
      refine lv_iload_n hx hb d_Al_clear_33 rfl (lv_at hl 2 rfl) ?_
      refine lv_null hx hb d_Al_clear_34 ?_
      obtain ⟨b10, rfl, h⟩ := h
      have h9 := h
      clear h
      refine hq_astO (r := none) hx hb hK hZ0 hW hS h9 d_Al_clear_35 (fun M11 H locs h hW hS => ?_)
      clear h9
      refine lv_iinc (v := l3b27 + 1) (lv' := [(3, .int (l3b27 + 1)), (1, .ref b10), (2, .int l2b27)]) hx hb d_Al_clear_36 hl (k := 2) rfl rfl (by decide) rfl (fun ls hl => ?_)
      refine lv_goto (tgt := 27) hx hb d_Al_clear_39 (by decide) ?_
      exact hk_17 _ _ _ _ (some b10) l2b27 (l3b27 + 1) h hW hS (lv_sub hl [1, 2, 0] rfl)
set_option maxHeartbeats 1000000 in
set_option maxRecDepth 20000 in
theorem l_Al_clear_e {p : Program} {l : Launch} {e : Env} {s : State} {m : MethodId} {args : Array Value} {below : List Frame} {meth : Method} {c : Code} {D : va_G} {ca G : Nat → Nat} {A : Nat → Prop} (C0 : hC p s m args meth c D ca G prog_30_method_40_code 4 (none) "java/util/ArrayList" A) {post : hM → Prop} {M : hM} {H : Heap} {locs : List Loc} {ls : Array Slot} (a0 : Nat) (h : wp_Al_clear G ca post M a0) (hW : hw D wCl A M H) (hS : va_S A s.heap H locs) (hl : lv_has ls 4 [(0, .ref a0)]) : W p l e rm_Al_clear s m args below meth c H locs 0 0 (MQ below (va_Qv post (fun M' t => hw D wCl A M' t.heap) A) args s 0 0 A) (F0 m 0 ls []) := by
  obtain ⟨hx, hb, hr, hml, hown, hts, hlocks, hK, hA, hZ0⟩ := id C0
  refine lv_aload_n hx hb d_Al_clear_0 rfl (lv_at hl 0 rfl) ?_
  refine lv_dup hx hb d_Al_clear_1 rfl ?_
  obtain ⟨fs, v12, h1, h2, h⟩ := h
  refine va_get (D := D) (ci := 4) (v := .int v12) (C := "java/util/ArrayList") (T := TAl) (N := 3) hx hb hts uAl hown hK (hw_one hW h1) 0 rfl rfl 2 (by decide) (hts _ bw_239) (u_same (hts _ bw_240)) h2 d_Al_clear_2 ?_
  refine lv_iconst (v := 1) hx hb d_Al_clear_5 (by decide) ?_
  refine lv_iadd hx hb d_Al_clear_6 ?_
  obtain ⟨fs, h1, h2, h⟩ := h
  obtain ⟨ws, q0, hq, hP, hD, hback, -⟩ := hw_open hW h1
  refine va_put (D := D) (ci := 4) (v := .int (v12 + 1)) (ty := .int) (C := "java/util/ArrayList") (T := TAl) (N := 3) hx hb hts uAl tAl tAl_ok nAl hown hK hP hD hS q0 hq rfl 2 (by decide) (hts _ bw_239) (u_same (hts _ bw_240)) rfl (by decide +kernel) rfl rfl h2 d_Al_clear_7 (fun H locs hP hD hS => ?_)
  have hW := hback _ _ hP hD
  generalize (va_up M a0 (some (.inr (4, fs.set 2 (.int (v12 + 1)))))) = M13 at h hW
  refine lv_aload_n hx hb d_Al_clear_10 rfl (lv_at hl 0 rfl) ?_
  obtain ⟨fs, v14, h1, h2, h⟩ := h
  refine va_get (D := D) (ci := 4) (v := va_rf v14) (C := "java/util/ArrayList") (T := TAl) (N := 3) hx hb hts uAl hown hK (hw_one hW h1) 0 rfl rfl 0 (by decide) (hts _ bw_236) (fun _ h9 => h9) h2 d_Al_clear_11 ?_
  refine lq_store_n (lv' := [(1, va_rf v14), (0, .ref a0)]) hx hb d_Al_clear_14 rfl hl (by decide) rfl (fun ls hl => ?_)
  refine lv_aload_n hx hb d_Al_clear_15 rfl (lv_at hl 1 rfl) ?_
  obtain ⟨fs, v15, h1, h2, h⟩ := h
  refine va_get (D := D) (ci := 4) (v := .int v15) (C := "java/util/ArrayList") (T := TAl) (N := 3) hx hb hts uAl hown hK (hw_one hW h1) 0 rfl rfl 1 (by decide) (hts _ bw_237) (fun _ h9 => h9) h2 d_Al_clear_16 ?_
  refine lv_istore_n (lv' := [(2, .int v15), (1, va_rf v14), (0, .ref a0)]) hx hb d_Al_clear_19 rfl hl (by decide) (by cases v14 <;> rfl) (fun ls hl => ?_)
  refine lv_aload_n hx hb d_Al_clear_20 rfl (lv_at hl 2 rfl) ?_
  refine lv_iconst (v := 0) hx hb d_Al_clear_21 (by decide) ?_
  refine lv_dup_x1 hx hb d_Al_clear_22 rfl rfl ?_
  obtain ⟨fs, h1, h2, h⟩ := h
  obtain ⟨ws, q0, hq, hP, hD, hback, -⟩ := hw_open hW h1
  refine va_put (D := D) (ci := 4) (v := .int 0) (ty := .int) (C := "java/util/ArrayList") (T := TAl) (N := 3) hx hb hts uAl tAl tAl_ok nAl hown hK hP hD hS q0 hq rfl 1 (by decide) (hts _ bw_237) (fun _ h9 => h9) rfl (by decide +kernel) rfl rfl h2 d_Al_clear_23 (fun H locs hP hD hS => ?_)
  have hW := hback _ _ hP hD
  generalize (va_up M13 a0 (some (.inr (4, fs.set 1 (.int 0))))) = M16 at h hW
  refine lv_istore_n (lv' := [(3, .int 0), (2, .int v15), (1, va_rf v14), (0, .ref a0)]) hx hb d_Al_clear_26 rfl hl (by decide) rfl (fun ls hl => ?_)
  obtain ⟨n, h⟩ := h
  exact l_Al_clear_27 C0 n v14 v15 0 h hW hS (lv_sub hl [2, 1, 0] rfl)
set_option maxRecDepth 20000 in
theorem c_Al_clear {l : Launch} {D : va_G} {ca G : Nat → Nat} (post : hM → Prop) {M : hM} {sz : Nat} {a0 : Nat} (h : wp_Al_clear G ca post M a0) : Met l y_Al_clear (wz y_Al_clear prog_30_method_40_code 4 (none)) rm_Al_clear (va_Pc [.ref a0] (hI D ca G sz M)) (va_Qv post (hB D M sz) (hp_A M sz)) 0 0 (hp_A M sz) := by
  refine Met.ofW (cc := prog_30_method_40_code) (maxL := 4) (ret := none) (by decide) rfl ?_
  intro p e s m args below meth c s₁ B hml hv
  obtain ⟨rfl, hsz, hW, hK, hZ0⟩ := hv
  have hts := fun w hw => atoms_spec (ws := wz y_Al_clear prog_30_method_40_code 4 (none)) B.pre w (List.mem_cons_of_mem _ hw)
  have hown : s.vm.findClass "java/util/ArrayList" = some m.cls := findClass_of_methodNamed B.named
  subst hsz
  have hl := lv_entry [.ref a0] (n := 4) (Nat.le_of_ble_eq_true rfl)
  rw [lg_entry_eq]
  exact l_Al_clear_e ⟨B.exec, B.bytes, B.returns, hml, hown, hts, B.notSynchronized, hK, fun q h => Or.inr h, hZ0⟩ a0 h hW va_S.rf hl

theorem d_Al_rangeCheckForAdd_0 : decode prog_30_method_45_code 0 = .ok (.iload_n 1, 1) := by decide +kernel
theorem d_Al_rangeCheckForAdd_1 : decode prog_30_method_45_code 1 = .ok (.aload_n 0, 1) := by decide +kernel
theorem d_Al_rangeCheckForAdd_2 : decode prog_30_method_45_code 2 = .ok (.getfield 48, 3) := by decide +kernel
theorem d_Al_rangeCheckForAdd_5 : decode prog_30_method_45_code 5 = .ok (.if_icmp .gt 7, 3) := by decide +kernel
theorem d_Al_rangeCheckForAdd_8 : decode prog_30_method_45_code 8 = .ok (.iload_n 1, 1) := by decide +kernel
theorem d_Al_rangeCheckForAdd_9 : decode prog_30_method_45_code 9 = .ok (.ifCond .ge 16, 3) := by decide +kernel
theorem d_Al_rangeCheckForAdd_12 : decode prog_30_method_45_code 12 = .ok (.new 187, 3) := by decide +kernel
theorem d_Al_rangeCheckForAdd_25 : decode prog_30_method_45_code 25 = .ok (.return_, 1) := by decide +kernel
def y_Al_rangeCheckForAdd : MethodName := ⟨"java/util/ArrayList", "rangeCheckForAdd", "(I)V"⟩
abbrev rm_Al_rangeCheckForAdd : Room := { frames := 0, cells := 0, slots := 0, locals := 0 }
def wp_Al_rangeCheckForAdd_12 (G ca : Nat → Nat) (post : hM → Prop) (M : hM)  : Prop := False
def wp_Al_rangeCheckForAdd (G ca : Nat → Nat) (post : hM → Prop) (M : hM) (a0 : Nat) (x1 : Int32) : Prop := gI M a0 4 1 fun v4 => (v4 < x1 → wp_Al_rangeCheckForAdd_12 G ca post M) ∧ (¬ v4 < x1 → (0 ≤ x1 → post M) ∧ (¬ 0 ≤ x1 → wp_Al_rangeCheckForAdd_12 G ca post M))
set_option maxHeartbeats 1000000 in
set_option maxRecDepth 20000 in
theorem l_Al_rangeCheckForAdd_12 {p : Program} {l : Launch} {e : Env} {s : State} {m : MethodId} {args : Array Value} {below : List Frame} {meth : Method} {c : Code} {D : va_G} {ca G : Nat → Nat} {A : Nat → Prop} (C0 : hC p s m args meth c D ca G prog_30_method_45_code 2 (none) "java/util/ArrayList" A) {post : hM → Prop} {M : hM} {H : Heap} {locs : List Loc} {ls : Array Slot}  (h : wp_Al_rangeCheckForAdd_12 G ca post M) (hW : hw D wCl A M H) (hS : va_S A s.heap H locs) (hl : lv_has ls 2 []) : W p l e rm_Al_rangeCheckForAdd s m args below meth c H locs 0 0 (MQ below (va_Qv post (fun M' t => hw D wCl A M' t.heap) A) args s 0 0 A) (F0 m 12 ls []) := by
  obtain ⟨hx, hb, hr, hml, hown, hts, hlocks, hK, hA, hZ0⟩ := id C0
  exact h.elim
set_option maxHeartbeats 1000000 in
set_option maxRecDepth 20000 in
theorem l_Al_rangeCheckForAdd_e {p : Program} {l : Launch} {e : Env} {s : State} {m : MethodId} {args : Array Value} {below : List Frame} {meth : Method} {c : Code} {D : va_G} {ca G : Nat → Nat} {A : Nat → Prop} (C0 : hC p s m args meth c D ca G prog_30_method_45_code 2 (none) "java/util/ArrayList" A) {post : hM → Prop} {M : hM} {H : Heap} {locs : List Loc} {ls : Array Slot} (a0 : Nat) (x1 : Int32) (h : wp_Al_rangeCheckForAdd G ca post M a0 x1) (hW : hw D wCl A M H) (hS : va_S A s.heap H locs) (hl : lv_has ls 2 [(0, .ref a0), (1, .int x1)]) : W p l e rm_Al_rangeCheckForAdd s m args below meth c H locs 0 0 (MQ below (va_Qv post (fun M' t => hw D wCl A M' t.heap) A) args s 0 0 A) (F0 m 0 ls []) := by
  obtain ⟨hx, hb, hr, hml, hown, hts, hlocks, hK, hA, hZ0⟩ := id C0
  refine lv_iload_n hx hb d_Al_rangeCheckForAdd_0 rfl (lv_at hl 1 rfl) ?_
  refine lv_aload_n hx hb d_Al_rangeCheckForAdd_1 rfl (lv_at hl 0 rfl) ?_
  obtain ⟨fs, v4, h1, h2, h⟩ := h
  refine va_get (D := D) (ci := 4) (v := .int v4) (C := "java/util/ArrayList") (T := TAl) (N := 3) hx hb hts uAl hown hK (hw_one hW h1) 0 rfl rfl 1 (by decide) (hts _ bw_237) (fun _ h9 => h9) h2 d_Al_rangeCheckForAdd_2 ?_
  obtain ⟨h0, h1⟩ := h
  refine lv_icmp_gt (tgt := 12) hx hb d_Al_rangeCheckForAdd_5 (by decide) (fun c5 => ?_) (fun c5 => ?_)
  · have h := h0 c5
    exact l_Al_rangeCheckForAdd_12 C0  h hW hS (lv_sub hl [] rfl)
  · have h := h1 c5
    refine lv_iload_n hx hb d_Al_rangeCheckForAdd_8 rfl (lv_at hl 1 rfl) ?_
    obtain ⟨h0, h1⟩ := h
    refine lv_if_ge (tgt := 25) hx hb d_Al_rangeCheckForAdd_9 (by decide) (fun c6 => ?_) (fun c6 => ?_)
    · have h := h0 c6
      exact W.vret hx hb hr (fun t ht hWm => ⟨⟨_, rfl, h, hw_t ht hW⟩, hS.F ht⟩) hS.2.2 d_Al_rangeCheckForAdd_25
    · have h := h1 c6
      exact l_Al_rangeCheckForAdd_12 C0  h hW hS (lv_sub hl [] rfl)
set_option maxRecDepth 20000 in
theorem c_Al_rangeCheckForAdd {l : Launch} {D : va_G} {ca G : Nat → Nat} (post : hM → Prop) {M : hM} {sz : Nat} {a0 : Nat} {x1 : Int32} (h : wp_Al_rangeCheckForAdd G ca post M a0 x1) : Met l y_Al_rangeCheckForAdd (wz y_Al_rangeCheckForAdd prog_30_method_45_code 2 (none)) rm_Al_rangeCheckForAdd (va_Pc [.ref a0, .int x1] (hI D ca G sz M)) (va_Qv post (hB D M sz) (hp_A M sz)) 0 0 (hp_A M sz) := by
  refine Met.ofW (cc := prog_30_method_45_code) (maxL := 2) (ret := none) (by decide) rfl ?_
  intro p e s m args below meth c s₁ B hml hv
  obtain ⟨rfl, hsz, hW, hK, hZ0⟩ := hv
  have hts := fun w hw => atoms_spec (ws := wz y_Al_rangeCheckForAdd prog_30_method_45_code 2 (none)) B.pre w (List.mem_cons_of_mem _ hw)
  have hown : s.vm.findClass "java/util/ArrayList" = some m.cls := findClass_of_methodNamed B.named
  subst hsz
  have hl := lv_entry [.ref a0, .int x1] (n := 2) (Nat.le_of_ble_eq_true rfl)
  rw [lg_entry_eq]
  exact l_Al_rangeCheckForAdd_e ⟨B.exec, B.bytes, B.returns, hml, hown, hts, B.notSynchronized, hK, fun q h => Or.inr h, hZ0⟩ a0 x1 h hW va_S.rf hl

theorem d_Ar_copyOf_ObjectIClass_0 : decode prog_31_method_120_code 0 = .ok (.aload_n 2, 1) := by decide +kernel
theorem d_Ar_copyOf_ObjectIClass_1 : decode prog_31_method_120_code 1 = .ok (.ldc 110, 2) := by decide +kernel
theorem d_Ar_copyOf_ObjectIClass_3 : decode prog_31_method_120_code 3 = .ok (.if_acmp .ne 10, 3) := by decide +kernel
theorem d_Ar_copyOf_ObjectIClass_6 : decode prog_31_method_120_code 6 = .ok (.iload_n 1, 1) := by decide +kernel
theorem d_Ar_copyOf_ObjectIClass_7 : decode prog_31_method_120_code 7 = .ok (.anewarray 2, 3) := by decide +kernel
theorem d_Ar_copyOf_ObjectIClass_10 : decode prog_31_method_120_code 10 = .ok (.goto 14, 3) := by decide +kernel
theorem d_Ar_copyOf_ObjectIClass_13 : decode prog_31_method_120_code 13 = .ok (.aload_n 2, 1) := by decide +kernel
theorem d_Ar_copyOf_ObjectIClass_24 : decode prog_31_method_120_code 24 = .ok (.astore_n 3, 1) := by decide +kernel
theorem d_Ar_copyOf_ObjectIClass_25 : decode prog_31_method_120_code 25 = .ok (.aload_n 0, 1) := by decide +kernel
theorem d_Ar_copyOf_ObjectIClass_26 : decode prog_31_method_120_code 26 = .ok (.iconst 0, 1) := by decide +kernel
theorem d_Ar_copyOf_ObjectIClass_27 : decode prog_31_method_120_code 27 = .ok (.aload_n 3, 1) := by decide +kernel
theorem d_Ar_copyOf_ObjectIClass_28 : decode prog_31_method_120_code 28 = .ok (.iconst 0, 1) := by decide +kernel
theorem d_Ar_copyOf_ObjectIClass_29 : decode prog_31_method_120_code 29 = .ok (.aload_n 0, 1) := by decide +kernel
theorem d_Ar_copyOf_ObjectIClass_30 : decode prog_31_method_120_code 30 = .ok (.arraylength, 1) := by decide +kernel
theorem d_Ar_copyOf_ObjectIClass_31 : decode prog_31_method_120_code 31 = .ok (.iload_n 1, 1) := by decide +kernel
theorem d_Ar_copyOf_ObjectIClass_32 : decode prog_31_method_120_code 32 = .ok (.invokestatic 304, 3) := by decide +kernel
theorem d_Ar_copyOf_ObjectIClass_35 : decode prog_31_method_120_code 35 = .ok (.invokestatic 150, 3) := by decide +kernel
theorem d_Ar_copyOf_ObjectIClass_38 : decode prog_31_method_120_code 38 = .ok (.aload_n 3, 1) := by decide +kernel
theorem d_Ar_copyOf_ObjectIClass_39 : decode prog_31_method_120_code 39 = .ok (.areturn, 1) := by decide +kernel
def y_Ar_copyOf_ObjectIClass : MethodName := ⟨"java/util/Arrays", "copyOf", "([Ljava/lang/Object;ILjava/lang/Class;)[Ljava/lang/Object;"⟩
abbrev rm_Ar_copyOf_ObjectIClass : Room := { frames := 1, cells := 1, slots := 22, locals := 40 }
def wp_Ar_copyOf_ObjectIClass (G ca : Nat → Nat) (post : Option Nat → hM → Prop) (M : hM) (a0 : Option Nat) (x1 : Int32) (a2 : Option Nat) : Prop := (¬ a2 = (some (G 4)) → False) ∧ (a2 = (some (G 4)) → nA M x1 22 (fun N => .inl (ca 2, N, .inr (.inr (.inr (.inr (fun _ => none)))))) fun q8 M9 => nN a0 fun b10 => aZ G M9 b10 (ca 2) fun v11 => cQ M9 b10 q8 (ca 2) 0 0 (if x1 < v11 then x1 else v11) fun M12 => post (some q8) M12)
set_option maxHeartbeats 1000000 in
set_option maxRecDepth 20000 in
theorem l_Ar_copyOf_ObjectIClass_e {p : Program} {l : Launch} {e : Env} {s : State} {m : MethodId} {args : Array Value} {below : List Frame} {meth : Method} {c : Code} {D : va_G} {ca G : Nat → Nat} {A : Nat → Prop} (C0 : hC p s m args meth c D ca G prog_31_method_120_code 4 (some (.array (.object "java/lang/Object"))) "java/util/Arrays" A) {post : Option Nat → hM → Prop} {M : hM} {H : Heap} {locs : List Loc} {ls : Array Slot} {cells slots : Nat} (a0 : Option Nat) (x1 : Int32) (a2 : Option Nat) (hc : cells ≤ 0) (hs : slots ≤ 0) (h : wp_Ar_copyOf_ObjectIClass G ca post M a0 x1 a2) (hW : hw D wCl A M H) (hS : va_S A s.heap H locs) (hl : lv_has ls 4 [(0, va_rf a0), (1, .int x1), (2, va_rf a2)]) : W p l e rm_Ar_copyOf_ObjectIClass s m args below meth c H locs cells slots (MQ below (va_Qq post (fun M' t => hw D wCl A M' t.heap) A) args s 1 22 A) (F0 m 0 ls []) := by
  obtain ⟨hx, hb, hr, hml, hown, hts, hlocks, hK, hA, hZ0⟩ := id C0
  refine lq_load_n hx hb d_Ar_copyOf_ObjectIClass_0 rfl (lv_at hl 2 rfl) ?_
  refine va_ldcM hx hb hown (hts _ bw_457) hZ0.2.2.2.2.2.2.2.2.1 d_Ar_copyOf_ObjectIClass_1 ?_
  obtain ⟨h0, h1⟩ := h
  refine lv_acmp_ne (rx := a2) (ry := (some (G 4))) (tgt := 13) hx hb d_Ar_copyOf_ObjectIClass_3 (by decide) (fun c7 => ?_) (fun c7 => ?_)
  · have h := h0 c7
    exact h.elim
  · have h := h1 c7
    refine lv_iload_n hx hb d_Ar_copyOf_ObjectIClass_6 rfl (lv_at hl 1 rfl) ?_
    have h9 := h
    clear h
    refine hq_newq 2 22 (C := "java/lang/Object") hx hb hown (hts _ bw_459) (hZ0.2.2.2.2.2.2.1 _ (by decide)) hK hW hS hA h9 rfl (by decide) (show _ ≤ 1 by omega) (show _ ≤ 22 by omega) d_Ar_copyOf_ObjectIClass_7 (fun q8 M9 H h hW hS => ?_)
    clear h9
    refine lv_goto (tgt := 24) hx hb d_Ar_copyOf_ObjectIClass_10 (by decide) ?_
    refine lv_astore_n (lv' := [(3, .ref q8), (0, va_rf a0), (1, .int x1), (2, va_rf a2)]) hx hb d_Ar_copyOf_ObjectIClass_24 rfl hl (by decide) (by cases a2 <;> rfl) (fun ls hl => ?_)
    refine lq_load_n hx hb d_Ar_copyOf_ObjectIClass_25 rfl (lv_at hl 1 rfl) ?_
    refine lv_iconst (v := 0) hx hb d_Ar_copyOf_ObjectIClass_26 (by decide) ?_
    refine lv_aload_n hx hb d_Ar_copyOf_ObjectIClass_27 rfl (lv_at hl 0 rfl) ?_
    refine lv_iconst (v := 0) hx hb d_Ar_copyOf_ObjectIClass_28 (by decide) ?_
    refine lq_load_n hx hb d_Ar_copyOf_ObjectIClass_29 rfl (lv_at hl 1 rfl) ?_
    obtain ⟨b10, rfl, h⟩ := h
    have h9 := h
    clear h
    refine hq_alen hx hb hK hZ0 hW hS h9 d_Ar_copyOf_ObjectIClass_30 (fun v11 h => ?_)
    clear h9
    refine lv_iload_n hx hb d_Ar_copyOf_ObjectIClass_31 rfl (lv_at hl 2 rfl) ?_
    refine va_mmin (rest := [.int 0, .ref q8, .int 0, .ref b10]) hx hb (hml.trans hl.1.symm) hown (hts _ bw_460) (hts _ bw_461) (hts _ bw_20) (hts _ bw_462) (by decide) (Nat.le_of_ble_eq_true rfl) (show _ ≤ 1 by omega) (show _ ≤ 22 by omega) d_Ar_copyOf_ObjectIClass_32 ?_
    have h9 := h
    clear h
    refine hq_copy (rest := []) hx hb (hml.trans hl.1.symm) hown (hts _ bw_463) (hts _ bw_465) (hts _ bw_464) (hts _ bw_22) hK hZ0 hW hS h9 (by decide) (Nat.le_of_ble_eq_true rfl) d_Ar_copyOf_ObjectIClass_35 (fun M12 H locs h hW hS => ?_)
    clear h9
    refine lv_aload_n hx hb d_Ar_copyOf_ObjectIClass_38 rfl (lv_at hl 0 rfl) ?_
    refine W.widen (k := 1) (n := 22) (by omega) (by omega) ?_
    exact W.aret hx hb hr (Or.inr ⟨_, rfl⟩) (Or.inr ⟨_, rfl⟩) (fun t ht hWm => ⟨⟨(some q8), _, rfl, h, hw_t ht hW⟩, hS.F ht⟩) hS.2.2 d_Ar_copyOf_ObjectIClass_39
set_option maxRecDepth 20000 in
theorem c_Ar_copyOf_ObjectIClass {l : Launch} {D : va_G} {ca G : Nat → Nat} (post : Option Nat → hM → Prop) {M : hM} {sz : Nat} {a0 : Option Nat} {x1 : Int32} {a2 : Option Nat} (h : wp_Ar_copyOf_ObjectIClass G ca post M a0 x1 a2) : Met l y_Ar_copyOf_ObjectIClass (wz y_Ar_copyOf_ObjectIClass prog_31_method_120_code 4 (some (.array (.object "java/lang/Object")))) rm_Ar_copyOf_ObjectIClass (va_Pc [va_rf a0, .int x1, va_rf a2] (hI D ca G sz M)) (va_Qq post (hB D M sz) (hp_A M sz)) 1 22 (hp_A M sz) := by
  refine Met.ofW (cc := prog_31_method_120_code) (maxL := 4) (ret := some (.array (.object "java/lang/Object"))) (by decide) rfl ?_
  intro p e s m args below meth c s₁ B hml hv
  obtain ⟨rfl, hsz, hW, hK, hZ0⟩ := hv
  have hts := fun w hw => atoms_spec (ws := wz y_Ar_copyOf_ObjectIClass prog_31_method_120_code 4 (some (.array (.object "java/lang/Object")))) B.pre w (List.mem_cons_of_mem _ hw)
  have hown : s.vm.findClass "java/util/Arrays" = some m.cls := findClass_of_methodNamed B.named
  subst hsz
  have hl : lv_has ((lg_sl [va_rf a0, .int x1, va_rf a2] ++ List.replicate (4 - (lg_sl [va_rf a0, .int x1, va_rf a2]).length) Slot.unset).toArray) 4 [(0, va_rf a0), (1, .int x1), (2, va_rf a2)] := by cases a0 <;> cases a2 <;> exact lv_entry _ (Nat.le_of_ble_eq_true rfl)
  rw [lg_entry_eq]
  exact l_Ar_copyOf_ObjectIClass_e ⟨B.exec, B.bytes, B.returns, hml, hown, hts, B.notSynchronized, hK, fun q h => Or.inr h, hZ0⟩ a0 x1 a2 (Nat.zero_le _) (Nat.zero_le _) h hW va_S.rf hl

theorem d_Ar_copyOf_ObjectI_0 : decode prog_31_method_119_code 0 = .ok (.aload_n 0, 1) := by decide +kernel
theorem d_Ar_copyOf_ObjectI_1 : decode prog_31_method_119_code 1 = .ok (.iload_n 1, 1) := by decide +kernel
theorem d_Ar_copyOf_ObjectI_2 : decode prog_31_method_119_code 2 = .ok (.aload_n 0, 1) := by decide +kernel
theorem d_Ar_copyOf_ObjectI_3 : decode prog_31_method_119_code 3 = .ok (.invokevirtual 86, 3) := by decide +kernel
theorem d_Ar_copyOf_ObjectI_6 : decode prog_31_method_119_code 6 = .ok (.invokestatic 300, 3) := by decide +kernel
theorem d_Ar_copyOf_ObjectI_9 : decode prog_31_method_119_code 9 = .ok (.areturn, 1) := by decide +kernel
def y_Ar_copyOf_ObjectI : MethodName := ⟨"java/util/Arrays", "copyOf", "([Ljava/lang/Object;I)[Ljava/lang/Object;"⟩
abbrev rm_Ar_copyOf_ObjectI : Room := { frames := 2, cells := 1, slots := 22, locals := 63 }
def wp_Ar_copyOf_ObjectI (G ca : Nat → Nat) (post : Option Nat → hM → Prop) (M : hM) (a0 : Option Nat) (x1 : Int32) : Prop := nN a0 fun b4 => (∃ x : vp_A, M b4 = some (.inl (ca 2, x))) ∧ wp_Ar_copyOf_ObjectIClass G ca (fun r5 M6 => post r5 M6) M (some b4) x1 (some (G 4))
set_option maxHeartbeats 1000000 in
set_option maxRecDepth 20000 in
theorem l_Ar_copyOf_ObjectI_e {p : Program} {l : Launch} {e : Env} {s : State} {m : MethodId} {args : Array Value} {below : List Frame} {meth : Method} {c : Code} {D : va_G} {ca G : Nat → Nat} {A : Nat → Prop} (C0 : hC p s m args meth c D ca G prog_31_method_119_code 2 (some (.array (.object "java/lang/Object"))) "java/util/Arrays" A) {post : Option Nat → hM → Prop} {M : hM} {H : Heap} {locs : List Loc} {ls : Array Slot} {cells slots : Nat} (a0 : Option Nat) (x1 : Int32) (hc : cells ≤ 0) (hs : slots ≤ 0) (h : wp_Ar_copyOf_ObjectI G ca post M a0 x1) (hW : hw D wCl A M H) (hS : va_S A s.heap H locs) (hl : lv_has ls 2 [(0, va_rf a0), (1, .int x1)]) : W p l e rm_Ar_copyOf_ObjectI s m args below meth c H locs cells slots (MQ below (va_Qq post (fun M' t => hw D wCl A M' t.heap) A) args s 1 22 A) (F0 m 0 ls []) := by
  obtain ⟨hx, hb, hr, hml, hown, hts, hlocks, hK, hA, hZ0⟩ := id C0
  refine lq_load_n hx hb d_Ar_copyOf_ObjectI_0 rfl (lv_at hl 0 rfl) ?_
  refine lv_iload_n hx hb d_Ar_copyOf_ObjectI_1 rfl (lv_at hl 1 rfl) ?_
  refine lq_load_n hx hb d_Ar_copyOf_ObjectI_2 rfl (lv_at hl 0 rfl) ?_
  obtain ⟨b4, rfl, h⟩ := h
  obtain ⟨⟨x, h1⟩, h⟩ := h
  refine va_getC (C := "[Ljava/lang/Object;") (rest := [.int x1, .ref b4]) hx hb (hml.trans hl.1.symm) hown (hts _ bw_435) (va_Dc.use hZ0.2.2.2.2.2.2.2.2.2) (hts _ bw_1204) (hts _ bw_436) (hts _ bw_453) hZ0.2.2.2.2.2.2.2.2.1 (hw_arr hK hW h1) (by decide) (Nat.le_of_ble_eq_true rfl) d_Ar_copyOf_ObjectI_3 ?_
  have h9 := h
  clear h
  have hF := hW.free hS hA
  refine va_callq (va_runS (As := [.ref b4, .int x1, .ref (G 4)]) (rest := []) ⟨hx, hb, hml, hown, hts⟩ (c_Ar_copyOf_ObjectIClass _ h9) (va_cwS 3 hts (gi_S bw_454 bw_455 bw_21 bw_456) rfl rfl rfl (by decide +kernel) ⟨Nat.le_of_ble_eq_true rfl, Nat.le_of_ble_eq_true rfl⟩) ⟨hI.blind, hI.give hW hS hA hK hZ0⟩ rfl rfl hl.1 rfl (lv_room (Nat.le_of_ble_eq_true rfl)) d_Ar_copyOf_ObjectI_6 ⟨(show _ ≤ 1 by omega), (show _ ≤ 22 by omega)⟩) hS (fun q _ z => hF q z) hF (fun r5 M6 t H locs ht _ h hB1 _ _ hS => ?_)
  have hW := hw_back hF ht hB1
  clear h9
  refine W.widen (k := 1) (n := 22) (by omega) (by omega) ?_
  exact W.aret hx hb hr (Or.inr ⟨_, rfl⟩) (va_rf_or _) (fun t ht hWm => ⟨⟨r5, _, rfl, h, hw_t ht hW⟩, hS.F ht⟩) hS.2.2 d_Ar_copyOf_ObjectI_9
set_option maxRecDepth 20000 in
theorem c_Ar_copyOf_ObjectI {l : Launch} {D : va_G} {ca G : Nat → Nat} (post : Option Nat → hM → Prop) {M : hM} {sz : Nat} {a0 : Option Nat} {x1 : Int32} (h : wp_Ar_copyOf_ObjectI G ca post M a0 x1) : Met l y_Ar_copyOf_ObjectI (wz y_Ar_copyOf_ObjectI prog_31_method_119_code 2 (some (.array (.object "java/lang/Object")))) rm_Ar_copyOf_ObjectI (va_Pc [va_rf a0, .int x1] (hI D ca G sz M)) (va_Qq post (hB D M sz) (hp_A M sz)) 1 22 (hp_A M sz) := by
  refine Met.ofW (cc := prog_31_method_119_code) (maxL := 2) (ret := some (.array (.object "java/lang/Object"))) (by decide) rfl ?_
  intro p e s m args below meth c s₁ B hml hv
  obtain ⟨rfl, hsz, hW, hK, hZ0⟩ := hv
  have hts := fun w hw => atoms_spec (ws := wz y_Ar_copyOf_ObjectI prog_31_method_119_code 2 (some (.array (.object "java/lang/Object")))) B.pre w (List.mem_cons_of_mem _ hw)
  have hown : s.vm.findClass "java/util/Arrays" = some m.cls := findClass_of_methodNamed B.named
  subst hsz
  have hl : lv_has ((lg_sl [va_rf a0, .int x1] ++ List.replicate (2 - (lg_sl [va_rf a0, .int x1]).length) Slot.unset).toArray) 2 [(0, va_rf a0), (1, .int x1)] := by cases a0 <;> exact lv_entry _ (Nat.le_of_ble_eq_true rfl)
  rw [lg_entry_eq]
  exact l_Ar_copyOf_ObjectI_e ⟨B.exec, B.bytes, B.returns, hml, hown, hts, B.notSynchronized, hK, fun q h => Or.inr h, hZ0⟩ a0 x1 (Nat.zero_le _) (Nat.zero_le _) h hW va_S.rf hl

theorem d_Al_grow_I_0 : decode prog_30_method_6_code 0 = .ok (.aload_n 0, 1) := by decide +kernel
theorem d_Al_grow_I_1 : decode prog_30_method_6_code 1 = .ok (.getfield 9, 3) := by decide +kernel
theorem d_Al_grow_I_4 : decode prog_30_method_6_code 4 = .ok (.arraylength, 1) := by decide +kernel
theorem d_Al_grow_I_5 : decode prog_30_method_6_code 5 = .ok (.istore_n 2, 1) := by decide +kernel
theorem d_Al_grow_I_6 : decode prog_30_method_6_code 6 = .ok (.iload_n 2, 1) := by decide +kernel
theorem d_Al_grow_I_7 : decode prog_30_method_6_code 7 = .ok (.ifCond .gt 13, 3) := by decide +kernel
theorem d_Al_grow_I_10 : decode prog_30_method_6_code 10 = .ok (.aload_n 0, 1) := by decide +kernel
theorem d_Al_grow_I_11 : decode prog_30_method_6_code 11 = .ok (.getfield 9, 3) := by decide +kernel
theorem d_Al_grow_I_14 : decode prog_30_method_6_code 14 = .ok (.getstatic 39, 3) := by decide +kernel
theorem d_Al_grow_I_17 : decode prog_30_method_6_code 17 = .ok (.if_acmp .eq 28, 3) := by decide +kernel
theorem d_Al_grow_I_20 : decode prog_30_method_6_code 20 = .ok (.iload_n 2, 1) := by decide +kernel
theorem d_Al_grow_I_21 : decode prog_30_method_6_code 21 = .ok (.iload_n 1, 1) := by decide +kernel
theorem d_Al_grow_I_22 : decode prog_30_method_6_code 22 = .ok (.iload_n 2, 1) := by decide +kernel
theorem d_Al_grow_I_23 : decode prog_30_method_6_code 23 = .ok (.isub, 1) := by decide +kernel
theorem d_Al_grow_I_24 : decode prog_30_method_6_code 24 = .ok (.iload_n 2, 1) := by decide +kernel
theorem d_Al_grow_I_25 : decode prog_30_method_6_code 25 = .ok (.iconst 1, 1) := by decide +kernel
theorem d_Al_grow_I_26 : decode prog_30_method_6_code 26 = .ok (.ishr, 1) := by decide +kernel
theorem d_Al_grow_I_27 : decode prog_30_method_6_code 27 = .ok (.invokestatic 73, 3) := by decide +kernel
theorem d_Al_grow_I_30 : decode prog_30_method_6_code 30 = .ok (.istore_n 3, 1) := by decide +kernel
theorem d_Al_grow_I_31 : decode prog_30_method_6_code 31 = .ok (.aload_n 0, 1) := by decide +kernel
theorem d_Al_grow_I_32 : decode prog_30_method_6_code 32 = .ok (.aload_n 0, 1) := by decide +kernel
theorem d_Al_grow_I_33 : decode prog_30_method_6_code 33 = .ok (.getfield 9, 3) := by decide +kernel
theorem d_Al_grow_I_36 : decode prog_30_method_6_code 36 = .ok (.iload_n 3, 1) := by decide +kernel
theorem d_Al_grow_I_37 : decode prog_30_method_6_code 37 = .ok (.invokestatic 66, 3) := by decide +kernel
theorem d_Al_grow_I_40 : decode prog_30_method_6_code 40 = .ok (.dup_x1, 1) := by decide +kernel
theorem d_Al_grow_I_41 : decode prog_30_method_6_code 41 = .ok (.putfield 9, 3) := by decide +kernel
theorem d_Al_grow_I_44 : decode prog_30_method_6_code 44 = .ok (.areturn, 1) := by decide +kernel
theorem d_Al_grow_I_45 : decode prog_30_method_6_code 45 = .ok (.aload_n 0, 1) := by decide +kernel
theorem d_Al_grow_I_46 : decode prog_30_method_6_code 46 = .ok (.bipush 10, 2) := by decide +kernel
theorem d_Al_grow_I_48 : decode prog_30_method_6_code 48 = .ok (.iload_n 1, 1) := by decide +kernel
theorem d_Al_grow_I_49 : decode prog_30_method_6_code 49 = .ok (.invokestatic 79, 3) := by decide +kernel
theorem d_Al_grow_I_52 : decode prog_30_method_6_code 52 = .ok (.anewarray 7, 3) := by decide +kernel
theorem d_Al_grow_I_55 : decode prog_30_method_6_code 55 = .ok (.dup_x1, 1) := by decide +kernel
theorem d_Al_grow_I_56 : decode prog_30_method_6_code 56 = .ok (.putfield 9, 3) := by decide +kernel
theorem d_Al_grow_I_59 : decode prog_30_method_6_code 59 = .ok (.areturn, 1) := by decide +kernel
def y_Al_grow_I : MethodName := ⟨"java/util/ArrayList", "grow", "(I)[Ljava/lang/Object;"⟩
abbrev rm_Al_grow_I : Room := { frames := 3, cells := 1, slots := 22, locals := 84 }
def wp_Al_grow_I_20 (G ca : Nat → Nat) (post : Option Nat → hM → Prop) (M : hM) (l0b20 : Nat) (l1b20 : Int32) (l2b20 : Int32) : Prop := wp_As_newLength G ca (fun r16 M17 => gR M17 l0b20 4 0 fun v18 => wp_Ar_copyOf_ObjectI G ca (fun r19 M20 => pF M20 l0b20 4 0 (va_rf r19) fun M21 => post r19 M21) M17 v18 r16) M l2b20 (l1b20 - l2b20) (l2b20 >>> (1 &&& 31))
def wp_Al_grow_I (G ca : Nat → Nat) (post : Option Nat → hM → Prop) (M : hM) (a0 : Nat) (x1 : Int32) : Prop := gR M a0 4 0 fun v22 => nN v22 fun b23 => aZ G M b23 (ca 2) fun v24 => (0 < v24 → wp_Al_grow_I_20 G ca post M a0 x1 v24) ∧ (¬ 0 < v24 → gR M a0 4 0 fun v26 => (v26 = (some (G 3)) → nA M (if 10 < x1 then x1 else 10) 22 (fun N => .inl (ca 2, N, .inr (.inr (.inr (.inr (fun _ => none)))))) fun q28 M29 => pF M29 a0 4 0 (.ref q28) fun M30 => post (some q28) M30) ∧ (¬ v26 = (some (G 3)) → wp_Al_grow_I_20 G ca post M a0 x1 v24))
set_option maxHeartbeats 1000000 in
set_option maxRecDepth 20000 in
theorem l_Al_grow_I_20 {p : Program} {l : Launch} {e : Env} {s : State} {m : MethodId} {args : Array Value} {below : List Frame} {meth : Method} {c : Code} {D : va_G} {ca G : Nat → Nat} {A : Nat → Prop} (C0 : hC p s m args meth c D ca G prog_30_method_6_code 4 (some (.array (.object "java/lang/Object"))) "java/util/ArrayList" A) {post : Option Nat → hM → Prop} {M : hM} {H : Heap} {locs : List Loc} {ls : Array Slot} {cells slots : Nat} (l0b20 : Nat) (l1b20 : Int32) (l2b20 : Int32) (hc : cells ≤ 0) (hs : slots ≤ 0) (h : wp_Al_grow_I_20 G ca post M l0b20 l1b20 l2b20) (hW : hw D wCl A M H) (hS : va_S A s.heap H locs) (hl : lv_has ls 4 [(0, .ref l0b20), (1, .int l1b20), (2, .int l2b20)]) : W p l e rm_Al_grow_I s m args below meth c H locs cells slots (MQ below (va_Qq post (fun M' t => hw D wCl A M' t.heap) A) args s 1 22 A) (F0 m 20 ls []) := by
  obtain ⟨hx, hb, hr, hml, hown, hts, hlocks, hK, hA, hZ0⟩ := id C0
  refine lv_iload_n hx hb d_Al_grow_I_20 rfl (lv_at hl 2 rfl) ?_
  refine lv_iload_n hx hb d_Al_grow_I_21 rfl (lv_at hl 1 rfl) ?_
  refine lv_iload_n hx hb d_Al_grow_I_22 rfl (lv_at hl 2 rfl) ?_
  refine lv_isub hx hb d_Al_grow_I_23 ?_
  refine lv_iload_n hx hb d_Al_grow_I_24 rfl (lv_at hl 2 rfl) ?_
  refine lv_iconst (v := 1) hx hb d_Al_grow_I_25 (by decide) ?_
  refine lv_ishr hx hb d_Al_grow_I_26 ?_
  have h9 := h
  clear h
  have hF := hW.free hS hA
  refine va_calli (va_runS (As := [.int l2b20, .int (l1b20 - l2b20), .int (l2b20 >>> (1 &&& 31))]) (rest := []) ⟨hx, hb, hml, hown, hts⟩ (c_As_newLength _ h9) (va_cwS 3 hts (gi_S bw_422 bw_423 bw_19 bw_424) rfl rfl rfl (by decide +kernel) ⟨Nat.le_of_ble_eq_true rfl, Nat.le_of_ble_eq_true rfl⟩) ⟨hI.blind, hI.give hW hS hA hK hZ0⟩ rfl rfl hl.1 rfl (lv_room (Nat.le_of_ble_eq_true rfl)) d_Al_grow_I_27 ⟨(show _ ≤ 1 by omega), (show _ ≤ 22 by omega)⟩) hS (fun q _ z => hF q z) hF (fun r16 M17 t H locs ht _ h hB1 _ _ hS => ?_)
  have hW := hw_back hF ht hB1
  clear h9
  refine lv_istore_n (lv' := [(3, .int r16), (0, .ref l0b20), (1, .int l1b20), (2, .int l2b20)]) hx hb d_Al_grow_I_30 rfl hl (by decide) rfl (fun ls hl => ?_)
  refine lv_aload_n hx hb d_Al_grow_I_31 rfl (lv_at hl 1 rfl) ?_
  refine lv_aload_n hx hb d_Al_grow_I_32 rfl (lv_at hl 1 rfl) ?_
  obtain ⟨fs, v18, h1, h2, h⟩ := h
  refine va_get (D := D) (ci := 4) (v := va_rf v18) (C := "java/util/ArrayList") (T := TAl) (N := 3) hx hb hts uAl hown hK (hw_one hW h1) 0 rfl rfl 0 (by decide) (hts _ bw_236) (fun _ h9 => h9) h2 d_Al_grow_I_33 ?_
  refine lv_iload_n hx hb d_Al_grow_I_36 rfl (lv_at hl 0 rfl) ?_
  have h9 := h
  clear h
  have hF := hW.free hS hA
  refine va_callq (va_runS (As := [va_rf v18, .int r16]) (rest := [.ref l0b20]) ⟨hx, hb, hml, hown, hts⟩ (c_Ar_copyOf_ObjectI _ h9) (va_cwS 2 hts (gi_S bw_432 bw_433 bw_21 bw_434) rfl rfl rfl (by decide +kernel) ⟨Nat.le_of_ble_eq_true rfl, Nat.le_of_ble_eq_true rfl⟩) ⟨hI.blind, hI.give hW hS hA hK hZ0⟩ rfl rfl hl.1 rfl (lv_room (Nat.le_of_ble_eq_true rfl)) d_Al_grow_I_37 ⟨(show _ ≤ 1 by omega), (show _ ≤ 22 by omega)⟩) hS (fun q _ z => hF q z) hF (fun r19 M20 t H locs ht _ h hB1 _ _ hS => ?_)
  have hW := hw_back hF ht hB1
  clear h9
  refine lv_dup_x1 hx hb d_Al_grow_I_40 (by cases r19 <;> rfl) rfl ?_
  obtain ⟨fs, h1, h2, h⟩ := h
  obtain ⟨ws, q0, hq, hP, hD, hback, -⟩ := hw_open hW h1
  refine va_put (D := D) (ci := 4) (v := va_rf r19) (ty := .array (.object "java/lang/Object")) (C := "java/util/ArrayList") (T := TAl) (N := 3) hx hb hts uAl tAl tAl_ok nAl hown hK hP hD hS q0 hq rfl 0 (by decide) (hts _ bw_236) (fun _ h9 => h9) rfl (by decide +kernel) (ra_n _ _) (ra_f _ _) h2 d_Al_grow_I_41 (fun H locs hP hD hS => ?_)
  have hW := hback _ _ hP hD
  generalize (va_up M20 l0b20 (some (.inr (4, fs.set 0 (va_rf r19))))) = M21 at h hW
  refine W.widen (k := 1) (n := 22) (by omega) (by omega) ?_
  exact W.aret hx hb hr (Or.inr ⟨_, rfl⟩) (va_rf_or _) (fun t ht hWm => ⟨⟨r19, _, rfl, h, hw_t ht hW⟩, hS.F ht⟩) hS.2.2 d_Al_grow_I_44
set_option maxHeartbeats 1000000 in
set_option maxRecDepth 20000 in
theorem l_Al_grow_I_e {p : Program} {l : Launch} {e : Env} {s : State} {m : MethodId} {args : Array Value} {below : List Frame} {meth : Method} {c : Code} {D : va_G} {ca G : Nat → Nat} {A : Nat → Prop} (C0 : hC p s m args meth c D ca G prog_30_method_6_code 4 (some (.array (.object "java/lang/Object"))) "java/util/ArrayList" A) {post : Option Nat → hM → Prop} {M : hM} {H : Heap} {locs : List Loc} {ls : Array Slot} {cells slots : Nat} (a0 : Nat) (x1 : Int32) (hc : cells ≤ 0) (hs : slots ≤ 0) (h : wp_Al_grow_I G ca post M a0 x1) (hW : hw D wCl A M H) (hS : va_S A s.heap H locs) (hl : lv_has ls 4 [(0, .ref a0), (1, .int x1)]) : W p l e rm_Al_grow_I s m args below meth c H locs cells slots (MQ below (va_Qq post (fun M' t => hw D wCl A M' t.heap) A) args s 1 22 A) (F0 m 0 ls []) := by
  obtain ⟨hx, hb, hr, hml, hown, hts, hlocks, hK, hA, hZ0⟩ := id C0
  refine lv_aload_n hx hb d_Al_grow_I_0 rfl (lv_at hl 0 rfl) ?_
  obtain ⟨fs, v22, h1, h2, h⟩ := h
  refine va_get (D := D) (ci := 4) (v := va_rf v22) (C := "java/util/ArrayList") (T := TAl) (N := 3) hx hb hts uAl hown hK (hw_one hW h1) 0 rfl rfl 0 (by decide) (hts _ bw_236) (fun _ h9 => h9) h2 d_Al_grow_I_1 ?_
  obtain ⟨b23, rfl, h⟩ := h
  have h9 := h
  clear h
  refine hq_alen hx hb hK hZ0 hW hS h9 d_Al_grow_I_4 (fun v24 h => ?_)
  clear h9
  refine lv_istore_n (lv' := [(2, .int v24), (0, .ref a0), (1, .int x1)]) hx hb d_Al_grow_I_5 rfl hl (by decide) rfl (fun ls hl => ?_)
  refine lv_iload_n hx hb d_Al_grow_I_6 rfl (lv_at hl 0 rfl) ?_
  obtain ⟨h0, h1⟩ := h
  refine lv_if_gt (tgt := 20) hx hb d_Al_grow_I_7 (by decide) (fun c25 => ?_) (fun c25 => ?_)
  · have h := h0 c25
    exact l_Al_grow_I_20 C0 a0 x1 v24 (by omega) (by omega) h hW hS (lv_sub hl [1, 2, 0] rfl)
  · have h := h1 c25
    refine lv_aload_n hx hb d_Al_grow_I_10 rfl (lv_at hl 1 rfl) ?_
    obtain ⟨fs, v26, h1, h2, h⟩ := h
    refine va_get (D := D) (ci := 4) (v := va_rf v26) (C := "java/util/ArrayList") (T := TAl) (N := 3) hx hb hts uAl hown hK (hw_one hW h1) 0 rfl rfl 0 (by decide) (hts _ bw_236) (fun _ h9 => h9) h2 d_Al_grow_I_11 ?_
    refine va_gets (v := .ref (G 3)) hx hb (hZ0.2.2.2.1) hS hown (hts _ bw_234) (fun _ h9 => h9) d_Al_grow_I_14 ?_
    obtain ⟨h0, h1⟩ := h
    refine lv_acmp_eq (rx := v26) (ry := (some (G 3))) (tgt := 45) hx hb d_Al_grow_I_17 (by decide) (fun c27 => ?_) (fun c27 => ?_)
    · have h := h0 c27
      refine lv_aload_n hx hb d_Al_grow_I_45 rfl (lv_at hl 1 rfl) ?_
      refine lv_bipush (v := 10) hx hb d_Al_grow_I_46 (by decide) ?_
      refine lv_iload_n hx hb d_Al_grow_I_48 rfl (lv_at hl 2 rfl) ?_
      refine va_mmax (rest := [.ref a0]) hx hb (hml.trans hl.1.symm) hown (hts _ bw_466) (hts _ bw_426) (hts _ bw_20) (hts _ bw_427) (by decide) (Nat.le_of_ble_eq_true rfl) (show _ ≤ 1 by omega) (show _ ≤ 22 by omega) d_Al_grow_I_49 ?_
      have h9 := h
      clear h
      refine hq_newq 2 22 (C := "java/lang/Object") hx hb hown (hts _ bw_467) (hZ0.2.2.2.2.2.2.1 _ (by decide)) hK hW hS hA h9 rfl (by decide) (show _ ≤ 1 by omega) (show _ ≤ 22 by omega) d_Al_grow_I_52 (fun q28 M29 H h hW hS => ?_)
      clear h9
      refine lv_dup_x1 hx hb d_Al_grow_I_55 rfl rfl ?_
      obtain ⟨fs, h1, h2, h⟩ := h
      obtain ⟨ws, q0, hq, hP, hD, hback, -⟩ := hw_open hW h1
      refine va_put (D := D) (ci := 4) (v := .ref q28) (ty := .array (.object "java/lang/Object")) (C := "java/util/ArrayList") (T := TAl) (N := 3) hx hb hts uAl tAl tAl_ok nAl hown hK hP hD hS q0 hq rfl 0 (by decide) (hts _ bw_236) (fun _ h9 => h9) rfl (by decide +kernel) rfl rfl h2 d_Al_grow_I_56 (fun H locs hP hD hS => ?_)
      have hW := hback _ _ hP hD
      generalize (va_up M29 a0 (some (.inr (4, fs.set 0 (.ref q28))))) = M30 at h hW
      refine W.widen (k := 1) (n := 22) (by omega) (by omega) ?_
      exact W.aret hx hb hr (Or.inr ⟨_, rfl⟩) (Or.inr ⟨_, rfl⟩) (fun t ht hWm => ⟨⟨(some q28), _, rfl, h, hw_t ht hW⟩, hS.F ht⟩) hS.2.2 d_Al_grow_I_59
    · have h := h1 c27
      exact l_Al_grow_I_20 C0 a0 x1 v24 (by omega) (by omega) h hW hS (lv_sub hl [1, 2, 0] rfl)
set_option maxRecDepth 20000 in
theorem c_Al_grow_I {l : Launch} {D : va_G} {ca G : Nat → Nat} (post : Option Nat → hM → Prop) {M : hM} {sz : Nat} {a0 : Nat} {x1 : Int32} (h : wp_Al_grow_I G ca post M a0 x1) : Met l y_Al_grow_I (wz y_Al_grow_I prog_30_method_6_code 4 (some (.array (.object "java/lang/Object")))) rm_Al_grow_I (va_Pc [.ref a0, .int x1] (hI D ca G sz M)) (va_Qq post (hB D M sz) (hp_A M sz)) 1 22 (hp_A M sz) := by
  refine Met.ofW (cc := prog_30_method_6_code) (maxL := 4) (ret := some (.array (.object "java/lang/Object"))) (by decide) rfl ?_
  intro p e s m args below meth c s₁ B hml hv
  obtain ⟨rfl, hsz, hW, hK, hZ0⟩ := hv
  have hts := fun w hw => atoms_spec (ws := wz y_Al_grow_I prog_30_method_6_code 4 (some (.array (.object "java/lang/Object")))) B.pre w (List.mem_cons_of_mem _ hw)
  have hown : s.vm.findClass "java/util/ArrayList" = some m.cls := findClass_of_methodNamed B.named
  subst hsz
  have hl := lv_entry [.ref a0, .int x1] (n := 4) (Nat.le_of_ble_eq_true rfl)
  rw [lg_entry_eq]
  exact l_Al_grow_I_e ⟨B.exec, B.bytes, B.returns, hml, hown, hts, B.notSynchronized, hK, fun q h => Or.inr h, hZ0⟩ a0 x1 (Nat.zero_le _) (Nat.zero_le _) h hW va_S.rf hl

theorem d_Al_grow__0 : decode prog_30_method_7_code 0 = .ok (.aload_n 0, 1) := by decide +kernel
theorem d_Al_grow__1 : decode prog_30_method_7_code 1 = .ok (.aload_n 0, 1) := by decide +kernel
theorem d_Al_grow__2 : decode prog_30_method_7_code 2 = .ok (.getfield 48, 3) := by decide +kernel
theorem d_Al_grow__5 : decode prog_30_method_7_code 5 = .ok (.iconst 1, 1) := by decide +kernel
theorem d_Al_grow__6 : decode prog_30_method_7_code 6 = .ok (.iadd, 1) := by decide +kernel
theorem d_Al_grow__7 : decode prog_30_method_7_code 7 = .ok (.invokevirtual 69, 3) := by decide +kernel
theorem d_Al_grow__10 : decode prog_30_method_7_code 10 = .ok (.areturn, 1) := by decide +kernel
def y_Al_grow_ : MethodName := ⟨"java/util/ArrayList", "grow", "()[Ljava/lang/Object;"⟩
abbrev rm_Al_grow_ : Room := { frames := 4, cells := 1, slots := 22, locals := 107 }
def wp_Al_grow_ (G ca : Nat → Nat) (post : Option Nat → hM → Prop) (M : hM) (a0 : Nat) : Prop := gI M a0 4 1 fun v4 => rC M a0 4 (wp_Al_grow_I G ca (fun r5 M6 => post r5 M6) M a0 (v4 + 1))
set_option maxHeartbeats 1000000 in
set_option maxRecDepth 20000 in
theorem l_Al_grow__e {p : Program} {l : Launch} {e : Env} {s : State} {m : MethodId} {args : Array Value} {below : List Frame} {meth : Method} {c : Code} {D : va_G} {ca G : Nat → Nat} {A : Nat → Prop} (C0 : hC p s m args meth c D ca G prog_30_method_7_code 1 (some (.array (.object "java/lang/Object"))) "java/util/ArrayList" A) {post : Option Nat → hM → Prop} {M : hM} {H : Heap} {locs : List Loc} {ls : Array Slot} {cells slots : Nat} (a0 : Nat) (hc : cells ≤ 0) (hs : slots ≤ 0) (h : wp_Al_grow_ G ca post M a0) (hW : hw D wCl A M H) (hS : va_S A s.heap H locs) (hl : lv_has ls 1 [(0, .ref a0)]) : W p l e rm_Al_grow_ s m args below meth c H locs cells slots (MQ below (va_Qq post (fun M' t => hw D wCl A M' t.heap) A) args s 1 22 A) (F0 m 0 ls []) := by
  obtain ⟨hx, hb, hr, hml, hown, hts, hlocks, hK, hA, hZ0⟩ := id C0
  refine lv_aload_n hx hb d_Al_grow__0 rfl (lv_at hl 0 rfl) ?_
  refine lv_aload_n hx hb d_Al_grow__1 rfl (lv_at hl 0 rfl) ?_
  obtain ⟨fs, v4, h1, h2, h⟩ := h
  refine va_get (D := D) (ci := 4) (v := .int v4) (C := "java/util/ArrayList") (T := TAl) (N := 3) hx hb hts uAl hown hK (hw_one hW h1) 0 rfl rfl 1 (by decide) (hts _ bw_237) (fun _ h9 => h9) h2 d_Al_grow__2 ?_
  refine lv_iconst (v := 1) hx hb d_Al_grow__5 (by decide) ?_
  refine lv_iadd hx hb d_Al_grow__6 ?_
  obtain ⟨⟨fs, h1⟩, h⟩ := h
  have h9 := h
  clear h
  have hF := hW.free hS hA
  refine va_callq (va_runV (As := [.int (v4 + 1)]) (rest := []) ⟨hx, hb, hml, hown, hts⟩ (c_Al_grow_I _ h9) (cwV 1 hts (gi_V bw_418 bw_420 bs_6 bw_14 bw_421) rfl rfl rfl (by decide +kernel) ⟨Nat.le_of_ble_eq_true rfl, Nat.le_of_ble_eq_true rfl⟩) ⟨hI.blind, hw_recv hK hW h1 rfl, hI.give hW hS hA hK hZ0⟩ rfl rfl hl.1 rfl (lv_room (Nat.le_of_ble_eq_true rfl)) d_Al_grow__7 ⟨(show _ ≤ 1 by omega), (show _ ≤ 22 by omega)⟩) hS (fun q _ z => hF q z) hF (fun r5 M6 t H locs ht _ h hB1 _ _ hS => ?_)
  have hW := hw_back hF ht hB1
  clear h9
  refine W.widen (k := 1) (n := 22) (by omega) (by omega) ?_
  exact W.aret hx hb hr (Or.inr ⟨_, rfl⟩) (va_rf_or _) (fun t ht hWm => ⟨⟨r5, _, rfl, h, hw_t ht hW⟩, hS.F ht⟩) hS.2.2 d_Al_grow__10
set_option maxRecDepth 20000 in
theorem c_Al_grow_ {l : Launch} {D : va_G} {ca G : Nat → Nat} (post : Option Nat → hM → Prop) {M : hM} {sz : Nat} {a0 : Nat} (h : wp_Al_grow_ G ca post M a0) : Met l y_Al_grow_ (wz y_Al_grow_ prog_30_method_7_code 1 (some (.array (.object "java/lang/Object")))) rm_Al_grow_ (va_Pc [.ref a0] (hI D ca G sz M)) (va_Qq post (hB D M sz) (hp_A M sz)) 1 22 (hp_A M sz) := by
  refine Met.ofW (cc := prog_30_method_7_code) (maxL := 1) (ret := some (.array (.object "java/lang/Object"))) (by decide) rfl ?_
  intro p e s m args below meth c s₁ B hml hv
  obtain ⟨rfl, hsz, hW, hK, hZ0⟩ := hv
  have hts := fun w hw => atoms_spec (ws := wz y_Al_grow_ prog_30_method_7_code 1 (some (.array (.object "java/lang/Object")))) B.pre w (List.mem_cons_of_mem _ hw)
  have hown : s.vm.findClass "java/util/ArrayList" = some m.cls := findClass_of_methodNamed B.named
  subst hsz
  have hl := lv_entry [.ref a0] (n := 1) (Nat.le_of_ble_eq_true rfl)
  rw [lg_entry_eq]
  exact l_Al_grow__e ⟨B.exec, B.bytes, B.returns, hml, hown, hts, B.notSynchronized, hK, fun q h => Or.inr h, hZ0⟩ a0 (Nat.zero_le _) (Nat.zero_le _) h hW va_S.rf hl

theorem d_Al_add_ObjectObjectI_0 : decode prog_30_method_24_code 0 = .ok (.iload_n 3, 1) := by decide +kernel
theorem d_Al_add_ObjectObjectI_1 : decode prog_30_method_24_code 1 = .ok (.aload_n 2, 1) := by decide +kernel
theorem d_Al_add_ObjectObjectI_2 : decode prog_30_method_24_code 2 = .ok (.arraylength, 1) := by decide +kernel
theorem d_Al_add_ObjectObjectI_3 : decode prog_30_method_24_code 3 = .ok (.if_icmp .ne 8, 3) := by decide +kernel
theorem d_Al_add_ObjectObjectI_6 : decode prog_30_method_24_code 6 = .ok (.aload_n 0, 1) := by decide +kernel
theorem d_Al_add_ObjectObjectI_7 : decode prog_30_method_24_code 7 = .ok (.invokevirtual 129, 3) := by decide +kernel
theorem d_Al_add_ObjectObjectI_10 : decode prog_30_method_24_code 10 = .ok (.astore_n 2, 1) := by decide +kernel
theorem d_Al_add_ObjectObjectI_11 : decode prog_30_method_24_code 11 = .ok (.aload_n 2, 1) := by decide +kernel
theorem d_Al_add_ObjectObjectI_12 : decode prog_30_method_24_code 12 = .ok (.iload_n 3, 1) := by decide +kernel
theorem d_Al_add_ObjectObjectI_13 : decode prog_30_method_24_code 13 = .ok (.aload_n 1, 1) := by decide +kernel
theorem d_Al_add_ObjectObjectI_14 : decode prog_30_method_24_code 14 = .ok (.aastore, 1) := by decide +kernel
theorem d_Al_add_ObjectObjectI_15 : decode prog_30_method_24_code 15 = .ok (.aload_n 0, 1) := by decide +kernel
theorem d_Al_add_ObjectObjectI_16 : decode prog_30_method_24_code 16 = .ok (.iload_n 3, 1) := by decide +kernel
theorem d_Al_add_ObjectObjectI_17 : decode prog_30_method_24_code 17 = .ok (.iconst 1, 1) := by decide +kernel
theorem d_Al_add_ObjectObjectI_18 : decode prog_30_method_24_code 18 = .ok (.iadd, 1) := by decide +kernel
theorem d_Al_add_ObjectObjectI_19 : decode prog_30_method_24_code 19 = .ok (.putfield 48, 3) := by decide +kernel
theorem d_Al_add_ObjectObjectI_22 : decode prog_30_method_24_code 22 = .ok (.return_, 1) := by decide +kernel
def y_Al_add_ObjectObjectI : MethodName := ⟨"java/util/ArrayList", "add", "(Ljava/lang/Object;[Ljava/lang/Object;I)V"⟩
abbrev rm_Al_add_ObjectObjectI : Room := { frames := 5, cells := 1, slots := 22, locals := 127 }
def wp_Al_add_ObjectObjectI_11 (G ca : Nat → Nat) (post : hM → Prop) (M : hM) (l0b11 : Nat) (l1b11 : Option Nat) (l2b11 : Option Nat) (l3b11 : Int32) : Prop := nN l2b11 fun b15 => sR M b15 (ca 2) l3b11 l1b11 (fun z => z = 1 ∨ z = 2) fun M16 => pF M16 l0b11 4 1 (.int (l3b11 + 1)) fun M17 => post M17
def wp_Al_add_ObjectObjectI (G ca : Nat → Nat) (post : hM → Prop) (M : hM) (a0 : Nat) (a1 : Option Nat) (a2 : Option Nat) (x3 : Int32) : Prop := nN a2 fun b18 => aZ G M b18 (ca 2) fun v19 => (¬ x3 = v19 → wp_Al_add_ObjectObjectI_11 G ca post M a0 a1 (some b18) x3) ∧ (x3 = v19 → rC M a0 4 (wp_Al_grow_ G ca (fun r21 M22 => wp_Al_add_ObjectObjectI_11 G ca post M22 a0 a1 r21 x3) M a0))
set_option maxHeartbeats 1000000 in
set_option maxRecDepth 20000 in
theorem l_Al_add_ObjectObjectI_11 {p : Program} {l : Launch} {e : Env} {s : State} {m : MethodId} {args : Array Value} {below : List Frame} {meth : Method} {c : Code} {D : va_G} {ca G : Nat → Nat} {A : Nat → Prop} (C0 : hC p s m args meth c D ca G prog_30_method_24_code 4 (none) "java/util/ArrayList" A) {post : hM → Prop} {M : hM} {H : Heap} {locs : List Loc} {ls : Array Slot} {cells slots : Nat} (l0b11 : Nat) (l1b11 : Option Nat) (l2b11 : Option Nat) (l3b11 : Int32) (hc : cells ≤ 1) (hs : slots ≤ 22) (h : wp_Al_add_ObjectObjectI_11 G ca post M l0b11 l1b11 l2b11 l3b11) (hW : hw D wCl A M H) (hS : va_S A s.heap H locs) (hl : lv_has ls 4 [(0, .ref l0b11), (1, va_rf l1b11), (2, va_rf l2b11), (3, .int l3b11)]) : W p l e rm_Al_add_ObjectObjectI s m args below meth c H locs cells slots (MQ below (va_Qv post (fun M' t => hw D wCl A M' t.heap) A) args s 1 22 A) (F0 m 11 ls []) := by
  obtain ⟨hx, hb, hr, hml, hown, hts, hlocks, hK, hA, hZ0⟩ := id C0
  refine lq_load_n hx hb d_Al_add_ObjectObjectI_11 rfl (lv_at hl 2 rfl) ?_
  refine lv_iload_n hx hb d_Al_add_ObjectObjectI_12 rfl (lv_at hl 3 rfl) ?_
  refine lq_load_n hx hb d_Al_add_ObjectObjectI_13 rfl (lv_at hl 1 rfl) ?_
  obtain ⟨b15, rfl, h⟩ := h
  have h9 := h
  clear h
  refine hq_astO (r := l1b11) hx hb hK hZ0 hW hS h9 d_Al_add_ObjectObjectI_14 (fun M16 H locs h hW hS => ?_)
  clear h9
  refine lv_aload_n hx hb d_Al_add_ObjectObjectI_15 rfl (lv_at hl 0 rfl) ?_
  refine lv_iload_n hx hb d_Al_add_ObjectObjectI_16 rfl (lv_at hl 3 rfl) ?_
  refine lv_iconst (v := 1) hx hb d_Al_add_ObjectObjectI_17 (by decide) ?_
  refine lv_iadd hx hb d_Al_add_ObjectObjectI_18 ?_
  obtain ⟨fs, h1, h2, h⟩ := h
  obtain ⟨ws, q0, hq, hP, hD, hback, -⟩ := hw_open hW h1
  refine va_put (D := D) (ci := 4) (v := .int (l3b11 + 1)) (ty := .int) (C := "java/util/ArrayList") (T := TAl) (N := 3) hx hb hts uAl tAl tAl_ok nAl hown hK hP hD hS q0 hq rfl 1 (by decide) (hts _ bw_237) (fun _ h9 => h9) rfl (by decide +kernel) rfl rfl h2 d_Al_add_ObjectObjectI_19 (fun H locs hP hD hS => ?_)
  have hW := hback _ _ hP hD
  generalize (va_up M16 l0b11 (some (.inr (4, fs.set 1 (.int (l3b11 + 1)))))) = M17 at h hW
  refine W.widen (k := 1) (n := 22) (by omega) (by omega) ?_
  exact W.vret hx hb hr (fun t ht hWm => ⟨⟨_, rfl, h, hw_t ht hW⟩, hS.F ht⟩) hS.2.2 d_Al_add_ObjectObjectI_22
set_option maxHeartbeats 1000000 in
set_option maxRecDepth 20000 in
theorem l_Al_add_ObjectObjectI_e {p : Program} {l : Launch} {e : Env} {s : State} {m : MethodId} {args : Array Value} {below : List Frame} {meth : Method} {c : Code} {D : va_G} {ca G : Nat → Nat} {A : Nat → Prop} (C0 : hC p s m args meth c D ca G prog_30_method_24_code 4 (none) "java/util/ArrayList" A) {post : hM → Prop} {M : hM} {H : Heap} {locs : List Loc} {ls : Array Slot} {cells slots : Nat} (a0 : Nat) (a1 : Option Nat) (a2 : Option Nat) (x3 : Int32) (hc : cells ≤ 0) (hs : slots ≤ 0) (h : wp_Al_add_ObjectObjectI G ca post M a0 a1 a2 x3) (hW : hw D wCl A M H) (hS : va_S A s.heap H locs) (hl : lv_has ls 4 [(0, .ref a0), (1, va_rf a1), (2, va_rf a2), (3, .int x3)]) : W p l e rm_Al_add_ObjectObjectI s m args below meth c H locs cells slots (MQ below (va_Qv post (fun M' t => hw D wCl A M' t.heap) A) args s 1 22 A) (F0 m 0 ls []) := by
  obtain ⟨hx, hb, hr, hml, hown, hts, hlocks, hK, hA, hZ0⟩ := id C0
  refine lv_iload_n hx hb d_Al_add_ObjectObjectI_0 rfl (lv_at hl 3 rfl) ?_
  refine lq_load_n hx hb d_Al_add_ObjectObjectI_1 rfl (lv_at hl 2 rfl) ?_
  obtain ⟨b18, rfl, h⟩ := h
  have h9 := h
  clear h
  refine hq_alen hx hb hK hZ0 hW hS h9 d_Al_add_ObjectObjectI_2 (fun v19 h => ?_)
  clear h9
  obtain ⟨h0, h1⟩ := h
  refine lv_icmp_ne (tgt := 11) hx hb d_Al_add_ObjectObjectI_3 (by decide) (fun c20 => ?_) (fun c20 => ?_)
  · have h := h0 c20
    exact l_Al_add_ObjectObjectI_11 C0 a0 a1 (some b18) x3 (by omega) (by omega) h hW hS (lv_sub hl [0, 1, 2, 3] rfl)
  · have h := h1 c20
    refine lv_aload_n hx hb d_Al_add_ObjectObjectI_6 rfl (lv_at hl 0 rfl) ?_
    obtain ⟨⟨fs, h1⟩, h⟩ := h
    have h9 := h
    clear h
    have hF := hW.free hS hA
    refine va_callq (va_runV (As := []) (rest := []) ⟨hx, hb, hml, hown, hts⟩ (c_Al_grow_ _ h9) (cwV 0 hts (gi_V bw_414 bw_416 bs_5 bw_14 bw_417) rfl rfl rfl (by decide +kernel) ⟨Nat.le_of_ble_eq_true rfl, Nat.le_of_ble_eq_true rfl⟩) ⟨hI.blind, hw_recv hK hW h1 rfl, hI.give hW hS hA hK hZ0⟩ rfl rfl hl.1 rfl (lv_room (Nat.le_of_ble_eq_true rfl)) d_Al_add_ObjectObjectI_7 ⟨(show _ ≤ 1 by omega), (show _ ≤ 22 by omega)⟩) hS (fun q _ z => hF q z) hF (fun r21 M22 t H locs ht _ h hB1 _ _ hS => ?_)
    have hW := hw_back hF ht hB1
    clear h9
    refine lq_store_n (lv' := [(2, va_rf r21), (0, .ref a0), (1, va_rf a1), (3, .int x3)]) hx hb d_Al_add_ObjectObjectI_10 rfl hl (by decide) (by cases a1 <;> rfl) (fun ls hl => ?_)
    exact l_Al_add_ObjectObjectI_11 C0 a0 a1 r21 x3 (by omega) (by omega) h hW hS (lv_sub hl [1, 2, 0, 3] rfl)
set_option maxRecDepth 20000 in
theorem c_Al_add_ObjectObjectI {l : Launch} {D : va_G} {ca G : Nat → Nat} (post : hM → Prop) {M : hM} {sz : Nat} {a0 : Nat} {a1 : Option Nat} {a2 : Option Nat} {x3 : Int32} (h : wp_Al_add_ObjectObjectI G ca post M a0 a1 a2 x3) : Met l y_Al_add_ObjectObjectI (wz y_Al_add_ObjectObjectI prog_30_method_24_code 4 (none)) rm_Al_add_ObjectObjectI (va_Pc [.ref a0, va_rf a1, va_rf a2, .int x3] (hI D ca G sz M)) (va_Qv post (hB D M sz) (hp_A M sz)) 1 22 (hp_A M sz) := by
  refine Met.ofW (cc := prog_30_method_24_code) (maxL := 4) (ret := none) (by decide) rfl ?_
  intro p e s m args below meth c s₁ B hml hv
  obtain ⟨rfl, hsz, hW, hK, hZ0⟩ := hv
  have hts := fun w hw => atoms_spec (ws := wz y_Al_add_ObjectObjectI prog_30_method_24_code 4 (none)) B.pre w (List.mem_cons_of_mem _ hw)
  have hown : s.vm.findClass "java/util/ArrayList" = some m.cls := findClass_of_methodNamed B.named
  subst hsz
  have hl : lv_has ((lg_sl [.ref a0, va_rf a1, va_rf a2, .int x3] ++ List.replicate (4 - (lg_sl [.ref a0, va_rf a1, va_rf a2, .int x3]).length) Slot.unset).toArray) 4 [(0, .ref a0), (1, va_rf a1), (2, va_rf a2), (3, .int x3)] := by cases a1 <;> cases a2 <;> exact lv_entry _ (Nat.le_of_ble_eq_true rfl)
  rw [lg_entry_eq]
  exact l_Al_add_ObjectObjectI_e ⟨B.exec, B.bytes, B.returns, hml, hown, hts, B.notSynchronized, hK, fun q h => Or.inr h, hZ0⟩ a0 a1 a2 x3 (Nat.zero_le _) (Nat.zero_le _) h hW va_S.rf hl

theorem d_Al_add_Object_0 : decode prog_30_method_25_code 0 = .ok (.aload_n 0, 1) := by decide +kernel
theorem d_Al_add_Object_1 : decode prog_30_method_25_code 1 = .ok (.dup, 1) := by decide +kernel
theorem d_Al_add_Object_2 : decode prog_30_method_25_code 2 = .ok (.getfield 63, 3) := by decide +kernel
theorem d_Al_add_Object_5 : decode prog_30_method_25_code 5 = .ok (.iconst 1, 1) := by decide +kernel
theorem d_Al_add_Object_6 : decode prog_30_method_25_code 6 = .ok (.iadd, 1) := by decide +kernel
theorem d_Al_add_Object_7 : decode prog_30_method_25_code 7 = .ok (.putfield 63, 3) := by decide +kernel
theorem d_Al_add_Object_10 : decode prog_30_method_25_code 10 = .ok (.aload_n 0, 1) := by decide +kernel
theorem d_Al_add_Object_11 : decode prog_30_method_25_code 11 = .ok (.aload_n 1, 1) := by decide +kernel
theorem d_Al_add_Object_12 : decode prog_30_method_25_code 12 = .ok (.aload_n 0, 1) := by decide +kernel
theorem d_Al_add_Object_13 : decode prog_30_method_25_code 13 = .ok (.getfield 9, 3) := by decide +kernel
theorem d_Al_add_Object_16 : decode prog_30_method_25_code 16 = .ok (.aload_n 0, 1) := by decide +kernel
theorem d_Al_add_Object_17 : decode prog_30_method_25_code 17 = .ok (.getfield 48, 3) := by decide +kernel
theorem d_Al_add_Object_20 : decode prog_30_method_25_code 20 = .ok (.invokevirtual 131, 3) := by decide +kernel
theorem d_Al_add_Object_23 : decode prog_30_method_25_code 23 = .ok (.iconst 1, 1) := by decide +kernel
theorem d_Al_add_Object_24 : decode prog_30_method_25_code 24 = .ok (.ireturn, 1) := by decide +kernel
def y_Al_add_Object : MethodName := ⟨"java/util/ArrayList", "add", "(Ljava/lang/Object;)Z"⟩
abbrev rm_Al_add_Object : Room := { frames := 6, cells := 1, slots := 22, locals := 150 }
def wp_Al_add_Object (G ca : Nat → Nat) (post : Int32 → hM → Prop) (M : hM) (a0 : Nat) (a1 : Option Nat) : Prop := gI M a0 4 2 fun v6 => pF M a0 4 2 (.int (v6 + 1)) fun M7 => gR M7 a0 4 0 fun v8 => gI M7 a0 4 1 fun v9 => rC M7 a0 4 (wp_Al_add_ObjectObjectI G ca (fun M10 => post 1 M10) M7 a0 a1 v8 v9)
set_option maxHeartbeats 1000000 in
set_option maxRecDepth 20000 in
theorem l_Al_add_Object_e {p : Program} {l : Launch} {e : Env} {s : State} {m : MethodId} {args : Array Value} {below : List Frame} {meth : Method} {c : Code} {D : va_G} {ca G : Nat → Nat} {A : Nat → Prop} (C0 : hC p s m args meth c D ca G prog_30_method_25_code 2 (some .boolean) "java/util/ArrayList" A) {post : Int32 → hM → Prop} {M : hM} {H : Heap} {locs : List Loc} {ls : Array Slot} {cells slots : Nat} (a0 : Nat) (a1 : Option Nat) (hc : cells ≤ 0) (hs : slots ≤ 0) (h : wp_Al_add_Object G ca post M a0 a1) (hW : hw D wCl A M H) (hS : va_S A s.heap H locs) (hl : lv_has ls 2 [(0, .ref a0), (1, va_rf a1)]) : W p l e rm_Al_add_Object s m args below meth c H locs cells slots (MQ below (va_Qi post (fun M' t => hw D wCl A M' t.heap) A) args s 1 22 A) (F0 m 0 ls []) := by
  obtain ⟨hx, hb, hr, hml, hown, hts, hlocks, hK, hA, hZ0⟩ := id C0
  refine lv_aload_n hx hb d_Al_add_Object_0 rfl (lv_at hl 0 rfl) ?_
  refine lv_dup hx hb d_Al_add_Object_1 rfl ?_
  obtain ⟨fs, v6, h1, h2, h⟩ := h
  refine va_get (D := D) (ci := 4) (v := .int v6) (C := "java/util/ArrayList") (T := TAl) (N := 3) hx hb hts uAl hown hK (hw_one hW h1) 0 rfl rfl 2 (by decide) (hts _ bw_239) (u_same (hts _ bw_240)) h2 d_Al_add_Object_2 ?_
  refine lv_iconst (v := 1) hx hb d_Al_add_Object_5 (by decide) ?_
  refine lv_iadd hx hb d_Al_add_Object_6 ?_
  obtain ⟨fs, h1, h2, h⟩ := h
  obtain ⟨ws, q0, hq, hP, hD, hback, -⟩ := hw_open hW h1
  refine va_put (D := D) (ci := 4) (v := .int (v6 + 1)) (ty := .int) (C := "java/util/ArrayList") (T := TAl) (N := 3) hx hb hts uAl tAl tAl_ok nAl hown hK hP hD hS q0 hq rfl 2 (by decide) (hts _ bw_239) (u_same (hts _ bw_240)) rfl (by decide +kernel) rfl rfl h2 d_Al_add_Object_7 (fun H locs hP hD hS => ?_)
  have hW := hback _ _ hP hD
  generalize (va_up M a0 (some (.inr (4, fs.set 2 (.int (v6 + 1)))))) = M7 at h hW
  refine lv_aload_n hx hb d_Al_add_Object_10 rfl (lv_at hl 0 rfl) ?_
  refine lq_load_n hx hb d_Al_add_Object_11 rfl (lv_at hl 1 rfl) ?_
  refine lv_aload_n hx hb d_Al_add_Object_12 rfl (lv_at hl 0 rfl) ?_
  obtain ⟨fs, v8, h1, h2, h⟩ := h
  refine va_get (D := D) (ci := 4) (v := va_rf v8) (C := "java/util/ArrayList") (T := TAl) (N := 3) hx hb hts uAl hown hK (hw_one hW h1) 0 rfl rfl 0 (by decide) (hts _ bw_236) (fun _ h9 => h9) h2 d_Al_add_Object_13 ?_
  refine lv_aload_n hx hb d_Al_add_Object_16 rfl (lv_at hl 0 rfl) ?_
  obtain ⟨fs, v9, h1, h2, h⟩ := h
  refine va_get (D := D) (ci := 4) (v := .int v9) (C := "java/util/ArrayList") (T := TAl) (N := 3) hx hb hts uAl hown hK (hw_one hW h1) 0 rfl rfl 1 (by decide) (hts _ bw_237) (fun _ h9 => h9) h2 d_Al_add_Object_17 ?_
  obtain ⟨⟨fs, h1⟩, h⟩ := h
  have h9 := h
  clear h
  have hF := hW.free hS hA
  refine va_callv (va_runV (As := [va_rf a1, va_rf v8, .int v9]) (rest := []) ⟨hx, hb, hml, hown, hts⟩ (c_Al_add_ObjectObjectI _ h9) (cwV 3 hts (gi_V bw_410 bw_412 bs_4 bw_14 bw_413) rfl rfl rfl (by decide +kernel) ⟨Nat.le_of_ble_eq_true rfl, Nat.le_of_ble_eq_true rfl⟩) ⟨hI.blind, hw_recv hK hW h1 rfl, hI.give hW hS hA hK hZ0⟩ rfl rfl hl.1 rfl (lv_room (Nat.le_of_ble_eq_true rfl)) d_Al_add_Object_20 ⟨(show _ ≤ 1 by omega), (show _ ≤ 22 by omega)⟩) hS (fun q _ z => hF q z) hF (fun M10 t H locs ht _ h hB1 _ _ hS => ?_)
  have hW := hw_back hF ht hB1
  clear h9
  refine lv_iconst (v := 1) hx hb d_Al_add_Object_23 (by decide) ?_
  refine W.widen (k := 1) (n := 22) (by omega) (by omega) ?_
  exact W.zret hx hb hr (by decide) (fun t ht hWm => ⟨⟨_, _, rfl, h, hw_t ht hW⟩, hS.F ht⟩) hS.2.2 d_Al_add_Object_24
set_option maxRecDepth 20000 in
theorem c_Al_add_Object {l : Launch} {D : va_G} {ca G : Nat → Nat} (post : Int32 → hM → Prop) {M : hM} {sz : Nat} {a0 : Nat} {a1 : Option Nat} (h : wp_Al_add_Object G ca post M a0 a1) : Met l y_Al_add_Object (wz y_Al_add_Object prog_30_method_25_code 2 (some .boolean)) rm_Al_add_Object (va_Pc [.ref a0, va_rf a1] (hI D ca G sz M)) (va_Qi post (hB D M sz) (hp_A M sz)) 1 22 (hp_A M sz) := by
  refine Met.ofW (cc := prog_30_method_25_code) (maxL := 2) (ret := some .boolean) (by decide) rfl ?_
  intro p e s m args below meth c s₁ B hml hv
  obtain ⟨rfl, hsz, hW, hK, hZ0⟩ := hv
  have hts := fun w hw => atoms_spec (ws := wz y_Al_add_Object prog_30_method_25_code 2 (some .boolean)) B.pre w (List.mem_cons_of_mem _ hw)
  have hown : s.vm.findClass "java/util/ArrayList" = some m.cls := findClass_of_methodNamed B.named
  subst hsz
  have hl : lv_has ((lg_sl [.ref a0, va_rf a1] ++ List.replicate (2 - (lg_sl [.ref a0, va_rf a1]).length) Slot.unset).toArray) 2 [(0, .ref a0), (1, va_rf a1)] := by cases a1 <;> exact lv_entry _ (Nat.le_of_ble_eq_true rfl)
  rw [lg_entry_eq]
  exact l_Al_add_Object_e ⟨B.exec, B.bytes, B.returns, hml, hown, hts, B.notSynchronized, hK, fun q h => Or.inr h, hZ0⟩ a0 a1 (Nat.zero_le _) (Nat.zero_le _) h hW va_S.rf hl

theorem d_Al_add_IObject_0 : decode prog_30_method_26_code 0 = .ok (.aload_n 0, 1) := by decide +kernel
theorem d_Al_add_IObject_1 : decode prog_30_method_26_code 1 = .ok (.iload_n 1, 1) := by decide +kernel
theorem d_Al_add_IObject_2 : decode prog_30_method_26_code 2 = .ok (.invokevirtual 135, 3) := by decide +kernel
theorem d_Al_add_IObject_5 : decode prog_30_method_26_code 5 = .ok (.aload_n 0, 1) := by decide +kernel
theorem d_Al_add_IObject_6 : decode prog_30_method_26_code 6 = .ok (.dup, 1) := by decide +kernel
theorem d_Al_add_IObject_7 : decode prog_30_method_26_code 7 = .ok (.getfield 63, 3) := by decide +kernel
theorem d_Al_add_IObject_10 : decode prog_30_method_26_code 10 = .ok (.iconst 1, 1) := by decide +kernel
theorem d_Al_add_IObject_11 : decode prog_30_method_26_code 11 = .ok (.iadd, 1) := by decide +kernel
theorem d_Al_add_IObject_12 : decode prog_30_method_26_code 12 = .ok (.putfield 63, 3) := by decide +kernel
theorem d_Al_add_IObject_15 : decode prog_30_method_26_code 15 = .ok (.aload_n 0, 1) := by decide +kernel
theorem d_Al_add_IObject_16 : decode prog_30_method_26_code 16 = .ok (.getfield 48, 3) := by decide +kernel
theorem d_Al_add_IObject_19 : decode prog_30_method_26_code 19 = .ok (.dup, 1) := by decide +kernel
theorem d_Al_add_IObject_20 : decode prog_30_method_26_code 20 = .ok (.istore_n 3, 1) := by decide +kernel
theorem d_Al_add_IObject_21 : decode prog_30_method_26_code 21 = .ok (.aload_n 0, 1) := by decide +kernel
theorem d_Al_add_IObject_22 : decode prog_30_method_26_code 22 = .ok (.getfield 9, 3) := by decide +kernel
theorem d_Al_add_IObject_25 : decode prog_30_method_26_code 25 = .ok (.dup, 1) := by decide +kernel
theorem d_Al_add_IObject_26 : decode prog_30_method_26_code 26 = .ok (.astore 4, 2) := by decide +kernel
theorem d_Al_add_IObject_28 : decode prog_30_method_26_code 28 = .ok (.arraylength, 1) := by decide +kernel
theorem d_Al_add_IObject_29 : decode prog_30_method_26_code 29 = .ok (.if_icmp .ne 9, 3) := by decide +kernel
theorem d_Al_add_IObject_32 : decode prog_30_method_26_code 32 = .ok (.aload_n 0, 1) := by decide +kernel
theorem d_Al_add_IObject_33 : decode prog_30_method_26_code 33 = .ok (.invokevirtual 129, 3) := by decide +kernel
theorem d_Al_add_IObject_36 : decode prog_30_method_26_code 36 = .ok (.astore 4, 2) := by decide +kernel
theorem d_Al_add_IObject_38 : decode prog_30_method_26_code 38 = .ok (.aload 4, 2) := by decide +kernel
theorem d_Al_add_IObject_40 : decode prog_30_method_26_code 40 = .ok (.iload_n 1, 1) := by decide +kernel
theorem d_Al_add_IObject_41 : decode prog_30_method_26_code 41 = .ok (.aload 4, 2) := by decide +kernel
theorem d_Al_add_IObject_43 : decode prog_30_method_26_code 43 = .ok (.iload_n 1, 1) := by decide +kernel
theorem d_Al_add_IObject_44 : decode prog_30_method_26_code 44 = .ok (.iconst 1, 1) := by decide +kernel
theorem d_Al_add_IObject_45 : decode prog_30_method_26_code 45 = .ok (.iadd, 1) := by decide +kernel
theorem d_Al_add_IObject_46 : decode prog_30_method_26_code 46 = .ok (.iload_n 3, 1) := by decide +kernel
theorem d_Al_add_IObject_47 : decode prog_30_method_26_code 47 = .ok (.iload_n 1, 1) := by decide +kernel
theorem d_Al_add_IObject_48 : decode prog_30_method_26_code 48 = .ok (.isub, 1) := by decide +kernel
theorem d_Al_add_IObject_49 : decode prog_30_method_26_code 49 = .ok (.invokestatic 112, 3) := by decide +kernel
theorem d_Al_add_IObject_52 : decode prog_30_method_26_code 52 = .ok (.aload 4, 2) := by decide +kernel
theorem d_Al_add_IObject_54 : decode prog_30_method_26_code 54 = .ok (.iload_n 1, 1) := by decide +kernel
theorem d_Al_add_IObject_55 : decode prog_30_method_26_code 55 = .ok (.aload_n 2, 1) := by decide +kernel
theorem d_Al_add_IObject_56 : decode prog_30_method_26_code 56 = .ok (.aastore, 1) := by decide +kernel
theorem d_Al_add_IObject_57 : decode prog_30_method_26_code 57 = .ok (.aload_n 0, 1) := by decide +kernel
theorem d_Al_add_IObject_58 : decode prog_30_method_26_code 58 = .ok (.iload_n 3, 1) := by decide +kernel
theorem d_Al_add_IObject_59 : decode prog_30_method_26_code 59 = .ok (.iconst 1, 1) := by decide +kernel
theorem d_Al_add_IObject_60 : decode prog_30_method_26_code 60 = .ok (.iadd, 1) := by decide +kernel
theorem d_Al_add_IObject_61 : decode prog_30_method_26_code 61 = .ok (.putfield 48, 3) := by decide +kernel
theorem d_Al_add_IObject_64 : decode prog_30_method_26_code 64 = .ok (.return_, 1) := by decide +kernel
def y_Al_add_IObject : MethodName := ⟨"java/util/ArrayList", "add", "(ILjava/lang/Object;)V"⟩
abbrev rm_Al_add_IObject : Room := { frames := 5, cells := 1, slots := 22, locals := 127 }
def wp_Al_add_IObject_38 (G ca : Nat → Nat) (post : hM → Prop) (M : hM) (l0b38 : Nat) (l1b38 : Int32) (l2b38 : Option Nat) (l3b38 : Int32) (l4b38 : Option Nat) : Prop := nN l4b38 fun b23 => cQ M b23 b23 (ca 2) l1b38 (l1b38 + 1) (l3b38 - l1b38) fun M24 => sR M24 b23 (ca 2) l1b38 l2b38 (fun z => z = 1 ∨ z = 2) fun M25 => pF M25 l0b38 4 1 (.int (l3b38 + 1)) fun M26 => post M26
def wp_Al_add_IObject (G ca : Nat → Nat) (post : hM → Prop) (M : hM) (a0 : Nat) (x1 : Int32) (a2 : Option Nat) : Prop := rC M a0 4 (wp_Al_rangeCheckForAdd G ca (fun M27 => gI M27 a0 4 2 fun v28 => pF M27 a0 4 2 (.int (v28 + 1)) fun M29 => gI M29 a0 4 1 fun v30 => gR M29 a0 4 0 fun v31 => nN v31 fun b32 => aZ G M29 b32 (ca 2) fun v33 => (¬ v30 = v33 → wp_Al_add_IObject_38 G ca post M29 a0 x1 a2 v30 (some b32)) ∧ (v30 = v33 → rC M29 a0 4 (wp_Al_grow_ G ca (fun r35 M36 => wp_Al_add_IObject_38 G ca post M36 a0 x1 a2 v30 r35) M29 a0))) M a0 x1)
set_option maxHeartbeats 1000000 in
set_option maxRecDepth 20000 in
theorem l_Al_add_IObject_38 {p : Program} {l : Launch} {e : Env} {s : State} {m : MethodId} {args : Array Value} {below : List Frame} {meth : Method} {c : Code} {D : va_G} {ca G : Nat → Nat} {A : Nat → Prop} (C0 : hC p s m args meth c D ca G prog_30_method_26_code 5 (none) "java/util/ArrayList" A) {post : hM → Prop} {M : hM} {H : Heap} {locs : List Loc} {ls : Array Slot} {cells slots : Nat} (l0b38 : Nat) (l1b38 : Int32) (l2b38 : Option Nat) (l3b38 : Int32) (l4b38 : Option Nat) (hc : cells ≤ 1) (hs : slots ≤ 22) (h : wp_Al_add_IObject_38 G ca post M l0b38 l1b38 l2b38 l3b38 l4b38) (hW : hw D wCl A M H) (hS : va_S A s.heap H locs) (hl : lv_has ls 5 [(0, .ref l0b38), (1, .int l1b38), (2, va_rf l2b38), (3, .int l3b38), (4, va_rf l4b38)]) : W p l e rm_Al_add_IObject s m args below meth c H locs cells slots (MQ below (va_Qv post (fun M' t => hw D wCl A M' t.heap) A) args s 1 22 A) (F0 m 38 ls []) := by
  obtain ⟨hx, hb, hr, hml, hown, hts, hlocks, hK, hA, hZ0⟩ := id C0
  refine lq_load hx hb d_Al_add_IObject_38 (lv_at hl 4 rfl) ?_
  refine lv_iload_n hx hb d_Al_add_IObject_40 rfl (lv_at hl 1 rfl) ?_
  refine lq_load hx hb d_Al_add_IObject_41 (lv_at hl 4 rfl) ?_
  refine lv_iload_n hx hb d_Al_add_IObject_43 rfl (lv_at hl 1 rfl) ?_
  refine lv_iconst (v := 1) hx hb d_Al_add_IObject_44 (by decide) ?_
  refine lv_iadd hx hb d_Al_add_IObject_45 ?_
  refine lv_iload_n hx hb d_Al_add_IObject_46 rfl (lv_at hl 3 rfl) ?_
  refine lv_iload_n hx hb d_Al_add_IObject_47 rfl (lv_at hl 1 rfl) ?_
  refine lv_isub hx hb d_Al_add_IObject_48 ?_
  obtain ⟨b23, rfl, h⟩ := h
  have h9 := h
  clear h
  refine hq_copy (rest := []) hx hb (hml.trans hl.1.symm) hown (hts _ bw_766) (hts _ bw_465) (hts _ bw_464) (hts _ bw_22) hK hZ0 hW hS h9 (by decide) (Nat.le_of_ble_eq_true rfl) d_Al_add_IObject_49 (fun M24 H locs h hW hS => ?_)
  clear h9
  refine lv_aload hx hb d_Al_add_IObject_52 (lv_at hl 4 rfl) ?_
  refine lv_iload_n hx hb d_Al_add_IObject_54 rfl (lv_at hl 1 rfl) ?_
  refine lq_load_n hx hb d_Al_add_IObject_55 rfl (lv_at hl 2 rfl) ?_
  have h9 := h
  clear h
  refine hq_astO (r := l2b38) hx hb hK hZ0 hW hS h9 d_Al_add_IObject_56 (fun M25 H locs h hW hS => ?_)
  clear h9
  refine lv_aload_n hx hb d_Al_add_IObject_57 rfl (lv_at hl 0 rfl) ?_
  refine lv_iload_n hx hb d_Al_add_IObject_58 rfl (lv_at hl 3 rfl) ?_
  refine lv_iconst (v := 1) hx hb d_Al_add_IObject_59 (by decide) ?_
  refine lv_iadd hx hb d_Al_add_IObject_60 ?_
  obtain ⟨fs, h1, h2, h⟩ := h
  obtain ⟨ws, q0, hq, hP, hD, hback, -⟩ := hw_open hW h1
  refine va_put (D := D) (ci := 4) (v := .int (l3b38 + 1)) (ty := .int) (C := "java/util/ArrayList") (T := TAl) (N := 3) hx hb hts uAl tAl tAl_ok nAl hown hK hP hD hS q0 hq rfl 1 (by decide) (hts _ bw_237) (fun _ h9 => h9) rfl (by decide +kernel) rfl rfl h2 d_Al_add_IObject_61 (fun H locs hP hD hS => ?_)
  have hW := hback _ _ hP hD
  generalize (va_up M25 l0b38 (some (.inr (4, fs.set 1 (.int (l3b38 + 1)))))) = M26 at h hW
  refine W.widen (k := 1) (n := 22) (by omega) (by omega) ?_
  exact W.vret hx hb hr (fun t ht hWm => ⟨⟨_, rfl, h, hw_t ht hW⟩, hS.F ht⟩) hS.2.2 d_Al_add_IObject_64
set_option maxHeartbeats 1000000 in
set_option maxRecDepth 20000 in
theorem l_Al_add_IObject_e {p : Program} {l : Launch} {e : Env} {s : State} {m : MethodId} {args : Array Value} {below : List Frame} {meth : Method} {c : Code} {D : va_G} {ca G : Nat → Nat} {A : Nat → Prop} (C0 : hC p s m args meth c D ca G prog_30_method_26_code 5 (none) "java/util/ArrayList" A) {post : hM → Prop} {M : hM} {H : Heap} {locs : List Loc} {ls : Array Slot} {cells slots : Nat} (a0 : Nat) (x1 : Int32) (a2 : Option Nat) (hc : cells ≤ 0) (hs : slots ≤ 0) (h : wp_Al_add_IObject G ca post M a0 x1 a2) (hW : hw D wCl A M H) (hS : va_S A s.heap H locs) (hl : lv_has ls 5 [(0, .ref a0), (1, .int x1), (2, va_rf a2)]) : W p l e rm_Al_add_IObject s m args below meth c H locs cells slots (MQ below (va_Qv post (fun M' t => hw D wCl A M' t.heap) A) args s 1 22 A) (F0 m 0 ls []) := by
  obtain ⟨hx, hb, hr, hml, hown, hts, hlocks, hK, hA, hZ0⟩ := id C0
  refine lv_aload_n hx hb d_Al_add_IObject_0 rfl (lv_at hl 0 rfl) ?_
  refine lv_iload_n hx hb d_Al_add_IObject_1 rfl (lv_at hl 1 rfl) ?_
  obtain ⟨⟨fs, h1⟩, h⟩ := h
  have h9 := h
  clear h
  have hF := hW.free hS hA
  refine va_callv (va_runV (As := [.int x1]) (rest := []) ⟨hx, hb, hml, hown, hts⟩ (c_Al_rangeCheckForAdd _ h9) (cwV 1 hts (gi_V bw_500 bw_502 bs_8 bw_14 bw_503) rfl rfl rfl (by decide +kernel) ⟨Nat.le_of_ble_eq_true rfl, Nat.le_of_ble_eq_true rfl⟩) ⟨hI.blind, hw_recv hK hW h1 rfl, hI.give hW hS hA hK hZ0⟩ rfl rfl hl.1 rfl (lv_room (Nat.le_of_ble_eq_true rfl)) d_Al_add_IObject_2 ⟨(show _ ≤ 1 by omega), (show _ ≤ 22 by omega)⟩) hS (fun q _ z => hF q z) hF (fun M27 t H locs ht _ h hB1 _ _ hS => ?_)
  have hW := hw_back hF ht hB1
  clear h9
  refine lv_aload_n hx hb d_Al_add_IObject_5 rfl (lv_at hl 0 rfl) ?_
  refine lv_dup hx hb d_Al_add_IObject_6 rfl ?_
  obtain ⟨fs, v28, h1, h2, h⟩ := h
  refine va_get (D := D) (ci := 4) (v := .int v28) (C := "java/util/ArrayList") (T := TAl) (N := 3) hx hb hts uAl hown hK (hw_one hW h1) 0 rfl rfl 2 (by decide) (hts _ bw_239) (u_same (hts _ bw_240)) h2 d_Al_add_IObject_7 ?_
  refine lv_iconst (v := 1) hx hb d_Al_add_IObject_10 (by decide) ?_
  refine lv_iadd hx hb d_Al_add_IObject_11 ?_
  obtain ⟨fs, h1, h2, h⟩ := h
  obtain ⟨ws, q0, hq, hP, hD, hback, -⟩ := hw_open hW h1
  refine va_put (D := D) (ci := 4) (v := .int (v28 + 1)) (ty := .int) (C := "java/util/ArrayList") (T := TAl) (N := 3) hx hb hts uAl tAl tAl_ok nAl hown hK hP hD hS q0 hq rfl 2 (by decide) (hts _ bw_239) (u_same (hts _ bw_240)) rfl (by decide +kernel) rfl rfl h2 d_Al_add_IObject_12 (fun H locs hP hD hS => ?_)
  have hW := hback _ _ hP hD
  generalize (va_up M27 a0 (some (.inr (4, fs.set 2 (.int (v28 + 1)))))) = M29 at h hW
  refine lv_aload_n hx hb d_Al_add_IObject_15 rfl (lv_at hl 0 rfl) ?_
  obtain ⟨fs, v30, h1, h2, h⟩ := h
  refine va_get (D := D) (ci := 4) (v := .int v30) (C := "java/util/ArrayList") (T := TAl) (N := 3) hx hb hts uAl hown hK (hw_one hW h1) 0 rfl rfl 1 (by decide) (hts _ bw_237) (fun _ h9 => h9) h2 d_Al_add_IObject_16 ?_
  refine lv_dup hx hb d_Al_add_IObject_19 rfl ?_
  refine lv_istore_n (lv' := [(3, .int v30), (0, .ref a0), (1, .int x1), (2, va_rf a2)]) hx hb d_Al_add_IObject_20 rfl hl (by decide) (by cases a2 <;> rfl) (fun ls hl => ?_)
  refine lv_aload_n hx hb d_Al_add_IObject_21 rfl (lv_at hl 1 rfl) ?_
  obtain ⟨fs, v31, h1, h2, h⟩ := h
  refine va_get (D := D) (ci := 4) (v := va_rf v31) (C := "java/util/ArrayList") (T := TAl) (N := 3) hx hb hts uAl hown hK (hw_one hW h1) 0 rfl rfl 0 (by decide) (hts _ bw_236) (fun _ h9 => h9) h2 d_Al_add_IObject_22 ?_
  refine lv_dup hx hb d_Al_add_IObject_25 (by cases v31 <;> rfl) ?_
  refine lq_store (lv' := [(4, va_rf v31), (3, .int v30), (0, .ref a0), (1, .int x1), (2, va_rf a2)]) hx hb d_Al_add_IObject_26 hl (by decide) rfl (fun ls hl => ?_)
  obtain ⟨b32, rfl, h⟩ := h
  have h9 := h
  clear h
  refine hq_alen hx hb hK hZ0 hW hS h9 d_Al_add_IObject_28 (fun v33 h => ?_)
  clear h9
  obtain ⟨h0, h1⟩ := h
  refine lv_icmp_ne (tgt := 38) hx hb d_Al_add_IObject_29 (by decide) (fun c34 => ?_) (fun c34 => ?_)
  · have h := h0 c34
    exact l_Al_add_IObject_38 C0 a0 x1 a2 v30 (some b32) (by omega) (by omega) h hW hS (lv_sub hl [2, 3, 4, 1, 0] rfl)
  · have h := h1 c34
    refine lv_aload_n hx hb d_Al_add_IObject_32 rfl (lv_at hl 2 rfl) ?_
    obtain ⟨⟨fs, h1⟩, h⟩ := h
    have h9 := h
    clear h
    have hF := hW.free hS hA
    refine va_callq (va_runV (As := []) (rest := []) ⟨hx, hb, hml, hown, hts⟩ (c_Al_grow_ _ h9) (cwV 0 hts (gi_V bw_414 bw_416 bs_5 bw_14 bw_417) rfl rfl rfl (by decide +kernel) ⟨Nat.le_of_ble_eq_true rfl, Nat.le_of_ble_eq_true rfl⟩) ⟨hI.blind, hw_recv hK hW h1 rfl, hI.give hW hS hA hK hZ0⟩ rfl rfl hl.1 rfl (lv_room (Nat.le_of_ble_eq_true rfl)) d_Al_add_IObject_33 ⟨(show _ ≤ 1 by omega), (show _ ≤ 22 by omega)⟩) hS (fun q _ z => hF q z) hF (fun r35 M36 t H locs ht _ h hB1 _ _ hS => ?_)
    have hW := hw_back hF ht hB1
    clear h9
    refine lq_store (lv' := [(4, va_rf r35), (3, .int v30), (0, .ref a0), (1, .int x1), (2, va_rf a2)]) hx hb d_Al_add_IObject_36 hl (by decide) rfl (fun ls hl => ?_)
    exact l_Al_add_IObject_38 C0 a0 x1 a2 v30 r35 (by omega) (by omega) h hW hS (lv_sub hl [2, 3, 4, 1, 0] rfl)
set_option maxRecDepth 20000 in
theorem c_Al_add_IObject {l : Launch} {D : va_G} {ca G : Nat → Nat} (post : hM → Prop) {M : hM} {sz : Nat} {a0 : Nat} {x1 : Int32} {a2 : Option Nat} (h : wp_Al_add_IObject G ca post M a0 x1 a2) : Met l y_Al_add_IObject (wz y_Al_add_IObject prog_30_method_26_code 5 (none)) rm_Al_add_IObject (va_Pc [.ref a0, .int x1, va_rf a2] (hI D ca G sz M)) (va_Qv post (hB D M sz) (hp_A M sz)) 1 22 (hp_A M sz) := by
  refine Met.ofW (cc := prog_30_method_26_code) (maxL := 5) (ret := none) (by decide) rfl ?_
  intro p e s m args below meth c s₁ B hml hv
  obtain ⟨rfl, hsz, hW, hK, hZ0⟩ := hv
  have hts := fun w hw => atoms_spec (ws := wz y_Al_add_IObject prog_30_method_26_code 5 (none)) B.pre w (List.mem_cons_of_mem _ hw)
  have hown : s.vm.findClass "java/util/ArrayList" = some m.cls := findClass_of_methodNamed B.named
  subst hsz
  have hl : lv_has ((lg_sl [.ref a0, .int x1, va_rf a2] ++ List.replicate (5 - (lg_sl [.ref a0, .int x1, va_rf a2]).length) Slot.unset).toArray) 5 [(0, .ref a0), (1, .int x1), (2, va_rf a2)] := by cases a2 <;> exact lv_entry _ (Nat.le_of_ble_eq_true rfl)
  rw [lg_entry_eq]
  exact l_Al_add_IObject_e ⟨B.exec, B.bytes, B.returns, hml, hown, hts, B.notSynchronized, hK, fun q h => Or.inr h, hZ0⟩ a0 x1 a2 (Nat.zero_le _) (Nat.zero_le _) h hW va_S.rf hl
end
section
theorem d_Ch_firstWaiter_0 : decode prog_2_method_8_code 0 = .ok (.iconst 0, 1) := by decide +kernel
theorem d_Ch_firstWaiter_1 : decode prog_2_method_8_code 1 = .ok (.istore_n 2, 1) := by decide +kernel
theorem d_Ch_firstWaiter_2 : decode prog_2_method_8_code 2 = .ok (.iload_n 2, 1) := by decide +kernel
theorem d_Ch_firstWaiter_3 : decode prog_2_method_8_code 3 = .ok (.aload_n 0, 1) := by decide +kernel
theorem d_Ch_firstWaiter_4 : decode prog_2_method_8_code 4 = .ok (.getfield 18, 3) := by decide +kernel
theorem d_Ch_firstWaiter_7 : decode prog_2_method_8_code 7 = .ok (.invokevirtual 79, 3) := by decide +kernel
theorem d_Ch_firstWaiter_10 : decode prog_2_method_8_code 10 = .ok (.if_icmp .ge 39, 3) := by decide +kernel
theorem d_Ch_firstWaiter_13 : decode prog_2_method_8_code 13 = .ok (.aload_n 0, 1) := by decide +kernel
theorem d_Ch_firstWaiter_14 : decode prog_2_method_8_code 14 = .ok (.getfield 18, 3) := by decide +kernel
theorem d_Ch_firstWaiter_17 : decode prog_2_method_8_code 17 = .ok (.iload_n 2, 1) := by decide +kernel
theorem d_Ch_firstWaiter_18 : decode prog_2_method_8_code 18 = .ok (.invokevirtual 56, 3) := by decide +kernel
theorem d_Ch_firstWaiter_21 : decode prog_2_method_8_code 21 = .ok (.checkcast 83, 3) := by decide +kernel
theorem d_Ch_firstWaiter_24 : decode prog_2_method_8_code 24 = .ok (.getfield 85, 3) := by decide +kernel
theorem d_Ch_firstWaiter_27 : decode prog_2_method_8_code 27 = .ok (.aload_n 1, 1) := by decide +kernel
theorem d_Ch_firstWaiter_28 : decode prog_2_method_8_code 28 = .ok (.if_acmp .ne 15, 3) := by decide +kernel
theorem d_Ch_firstWaiter_31 : decode prog_2_method_8_code 31 = .ok (.aload_n 0, 1) := by decide +kernel
theorem d_Ch_firstWaiter_32 : decode prog_2_method_8_code 32 = .ok (.getfield 18, 3) := by decide +kernel
theorem d_Ch_firstWaiter_35 : decode prog_2_method_8_code 35 = .ok (.iload_n 2, 1) := by decide +kernel
theorem d_Ch_firstWaiter_36 : decode prog_2_method_8_code 36 = .ok (.invokevirtual 56, 3) := by decide +kernel
theorem d_Ch_firstWaiter_39 : decode prog_2_method_8_code 39 = .ok (.checkcast 83, 3) := by decide +kernel
theorem d_Ch_firstWaiter_42 : decode prog_2_method_8_code 42 = .ok (.areturn, 1) := by decide +kernel
theorem d_Ch_firstWaiter_43 : decode prog_2_method_8_code 43 = .ok (.iinc 2 1, 3) := by decide +kernel
theorem d_Ch_firstWaiter_46 : decode prog_2_method_8_code 46 = .ok (.goto (-44), 3) := by decide +kernel
theorem d_Ch_firstWaiter_49 : decode prog_2_method_8_code 49 = .ok (.aconst_null, 1) := by decide +kernel
theorem d_Ch_firstWaiter_50 : decode prog_2_method_8_code 50 = .ok (.areturn, 1) := by decide +kernel
def y_Ch_firstWaiter : MethodName := ⟨"ChannelHall$Channel", "firstWaiter", "(LChannelHall$Role;)LChannelHall$Worker;"⟩
abbrev rm_Ch_firstWaiter : Room := { frames := 3, cells := 0, slots := 0, locals := 64 }
def wp_Ch_firstWaiter_2 (G ca : Nat → Nat) (post : Option Nat → hM → Prop) : Nat → hM → Nat → Option Nat → Int32 → Prop
  | 0, _, _, _, _ => False
  | n + 1, M, l0b2, l1b2, l2b2 => gR M l0b2 0 5 fun v18 => nN v18 fun b19 => rC M b19 4 (wp_Al_size G ca (fun r20 M21 => (r20 ≤ l2b2 → post none M21) ∧ (¬ r20 ≤ l2b2 → gR M21 l0b2 0 5 fun v23 => nN v23 fun b24 => rC M21 b24 4 (wp_Al_get G ca (fun r25 M26 => cO M26 r25 2 fun b27 => gR M26 b27 2 6 fun v28 => (¬ v28 = l1b2 → (wp_Ch_firstWaiter_2 G ca post n) M26 l0b2 l1b2 (l2b2 + 1)) ∧ (v28 = l1b2 → gR M26 l0b2 0 5 fun v30 => nN v30 fun b31 => rC M26 b31 4 (wp_Al_get G ca (fun r32 M33 => cO M33 r32 2 fun b34 => post (some b34) M33) M26 b31 l2b2))) M21 b24 l2b2))) M b19)
def wp_Ch_firstWaiter (G ca : Nat → Nat) (post : Option Nat → hM → Prop) (M : hM) (a0 : Nat) (a1 : Option Nat) : Prop := ∃ n, wp_Ch_firstWaiter_2 G ca post n M a0 a1 0
set_option maxHeartbeats 1000000 in
set_option maxRecDepth 20000 in
theorem l_Ch_firstWaiter_2 {p : Program} {l : Launch} {e : Env} {s : State} {m : MethodId} {args : Array Value} {below : List Frame} {meth : Method} {c : Code} {D : va_G} {ca G : Nat → Nat} {A : Nat → Prop} (C0 : hC p s m args meth c D ca G prog_2_method_8_code 3 (some (.object "ChannelHall$Worker")) "ChannelHall$Channel" A) {post : Option Nat → hM → Prop} : ∀ (n : Nat) {M : hM} {H : Heap} {locs : List Loc} {ls : Array Slot} (l0b2 : Nat) (l1b2 : Option Nat) (l2b2 : Int32) (h : wp_Ch_firstWaiter_2 G ca post n M l0b2 l1b2 l2b2) (hW : hw D wCl A M H) (hS : va_S A s.heap H locs) (hl : lv_has ls 3 [(0, .ref l0b2), (1, va_rf l1b2), (2, .int l2b2)]), W p l e rm_Ch_firstWaiter s m args below meth c H locs 0 0 (MQ below (va_Qq post (fun M' t => hw D wCl A M' t.heap) A) args s 0 0 A) (F0 m 2 ls []) := by
  obtain ⟨hx, hb, hr, hml, hown, hts, hlocks, hK, hA, hZ0⟩ := id C0
  intro n
  induction n with
  | zero =>
    intro M H locs ls l0b2 l1b2 l2b2 h
    exact False.elim h
  | succ n ih =>
    intro M H locs ls l0b2 l1b2 l2b2 h hW hS hl
    have hk_2 := fun M H locs ls l0b2 l1b2 l2b2 h hW hS hl => @ih M H locs ls l0b2 l1b2 l2b2 h hW hS hl
    refine lv_iload_n hx hb d_Ch_firstWaiter_2 rfl (lv_at hl 2 rfl) ?_
    refine lv_aload_n hx hb d_Ch_firstWaiter_3 rfl (lv_at hl 0 rfl) ?_
    obtain ⟨fs, v18, h1, h2, h⟩ := h
    refine va_get (D := D) (ci := 0) (v := va_rf v18) (C := "ChannelHall$Channel") (T := TCh) (N := 10) hx hb hts uCh hown hK (hw_one hW h1) 0 rfl rfl 5 (by decide) (hts _ bw_260) (fun _ h9 => h9) h2 d_Ch_firstWaiter_4 ?_
    obtain ⟨b19, rfl, h⟩ := h
    obtain ⟨⟨fs, h1⟩, h⟩ := h
    have h9 := h
    clear h
    have hF := hW.free hS hA
    refine va_calli (va_runV (As := []) (rest := [.int l2b2]) ⟨hx, hb, hml, hown, hts⟩ (c_Al_size _ h9) (cwV 0 hts (gi_V bw_376 bw_377 bw_378 bw_14 bw_379) rfl rfl rfl (by decide +kernel) ⟨Nat.le_of_ble_eq_true rfl, Nat.le_of_ble_eq_true rfl⟩) ⟨hI.blind, hw_recv hK hW h1 rfl, hI.give hW hS hA hK hZ0⟩ rfl rfl hl.1 rfl (lv_room (Nat.le_of_ble_eq_true rfl)) d_Ch_firstWaiter_7 ⟨(show _ ≤ 0 by omega), (show _ ≤ 0 by omega)⟩) hS (fun q _ z => hF q z) hF (fun r20 M21 t H locs ht _ h hB1 _ _ hS => ?_)
    have hW := hw_back hF ht hB1
    clear h9
    obtain ⟨h0, h1⟩ := h
    refine lv_icmp_ge (tgt := 49) hx hb d_Ch_firstWaiter_10 (by decide) (fun c22 => ?_) (fun c22 => ?_)
    · have h := h0 c22
      refine lv_null hx hb d_Ch_firstWaiter_49 ?_
      exact W.aret hx hb hr (Or.inl ⟨_, rfl⟩) (Or.inl rfl) (fun t ht hWm => ⟨⟨none, _, rfl, h, hw_t ht hW⟩, hS.F ht⟩) hS.2.2 d_Ch_firstWaiter_50
    · have h := h1 c22
      refine lv_aload_n hx hb d_Ch_firstWaiter_13 rfl (lv_at hl 0 rfl) ?_
      obtain ⟨fs, v23, h1, h2, h⟩ := h
      refine va_get (D := D) (ci := 0) (v := va_rf v23) (C := "ChannelHall$Channel") (T := TCh) (N := 10) hx hb hts uCh hown hK (hw_one hW h1) 0 rfl rfl 5 (by decide) (hts _ bw_260) (fun _ h9 => h9) h2 d_Ch_firstWaiter_14 ?_
      refine lv_iload_n hx hb d_Ch_firstWaiter_17 rfl (lv_at hl 2 rfl) ?_
      obtain ⟨b24, rfl, h⟩ := h
      obtain ⟨⟨fs, h1⟩, h⟩ := h
      have h9 := h
      clear h
      have hF := hW.free hS hA
      refine va_callq (va_runV (As := [.int l2b2]) (rest := []) ⟨hx, hb, hml, hown, hts⟩ (c_Al_get _ h9) (cwV 1 hts (gi_V bw_380 bw_381 bw_382 bw_14 bw_383) rfl rfl rfl (by decide +kernel) ⟨Nat.le_of_ble_eq_true rfl, Nat.le_of_ble_eq_true rfl⟩) ⟨hI.blind, hw_recv hK hW h1 rfl, hI.give hW hS hA hK hZ0⟩ rfl rfl hl.1 rfl (lv_room (Nat.le_of_ble_eq_true rfl)) d_Ch_firstWaiter_18 ⟨(show _ ≤ 0 by omega), (show _ ≤ 0 by omega)⟩) hS (fun q _ z => hF q z) hF (fun r25 M26 t H locs ht _ h hB1 _ _ hS => ?_)
      have hW := hw_back hF ht hB1
      clear h9
      obtain ⟨b27, fs, rfl, h1, h⟩ := h
      refine va_castS (cC := D.1 2) hx hb hown (hts _ bw_394) (hK.1 2 _ rfl).2 (hw_recv hK hW h1 rfl) d_Ch_firstWaiter_21 ?_
      obtain ⟨fs, v28, h1, h2, h⟩ := h
      refine va_get (D := D) (ci := 2) (v := va_rf v28) (C := "ChannelHall$Worker") (T := TWo) (N := 11) hx hb hts uWo hown hK (hw_one hW h1) 0 rfl rfl 6 (by decide) (hts _ bw_66) (fun _ h9 => h9) h2 d_Ch_firstWaiter_24 ?_
      refine lq_load_n hx hb d_Ch_firstWaiter_27 rfl (lv_at hl 1 rfl) ?_
      obtain ⟨h0, h1⟩ := h
      refine lv_acmp_ne (rx := v28) (ry := l1b2) (tgt := 43) hx hb d_Ch_firstWaiter_28 (by decide) (fun c29 => ?_) (fun c29 => ?_)
      · have h := h0 c29
        refine lv_iinc (v := l2b2 + 1) (lv' := [(2, .int (l2b2 + 1)), (0, .ref l0b2), (1, va_rf l1b2)]) hx hb d_Ch_firstWaiter_43 hl (k := 2) rfl rfl (by decide) (by cases l1b2 <;> rfl) (fun ls hl => ?_)
        refine lv_goto (tgt := 2) hx hb d_Ch_firstWaiter_46 (by decide) ?_
        exact hk_2 _ _ _ _ l0b2 l1b2 (l2b2 + 1) h hW hS (lv_sub hl [1, 2, 0] rfl)
      · have h := h1 c29
        refine lv_aload_n hx hb d_Ch_firstWaiter_31 rfl (lv_at hl 0 rfl) ?_
        obtain ⟨fs, v30, h1, h2, h⟩ := h
        refine va_get (D := D) (ci := 0) (v := va_rf v30) (C := "ChannelHall$Channel") (T := TCh) (N := 10) hx hb hts uCh hown hK (hw_one hW h1) 0 rfl rfl 5 (by decide) (hts _ bw_260) (fun _ h9 => h9) h2 d_Ch_firstWaiter_32 ?_
        refine lv_iload_n hx hb d_Ch_firstWaiter_35 rfl (lv_at hl 2 rfl) ?_
        obtain ⟨b31, rfl, h⟩ := h
        obtain ⟨⟨fs, h1⟩, h⟩ := h
        have h9 := h
        clear h
        have hF := hW.free hS hA
        refine va_callq (va_runV (As := [.int l2b2]) (rest := []) ⟨hx, hb, hml, hown, hts⟩ (c_Al_get _ h9) (cwV 1 hts (gi_V bw_380 bw_381 bw_382 bw_14 bw_383) rfl rfl rfl (by decide +kernel) ⟨Nat.le_of_ble_eq_true rfl, Nat.le_of_ble_eq_true rfl⟩) ⟨hI.blind, hw_recv hK hW h1 rfl, hI.give hW hS hA hK hZ0⟩ rfl rfl hl.1 rfl (lv_room (Nat.le_of_ble_eq_true rfl)) d_Ch_firstWaiter_36 ⟨(show _ ≤ 0 by omega), (show _ ≤ 0 by omega)⟩) hS (fun q _ z => hF q z) hF (fun r32 M33 t H locs ht _ h hB1 _ _ hS => ?_)
        have hW := hw_back hF ht hB1
        clear h9
        obtain ⟨b34, fs, rfl, h1, h⟩ := h
        refine va_castS (cC := D.1 2) hx hb hown (hts _ bw_394) (hK.1 2 _ rfl).2 (hw_recv hK hW h1 rfl) d_Ch_firstWaiter_39 ?_
        exact W.aret hx hb hr (Or.inl ⟨_, rfl⟩) (Or.inr ⟨_, rfl⟩) (fun t ht hWm => ⟨⟨(some b34), _, rfl, h, hw_t ht hW⟩, hS.F ht⟩) hS.2.2 d_Ch_firstWaiter_42
set_option maxHeartbeats 1000000 in
set_option maxRecDepth 20000 in
theorem l_Ch_firstWaiter_e {p : Program} {l : Launch} {e : Env} {s : State} {m : MethodId} {args : Array Value} {below : List Frame} {meth : Method} {c : Code} {D : va_G} {ca G : Nat → Nat} {A : Nat → Prop} (C0 : hC p s m args meth c D ca G prog_2_method_8_code 3 (some (.object "ChannelHall$Worker")) "ChannelHall$Channel" A) {post : Option Nat → hM → Prop} {M : hM} {H : Heap} {locs : List Loc} {ls : Array Slot} (a0 : Nat) (a1 : Option Nat) (h : wp_Ch_firstWaiter G ca post M a0 a1) (hW : hw D wCl A M H) (hS : va_S A s.heap H locs) (hl : lv_has ls 3 [(0, .ref a0), (1, va_rf a1)]) : W p l e rm_Ch_firstWaiter s m args below meth c H locs 0 0 (MQ below (va_Qq post (fun M' t => hw D wCl A M' t.heap) A) args s 0 0 A) (F0 m 0 ls []) := by
  obtain ⟨hx, hb, hr, hml, hown, hts, hlocks, hK, hA, hZ0⟩ := id C0
  refine lv_iconst (v := 0) hx hb d_Ch_firstWaiter_0 (by decide) ?_
  refine lv_istore_n (lv' := [(2, .int 0), (0, .ref a0), (1, va_rf a1)]) hx hb d_Ch_firstWaiter_1 rfl hl (by decide) (by cases a1 <;> rfl) (fun ls hl => ?_)
  obtain ⟨n, h⟩ := h
  exact l_Ch_firstWaiter_2 C0 n a0 a1 0 h hW hS (lv_sub hl [1, 2, 0] rfl)
set_option maxRecDepth 20000 in
theorem c_Ch_firstWaiter {l : Launch} {D : va_G} {ca G : Nat → Nat} (post : Option Nat → hM → Prop) {M : hM} {sz : Nat} {a0 : Nat} {a1 : Option Nat} (h : wp_Ch_firstWaiter G ca post M a0 a1) : Met l y_Ch_firstWaiter (wz y_Ch_firstWaiter prog_2_method_8_code 3 (some (.object "ChannelHall$Worker"))) rm_Ch_firstWaiter (va_Pc [.ref a0, va_rf a1] (hI D ca G sz M)) (va_Qq post (hB D M sz) (hp_A M sz)) 0 0 (hp_A M sz) := by
  refine Met.ofW (cc := prog_2_method_8_code) (maxL := 3) (ret := some (.object "ChannelHall$Worker")) (by decide) rfl ?_
  intro p e s m args below meth c s₁ B hml hv
  obtain ⟨rfl, hsz, hW, hK, hZ0⟩ := hv
  have hts := fun w hw => atoms_spec (ws := wz y_Ch_firstWaiter prog_2_method_8_code 3 (some (.object "ChannelHall$Worker"))) B.pre w (List.mem_cons_of_mem _ hw)
  have hown : s.vm.findClass "ChannelHall$Channel" = some m.cls := findClass_of_methodNamed B.named
  subst hsz
  have hl : lv_has ((lg_sl [.ref a0, va_rf a1] ++ List.replicate (3 - (lg_sl [.ref a0, va_rf a1]).length) Slot.unset).toArray) 3 [(0, .ref a0), (1, va_rf a1)] := by cases a1 <;> exact lv_entry _ (Nat.le_of_ble_eq_true rfl)
  rw [lg_entry_eq]
  exact l_Ch_firstWaiter_e ⟨B.exec, B.bytes, B.returns, hml, hown, hts, B.notSynchronized, hK, fun q h => Or.inr h, hZ0⟩ a0 a1 h hW va_S.rf hl

theorem d_Ch_isReady_0 : decode prog_2_method_5_code 0 = .ok (.aload_n 0, 1) := by decide +kernel
theorem d_Ch_isReady_1 : decode prog_2_method_5_code 1 = .ok (.getfield 12, 3) := by decide +kernel
theorem d_Ch_isReady_4 : decode prog_2_method_5_code 4 = .ok (.invokevirtual 52, 3) := by decide +kernel
theorem d_Ch_isReady_7 : decode prog_2_method_5_code 7 = .ok (.ifCond .eq 5, 3) := by decide +kernel
theorem d_Ch_isReady_10 : decode prog_2_method_5_code 10 = .ok (.iconst 0, 1) := by decide +kernel
theorem d_Ch_isReady_11 : decode prog_2_method_5_code 11 = .ok (.ireturn, 1) := by decide +kernel
theorem d_Ch_isReady_12 : decode prog_2_method_5_code 12 = .ok (.aload_n 0, 1) := by decide +kernel
theorem d_Ch_isReady_13 : decode prog_2_method_5_code 13 = .ok (.getfield 39, 3) := by decide +kernel
theorem d_Ch_isReady_16 : decode prog_2_method_5_code 16 = .ok (.iconst 4, 1) := by decide +kernel
theorem d_Ch_isReady_17 : decode prog_2_method_5_code 17 = .ok (.if_icmp .ne 22, 3) := by decide +kernel
theorem d_Ch_isReady_20 : decode prog_2_method_5_code 20 = .ok (.aload_n 0, 1) := by decide +kernel
theorem d_Ch_isReady_21 : decode prog_2_method_5_code 21 = .ok (.getfield 12, 3) := by decide +kernel
theorem d_Ch_isReady_24 : decode prog_2_method_5_code 24 = .ok (.iconst 0, 1) := by decide +kernel
theorem d_Ch_isReady_25 : decode prog_2_method_5_code 25 = .ok (.invokevirtual 56, 3) := by decide +kernel
theorem d_Ch_isReady_28 : decode prog_2_method_5_code 28 = .ok (.checkcast 60, 3) := by decide +kernel
theorem d_Ch_isReady_31 : decode prog_2_method_5_code 31 = .ok (.getfield 62, 3) := by decide +kernel
theorem d_Ch_isReady_34 : decode prog_2_method_5_code 34 = .ok (.dload_n 1, 1) := by decide +kernel
theorem d_Ch_isReady_35 : decode prog_2_method_5_code 35 = .ok (.dcmp .g, 1) := by decide +kernel
theorem d_Ch_isReady_36 : decode prog_2_method_5_code 36 = .ok (.ifCond .gt 7, 3) := by decide +kernel
theorem d_Ch_isReady_39 : decode prog_2_method_5_code 39 = .ok (.iconst 1, 1) := by decide +kernel
theorem d_Ch_isReady_40 : decode prog_2_method_5_code 40 = .ok (.goto 4, 3) := by decide +kernel
theorem d_Ch_isReady_43 : decode prog_2_method_5_code 43 = .ok (.iconst 0, 1) := by decide +kernel
theorem d_Ch_isReady_44 : decode prog_2_method_5_code 44 = .ok (.ireturn, 1) := by decide +kernel
def y_Ch_isReady : MethodName := ⟨"ChannelHall$Channel", "isReady", "(D)Z"⟩
abbrev rm_Ch_isReady : Room := { frames := 3, cells := 0, slots := 0, locals := 64 }
def wp_Ch_isReady_44 (G ca : Nat → Nat) (post : Int32 → hM → Prop) (M : hM) (s0b44 : Int32) : Prop := bZ s0b44 (post s0b44 M)
def wp_Ch_isReady_39 (G ca : Nat → Nat) (post : Int32 → hM → Prop) (M : hM)  : Prop := wp_Ch_isReady_44 G ca post M 1
def wp_Ch_isReady (G ca : Nat → Nat) (post : Int32 → hM → Prop) (M : hM) (a0 : Nat) (x1 : UInt64) : Prop := gR M a0 0 4 fun v15 => nN v15 fun b16 => rC M b16 4 (wp_Al_isEmpty G ca (fun r17 M18 => (r17 = 0 → gI M18 a0 0 1 fun v20 => (¬ v20 = 4 → wp_Ch_isReady_39 G ca post M18) ∧ (v20 = 4 → gR M18 a0 0 4 fun v22 => nN v22 fun b23 => rC M18 b23 4 (wp_Al_get G ca (fun r24 M25 => cO M25 r24 1 fun b26 => gD M25 b26 1 1 fun v27 => (0 < (Op.cmpValue (FP.dcmp v27 x1) .g) → wp_Ch_isReady_44 G ca post M25 0) ∧ (¬ 0 < (Op.cmpValue (FP.dcmp v27 x1) .g) → wp_Ch_isReady_39 G ca post M25)) M18 b23 0))) ∧ (¬ r17 = 0 → post 0 M18)) M b16)
set_option maxHeartbeats 1000000 in
set_option maxRecDepth 20000 in
theorem l_Ch_isReady_44 {p : Program} {l : Launch} {e : Env} {s : State} {m : MethodId} {args : Array Value} {below : List Frame} {meth : Method} {c : Code} {D : va_G} {ca G : Nat → Nat} {A : Nat → Prop} (C0 : hC p s m args meth c D ca G prog_2_method_5_code 3 (some .boolean) "ChannelHall$Channel" A) {post : Int32 → hM → Prop} {M : hM} {H : Heap} {locs : List Loc} {ls : Array Slot} (s0b44 : Int32) (h : wp_Ch_isReady_44 G ca post M s0b44) (hW : hw D wCl A M H) (hS : va_S A s.heap H locs) (hl : lv_has ls 3 []) : W p l e rm_Ch_isReady s m args below meth c H locs 0 0 (MQ below (va_Qi post (fun M' t => hw D wCl A M' t.heap) A) args s 0 0 A) (F0 m 44 ls [.int s0b44]) := by
  obtain ⟨hx, hb, hr, hml, hown, hts, hlocks, hK, hA, hZ0⟩ := id C0
  obtain ⟨hz, h⟩ := h
  exact W.zret hx hb hr (nb_n hz) (fun t ht hWm => ⟨⟨_, _, rfl, h, hw_t ht hW⟩, hS.F ht⟩) hS.2.2 d_Ch_isReady_44
set_option maxHeartbeats 1000000 in
set_option maxRecDepth 20000 in
theorem l_Ch_isReady_39 {p : Program} {l : Launch} {e : Env} {s : State} {m : MethodId} {args : Array Value} {below : List Frame} {meth : Method} {c : Code} {D : va_G} {ca G : Nat → Nat} {A : Nat → Prop} (C0 : hC p s m args meth c D ca G prog_2_method_5_code 3 (some .boolean) "ChannelHall$Channel" A) {post : Int32 → hM → Prop} {M : hM} {H : Heap} {locs : List Loc} {ls : Array Slot}  (h : wp_Ch_isReady_39 G ca post M) (hW : hw D wCl A M H) (hS : va_S A s.heap H locs) (hl : lv_has ls 3 []) : W p l e rm_Ch_isReady s m args below meth c H locs 0 0 (MQ below (va_Qi post (fun M' t => hw D wCl A M' t.heap) A) args s 0 0 A) (F0 m 39 ls []) := by
  obtain ⟨hx, hb, hr, hml, hown, hts, hlocks, hK, hA, hZ0⟩ := id C0
  refine lv_iconst (v := 1) hx hb d_Ch_isReady_39 (by decide) ?_
  refine lv_goto (tgt := 44) hx hb d_Ch_isReady_40 (by decide) ?_
  exact l_Ch_isReady_44 C0 1 h hW hS (lv_sub hl [] rfl)
set_option maxHeartbeats 1000000 in
set_option maxRecDepth 20000 in
theorem l_Ch_isReady_e {p : Program} {l : Launch} {e : Env} {s : State} {m : MethodId} {args : Array Value} {below : List Frame} {meth : Method} {c : Code} {D : va_G} {ca G : Nat → Nat} {A : Nat → Prop} (C0 : hC p s m args meth c D ca G prog_2_method_5_code 3 (some .boolean) "ChannelHall$Channel" A) {post : Int32 → hM → Prop} {M : hM} {H : Heap} {locs : List Loc} {ls : Array Slot} (a0 : Nat) (x1 : UInt64) (h : wp_Ch_isReady G ca post M a0 x1) (hW : hw D wCl A M H) (hS : va_S A s.heap H locs) (hl : lv_has ls 3 [(0, .ref a0), (1, .double x1)]) : W p l e rm_Ch_isReady s m args below meth c H locs 0 0 (MQ below (va_Qi post (fun M' t => hw D wCl A M' t.heap) A) args s 0 0 A) (F0 m 0 ls []) := by
  obtain ⟨hx, hb, hr, hml, hown, hts, hlocks, hK, hA, hZ0⟩ := id C0
  refine lv_aload_n hx hb d_Ch_isReady_0 rfl (lv_at hl 0 rfl) ?_
  obtain ⟨fs, v15, h1, h2, h⟩ := h
  refine va_get (D := D) (ci := 0) (v := va_rf v15) (C := "ChannelHall$Channel") (T := TCh) (N := 10) hx hb hts uCh hown hK (hw_one hW h1) 0 rfl rfl 4 (by decide) (hts _ bw_258) (fun _ h9 => h9) h2 d_Ch_isReady_1 ?_
  obtain ⟨b16, rfl, h⟩ := h
  obtain ⟨⟨fs, h1⟩, h⟩ := h
  have h9 := h
  clear h
  have hF := hW.free hS hA
  refine va_calli (va_runV (As := []) (rest := []) ⟨hx, hb, hml, hown, hts⟩ (c_Al_isEmpty _ h9) (cwV 0 hts (gi_V bw_803 bw_804 bw_805 bw_14 bw_806) rfl rfl rfl (by decide +kernel) ⟨Nat.le_of_ble_eq_true rfl, Nat.le_of_ble_eq_true rfl⟩) ⟨hI.blind, hw_recv hK hW h1 rfl, hI.give hW hS hA hK hZ0⟩ rfl rfl hl.1 rfl (lv_room (Nat.le_of_ble_eq_true rfl)) d_Ch_isReady_4 ⟨(show _ ≤ 0 by omega), (show _ ≤ 0 by omega)⟩) hS (fun q _ z => hF q z) hF (fun r17 M18 t H locs ht _ h hB1 _ _ hS => ?_)
  have hW := hw_back hF ht hB1
  clear h9
  obtain ⟨h0, h1⟩ := h
  refine lv_if_eq (tgt := 12) hx hb d_Ch_isReady_7 (by decide) (fun c19 => ?_) (fun c19 => ?_)
  · have h := h0 c19
    refine lv_aload_n hx hb d_Ch_isReady_12 rfl (lv_at hl 0 rfl) ?_
    obtain ⟨fs, v20, h1, h2, h⟩ := h
    refine va_get (D := D) (ci := 0) (v := .int v20) (C := "ChannelHall$Channel") (T := TCh) (N := 10) hx hb hts uCh hown hK (hw_one hW h1) 0 rfl rfl 1 (by decide) (hts _ bw_253) (fun _ h9 => h9) h2 d_Ch_isReady_13 ?_
    refine lv_iconst (v := 4) hx hb d_Ch_isReady_16 (by decide) ?_
    obtain ⟨h0, h1⟩ := h
    refine lv_icmp_ne (tgt := 39) hx hb d_Ch_isReady_17 (by decide) (fun c21 => ?_) (fun c21 => ?_)
    · have h := h0 c21
      exact l_Ch_isReady_39 C0  h hW hS (lv_sub hl [] rfl)
    · have h := h1 c21
      refine lv_aload_n hx hb d_Ch_isReady_20 rfl (lv_at hl 0 rfl) ?_
      obtain ⟨fs, v22, h1, h2, h⟩ := h
      refine va_get (D := D) (ci := 0) (v := va_rf v22) (C := "ChannelHall$Channel") (T := TCh) (N := 10) hx hb hts uCh hown hK (hw_one hW h1) 0 rfl rfl 4 (by decide) (hts _ bw_258) (fun _ h9 => h9) h2 d_Ch_isReady_21 ?_
      refine lv_iconst (v := 0) hx hb d_Ch_isReady_24 (by decide) ?_
      obtain ⟨b23, rfl, h⟩ := h
      obtain ⟨⟨fs, h1⟩, h⟩ := h
      have h9 := h
      clear h
      have hF := hW.free hS hA
      refine va_callq (va_runV (As := [.int 0]) (rest := []) ⟨hx, hb, hml, hown, hts⟩ (c_Al_get _ h9) (cwV 1 hts (gi_V bw_380 bw_381 bw_382 bw_14 bw_383) rfl rfl rfl (by decide +kernel) ⟨Nat.le_of_ble_eq_true rfl, Nat.le_of_ble_eq_true rfl⟩) ⟨hI.blind, hw_recv hK hW h1 rfl, hI.give hW hS hA hK hZ0⟩ rfl rfl hl.1 rfl (lv_room (Nat.le_of_ble_eq_true rfl)) d_Ch_isReady_25 ⟨(show _ ≤ 0 by omega), (show _ ≤ 0 by omega)⟩) hS (fun q _ z => hF q z) hF (fun r24 M25 t H locs ht _ h hB1 _ _ hS => ?_)
      have hW := hw_back hF ht hB1
      clear h9
      obtain ⟨b26, fs, rfl, h1, h⟩ := h
      refine va_castS (cC := D.1 1) hx hb hown (hts _ bw_476) (hK.1 1 _ rfl).2 (hw_recv hK hW h1 rfl) d_Ch_isReady_28 ?_
      obtain ⟨fs, v27, h1, h2, h⟩ := h
      refine va_get (D := D) (ci := 1) (v := .double v27) (C := "ChannelHall$Item") (T := TIt) (N := 3) hx hb hts uIt hown hK (hw_one hW h1) 0 rfl rfl 1 (by decide) (hts _ bw_486) (fun _ h9 => h9) h2 d_Ch_isReady_31 ?_
      refine lv_dload_n hx hb d_Ch_isReady_34 rfl (lv_at hl 1 rfl) ?_
      refine lv_dcmp hx hb d_Ch_isReady_35 ?_
      obtain ⟨h0, h1⟩ := h
      refine lv_if_gt (tgt := 43) hx hb d_Ch_isReady_36 (by decide) (fun c28 => ?_) (fun c28 => ?_)
      · have h := h0 c28
        refine lv_iconst (v := 0) hx hb d_Ch_isReady_43 (by decide) ?_
        exact l_Ch_isReady_44 C0 0 h hW hS (lv_sub hl [] rfl)
      · have h := h1 c28
        exact l_Ch_isReady_39 C0  h hW hS (lv_sub hl [] rfl)
  · have h := h1 c19
    refine lv_iconst (v := 0) hx hb d_Ch_isReady_10 (by decide) ?_
    exact W.zret hx hb hr (by decide) (fun t ht hWm => ⟨⟨_, _, rfl, h, hw_t ht hW⟩, hS.F ht⟩) hS.2.2 d_Ch_isReady_11
set_option maxRecDepth 20000 in
theorem c_Ch_isReady {l : Launch} {D : va_G} {ca G : Nat → Nat} (post : Int32 → hM → Prop) {M : hM} {sz : Nat} {a0 : Nat} {x1 : UInt64} (h : wp_Ch_isReady G ca post M a0 x1) : Met l y_Ch_isReady (wz y_Ch_isReady prog_2_method_5_code 3 (some .boolean)) rm_Ch_isReady (va_Pc [.ref a0, .double x1] (hI D ca G sz M)) (va_Qi post (hB D M sz) (hp_A M sz)) 0 0 (hp_A M sz) := by
  refine Met.ofW (cc := prog_2_method_5_code) (maxL := 3) (ret := some .boolean) (by decide) rfl ?_
  intro p e s m args below meth c s₁ B hml hv
  obtain ⟨rfl, hsz, hW, hK, hZ0⟩ := hv
  have hts := fun w hw => atoms_spec (ws := wz y_Ch_isReady prog_2_method_5_code 3 (some .boolean)) B.pre w (List.mem_cons_of_mem _ hw)
  have hown : s.vm.findClass "ChannelHall$Channel" = some m.cls := findClass_of_methodNamed B.named
  subst hsz
  have hl := lv_entry [.ref a0, .double x1] (n := 3) (Nat.le_of_ble_eq_true rfl)
  rw [lg_entry_eq]
  exact l_Ch_isReady_e ⟨B.exec, B.bytes, B.returns, hml, hown, hts, B.notSynchronized, hK, fun q h => Or.inr h, hZ0⟩ a0 x1 h hW va_S.rf hl

theorem d_Ch_isOpen_0 : decode prog_2_method_6_code 0 = .ok (.aload_n 0, 1) := by decide +kernel
theorem d_Ch_isOpen_1 : decode prog_2_method_6_code 1 = .ok (.getfield 39, 3) := by decide +kernel
theorem d_Ch_isOpen_4 : decode prog_2_method_6_code 4 = .ok (.bipush 6, 2) := by decide +kernel
theorem d_Ch_isOpen_6 : decode prog_2_method_6_code 6 = .ok (.if_icmp .ne 18, 3) := by decide +kernel
theorem d_Ch_isOpen_9 : decode prog_2_method_6_code 9 = .ok (.aload_n 0, 1) := by decide +kernel
theorem d_Ch_isOpen_10 : decode prog_2_method_6_code 10 = .ok (.getfield 21, 3) := by decide +kernel
theorem d_Ch_isOpen_13 : decode prog_2_method_6_code 13 = .ok (.ifCond .ne 7, 3) := by decide +kernel
theorem d_Ch_isOpen_16 : decode prog_2_method_6_code 16 = .ok (.iconst 1, 1) := by decide +kernel
theorem d_Ch_isOpen_17 : decode prog_2_method_6_code 17 = .ok (.goto 12, 3) := by decide +kernel
theorem d_Ch_isOpen_20 : decode prog_2_method_6_code 20 = .ok (.iconst 0, 1) := by decide +kernel
theorem d_Ch_isOpen_21 : decode prog_2_method_6_code 21 = .ok (.goto 8, 3) := by decide +kernel
theorem d_Ch_isOpen_24 : decode prog_2_method_6_code 24 = .ok (.aload_n 0, 1) := by decide +kernel
theorem d_Ch_isOpen_25 : decode prog_2_method_6_code 25 = .ok (.dload_n 1, 1) := by decide +kernel
theorem d_Ch_isOpen_26 : decode prog_2_method_6_code 26 = .ok (.invokevirtual 65, 3) := by decide +kernel
theorem d_Ch_isOpen_29 : decode prog_2_method_6_code 29 = .ok (.ireturn, 1) := by decide +kernel
def y_Ch_isOpen : MethodName := ⟨"ChannelHall$Channel", "isOpen", "(D)Z"⟩
abbrev rm_Ch_isOpen : Room := { frames := 4, cells := 0, slots := 0, locals := 86 }
def wp_Ch_isOpen_29 (G ca : Nat → Nat) (post : Int32 → hM → Prop) (M : hM) (s0b29 : Int32) : Prop := bZ s0b29 (post s0b29 M)
def wp_Ch_isOpen (G ca : Nat → Nat) (post : Int32 → hM → Prop) (M : hM) (a0 : Nat) (x1 : UInt64) : Prop := gI M a0 0 1 fun v7 => (¬ v7 = 6 → rC M a0 0 (wp_Ch_isReady G ca (fun r9 M10 => wp_Ch_isOpen_29 G ca post M10 r9) M a0 x1)) ∧ (v7 = 6 → gI M a0 0 6 fun v11 => (¬ v11 = 0 → wp_Ch_isOpen_29 G ca post M 0) ∧ (v11 = 0 → wp_Ch_isOpen_29 G ca post M 1))
set_option maxHeartbeats 1000000 in
set_option maxRecDepth 20000 in
theorem l_Ch_isOpen_29 {p : Program} {l : Launch} {e : Env} {s : State} {m : MethodId} {args : Array Value} {below : List Frame} {meth : Method} {c : Code} {D : va_G} {ca G : Nat → Nat} {A : Nat → Prop} (C0 : hC p s m args meth c D ca G prog_2_method_6_code 3 (some .boolean) "ChannelHall$Channel" A) {post : Int32 → hM → Prop} {M : hM} {H : Heap} {locs : List Loc} {ls : Array Slot} (s0b29 : Int32) (h : wp_Ch_isOpen_29 G ca post M s0b29) (hW : hw D wCl A M H) (hS : va_S A s.heap H locs) (hl : lv_has ls 3 []) : W p l e rm_Ch_isOpen s m args below meth c H locs 0 0 (MQ below (va_Qi post (fun M' t => hw D wCl A M' t.heap) A) args s 0 0 A) (F0 m 29 ls [.int s0b29]) := by
  obtain ⟨hx, hb, hr, hml, hown, hts, hlocks, hK, hA, hZ0⟩ := id C0
  obtain ⟨hz, h⟩ := h
  exact W.zret hx hb hr (nb_n hz) (fun t ht hWm => ⟨⟨_, _, rfl, h, hw_t ht hW⟩, hS.F ht⟩) hS.2.2 d_Ch_isOpen_29
set_option maxHeartbeats 1000000 in
set_option maxRecDepth 20000 in
theorem l_Ch_isOpen_e {p : Program} {l : Launch} {e : Env} {s : State} {m : MethodId} {args : Array Value} {below : List Frame} {meth : Method} {c : Code} {D : va_G} {ca G : Nat → Nat} {A : Nat → Prop} (C0 : hC p s m args meth c D ca G prog_2_method_6_code 3 (some .boolean) "ChannelHall$Channel" A) {post : Int32 → hM → Prop} {M : hM} {H : Heap} {locs : List Loc} {ls : Array Slot} (a0 : Nat) (x1 : UInt64) (h : wp_Ch_isOpen G ca post M a0 x1) (hW : hw D wCl A M H) (hS : va_S A s.heap H locs) (hl : lv_has ls 3 [(0, .ref a0), (1, .double x1)]) : W p l e rm_Ch_isOpen s m args below meth c H locs 0 0 (MQ below (va_Qi post (fun M' t => hw D wCl A M' t.heap) A) args s 0 0 A) (F0 m 0 ls []) := by
  obtain ⟨hx, hb, hr, hml, hown, hts, hlocks, hK, hA, hZ0⟩ := id C0
  refine lv_aload_n hx hb d_Ch_isOpen_0 rfl (lv_at hl 0 rfl) ?_
  obtain ⟨fs, v7, h1, h2, h⟩ := h
  refine va_get (D := D) (ci := 0) (v := .int v7) (C := "ChannelHall$Channel") (T := TCh) (N := 10) hx hb hts uCh hown hK (hw_one hW h1) 0 rfl rfl 1 (by decide) (hts _ bw_253) (fun _ h9 => h9) h2 d_Ch_isOpen_1 ?_
  refine lv_bipush (v := 6) hx hb d_Ch_isOpen_4 (by decide) ?_
  obtain ⟨h0, h1⟩ := h
  refine lv_icmp_ne (tgt := 24) hx hb d_Ch_isOpen_6 (by decide) (fun c8 => ?_) (fun c8 => ?_)
  · have h := h0 c8
    refine lv_aload_n hx hb d_Ch_isOpen_24 rfl (lv_at hl 0 rfl) ?_
    refine lv_dload_n hx hb d_Ch_isOpen_25 rfl (lv_at hl 1 rfl) ?_
    obtain ⟨⟨fs, h1⟩, h⟩ := h
    have h9 := h
    clear h
    have hF := hW.free hS hA
    refine va_calli (va_runV (As := [.double x1]) (rest := []) ⟨hx, hb, hml, hown, hts⟩ (c_Ch_isReady _ h9) (cwV 1 hts (gi_V bw_799 bw_800 bw_801 bw_11 bw_802) rfl rfl rfl (by decide +kernel) ⟨Nat.le_of_ble_eq_true rfl, Nat.le_of_ble_eq_true rfl⟩) ⟨hI.blind, hw_recv hK hW h1 rfl, hI.give hW hS hA hK hZ0⟩ rfl rfl hl.1 rfl (lv_room (Nat.le_of_ble_eq_true rfl)) d_Ch_isOpen_26 ⟨(show _ ≤ 0 by omega), (show _ ≤ 0 by omega)⟩) hS (fun q _ z => hF q z) hF (fun r9 M10 t H locs ht _ h hB1 _ _ hS => ?_)
    have hW := hw_back hF ht hB1
    clear h9
    exact l_Ch_isOpen_29 C0 r9 h hW hS (lv_sub hl [] rfl)
  · have h := h1 c8
    refine lv_aload_n hx hb d_Ch_isOpen_9 rfl (lv_at hl 0 rfl) ?_
    obtain ⟨fs, v11, h1, h2, h⟩ := h
    refine va_get (D := D) (ci := 0) (v := .int v11) (C := "ChannelHall$Channel") (T := TCh) (N := 10) hx hb hts uCh hown hK (hw_one hW h1) 0 rfl rfl 6 (by decide) (hts _ bw_262) (fun _ h9 => h9) h2 d_Ch_isOpen_10 ?_
    obtain ⟨h0, h1⟩ := h
    refine lv_if_ne (tgt := 20) hx hb d_Ch_isOpen_13 (by decide) (fun c12 => ?_) (fun c12 => ?_)
    · have h := h0 c12
      refine lv_iconst (v := 0) hx hb d_Ch_isOpen_20 (by decide) ?_
      refine lv_goto (tgt := 29) hx hb d_Ch_isOpen_21 (by decide) ?_
      exact l_Ch_isOpen_29 C0 0 h hW hS (lv_sub hl [] rfl)
    · have h := h1 c12
      refine lv_iconst (v := 1) hx hb d_Ch_isOpen_16 (by decide) ?_
      refine lv_goto (tgt := 29) hx hb d_Ch_isOpen_17 (by decide) ?_
      exact l_Ch_isOpen_29 C0 1 h hW hS (lv_sub hl [] rfl)
set_option maxRecDepth 20000 in
theorem c_Ch_isOpen {l : Launch} {D : va_G} {ca G : Nat → Nat} (post : Int32 → hM → Prop) {M : hM} {sz : Nat} {a0 : Nat} {x1 : UInt64} (h : wp_Ch_isOpen G ca post M a0 x1) : Met l y_Ch_isOpen (wz y_Ch_isOpen prog_2_method_6_code 3 (some .boolean)) rm_Ch_isOpen (va_Pc [.ref a0, .double x1] (hI D ca G sz M)) (va_Qi post (hB D M sz) (hp_A M sz)) 0 0 (hp_A M sz) := by
  refine Met.ofW (cc := prog_2_method_6_code) (maxL := 3) (ret := some .boolean) (by decide) rfl ?_
  intro p e s m args below meth c s₁ B hml hv
  obtain ⟨rfl, hsz, hW, hK, hZ0⟩ := hv
  have hts := fun w hw => atoms_spec (ws := wz y_Ch_isOpen prog_2_method_6_code 3 (some .boolean)) B.pre w (List.mem_cons_of_mem _ hw)
  have hown : s.vm.findClass "ChannelHall$Channel" = some m.cls := findClass_of_methodNamed B.named
  subst hsz
  have hl := lv_entry [.ref a0, .double x1] (n := 3) (Nat.le_of_ble_eq_true rfl)
  rw [lg_entry_eq]
  exact l_Ch_isOpen_e ⟨B.exec, B.bytes, B.returns, hml, hown, hts, B.notSynchronized, hK, fun q h => Or.inr h, hZ0⟩ a0 x1 h hW va_S.rf hl

theorem d_Ch_earlierDue_0 : decode prog_2_method_7_code 0 = .ok (.aload_n 0, 1) := by decide +kernel
theorem d_Ch_earlierDue_1 : decode prog_2_method_7_code 1 = .ok (.getfield 39, 3) := by decide +kernel
theorem d_Ch_earlierDue_4 : decode prog_2_method_7_code 4 = .ok (.iconst 4, 1) := by decide +kernel
theorem d_Ch_earlierDue_5 : decode prog_2_method_7_code 5 = .ok (.if_icmp .ne 23, 3) := by decide +kernel
theorem d_Ch_earlierDue_8 : decode prog_2_method_7_code 8 = .ok (.aload_n 0, 1) := by decide +kernel
theorem d_Ch_earlierDue_9 : decode prog_2_method_7_code 9 = .ok (.getfield 12, 3) := by decide +kernel
theorem d_Ch_earlierDue_12 : decode prog_2_method_7_code 12 = .ok (.invokevirtual 52, 3) := by decide +kernel
theorem d_Ch_earlierDue_15 : decode prog_2_method_7_code 15 = .ok (.ifCond .ne 13, 3) := by decide +kernel
theorem d_Ch_earlierDue_18 : decode prog_2_method_7_code 18 = .ok (.aload_n 0, 1) := by decide +kernel
theorem d_Ch_earlierDue_19 : decode prog_2_method_7_code 19 = .ok (.getstatic 69, 3) := by decide +kernel
theorem d_Ch_earlierDue_22 : decode prog_2_method_7_code 22 = .ok (.invokevirtual 75, 3) := by decide +kernel
theorem d_Ch_earlierDue_25 : decode prog_2_method_7_code 25 = .ok (.ifnonnull 5, 3) := by decide +kernel
theorem d_Ch_earlierDue_28 : decode prog_2_method_7_code 28 = .ok (.dload_n 3, 1) := by decide +kernel
theorem d_Ch_earlierDue_29 : decode prog_2_method_7_code 29 = .ok (.dreturn, 1) := by decide +kernel
theorem d_Ch_earlierDue_30 : decode prog_2_method_7_code 30 = .ok (.aload_n 0, 1) := by decide +kernel
theorem d_Ch_earlierDue_31 : decode prog_2_method_7_code 31 = .ok (.getfield 12, 3) := by decide +kernel
theorem d_Ch_earlierDue_34 : decode prog_2_method_7_code 34 = .ok (.iconst 0, 1) := by decide +kernel
theorem d_Ch_earlierDue_35 : decode prog_2_method_7_code 35 = .ok (.invokevirtual 56, 3) := by decide +kernel
theorem d_Ch_earlierDue_38 : decode prog_2_method_7_code 38 = .ok (.checkcast 60, 3) := by decide +kernel
theorem d_Ch_earlierDue_41 : decode prog_2_method_7_code 41 = .ok (.getfield 62, 3) := by decide +kernel
theorem d_Ch_earlierDue_44 : decode prog_2_method_7_code 44 = .ok (.dstore 5, 2) := by decide +kernel
theorem d_Ch_earlierDue_46 : decode prog_2_method_7_code 46 = .ok (.dload 5, 2) := by decide +kernel
theorem d_Ch_earlierDue_48 : decode prog_2_method_7_code 48 = .ok (.dload_n 1, 1) := by decide +kernel
theorem d_Ch_earlierDue_49 : decode prog_2_method_7_code 49 = .ok (.dcmp .l, 1) := by decide +kernel
theorem d_Ch_earlierDue_50 : decode prog_2_method_7_code 50 = .ok (.ifCond .le 15, 3) := by decide +kernel
theorem d_Ch_earlierDue_53 : decode prog_2_method_7_code 53 = .ok (.dload 5, 2) := by decide +kernel
theorem d_Ch_earlierDue_55 : decode prog_2_method_7_code 55 = .ok (.dload_n 3, 1) := by decide +kernel
theorem d_Ch_earlierDue_56 : decode prog_2_method_7_code 56 = .ok (.dcmp .g, 1) := by decide +kernel
theorem d_Ch_earlierDue_57 : decode prog_2_method_7_code 57 = .ok (.ifCond .ge 8, 3) := by decide +kernel
theorem d_Ch_earlierDue_60 : decode prog_2_method_7_code 60 = .ok (.dload 5, 2) := by decide +kernel
theorem d_Ch_earlierDue_62 : decode prog_2_method_7_code 62 = .ok (.goto 4, 3) := by decide +kernel
theorem d_Ch_earlierDue_65 : decode prog_2_method_7_code 65 = .ok (.dload_n 3, 1) := by decide +kernel
theorem d_Ch_earlierDue_66 : decode prog_2_method_7_code 66 = .ok (.dreturn, 1) := by decide +kernel
def y_Ch_earlierDue : MethodName := ⟨"ChannelHall$Channel", "earlierDue", "(DD)D"⟩
abbrev rm_Ch_earlierDue : Room := { frames := 4, cells := 0, slots := 0, locals := 86 }
def wp_Ch_earlierDue_66 (G ca : Nat → Nat) (post : UInt64 → hM → Prop) (M : hM) (s0b66 : UInt64) : Prop := post s0b66 M
def wp_Ch_earlierDue_65 (G ca : Nat → Nat) (post : UInt64 → hM → Prop) (M : hM) (l3b65 : UInt64) : Prop := wp_Ch_earlierDue_66 G ca post M l3b65
def wp_Ch_earlierDue_28 (G ca : Nat → Nat) (post : UInt64 → hM → Prop) (M : hM) (l3b28 : UInt64) : Prop := post l3b28 M
def wp_Ch_earlierDue (G ca : Nat → Nat) (post : UInt64 → hM → Prop) (M : hM) (a0 : Nat) (x1 : UInt64) (x3 : UInt64) : Prop := gI M a0 0 1 fun v19 => (¬ v19 = 4 → wp_Ch_earlierDue_28 G ca post M x3) ∧ (v19 = 4 → gR M a0 0 4 fun v21 => nN v21 fun b22 => rC M b22 4 (wp_Al_isEmpty G ca (fun r23 M24 => (¬ r23 = 0 → wp_Ch_earlierDue_28 G ca post M24 x3) ∧ (r23 = 0 → rC M24 a0 0 (wp_Ch_firstWaiter G ca (fun r26 M27 => (r26 = none → wp_Ch_earlierDue_28 G ca post M27 x3) ∧ (∀ b28 : Nat, r26 = some b28 → gR M27 a0 0 4 fun v29 => nN v29 fun b30 => rC M27 b30 4 (wp_Al_get G ca (fun r31 M32 => cO M32 r31 1 fun b33 => gD M32 b33 1 1 fun v34 => ((Op.cmpValue (FP.dcmp v34 x1) .l) ≤ 0 → wp_Ch_earlierDue_65 G ca post M32 x3) ∧ (¬ (Op.cmpValue (FP.dcmp v34 x1) .l) ≤ 0 → (0 ≤ (Op.cmpValue (FP.dcmp v34 x3) .g) → wp_Ch_earlierDue_65 G ca post M32 x3) ∧ (¬ 0 ≤ (Op.cmpValue (FP.dcmp v34 x3) .g) → wp_Ch_earlierDue_66 G ca post M32 v34))) M27 b30 0))) M24 a0 (some (G 1))))) M b22))
set_option maxHeartbeats 1000000 in
set_option maxRecDepth 20000 in
theorem l_Ch_earlierDue_66 {p : Program} {l : Launch} {e : Env} {s : State} {m : MethodId} {args : Array Value} {below : List Frame} {meth : Method} {c : Code} {D : va_G} {ca G : Nat → Nat} {A : Nat → Prop} (C0 : hC p s m args meth c D ca G prog_2_method_7_code 7 (some .double) "ChannelHall$Channel" A) {post : UInt64 → hM → Prop} {M : hM} {H : Heap} {locs : List Loc} {ls : Array Slot} (s0b66 : UInt64) (h : wp_Ch_earlierDue_66 G ca post M s0b66) (hW : hw D wCl A M H) (hS : va_S A s.heap H locs) (hl : lv_has ls 7 []) : W p l e rm_Ch_earlierDue s m args below meth c H locs 0 0 (MQ below (va_Qd post (fun M' t => hw D wCl A M' t.heap) A) args s 0 0 A) (F0 m 66 ls [.double s0b66]) := by
  obtain ⟨hx, hb, hr, hml, hown, hts, hlocks, hK, hA, hZ0⟩ := id C0
  exact W.dret hx hb hr (fun t ht hWm => ⟨⟨_, _, rfl, h, hw_t ht hW⟩, hS.F ht⟩) hS.2.2 d_Ch_earlierDue_66
set_option maxHeartbeats 1000000 in
set_option maxRecDepth 20000 in
theorem l_Ch_earlierDue_65 {p : Program} {l : Launch} {e : Env} {s : State} {m : MethodId} {args : Array Value} {below : List Frame} {meth : Method} {c : Code} {D : va_G} {ca G : Nat → Nat} {A : Nat → Prop} (C0 : hC p s m args meth c D ca G prog_2_method_7_code 7 (some .double) "ChannelHall$Channel" A) {post : UInt64 → hM → Prop} {M : hM} {H : Heap} {locs : List Loc} {ls : Array Slot} (l3b65 : UInt64) (h : wp_Ch_earlierDue_65 G ca post M l3b65) (hW : hw D wCl A M H) (hS : va_S A s.heap H locs) (hl : lv_has ls 7 [(3, .double l3b65)]) : W p l e rm_Ch_earlierDue s m args below meth c H locs 0 0 (MQ below (va_Qd post (fun M' t => hw D wCl A M' t.heap) A) args s 0 0 A) (F0 m 65 ls []) := by
  obtain ⟨hx, hb, hr, hml, hown, hts, hlocks, hK, hA, hZ0⟩ := id C0
  refine lv_dload_n hx hb d_Ch_earlierDue_65 rfl (lv_at hl 0 rfl) ?_
  exact l_Ch_earlierDue_66 C0 l3b65 h hW hS (lv_sub hl [] rfl)
set_option maxHeartbeats 1000000 in
set_option maxRecDepth 20000 in
theorem l_Ch_earlierDue_28 {p : Program} {l : Launch} {e : Env} {s : State} {m : MethodId} {args : Array Value} {below : List Frame} {meth : Method} {c : Code} {D : va_G} {ca G : Nat → Nat} {A : Nat → Prop} (C0 : hC p s m args meth c D ca G prog_2_method_7_code 7 (some .double) "ChannelHall$Channel" A) {post : UInt64 → hM → Prop} {M : hM} {H : Heap} {locs : List Loc} {ls : Array Slot} (l3b28 : UInt64) (h : wp_Ch_earlierDue_28 G ca post M l3b28) (hW : hw D wCl A M H) (hS : va_S A s.heap H locs) (hl : lv_has ls 7 [(3, .double l3b28)]) : W p l e rm_Ch_earlierDue s m args below meth c H locs 0 0 (MQ below (va_Qd post (fun M' t => hw D wCl A M' t.heap) A) args s 0 0 A) (F0 m 28 ls []) := by
  obtain ⟨hx, hb, hr, hml, hown, hts, hlocks, hK, hA, hZ0⟩ := id C0
  refine lv_dload_n hx hb d_Ch_earlierDue_28 rfl (lv_at hl 0 rfl) ?_
  exact W.dret hx hb hr (fun t ht hWm => ⟨⟨_, _, rfl, h, hw_t ht hW⟩, hS.F ht⟩) hS.2.2 d_Ch_earlierDue_29
set_option maxHeartbeats 1000000 in
set_option maxRecDepth 20000 in
theorem l_Ch_earlierDue_e {p : Program} {l : Launch} {e : Env} {s : State} {m : MethodId} {args : Array Value} {below : List Frame} {meth : Method} {c : Code} {D : va_G} {ca G : Nat → Nat} {A : Nat → Prop} (C0 : hC p s m args meth c D ca G prog_2_method_7_code 7 (some .double) "ChannelHall$Channel" A) {post : UInt64 → hM → Prop} {M : hM} {H : Heap} {locs : List Loc} {ls : Array Slot} (a0 : Nat) (x1 : UInt64) (x3 : UInt64) (h : wp_Ch_earlierDue G ca post M a0 x1 x3) (hW : hw D wCl A M H) (hS : va_S A s.heap H locs) (hl : lv_has ls 7 [(0, .ref a0), (1, .double x1), (3, .double x3)]) : W p l e rm_Ch_earlierDue s m args below meth c H locs 0 0 (MQ below (va_Qd post (fun M' t => hw D wCl A M' t.heap) A) args s 0 0 A) (F0 m 0 ls []) := by
  obtain ⟨hx, hb, hr, hml, hown, hts, hlocks, hK, hA, hZ0⟩ := id C0
  refine lv_aload_n hx hb d_Ch_earlierDue_0 rfl (lv_at hl 0 rfl) ?_
  obtain ⟨fs, v19, h1, h2, h⟩ := h
  refine va_get (D := D) (ci := 0) (v := .int v19) (C := "ChannelHall$Channel") (T := TCh) (N := 10) hx hb hts uCh hown hK (hw_one hW h1) 0 rfl rfl 1 (by decide) (hts _ bw_253) (fun _ h9 => h9) h2 d_Ch_earlierDue_1 ?_
  refine lv_iconst (v := 4) hx hb d_Ch_earlierDue_4 (by decide) ?_
  obtain ⟨h0, h1⟩ := h
  refine lv_icmp_ne (tgt := 28) hx hb d_Ch_earlierDue_5 (by decide) (fun c20 => ?_) (fun c20 => ?_)
  · have h := h0 c20
    exact l_Ch_earlierDue_28 C0 x3 h hW hS (lv_sub hl [2] rfl)
  · have h := h1 c20
    refine lv_aload_n hx hb d_Ch_earlierDue_8 rfl (lv_at hl 0 rfl) ?_
    obtain ⟨fs, v21, h1, h2, h⟩ := h
    refine va_get (D := D) (ci := 0) (v := va_rf v21) (C := "ChannelHall$Channel") (T := TCh) (N := 10) hx hb hts uCh hown hK (hw_one hW h1) 0 rfl rfl 4 (by decide) (hts _ bw_258) (fun _ h9 => h9) h2 d_Ch_earlierDue_9 ?_
    obtain ⟨b22, rfl, h⟩ := h
    obtain ⟨⟨fs, h1⟩, h⟩ := h
    have h9 := h
    clear h
    have hF := hW.free hS hA
    refine va_calli (va_runV (As := []) (rest := []) ⟨hx, hb, hml, hown, hts⟩ (c_Al_isEmpty _ h9) (cwV 0 hts (gi_V bw_803 bw_804 bw_805 bw_14 bw_806) rfl rfl rfl (by decide +kernel) ⟨Nat.le_of_ble_eq_true rfl, Nat.le_of_ble_eq_true rfl⟩) ⟨hI.blind, hw_recv hK hW h1 rfl, hI.give hW hS hA hK hZ0⟩ rfl rfl hl.1 rfl (lv_room (Nat.le_of_ble_eq_true rfl)) d_Ch_earlierDue_12 ⟨(show _ ≤ 0 by omega), (show _ ≤ 0 by omega)⟩) hS (fun q _ z => hF q z) hF (fun r23 M24 t H locs ht _ h hB1 _ _ hS => ?_)
    have hW := hw_back hF ht hB1
    clear h9
    obtain ⟨h0, h1⟩ := h
    refine lv_if_ne (tgt := 28) hx hb d_Ch_earlierDue_15 (by decide) (fun c25 => ?_) (fun c25 => ?_)
    · have h := h0 c25
      exact l_Ch_earlierDue_28 C0 x3 h hW hS (lv_sub hl [2] rfl)
    · have h := h1 c25
      refine lv_aload_n hx hb d_Ch_earlierDue_18 rfl (lv_at hl 0 rfl) ?_
      refine va_gets (v := .ref (G 1)) hx hb (hZ0.2.1) hS hown (hts _ bw_395) (fun _ h9 => h9) d_Ch_earlierDue_19 ?_
      obtain ⟨⟨fs, h1⟩, h⟩ := h
      have h9 := h
      clear h
      have hF := hW.free hS hA
      refine va_callq (va_runV (As := [.ref (G 1)]) (rest := []) ⟨hx, hb, hml, hown, hts⟩ (c_Ch_firstWaiter _ h9) (cwV 1 hts (gi_V bw_372 bw_373 bw_374 bw_11 bw_375) rfl rfl rfl (by decide +kernel) ⟨Nat.le_of_ble_eq_true rfl, Nat.le_of_ble_eq_true rfl⟩) ⟨hI.blind, hw_recv hK hW h1 rfl, hI.give hW hS hA hK hZ0⟩ rfl rfl hl.1 rfl (lv_room (Nat.le_of_ble_eq_true rfl)) d_Ch_earlierDue_22 ⟨(show _ ≤ 0 by omega), (show _ ≤ 0 by omega)⟩) hS (fun q _ z => hF q z) hF (fun r26 M27 t H locs ht _ h hB1 _ _ hS => ?_)
      have hW := hw_back hF ht hB1
      clear h9
      obtain ⟨h0, h1⟩ := h
      cases r26 with
      | none =>
        have h := h0 rfl
        refine lv_ifnonnullN hx hb d_Ch_earlierDue_25 ?_
        exact l_Ch_earlierDue_28 C0 x3 h hW hS (lv_sub hl [2] rfl)
      | some b28 =>
        have h := h1 b28 rfl
        refine lv_ifnonnull (tgt := 30) hx hb d_Ch_earlierDue_25 (by decide) ?_
        refine lv_aload_n hx hb d_Ch_earlierDue_30 rfl (lv_at hl 0 rfl) ?_
        obtain ⟨fs, v29, h1, h2, h⟩ := h
        refine va_get (D := D) (ci := 0) (v := va_rf v29) (C := "ChannelHall$Channel") (T := TCh) (N := 10) hx hb hts uCh hown hK (hw_one hW h1) 0 rfl rfl 4 (by decide) (hts _ bw_258) (fun _ h9 => h9) h2 d_Ch_earlierDue_31 ?_
        refine lv_iconst (v := 0) hx hb d_Ch_earlierDue_34 (by decide) ?_
        obtain ⟨b30, rfl, h⟩ := h
        obtain ⟨⟨fs, h1⟩, h⟩ := h
        have h9 := h
        clear h
        have hF := hW.free hS hA
        refine va_callq (va_runV (As := [.int 0]) (rest := []) ⟨hx, hb, hml, hown, hts⟩ (c_Al_get _ h9) (cwV 1 hts (gi_V bw_380 bw_381 bw_382 bw_14 bw_383) rfl rfl rfl (by decide +kernel) ⟨Nat.le_of_ble_eq_true rfl, Nat.le_of_ble_eq_true rfl⟩) ⟨hI.blind, hw_recv hK hW h1 rfl, hI.give hW hS hA hK hZ0⟩ rfl rfl hl.1 rfl (lv_room (Nat.le_of_ble_eq_true rfl)) d_Ch_earlierDue_35 ⟨(show _ ≤ 0 by omega), (show _ ≤ 0 by omega)⟩) hS (fun q _ z => hF q z) hF (fun r31 M32 t H locs ht _ h hB1 _ _ hS => ?_)
        have hW := hw_back hF ht hB1
        clear h9
        obtain ⟨b33, fs, rfl, h1, h⟩ := h
        refine va_castS (cC := D.1 1) hx hb hown (hts _ bw_476) (hK.1 1 _ rfl).2 (hw_recv hK hW h1 rfl) d_Ch_earlierDue_38 ?_
        obtain ⟨fs, v34, h1, h2, h⟩ := h
        refine va_get (D := D) (ci := 1) (v := .double v34) (C := "ChannelHall$Item") (T := TIt) (N := 3) hx hb hts uIt hown hK (hw_one hW h1) 0 rfl rfl 1 (by decide) (hts _ bw_486) (fun _ h9 => h9) h2 d_Ch_earlierDue_41 ?_
        refine lv_dstore (lv' := [(5, .double v34), (0, .ref a0), (1, .double x1), (3, .double x3)]) hx hb d_Ch_earlierDue_44 hl (by decide) rfl (fun ls hl => ?_)
        refine lv_dload hx hb d_Ch_earlierDue_46 (lv_at hl 0 rfl) ?_
        refine lv_dload_n hx hb d_Ch_earlierDue_48 rfl (lv_at hl 2 rfl) ?_
        refine lv_dcmp hx hb d_Ch_earlierDue_49 ?_
        obtain ⟨h0, h1⟩ := h
        refine lv_if_le (tgt := 65) hx hb d_Ch_earlierDue_50 (by decide) (fun c35 => ?_) (fun c35 => ?_)
        · have h := h0 c35
          exact l_Ch_earlierDue_65 C0 x3 h hW hS (lv_sub hl [3] rfl)
        · have h := h1 c35
          refine lv_dload hx hb d_Ch_earlierDue_53 (lv_at hl 0 rfl) ?_
          refine lv_dload_n hx hb d_Ch_earlierDue_55 rfl (lv_at hl 3 rfl) ?_
          refine lv_dcmp hx hb d_Ch_earlierDue_56 ?_
          obtain ⟨h0, h1⟩ := h
          refine lv_if_ge (tgt := 65) hx hb d_Ch_earlierDue_57 (by decide) (fun c36 => ?_) (fun c36 => ?_)
          · have h := h0 c36
            exact l_Ch_earlierDue_65 C0 x3 h hW hS (lv_sub hl [3] rfl)
          · have h := h1 c36
            refine lv_dload hx hb d_Ch_earlierDue_60 (lv_at hl 0 rfl) ?_
            refine lv_goto (tgt := 66) hx hb d_Ch_earlierDue_62 (by decide) ?_
            exact l_Ch_earlierDue_66 C0 v34 h hW hS (lv_sub hl [] rfl)
set_option maxRecDepth 20000 in
theorem c_Ch_earlierDue {l : Launch} {D : va_G} {ca G : Nat → Nat} (post : UInt64 → hM → Prop) {M : hM} {sz : Nat} {a0 : Nat} {x1 : UInt64} {x3 : UInt64} (h : wp_Ch_earlierDue G ca post M a0 x1 x3) : Met l y_Ch_earlierDue (wz y_Ch_earlierDue prog_2_method_7_code 7 (some .double)) rm_Ch_earlierDue (va_Pc [.ref a0, .double x1, .double x3] (hI D ca G sz M)) (va_Qd post (hB D M sz) (hp_A M sz)) 0 0 (hp_A M sz) := by
  refine Met.ofW (cc := prog_2_method_7_code) (maxL := 7) (ret := some .double) (by decide) rfl ?_
  intro p e s m args below meth c s₁ B hml hv
  obtain ⟨rfl, hsz, hW, hK, hZ0⟩ := hv
  have hts := fun w hw => atoms_spec (ws := wz y_Ch_earlierDue prog_2_method_7_code 7 (some .double)) B.pre w (List.mem_cons_of_mem _ hw)
  have hown : s.vm.findClass "ChannelHall$Channel" = some m.cls := findClass_of_methodNamed B.named
  subst hsz
  have hl := lv_entry [.ref a0, .double x1, .double x3] (n := 7) (Nat.le_of_ble_eq_true rfl)
  rw [lg_entry_eq]
  exact l_Ch_earlierDue_e ⟨B.exec, B.bytes, B.returns, hml, hown, hts, B.notSynchronized, hK, fun q h => Or.inr h, hZ0⟩ a0 x1 x3 h hW va_S.rf hl

theorem d_Ch_waiterNumber_0 : decode prog_2_method_9_code 0 = .ok (.iload_n 1, 1) := by decide +kernel
theorem d_Ch_waiterNumber_1 : decode prog_2_method_9_code 1 = .ok (.ifCond .lt 31, 3) := by decide +kernel
theorem d_Ch_waiterNumber_4 : decode prog_2_method_9_code 4 = .ok (.iload_n 1, 1) := by decide +kernel
theorem d_Ch_waiterNumber_5 : decode prog_2_method_9_code 5 = .ok (.aload_n 0, 1) := by decide +kernel
theorem d_Ch_waiterNumber_6 : decode prog_2_method_9_code 6 = .ok (.getfield 18, 3) := by decide +kernel
theorem d_Ch_waiterNumber_9 : decode prog_2_method_9_code 9 = .ok (.invokevirtual 79, 3) := by decide +kernel
theorem d_Ch_waiterNumber_12 : decode prog_2_method_9_code 12 = .ok (.if_icmp .ge 20, 3) := by decide +kernel
theorem d_Ch_waiterNumber_15 : decode prog_2_method_9_code 15 = .ok (.aload_n 0, 1) := by decide +kernel
theorem d_Ch_waiterNumber_16 : decode prog_2_method_9_code 16 = .ok (.getfield 18, 3) := by decide +kernel
theorem d_Ch_waiterNumber_19 : decode prog_2_method_9_code 19 = .ok (.iload_n 1, 1) := by decide +kernel
theorem d_Ch_waiterNumber_20 : decode prog_2_method_9_code 20 = .ok (.invokevirtual 56, 3) := by decide +kernel
theorem d_Ch_waiterNumber_23 : decode prog_2_method_9_code 23 = .ok (.checkcast 83, 3) := by decide +kernel
theorem d_Ch_waiterNumber_26 : decode prog_2_method_9_code 26 = .ok (.getfield 88, 3) := by decide +kernel
theorem d_Ch_waiterNumber_29 : decode prog_2_method_9_code 29 = .ok (.goto 4, 3) := by decide +kernel
theorem d_Ch_waiterNumber_32 : decode prog_2_method_9_code 32 = .ok (.iconst (-1), 1) := by decide +kernel
theorem d_Ch_waiterNumber_33 : decode prog_2_method_9_code 33 = .ok (.ireturn, 1) := by decide +kernel
def y_Ch_waiterNumber : MethodName := ⟨"ChannelHall$Channel", "waiterNumber", "(I)I"⟩
abbrev rm_Ch_waiterNumber : Room := { frames := 3, cells := 0, slots := 0, locals := 64 }
def wp_Ch_waiterNumber_33 (G ca : Nat → Nat) (post : Int32 → hM → Prop) (M : hM) (s0b33 : Int32) : Prop := post s0b33 M
def wp_Ch_waiterNumber_32 (G ca : Nat → Nat) (post : Int32 → hM → Prop) (M : hM)  : Prop := wp_Ch_waiterNumber_33 G ca post M (-1)
def wp_Ch_waiterNumber (G ca : Nat → Nat) (post : Int32 → hM → Prop) (M : hM) (a0 : Nat) (x1 : Int32) : Prop := (x1 < 0 → wp_Ch_waiterNumber_32 G ca post M) ∧ (¬ x1 < 0 → gR M a0 0 5 fun v14 => nN v14 fun b15 => rC M b15 4 (wp_Al_size G ca (fun r16 M17 => (r16 ≤ x1 → wp_Ch_waiterNumber_32 G ca post M17) ∧ (¬ r16 ≤ x1 → gR M17 a0 0 5 fun v19 => nN v19 fun b20 => rC M17 b20 4 (wp_Al_get G ca (fun r21 M22 => cO M22 r21 2 fun b23 => gI M22 b23 2 0 fun v24 => wp_Ch_waiterNumber_33 G ca post M22 v24) M17 b20 x1))) M b15))
set_option maxHeartbeats 1000000 in
set_option maxRecDepth 20000 in
theorem l_Ch_waiterNumber_33 {p : Program} {l : Launch} {e : Env} {s : State} {m : MethodId} {args : Array Value} {below : List Frame} {meth : Method} {c : Code} {D : va_G} {ca G : Nat → Nat} {A : Nat → Prop} (C0 : hC p s m args meth c D ca G prog_2_method_9_code 2 (some .int) "ChannelHall$Channel" A) {post : Int32 → hM → Prop} {M : hM} {H : Heap} {locs : List Loc} {ls : Array Slot} (s0b33 : Int32) (h : wp_Ch_waiterNumber_33 G ca post M s0b33) (hW : hw D wCl A M H) (hS : va_S A s.heap H locs) (hl : lv_has ls 2 []) : W p l e rm_Ch_waiterNumber s m args below meth c H locs 0 0 (MQ below (va_Qi post (fun M' t => hw D wCl A M' t.heap) A) args s 0 0 A) (F0 m 33 ls [.int s0b33]) := by
  obtain ⟨hx, hb, hr, hml, hown, hts, hlocks, hK, hA, hZ0⟩ := id C0
  exact W.iret hx hb hr (fun t ht hWm => ⟨⟨_, _, rfl, h, hw_t ht hW⟩, hS.F ht⟩) hS.2.2 d_Ch_waiterNumber_33
set_option maxHeartbeats 1000000 in
set_option maxRecDepth 20000 in
theorem l_Ch_waiterNumber_32 {p : Program} {l : Launch} {e : Env} {s : State} {m : MethodId} {args : Array Value} {below : List Frame} {meth : Method} {c : Code} {D : va_G} {ca G : Nat → Nat} {A : Nat → Prop} (C0 : hC p s m args meth c D ca G prog_2_method_9_code 2 (some .int) "ChannelHall$Channel" A) {post : Int32 → hM → Prop} {M : hM} {H : Heap} {locs : List Loc} {ls : Array Slot}  (h : wp_Ch_waiterNumber_32 G ca post M) (hW : hw D wCl A M H) (hS : va_S A s.heap H locs) (hl : lv_has ls 2 []) : W p l e rm_Ch_waiterNumber s m args below meth c H locs 0 0 (MQ below (va_Qi post (fun M' t => hw D wCl A M' t.heap) A) args s 0 0 A) (F0 m 32 ls []) := by
  obtain ⟨hx, hb, hr, hml, hown, hts, hlocks, hK, hA, hZ0⟩ := id C0
  refine lv_iconst (v := (-1)) hx hb d_Ch_waiterNumber_32 (by decide) ?_
  exact l_Ch_waiterNumber_33 C0 (-1) h hW hS (lv_sub hl [] rfl)
set_option maxHeartbeats 1000000 in
set_option maxRecDepth 20000 in
theorem l_Ch_waiterNumber_e {p : Program} {l : Launch} {e : Env} {s : State} {m : MethodId} {args : Array Value} {below : List Frame} {meth : Method} {c : Code} {D : va_G} {ca G : Nat → Nat} {A : Nat → Prop} (C0 : hC p s m args meth c D ca G prog_2_method_9_code 2 (some .int) "ChannelHall$Channel" A) {post : Int32 → hM → Prop} {M : hM} {H : Heap} {locs : List Loc} {ls : Array Slot} (a0 : Nat) (x1 : Int32) (h : wp_Ch_waiterNumber G ca post M a0 x1) (hW : hw D wCl A M H) (hS : va_S A s.heap H locs) (hl : lv_has ls 2 [(0, .ref a0), (1, .int x1)]) : W p l e rm_Ch_waiterNumber s m args below meth c H locs 0 0 (MQ below (va_Qi post (fun M' t => hw D wCl A M' t.heap) A) args s 0 0 A) (F0 m 0 ls []) := by
  obtain ⟨hx, hb, hr, hml, hown, hts, hlocks, hK, hA, hZ0⟩ := id C0
  refine lv_iload_n hx hb d_Ch_waiterNumber_0 rfl (lv_at hl 1 rfl) ?_
  obtain ⟨h0, h1⟩ := h
  refine lv_if_lt (tgt := 32) hx hb d_Ch_waiterNumber_1 (by decide) (fun c13 => ?_) (fun c13 => ?_)
  · have h := h0 c13
    exact l_Ch_waiterNumber_32 C0  h hW hS (lv_sub hl [] rfl)
  · have h := h1 c13
    refine lv_iload_n hx hb d_Ch_waiterNumber_4 rfl (lv_at hl 1 rfl) ?_
    refine lv_aload_n hx hb d_Ch_waiterNumber_5 rfl (lv_at hl 0 rfl) ?_
    obtain ⟨fs, v14, h1, h2, h⟩ := h
    refine va_get (D := D) (ci := 0) (v := va_rf v14) (C := "ChannelHall$Channel") (T := TCh) (N := 10) hx hb hts uCh hown hK (hw_one hW h1) 0 rfl rfl 5 (by decide) (hts _ bw_260) (fun _ h9 => h9) h2 d_Ch_waiterNumber_6 ?_
    obtain ⟨b15, rfl, h⟩ := h
    obtain ⟨⟨fs, h1⟩, h⟩ := h
    have h9 := h
    clear h
    have hF := hW.free hS hA
    refine va_calli (va_runV (As := []) (rest := [.int x1]) ⟨hx, hb, hml, hown, hts⟩ (c_Al_size _ h9) (cwV 0 hts (gi_V bw_376 bw_377 bw_378 bw_14 bw_379) rfl rfl rfl (by decide +kernel) ⟨Nat.le_of_ble_eq_true rfl, Nat.le_of_ble_eq_true rfl⟩) ⟨hI.blind, hw_recv hK hW h1 rfl, hI.give hW hS hA hK hZ0⟩ rfl rfl hl.1 rfl (lv_room (Nat.le_of_ble_eq_true rfl)) d_Ch_waiterNumber_9 ⟨(show _ ≤ 0 by omega), (show _ ≤ 0 by omega)⟩) hS (fun q _ z => hF q z) hF (fun r16 M17 t H locs ht _ h hB1 _ _ hS => ?_)
    have hW := hw_back hF ht hB1
    clear h9
    obtain ⟨h0, h1⟩ := h
    refine lv_icmp_ge (tgt := 32) hx hb d_Ch_waiterNumber_12 (by decide) (fun c18 => ?_) (fun c18 => ?_)
    · have h := h0 c18
      exact l_Ch_waiterNumber_32 C0  h hW hS (lv_sub hl [] rfl)
    · have h := h1 c18
      refine lv_aload_n hx hb d_Ch_waiterNumber_15 rfl (lv_at hl 0 rfl) ?_
      obtain ⟨fs, v19, h1, h2, h⟩ := h
      refine va_get (D := D) (ci := 0) (v := va_rf v19) (C := "ChannelHall$Channel") (T := TCh) (N := 10) hx hb hts uCh hown hK (hw_one hW h1) 0 rfl rfl 5 (by decide) (hts _ bw_260) (fun _ h9 => h9) h2 d_Ch_waiterNumber_16 ?_
      refine lv_iload_n hx hb d_Ch_waiterNumber_19 rfl (lv_at hl 1 rfl) ?_
      obtain ⟨b20, rfl, h⟩ := h
      obtain ⟨⟨fs, h1⟩, h⟩ := h
      have h9 := h
      clear h
      have hF := hW.free hS hA
      refine va_callq (va_runV (As := [.int x1]) (rest := []) ⟨hx, hb, hml, hown, hts⟩ (c_Al_get _ h9) (cwV 1 hts (gi_V bw_380 bw_381 bw_382 bw_14 bw_383) rfl rfl rfl (by decide +kernel) ⟨Nat.le_of_ble_eq_true rfl, Nat.le_of_ble_eq_true rfl⟩) ⟨hI.blind, hw_recv hK hW h1 rfl, hI.give hW hS hA hK hZ0⟩ rfl rfl hl.1 rfl (lv_room (Nat.le_of_ble_eq_true rfl)) d_Ch_waiterNumber_20 ⟨(show _ ≤ 0 by omega), (show _ ≤ 0 by omega)⟩) hS (fun q _ z => hF q z) hF (fun r21 M22 t H locs ht _ h hB1 _ _ hS => ?_)
      have hW := hw_back hF ht hB1
      clear h9
      obtain ⟨b23, fs, rfl, h1, h⟩ := h
      refine va_castS (cC := D.1 2) hx hb hown (hts _ bw_394) (hK.1 2 _ rfl).2 (hw_recv hK hW h1 rfl) d_Ch_waiterNumber_23 ?_
      obtain ⟨fs, v24, h1, h2, h⟩ := h
      refine va_get (D := D) (ci := 2) (v := .int v24) (C := "ChannelHall$Worker") (T := TWo) (N := 11) hx hb hts uWo hown hK (hw_one hW h1) 0 rfl rfl 0 (by decide) (hts _ bw_52) (fun _ h9 => h9) h2 d_Ch_waiterNumber_26 ?_
      refine lv_goto (tgt := 33) hx hb d_Ch_waiterNumber_29 (by decide) ?_
      exact l_Ch_waiterNumber_33 C0 v24 h hW hS (lv_sub hl [] rfl)
set_option maxRecDepth 20000 in
theorem c_Ch_waiterNumber {l : Launch} {D : va_G} {ca G : Nat → Nat} (post : Int32 → hM → Prop) {M : hM} {sz : Nat} {a0 : Nat} {x1 : Int32} (h : wp_Ch_waiterNumber G ca post M a0 x1) : Met l y_Ch_waiterNumber (wz y_Ch_waiterNumber prog_2_method_9_code 2 (some .int)) rm_Ch_waiterNumber (va_Pc [.ref a0, .int x1] (hI D ca G sz M)) (va_Qi post (hB D M sz) (hp_A M sz)) 0 0 (hp_A M sz) := by
  refine Met.ofW (cc := prog_2_method_9_code) (maxL := 2) (ret := some .int) (by decide) rfl ?_
  intro p e s m args below meth c s₁ B hml hv
  obtain ⟨rfl, hsz, hW, hK, hZ0⟩ := hv
  have hts := fun w hw => atoms_spec (ws := wz y_Ch_waiterNumber prog_2_method_9_code 2 (some .int)) B.pre w (List.mem_cons_of_mem _ hw)
  have hown : s.vm.findClass "ChannelHall$Channel" = some m.cls := findClass_of_methodNamed B.named
  subst hsz
  have hl := lv_entry [.ref a0, .int x1] (n := 2) (Nat.le_of_ble_eq_true rfl)
  rw [lg_entry_eq]
  exact l_Ch_waiterNumber_e ⟨B.exec, B.bytes, B.returns, hml, hown, hts, B.notSynchronized, hK, fun q h => Or.inr h, hZ0⟩ a0 x1 h hW va_S.rf hl

theorem d_Ch_acceptsAtOnce_0 : decode prog_2_method_10_code 0 = .ok (.aload_n 0, 1) := by decide +kernel
theorem d_Ch_acceptsAtOnce_1 : decode prog_2_method_10_code 1 = .ok (.getstatic 89, 3) := by decide +kernel
theorem d_Ch_acceptsAtOnce_4 : decode prog_2_method_10_code 4 = .ok (.invokevirtual 75, 3) := by decide +kernel
theorem d_Ch_acceptsAtOnce_7 : decode prog_2_method_10_code 7 = .ok (.ifnull 5, 3) := by decide +kernel
theorem d_Ch_acceptsAtOnce_10 : decode prog_2_method_10_code 10 = .ok (.iconst 0, 1) := by decide +kernel
theorem d_Ch_acceptsAtOnce_11 : decode prog_2_method_10_code 11 = .ok (.ireturn, 1) := by decide +kernel
theorem d_Ch_acceptsAtOnce_12 : decode prog_2_method_10_code 12 = .ok (.aload_n 0, 1) := by decide +kernel
theorem d_Ch_acceptsAtOnce_13 : decode prog_2_method_10_code 13 = .ok (.getfield 39, 3) := by decide +kernel
theorem d_Ch_acceptsAtOnce_16 : decode prog_2_method_10_code 16 = .ok (.iconst 2, 1) := by decide +kernel
theorem d_Ch_acceptsAtOnce_17 : decode prog_2_method_10_code 17 = .ok (.if_icmp .ne 21, 3) := by decide +kernel
theorem d_Ch_acceptsAtOnce_20 : decode prog_2_method_10_code 20 = .ok (.aload_n 0, 1) := by decide +kernel
theorem d_Ch_acceptsAtOnce_21 : decode prog_2_method_10_code 21 = .ok (.getstatic 69, 3) := by decide +kernel
theorem d_Ch_acceptsAtOnce_24 : decode prog_2_method_10_code 24 = .ok (.invokevirtual 75, 3) := by decide +kernel
theorem d_Ch_acceptsAtOnce_27 : decode prog_2_method_10_code 27 = .ok (.ifnull 7, 3) := by decide +kernel
theorem d_Ch_acceptsAtOnce_30 : decode prog_2_method_10_code 30 = .ok (.iconst 1, 1) := by decide +kernel
theorem d_Ch_acceptsAtOnce_31 : decode prog_2_method_10_code 31 = .ok (.goto 26, 3) := by decide +kernel
theorem d_Ch_acceptsAtOnce_34 : decode prog_2_method_10_code 34 = .ok (.iconst 0, 1) := by decide +kernel
theorem d_Ch_acceptsAtOnce_35 : decode prog_2_method_10_code 35 = .ok (.goto 22, 3) := by decide +kernel
theorem d_Ch_acceptsAtOnce_38 : decode prog_2_method_10_code 38 = .ok (.aload_n 0, 1) := by decide +kernel
theorem d_Ch_acceptsAtOnce_39 : decode prog_2_method_10_code 39 = .ok (.getfield 12, 3) := by decide +kernel
theorem d_Ch_acceptsAtOnce_42 : decode prog_2_method_10_code 42 = .ok (.invokevirtual 79, 3) := by decide +kernel
theorem d_Ch_acceptsAtOnce_45 : decode prog_2_method_10_code 45 = .ok (.aload_n 0, 1) := by decide +kernel
theorem d_Ch_acceptsAtOnce_46 : decode prog_2_method_10_code 46 = .ok (.getfield 46, 3) := by decide +kernel
theorem d_Ch_acceptsAtOnce_49 : decode prog_2_method_10_code 49 = .ok (.if_icmp .ge 7, 3) := by decide +kernel
theorem d_Ch_acceptsAtOnce_52 : decode prog_2_method_10_code 52 = .ok (.iconst 1, 1) := by decide +kernel
theorem d_Ch_acceptsAtOnce_53 : decode prog_2_method_10_code 53 = .ok (.goto 4, 3) := by decide +kernel
theorem d_Ch_acceptsAtOnce_56 : decode prog_2_method_10_code 56 = .ok (.iconst 0, 1) := by decide +kernel
theorem d_Ch_acceptsAtOnce_57 : decode prog_2_method_10_code 57 = .ok (.ireturn, 1) := by decide +kernel
def y_Ch_acceptsAtOnce : MethodName := ⟨"ChannelHall$Channel", "acceptsAtOnce", "()Z"⟩
abbrev rm_Ch_acceptsAtOnce : Room := { frames := 4, cells := 0, slots := 0, locals := 86 }
def wp_Ch_acceptsAtOnce_57 (G ca : Nat → Nat) (post : Int32 → hM → Prop) (M : hM) (s0b57 : Int32) : Prop := bZ s0b57 (post s0b57 M)
def wp_Ch_acceptsAtOnce (G ca : Nat → Nat) (post : Int32 → hM → Prop) (M : hM) (a0 : Nat) : Prop := rC M a0 0 (wp_Ch_firstWaiter G ca (fun r15 M16 => (r15 = none → gI M16 a0 0 1 fun v18 => (¬ v18 = 2 → gR M16 a0 0 4 fun v20 => nN v20 fun b21 => rC M16 b21 4 (wp_Al_size G ca (fun r22 M23 => gI M23 a0 0 2 fun v24 => (v24 ≤ r22 → wp_Ch_acceptsAtOnce_57 G ca post M23 0) ∧ (¬ v24 ≤ r22 → wp_Ch_acceptsAtOnce_57 G ca post M23 1)) M16 b21)) ∧ (v18 = 2 → rC M16 a0 0 (wp_Ch_firstWaiter G ca (fun r26 M27 => (r26 = none → wp_Ch_acceptsAtOnce_57 G ca post M27 0) ∧ (∀ b28 : Nat, r26 = some b28 → wp_Ch_acceptsAtOnce_57 G ca post M27 1)) M16 a0 (some (G 1))))) ∧ (∀ b17 : Nat, r15 = some b17 → post 0 M16)) M a0 (some (G 0)))
set_option maxHeartbeats 1000000 in
set_option maxRecDepth 20000 in
theorem l_Ch_acceptsAtOnce_57 {p : Program} {l : Launch} {e : Env} {s : State} {m : MethodId} {args : Array Value} {below : List Frame} {meth : Method} {c : Code} {D : va_G} {ca G : Nat → Nat} {A : Nat → Prop} (C0 : hC p s m args meth c D ca G prog_2_method_10_code 1 (some .boolean) "ChannelHall$Channel" A) {post : Int32 → hM → Prop} {M : hM} {H : Heap} {locs : List Loc} {ls : Array Slot} (s0b57 : Int32) (h : wp_Ch_acceptsAtOnce_57 G ca post M s0b57) (hW : hw D wCl A M H) (hS : va_S A s.heap H locs) (hl : lv_has ls 1 []) : W p l e rm_Ch_acceptsAtOnce s m args below meth c H locs 0 0 (MQ below (va_Qi post (fun M' t => hw D wCl A M' t.heap) A) args s 0 0 A) (F0 m 57 ls [.int s0b57]) := by
  obtain ⟨hx, hb, hr, hml, hown, hts, hlocks, hK, hA, hZ0⟩ := id C0
  obtain ⟨hz, h⟩ := h
  exact W.zret hx hb hr (nb_n hz) (fun t ht hWm => ⟨⟨_, _, rfl, h, hw_t ht hW⟩, hS.F ht⟩) hS.2.2 d_Ch_acceptsAtOnce_57
set_option maxHeartbeats 1000000 in
set_option maxRecDepth 20000 in
theorem l_Ch_acceptsAtOnce_e {p : Program} {l : Launch} {e : Env} {s : State} {m : MethodId} {args : Array Value} {below : List Frame} {meth : Method} {c : Code} {D : va_G} {ca G : Nat → Nat} {A : Nat → Prop} (C0 : hC p s m args meth c D ca G prog_2_method_10_code 1 (some .boolean) "ChannelHall$Channel" A) {post : Int32 → hM → Prop} {M : hM} {H : Heap} {locs : List Loc} {ls : Array Slot} (a0 : Nat) (h : wp_Ch_acceptsAtOnce G ca post M a0) (hW : hw D wCl A M H) (hS : va_S A s.heap H locs) (hl : lv_has ls 1 [(0, .ref a0)]) : W p l e rm_Ch_acceptsAtOnce s m args below meth c H locs 0 0 (MQ below (va_Qi post (fun M' t => hw D wCl A M' t.heap) A) args s 0 0 A) (F0 m 0 ls []) := by
  obtain ⟨hx, hb, hr, hml, hown, hts, hlocks, hK, hA, hZ0⟩ := id C0
  refine lv_aload_n hx hb d_Ch_acceptsAtOnce_0 rfl (lv_at hl 0 rfl) ?_
  refine va_gets (v := .ref (G 0)) hx hb (hZ0.1) hS hown (hts _ bw_370) (fun _ h9 => h9) d_Ch_acceptsAtOnce_1 ?_
  obtain ⟨⟨fs, h1⟩, h⟩ := h
  have h9 := h
  clear h
  have hF := hW.free hS hA
  refine va_callq (va_runV (As := [.ref (G 0)]) (rest := []) ⟨hx, hb, hml, hown, hts⟩ (c_Ch_firstWaiter _ h9) (cwV 1 hts (gi_V bw_372 bw_373 bw_374 bw_11 bw_375) rfl rfl rfl (by decide +kernel) ⟨Nat.le_of_ble_eq_true rfl, Nat.le_of_ble_eq_true rfl⟩) ⟨hI.blind, hw_recv hK hW h1 rfl, hI.give hW hS hA hK hZ0⟩ rfl rfl hl.1 rfl (lv_room (Nat.le_of_ble_eq_true rfl)) d_Ch_acceptsAtOnce_4 ⟨(show _ ≤ 0 by omega), (show _ ≤ 0 by omega)⟩) hS (fun q _ z => hF q z) hF (fun r15 M16 t H locs ht _ h hB1 _ _ hS => ?_)
  have hW := hw_back hF ht hB1
  clear h9
  obtain ⟨h0, h1⟩ := h
  cases r15 with
  | none =>
    have h := h0 rfl
    refine lv_ifnullN (tgt := 12) hx hb d_Ch_acceptsAtOnce_7 (by decide) ?_
    refine lv_aload_n hx hb d_Ch_acceptsAtOnce_12 rfl (lv_at hl 0 rfl) ?_
    obtain ⟨fs, v18, h1, h2, h⟩ := h
    refine va_get (D := D) (ci := 0) (v := .int v18) (C := "ChannelHall$Channel") (T := TCh) (N := 10) hx hb hts uCh hown hK (hw_one hW h1) 0 rfl rfl 1 (by decide) (hts _ bw_253) (fun _ h9 => h9) h2 d_Ch_acceptsAtOnce_13 ?_
    refine lv_iconst (v := 2) hx hb d_Ch_acceptsAtOnce_16 (by decide) ?_
    obtain ⟨h0, h1⟩ := h
    refine lv_icmp_ne (tgt := 38) hx hb d_Ch_acceptsAtOnce_17 (by decide) (fun c19 => ?_) (fun c19 => ?_)
    · have h := h0 c19
      refine lv_aload_n hx hb d_Ch_acceptsAtOnce_38 rfl (lv_at hl 0 rfl) ?_
      obtain ⟨fs, v20, h1, h2, h⟩ := h
      refine va_get (D := D) (ci := 0) (v := va_rf v20) (C := "ChannelHall$Channel") (T := TCh) (N := 10) hx hb hts uCh hown hK (hw_one hW h1) 0 rfl rfl 4 (by decide) (hts _ bw_258) (fun _ h9 => h9) h2 d_Ch_acceptsAtOnce_39 ?_
      obtain ⟨b21, rfl, h⟩ := h
      obtain ⟨⟨fs, h1⟩, h⟩ := h
      have h9 := h
      clear h
      have hF := hW.free hS hA
      refine va_calli (va_runV (As := []) (rest := []) ⟨hx, hb, hml, hown, hts⟩ (c_Al_size _ h9) (cwV 0 hts (gi_V bw_376 bw_377 bw_378 bw_14 bw_379) rfl rfl rfl (by decide +kernel) ⟨Nat.le_of_ble_eq_true rfl, Nat.le_of_ble_eq_true rfl⟩) ⟨hI.blind, hw_recv hK hW h1 rfl, hI.give hW hS hA hK hZ0⟩ rfl rfl hl.1 rfl (lv_room (Nat.le_of_ble_eq_true rfl)) d_Ch_acceptsAtOnce_42 ⟨(show _ ≤ 0 by omega), (show _ ≤ 0 by omega)⟩) hS (fun q _ z => hF q z) hF (fun r22 M23 t H locs ht _ h hB1 _ _ hS => ?_)
      have hW := hw_back hF ht hB1
      clear h9
      refine lv_aload_n hx hb d_Ch_acceptsAtOnce_45 rfl (lv_at hl 0 rfl) ?_
      obtain ⟨fs, v24, h1, h2, h⟩ := h
      refine va_get (D := D) (ci := 0) (v := .int v24) (C := "ChannelHall$Channel") (T := TCh) (N := 10) hx hb hts uCh hown hK (hw_one hW h1) 0 rfl rfl 2 (by decide) (hts _ bw_255) (fun _ h9 => h9) h2 d_Ch_acceptsAtOnce_46 ?_
      obtain ⟨h0, h1⟩ := h
      refine lv_icmp_ge (tgt := 56) hx hb d_Ch_acceptsAtOnce_49 (by decide) (fun c25 => ?_) (fun c25 => ?_)
      · have h := h0 c25
        refine lv_iconst (v := 0) hx hb d_Ch_acceptsAtOnce_56 (by decide) ?_
        exact l_Ch_acceptsAtOnce_57 C0 0 h hW hS (lv_sub hl [] rfl)
      · have h := h1 c25
        refine lv_iconst (v := 1) hx hb d_Ch_acceptsAtOnce_52 (by decide) ?_
        refine lv_goto (tgt := 57) hx hb d_Ch_acceptsAtOnce_53 (by decide) ?_
        exact l_Ch_acceptsAtOnce_57 C0 1 h hW hS (lv_sub hl [] rfl)
    · have h := h1 c19
      refine lv_aload_n hx hb d_Ch_acceptsAtOnce_20 rfl (lv_at hl 0 rfl) ?_
      refine va_gets (v := .ref (G 1)) hx hb (hZ0.2.1) hS hown (hts _ bw_395) (fun _ h9 => h9) d_Ch_acceptsAtOnce_21 ?_
      obtain ⟨⟨fs, h1⟩, h⟩ := h
      have h9 := h
      clear h
      have hF := hW.free hS hA
      refine va_callq (va_runV (As := [.ref (G 1)]) (rest := []) ⟨hx, hb, hml, hown, hts⟩ (c_Ch_firstWaiter _ h9) (cwV 1 hts (gi_V bw_372 bw_373 bw_374 bw_11 bw_375) rfl rfl rfl (by decide +kernel) ⟨Nat.le_of_ble_eq_true rfl, Nat.le_of_ble_eq_true rfl⟩) ⟨hI.blind, hw_recv hK hW h1 rfl, hI.give hW hS hA hK hZ0⟩ rfl rfl hl.1 rfl (lv_room (Nat.le_of_ble_eq_true rfl)) d_Ch_acceptsAtOnce_24 ⟨(show _ ≤ 0 by omega), (show _ ≤ 0 by omega)⟩) hS (fun q _ z => hF q z) hF (fun r26 M27 t H locs ht _ h hB1 _ _ hS => ?_)
      have hW := hw_back hF ht hB1
      clear h9
      obtain ⟨h0, h1⟩ := h
      cases r26 with
      | none =>
        have h := h0 rfl
        refine lv_ifnullN (tgt := 34) hx hb d_Ch_acceptsAtOnce_27 (by decide) ?_
        refine lv_iconst (v := 0) hx hb d_Ch_acceptsAtOnce_34 (by decide) ?_
        refine lv_goto (tgt := 57) hx hb d_Ch_acceptsAtOnce_35 (by decide) ?_
        exact l_Ch_acceptsAtOnce_57 C0 0 h hW hS (lv_sub hl [] rfl)
      | some b28 =>
        have h := h1 b28 rfl
        refine lv_ifnull hx hb d_Ch_acceptsAtOnce_27 ?_
        refine lv_iconst (v := 1) hx hb d_Ch_acceptsAtOnce_30 (by decide) ?_
        refine lv_goto (tgt := 57) hx hb d_Ch_acceptsAtOnce_31 (by decide) ?_
        exact l_Ch_acceptsAtOnce_57 C0 1 h hW hS (lv_sub hl [] rfl)
  | some b17 =>
    have h := h1 b17 rfl
    refine lv_ifnull hx hb d_Ch_acceptsAtOnce_7 ?_
    refine lv_iconst (v := 0) hx hb d_Ch_acceptsAtOnce_10 (by decide) ?_
    exact W.zret hx hb hr (by decide) (fun t ht hWm => ⟨⟨_, _, rfl, h, hw_t ht hW⟩, hS.F ht⟩) hS.2.2 d_Ch_acceptsAtOnce_11
set_option maxRecDepth 20000 in
theorem c_Ch_acceptsAtOnce {l : Launch} {D : va_G} {ca G : Nat → Nat} (post : Int32 → hM → Prop) {M : hM} {sz : Nat} {a0 : Nat} (h : wp_Ch_acceptsAtOnce G ca post M a0) : Met l y_Ch_acceptsAtOnce (wz y_Ch_acceptsAtOnce prog_2_method_10_code 1 (some .boolean)) rm_Ch_acceptsAtOnce (va_Pc [.ref a0] (hI D ca G sz M)) (va_Qi post (hB D M sz) (hp_A M sz)) 0 0 (hp_A M sz) := by
  refine Met.ofW (cc := prog_2_method_10_code) (maxL := 1) (ret := some .boolean) (by decide) rfl ?_
  intro p e s m args below meth c s₁ B hml hv
  obtain ⟨rfl, hsz, hW, hK, hZ0⟩ := hv
  have hts := fun w hw => atoms_spec (ws := wz y_Ch_acceptsAtOnce prog_2_method_10_code 1 (some .boolean)) B.pre w (List.mem_cons_of_mem _ hw)
  have hown : s.vm.findClass "ChannelHall$Channel" = some m.cls := findClass_of_methodNamed B.named
  subst hsz
  have hl := lv_entry [.ref a0] (n := 1) (Nat.le_of_ble_eq_true rfl)
  rw [lg_entry_eq]
  exact l_Ch_acceptsAtOnce_e ⟨B.exec, B.bytes, B.returns, hml, hown, hts, B.notSynchronized, hK, fun q h => Or.inr h, hZ0⟩ a0 h hW va_S.rf hl

theorem d_Ch_yieldsAtOnce_0 : decode prog_2_method_12_code 0 = .ok (.aload_n 0, 1) := by decide +kernel
theorem d_Ch_yieldsAtOnce_1 : decode prog_2_method_12_code 1 = .ok (.getstatic 69, 3) := by decide +kernel
theorem d_Ch_yieldsAtOnce_4 : decode prog_2_method_12_code 4 = .ok (.invokevirtual 75, 3) := by decide +kernel
theorem d_Ch_yieldsAtOnce_7 : decode prog_2_method_12_code 7 = .ok (.ifnull 5, 3) := by decide +kernel
theorem d_Ch_yieldsAtOnce_10 : decode prog_2_method_12_code 10 = .ok (.iconst 0, 1) := by decide +kernel
theorem d_Ch_yieldsAtOnce_11 : decode prog_2_method_12_code 11 = .ok (.ireturn, 1) := by decide +kernel
theorem d_Ch_yieldsAtOnce_12 : decode prog_2_method_12_code 12 = .ok (.aload_n 0, 1) := by decide +kernel
theorem d_Ch_yieldsAtOnce_13 : decode prog_2_method_12_code 13 = .ok (.getfield 39, 3) := by decide +kernel
theorem d_Ch_yieldsAtOnce_16 : decode prog_2_method_12_code 16 = .ok (.iconst 2, 1) := by decide +kernel
theorem d_Ch_yieldsAtOnce_17 : decode prog_2_method_12_code 17 = .ok (.if_icmp .ne 21, 3) := by decide +kernel
theorem d_Ch_yieldsAtOnce_20 : decode prog_2_method_12_code 20 = .ok (.aload_n 0, 1) := by decide +kernel
theorem d_Ch_yieldsAtOnce_21 : decode prog_2_method_12_code 21 = .ok (.getstatic 89, 3) := by decide +kernel
theorem d_Ch_yieldsAtOnce_24 : decode prog_2_method_12_code 24 = .ok (.invokevirtual 75, 3) := by decide +kernel
theorem d_Ch_yieldsAtOnce_27 : decode prog_2_method_12_code 27 = .ok (.ifnull 7, 3) := by decide +kernel
theorem d_Ch_yieldsAtOnce_30 : decode prog_2_method_12_code 30 = .ok (.iconst 1, 1) := by decide +kernel
theorem d_Ch_yieldsAtOnce_31 : decode prog_2_method_12_code 31 = .ok (.goto 12, 3) := by decide +kernel
theorem d_Ch_yieldsAtOnce_34 : decode prog_2_method_12_code 34 = .ok (.iconst 0, 1) := by decide +kernel
theorem d_Ch_yieldsAtOnce_35 : decode prog_2_method_12_code 35 = .ok (.goto 8, 3) := by decide +kernel
theorem d_Ch_yieldsAtOnce_38 : decode prog_2_method_12_code 38 = .ok (.aload_n 0, 1) := by decide +kernel
theorem d_Ch_yieldsAtOnce_39 : decode prog_2_method_12_code 39 = .ok (.dload_n 1, 1) := by decide +kernel
theorem d_Ch_yieldsAtOnce_40 : decode prog_2_method_12_code 40 = .ok (.invokevirtual 65, 3) := by decide +kernel
theorem d_Ch_yieldsAtOnce_43 : decode prog_2_method_12_code 43 = .ok (.ireturn, 1) := by decide +kernel
def y_Ch_yieldsAtOnce : MethodName := ⟨"ChannelHall$Channel", "yieldsAtOnce", "(D)Z"⟩
abbrev rm_Ch_yieldsAtOnce : Room := { frames := 4, cells := 0, slots := 0, locals := 86 }
def wp_Ch_yieldsAtOnce_43 (G ca : Nat → Nat) (post : Int32 → hM → Prop) (M : hM) (s0b43 : Int32) : Prop := bZ s0b43 (post s0b43 M)
def wp_Ch_yieldsAtOnce (G ca : Nat → Nat) (post : Int32 → hM → Prop) (M : hM) (a0 : Nat) (x1 : UInt64) : Prop := rC M a0 0 (wp_Ch_firstWaiter G ca (fun r11 M12 => (r11 = none → gI M12 a0 0 1 fun v14 => (¬ v14 = 2 → rC M12 a0 0 (wp_Ch_isReady G ca (fun r16 M17 => wp_Ch_yieldsAtOnce_43 G ca post M17 r16) M12 a0 x1)) ∧ (v14 = 2 → rC M12 a0 0 (wp_Ch_firstWaiter G ca (fun r18 M19 => (r18 = none → wp_Ch_yieldsAtOnce_43 G ca post M19 0) ∧ (∀ b20 : Nat, r18 = some b20 → wp_Ch_yieldsAtOnce_43 G ca post M19 1)) M12 a0 (some (G 0))))) ∧ (∀ b13 : Nat, r11 = some b13 → post 0 M12)) M a0 (some (G 1)))
set_option maxHeartbeats 1000000 in
set_option maxRecDepth 20000 in
theorem l_Ch_yieldsAtOnce_43 {p : Program} {l : Launch} {e : Env} {s : State} {m : MethodId} {args : Array Value} {below : List Frame} {meth : Method} {c : Code} {D : va_G} {ca G : Nat → Nat} {A : Nat → Prop} (C0 : hC p s m args meth c D ca G prog_2_method_12_code 3 (some .boolean) "ChannelHall$Channel" A) {post : Int32 → hM → Prop} {M : hM} {H : Heap} {locs : List Loc} {ls : Array Slot} (s0b43 : Int32) (h : wp_Ch_yieldsAtOnce_43 G ca post M s0b43) (hW : hw D wCl A M H) (hS : va_S A s.heap H locs) (hl : lv_has ls 3 []) : W p l e rm_Ch_yieldsAtOnce s m args below meth c H locs 0 0 (MQ below (va_Qi post (fun M' t => hw D wCl A M' t.heap) A) args s 0 0 A) (F0 m 43 ls [.int s0b43]) := by
  obtain ⟨hx, hb, hr, hml, hown, hts, hlocks, hK, hA, hZ0⟩ := id C0
  obtain ⟨hz, h⟩ := h
  exact W.zret hx hb hr (nb_n hz) (fun t ht hWm => ⟨⟨_, _, rfl, h, hw_t ht hW⟩, hS.F ht⟩) hS.2.2 d_Ch_yieldsAtOnce_43
set_option maxHeartbeats 1000000 in
set_option maxRecDepth 20000 in
theorem l_Ch_yieldsAtOnce_e {p : Program} {l : Launch} {e : Env} {s : State} {m : MethodId} {args : Array Value} {below : List Frame} {meth : Method} {c : Code} {D : va_G} {ca G : Nat → Nat} {A : Nat → Prop} (C0 : hC p s m args meth c D ca G prog_2_method_12_code 3 (some .boolean) "ChannelHall$Channel" A) {post : Int32 → hM → Prop} {M : hM} {H : Heap} {locs : List Loc} {ls : Array Slot} (a0 : Nat) (x1 : UInt64) (h : wp_Ch_yieldsAtOnce G ca post M a0 x1) (hW : hw D wCl A M H) (hS : va_S A s.heap H locs) (hl : lv_has ls 3 [(0, .ref a0), (1, .double x1)]) : W p l e rm_Ch_yieldsAtOnce s m args below meth c H locs 0 0 (MQ below (va_Qi post (fun M' t => hw D wCl A M' t.heap) A) args s 0 0 A) (F0 m 0 ls []) := by
  obtain ⟨hx, hb, hr, hml, hown, hts, hlocks, hK, hA, hZ0⟩ := id C0
  refine lv_aload_n hx hb d_Ch_yieldsAtOnce_0 rfl (lv_at hl 0 rfl) ?_
  refine va_gets (v := .ref (G 1)) hx hb (hZ0.2.1) hS hown (hts _ bw_395) (fun _ h9 => h9) d_Ch_yieldsAtOnce_1 ?_
  obtain ⟨⟨fs, h1⟩, h⟩ := h
  have h9 := h
  clear h
  have hF := hW.free hS hA
  refine va_callq (va_runV (As := [.ref (G 1)]) (rest := []) ⟨hx, hb, hml, hown, hts⟩ (c_Ch_firstWaiter _ h9) (cwV 1 hts (gi_V bw_372 bw_373 bw_374 bw_11 bw_375) rfl rfl rfl (by decide +kernel) ⟨Nat.le_of_ble_eq_true rfl, Nat.le_of_ble_eq_true rfl⟩) ⟨hI.blind, hw_recv hK hW h1 rfl, hI.give hW hS hA hK hZ0⟩ rfl rfl hl.1 rfl (lv_room (Nat.le_of_ble_eq_true rfl)) d_Ch_yieldsAtOnce_4 ⟨(show _ ≤ 0 by omega), (show _ ≤ 0 by omega)⟩) hS (fun q _ z => hF q z) hF (fun r11 M12 t H locs ht _ h hB1 _ _ hS => ?_)
  have hW := hw_back hF ht hB1
  clear h9
  obtain ⟨h0, h1⟩ := h
  cases r11 with
  | none =>
    have h := h0 rfl
    refine lv_ifnullN (tgt := 12) hx hb d_Ch_yieldsAtOnce_7 (by decide) ?_
    refine lv_aload_n hx hb d_Ch_yieldsAtOnce_12 rfl (lv_at hl 0 rfl) ?_
    obtain ⟨fs, v14, h1, h2, h⟩ := h
    refine va_get (D := D) (ci := 0) (v := .int v14) (C := "ChannelHall$Channel") (T := TCh) (N := 10) hx hb hts uCh hown hK (hw_one hW h1) 0 rfl rfl 1 (by decide) (hts _ bw_253) (fun _ h9 => h9) h2 d_Ch_yieldsAtOnce_13 ?_
    refine lv_iconst (v := 2) hx hb d_Ch_yieldsAtOnce_16 (by decide) ?_
    obtain ⟨h0, h1⟩ := h
    refine lv_icmp_ne (tgt := 38) hx hb d_Ch_yieldsAtOnce_17 (by decide) (fun c15 => ?_) (fun c15 => ?_)
    · have h := h0 c15
      refine lv_aload_n hx hb d_Ch_yieldsAtOnce_38 rfl (lv_at hl 0 rfl) ?_
      refine lv_dload_n hx hb d_Ch_yieldsAtOnce_39 rfl (lv_at hl 1 rfl) ?_
      obtain ⟨⟨fs, h1⟩, h⟩ := h
      have h9 := h
      clear h
      have hF := hW.free hS hA
      refine va_calli (va_runV (As := [.double x1]) (rest := []) ⟨hx, hb, hml, hown, hts⟩ (c_Ch_isReady _ h9) (cwV 1 hts (gi_V bw_799 bw_800 bw_801 bw_11 bw_802) rfl rfl rfl (by decide +kernel) ⟨Nat.le_of_ble_eq_true rfl, Nat.le_of_ble_eq_true rfl⟩) ⟨hI.blind, hw_recv hK hW h1 rfl, hI.give hW hS hA hK hZ0⟩ rfl rfl hl.1 rfl (lv_room (Nat.le_of_ble_eq_true rfl)) d_Ch_yieldsAtOnce_40 ⟨(show _ ≤ 0 by omega), (show _ ≤ 0 by omega)⟩) hS (fun q _ z => hF q z) hF (fun r16 M17 t H locs ht _ h hB1 _ _ hS => ?_)
      have hW := hw_back hF ht hB1
      clear h9
      exact l_Ch_yieldsAtOnce_43 C0 r16 h hW hS (lv_sub hl [] rfl)
    · have h := h1 c15
      refine lv_aload_n hx hb d_Ch_yieldsAtOnce_20 rfl (lv_at hl 0 rfl) ?_
      refine va_gets (v := .ref (G 0)) hx hb (hZ0.1) hS hown (hts _ bw_370) (fun _ h9 => h9) d_Ch_yieldsAtOnce_21 ?_
      obtain ⟨⟨fs, h1⟩, h⟩ := h
      have h9 := h
      clear h
      have hF := hW.free hS hA
      refine va_callq (va_runV (As := [.ref (G 0)]) (rest := []) ⟨hx, hb, hml, hown, hts⟩ (c_Ch_firstWaiter _ h9) (cwV 1 hts (gi_V bw_372 bw_373 bw_374 bw_11 bw_375) rfl rfl rfl (by decide +kernel) ⟨Nat.le_of_ble_eq_true rfl, Nat.le_of_ble_eq_true rfl⟩) ⟨hI.blind, hw_recv hK hW h1 rfl, hI.give hW hS hA hK hZ0⟩ rfl rfl hl.1 rfl (lv_room (Nat.le_of_ble_eq_true rfl)) d_Ch_yieldsAtOnce_24 ⟨(show _ ≤ 0 by omega), (show _ ≤ 0 by omega)⟩) hS (fun q _ z => hF q z) hF (fun r18 M19 t H locs ht _ h hB1 _ _ hS => ?_)
      have hW := hw_back hF ht hB1
      clear h9
      obtain ⟨h0, h1⟩ := h
      cases r18 with
      | none =>
        have h := h0 rfl
        refine lv_ifnullN (tgt := 34) hx hb d_Ch_yieldsAtOnce_27 (by decide) ?_
        refine lv_iconst (v := 0) hx hb d_Ch_yieldsAtOnce_34 (by decide) ?_
        refine lv_goto (tgt := 43) hx hb d_Ch_yieldsAtOnce_35 (by decide) ?_
        exact l_Ch_yieldsAtOnce_43 C0 0 h hW hS (lv_sub hl [] rfl)
      | some b20 =>
        have h := h1 b20 rfl
        refine lv_ifnull hx hb d_Ch_yieldsAtOnce_27 ?_
        refine lv_iconst (v := 1) hx hb d_Ch_yieldsAtOnce_30 (by decide) ?_
        refine lv_goto (tgt := 43) hx hb d_Ch_yieldsAtOnce_31 (by decide) ?_
        exact l_Ch_yieldsAtOnce_43 C0 1 h hW hS (lv_sub hl [] rfl)
  | some b13 =>
    have h := h1 b13 rfl
    refine lv_ifnull hx hb d_Ch_yieldsAtOnce_7 ?_
    refine lv_iconst (v := 0) hx hb d_Ch_yieldsAtOnce_10 (by decide) ?_
    exact W.zret hx hb hr (by decide) (fun t ht hWm => ⟨⟨_, _, rfl, h, hw_t ht hW⟩, hS.F ht⟩) hS.2.2 d_Ch_yieldsAtOnce_11
set_option maxRecDepth 20000 in
theorem c_Ch_yieldsAtOnce {l : Launch} {D : va_G} {ca G : Nat → Nat} (post : Int32 → hM → Prop) {M : hM} {sz : Nat} {a0 : Nat} {x1 : UInt64} (h : wp_Ch_yieldsAtOnce G ca post M a0 x1) : Met l y_Ch_yieldsAtOnce (wz y_Ch_yieldsAtOnce prog_2_method_12_code 3 (some .boolean)) rm_Ch_yieldsAtOnce (va_Pc [.ref a0, .double x1] (hI D ca G sz M)) (va_Qi post (hB D M sz) (hp_A M sz)) 0 0 (hp_A M sz) := by
  refine Met.ofW (cc := prog_2_method_12_code) (maxL := 3) (ret := some .boolean) (by decide) rfl ?_
  intro p e s m args below meth c s₁ B hml hv
  obtain ⟨rfl, hsz, hW, hK, hZ0⟩ := hv
  have hts := fun w hw => atoms_spec (ws := wz y_Ch_yieldsAtOnce prog_2_method_12_code 3 (some .boolean)) B.pre w (List.mem_cons_of_mem _ hw)
  have hown : s.vm.findClass "ChannelHall$Channel" = some m.cls := findClass_of_methodNamed B.named
  subst hsz
  have hl := lv_entry [.ref a0, .double x1] (n := 3) (Nat.le_of_ble_eq_true rfl)
  rw [lg_entry_eq]
  exact l_Ch_yieldsAtOnce_e ⟨B.exec, B.bytes, B.returns, hml, hown, hts, B.notSynchronized, hK, fun q h => Or.inr h, hZ0⟩ a0 x1 h hW va_S.rf hl

theorem d_Ch_release_0 : decode prog_2_method_20_code 0 = .ok (.iconst 0, 1) := by decide +kernel
theorem d_Ch_release_1 : decode prog_2_method_20_code 1 = .ok (.istore_n 3, 1) := by decide +kernel
theorem d_Ch_release_2 : decode prog_2_method_20_code 2 = .ok (.iload_n 3, 1) := by decide +kernel
theorem d_Ch_release_3 : decode prog_2_method_20_code 3 = .ok (.aload_n 0, 1) := by decide +kernel
theorem d_Ch_release_4 : decode prog_2_method_20_code 4 = .ok (.getfield 18, 3) := by decide +kernel
theorem d_Ch_release_7 : decode prog_2_method_20_code 7 = .ok (.invokevirtual 79, 3) := by decide +kernel
theorem d_Ch_release_10 : decode prog_2_method_20_code 10 = .ok (.if_icmp .ge 33, 3) := by decide +kernel
theorem d_Ch_release_13 : decode prog_2_method_20_code 13 = .ok (.aload_n 0, 1) := by decide +kernel
theorem d_Ch_release_14 : decode prog_2_method_20_code 14 = .ok (.getfield 18, 3) := by decide +kernel
theorem d_Ch_release_17 : decode prog_2_method_20_code 17 = .ok (.iload_n 3, 1) := by decide +kernel
theorem d_Ch_release_18 : decode prog_2_method_20_code 18 = .ok (.invokevirtual 56, 3) := by decide +kernel
theorem d_Ch_release_21 : decode prog_2_method_20_code 21 = .ok (.aload_n 1, 1) := by decide +kernel
theorem d_Ch_release_22 : decode prog_2_method_20_code 22 = .ok (.if_acmp .ne 15, 3) := by decide +kernel
theorem d_Ch_release_25 : decode prog_2_method_20_code 25 = .ok (.aload_n 0, 1) := by decide +kernel
theorem d_Ch_release_26 : decode prog_2_method_20_code 26 = .ok (.getfield 18, 3) := by decide +kernel
theorem d_Ch_release_29 : decode prog_2_method_20_code 29 = .ok (.iload_n 3, 1) := by decide +kernel
theorem d_Ch_release_30 : decode prog_2_method_20_code 30 = .ok (.invokevirtual 123, 3) := by decide +kernel
theorem d_Ch_release_33 : decode prog_2_method_20_code 33 = .ok (.pop, 1) := by decide +kernel
theorem d_Ch_release_34 : decode prog_2_method_20_code 34 = .ok (.goto 9, 3) := by decide +kernel
theorem d_Ch_release_37 : decode prog_2_method_20_code 37 = .ok (.iinc 3 1, 3) := by decide +kernel
theorem d_Ch_release_40 : decode prog_2_method_20_code 40 = .ok (.goto (-38), 3) := by decide +kernel
theorem d_Ch_release_43 : decode prog_2_method_20_code 43 = .ok (.aload_n 1, 1) := by decide +kernel
theorem d_Ch_release_44 : decode prog_2_method_20_code 44 = .ok (.aconst_null, 1) := by decide +kernel
theorem d_Ch_release_45 : decode prog_2_method_20_code 45 = .ok (.putfield 140, 3) := by decide +kernel
theorem d_Ch_release_48 : decode prog_2_method_20_code 48 = .ok (.aload_n 1, 1) := by decide +kernel
theorem d_Ch_release_49 : decode prog_2_method_20_code 49 = .ok (.iload_n 2, 1) := by decide +kernel
theorem d_Ch_release_50 : decode prog_2_method_20_code 50 = .ok (.putfield 144, 3) := by decide +kernel
theorem d_Ch_release_53 : decode prog_2_method_20_code 53 = .ok (.return_, 1) := by decide +kernel
def y_Ch_release : MethodName := ⟨"ChannelHall$Channel", "release", "(LChannelHall$Worker;I)V"⟩
abbrev rm_Ch_release : Room := { frames := 3, cells := 0, slots := 0, locals := 86 }
def wp_Ch_release_43 (G ca : Nat → Nat) (post : hM → Prop) (M : hM) (l1b43 : Option Nat) (l2b43 : Int32) : Prop := nN l1b43 fun b18 => pF M b18 2 5 (.null) fun M19 => pF M19 b18 2 2 (.int l2b43) fun M20 => post M20
def wp_Ch_release_2 (G ca : Nat → Nat) (post : hM → Prop) : Nat → hM → Nat → Option Nat → Int32 → Int32 → Prop
  | 0, _, _, _, _, _ => False
  | n + 1, M, l0b2, l1b2, l2b2, l3b2 => gR M l0b2 0 5 fun v21 => nN v21 fun b22 => rC M b22 4 (wp_Al_size G ca (fun r23 M24 => (r23 ≤ l3b2 → wp_Ch_release_43 G ca post M24 l1b2 l2b2) ∧ (¬ r23 ≤ l3b2 → gR M24 l0b2 0 5 fun v26 => nN v26 fun b27 => rC M24 b27 4 (wp_Al_get G ca (fun r28 M29 => (¬ r28 = l1b2 → (wp_Ch_release_2 G ca post n) M29 l0b2 l1b2 l2b2 (l3b2 + 1)) ∧ (r28 = l1b2 → gR M29 l0b2 0 5 fun v31 => nN v31 fun b32 => rC M29 b32 4 (wp_Al_remove G ca (fun r33 M34 => wp_Ch_release_43 G ca post M34 l1b2 l2b2) M29 b32 l3b2))) M24 b27 l3b2))) M b22)
def wp_Ch_release (G ca : Nat → Nat) (post : hM → Prop) (M : hM) (a0 : Nat) (a1 : Option Nat) (x2 : Int32) : Prop := ∃ n, wp_Ch_release_2 G ca post n M a0 a1 x2 0
set_option maxHeartbeats 1000000 in
set_option maxRecDepth 20000 in
theorem l_Ch_release_43 {p : Program} {l : Launch} {e : Env} {s : State} {m : MethodId} {args : Array Value} {below : List Frame} {meth : Method} {c : Code} {D : va_G} {ca G : Nat → Nat} {A : Nat → Prop} (C0 : hC p s m args meth c D ca G prog_2_method_20_code 4 (none) "ChannelHall$Channel" A) {post : hM → Prop} {M : hM} {H : Heap} {locs : List Loc} {ls : Array Slot} (l1b43 : Option Nat) (l2b43 : Int32) (h : wp_Ch_release_43 G ca post M l1b43 l2b43) (hW : hw D wCl A M H) (hS : va_S A s.heap H locs) (hl : lv_has ls 4 [(1, va_rf l1b43), (2, .int l2b43)]) : W p l e rm_Ch_release s m args below meth c H locs 0 0 (MQ below (va_Qv post (fun M' t => hw D wCl A M' t.heap) A) args s 0 0 A) (F0 m 43 ls []) := by
  obtain ⟨hx, hb, hr, hml, hown, hts, hlocks, hK, hA, hZ0⟩ := id C0
  refine lq_load_n hx hb d_Ch_release_43 rfl (lv_at hl 0 rfl) ?_
  refine lv_null hx hb d_Ch_release_44 ?_
  obtain ⟨b18, rfl, h⟩ := h
  obtain ⟨fs, h1, h2, h⟩ := h
  obtain ⟨ws, q0, hq, hP, hD, hback, -⟩ := hw_open hW h1
  refine va_put (D := D) (ci := 2) (v := .null) (ty := .object "ChannelHall$Channel") (C := "ChannelHall$Worker") (T := TWo) (N := 11) hx hb hts uWo tWo tWo_ok nWo hown hK hP hD hS q0 hq rfl 5 (by decide) (hts _ bw_64) (fun _ h9 => h9) rfl (by decide +kernel) rfl rfl h2 d_Ch_release_45 (fun H locs hP hD hS => ?_)
  have hW := hback _ _ hP hD
  generalize (va_up M b18 (some (.inr (2, fs.set 5 (.null))))) = M19 at h hW
  refine lv_aload_n hx hb d_Ch_release_48 rfl (lv_at hl 0 rfl) ?_
  refine lv_iload_n hx hb d_Ch_release_49 rfl (lv_at hl 1 rfl) ?_
  obtain ⟨fs, h1, h2, h⟩ := h
  obtain ⟨ws, q0, hq, hP, hD, hback, -⟩ := hw_open hW h1
  refine va_put (D := D) (ci := 2) (v := .int l2b43) (ty := .int) (C := "ChannelHall$Worker") (T := TWo) (N := 11) hx hb hts uWo tWo tWo_ok nWo hown hK hP hD hS q0 hq rfl 2 (by decide) (hts _ bw_57) (fun _ h9 => h9) rfl (by decide +kernel) rfl rfl h2 d_Ch_release_50 (fun H locs hP hD hS => ?_)
  have hW := hback _ _ hP hD
  generalize (va_up M19 b18 (some (.inr (2, fs.set 2 (.int l2b43))))) = M20 at h hW
  exact W.vret hx hb hr (fun t ht hWm => ⟨⟨_, rfl, h, hw_t ht hW⟩, hS.F ht⟩) hS.2.2 d_Ch_release_53
set_option maxHeartbeats 1000000 in
set_option maxRecDepth 20000 in
theorem l_Ch_release_2 {p : Program} {l : Launch} {e : Env} {s : State} {m : MethodId} {args : Array Value} {below : List Frame} {meth : Method} {c : Code} {D : va_G} {ca G : Nat → Nat} {A : Nat → Prop} (C0 : hC p s m args meth c D ca G prog_2_method_20_code 4 (none) "ChannelHall$Channel" A) {post : hM → Prop} : ∀ (n : Nat) {M : hM} {H : Heap} {locs : List Loc} {ls : Array Slot} (l0b2 : Nat) (l1b2 : Option Nat) (l2b2 : Int32) (l3b2 : Int32) (h : wp_Ch_release_2 G ca post n M l0b2 l1b2 l2b2 l3b2) (hW : hw D wCl A M H) (hS : va_S A s.heap H locs) (hl : lv_has ls 4 [(0, .ref l0b2), (1, va_rf l1b2), (2, .int l2b2), (3, .int l3b2)]), W p l e rm_Ch_release s m args below meth c H locs 0 0 (MQ below (va_Qv post (fun M' t => hw D wCl A M' t.heap) A) args s 0 0 A) (F0 m 2 ls []) := by
  obtain ⟨hx, hb, hr, hml, hown, hts, hlocks, hK, hA, hZ0⟩ := id C0
  intro n
  induction n with
  | zero =>
    intro M H locs ls l0b2 l1b2 l2b2 l3b2 h
    exact False.elim h
  | succ n ih =>
    intro M H locs ls l0b2 l1b2 l2b2 l3b2 h hW hS hl
    have hk_2 := fun M H locs ls l0b2 l1b2 l2b2 l3b2 h hW hS hl => @ih M H locs ls l0b2 l1b2 l2b2 l3b2 h hW hS hl
    refine lv_iload_n hx hb d_Ch_release_2 rfl (lv_at hl 3 rfl) ?_
    refine lv_aload_n hx hb d_Ch_release_3 rfl (lv_at hl 0 rfl) ?_
    obtain ⟨fs, v21, h1, h2, h⟩ := h
    refine va_get (D := D) (ci := 0) (v := va_rf v21) (C := "ChannelHall$Channel") (T := TCh) (N := 10) hx hb hts uCh hown hK (hw_one hW h1) 0 rfl rfl 5 (by decide) (hts _ bw_260) (fun _ h9 => h9) h2 d_Ch_release_4 ?_
    obtain ⟨b22, rfl, h⟩ := h
    obtain ⟨⟨fs, h1⟩, h⟩ := h
    have h9 := h
    clear h
    have hF := hW.free hS hA
    refine va_calli (va_runV (As := []) (rest := [.int l3b2]) ⟨hx, hb, hml, hown, hts⟩ (c_Al_size _ h9) (cwV 0 hts (gi_V bw_376 bw_377 bw_378 bw_14 bw_379) rfl rfl rfl (by decide +kernel) ⟨Nat.le_of_ble_eq_true rfl, Nat.le_of_ble_eq_true rfl⟩) ⟨hI.blind, hw_recv hK hW h1 rfl, hI.give hW hS hA hK hZ0⟩ rfl rfl hl.1 rfl (lv_room (Nat.le_of_ble_eq_true rfl)) d_Ch_release_7 ⟨(show _ ≤ 0 by omega), (show _ ≤ 0 by omega)⟩) hS (fun q _ z => hF q z) hF (fun r23 M24 t H locs ht _ h hB1 _ _ hS => ?_)
    have hW := hw_back hF ht hB1
    clear h9
    obtain ⟨h0, h1⟩ := h
    refine lv_icmp_ge (tgt := 43) hx hb d_Ch_release_10 (by decide) (fun c25 => ?_) (fun c25 => ?_)
    · have h := h0 c25
      exact l_Ch_release_43 C0 l1b2 l2b2 h hW hS (lv_sub hl [1, 2] rfl)
    · have h := h1 c25
      refine lv_aload_n hx hb d_Ch_release_13 rfl (lv_at hl 0 rfl) ?_
      obtain ⟨fs, v26, h1, h2, h⟩ := h
      refine va_get (D := D) (ci := 0) (v := va_rf v26) (C := "ChannelHall$Channel") (T := TCh) (N := 10) hx hb hts uCh hown hK (hw_one hW h1) 0 rfl rfl 5 (by decide) (hts _ bw_260) (fun _ h9 => h9) h2 d_Ch_release_14 ?_
      refine lv_iload_n hx hb d_Ch_release_17 rfl (lv_at hl 3 rfl) ?_
      obtain ⟨b27, rfl, h⟩ := h
      obtain ⟨⟨fs, h1⟩, h⟩ := h
      have h9 := h
      clear h
      have hF := hW.free hS hA
      refine va_callq (va_runV (As := [.int l3b2]) (rest := []) ⟨hx, hb, hml, hown, hts⟩ (c_Al_get _ h9) (cwV 1 hts (gi_V bw_380 bw_381 bw_382 bw_14 bw_383) rfl rfl rfl (by decide +kernel) ⟨Nat.le_of_ble_eq_true rfl, Nat.le_of_ble_eq_true rfl⟩) ⟨hI.blind, hw_recv hK hW h1 rfl, hI.give hW hS hA hK hZ0⟩ rfl rfl hl.1 rfl (lv_room (Nat.le_of_ble_eq_true rfl)) d_Ch_release_18 ⟨(show _ ≤ 0 by omega), (show _ ≤ 0 by omega)⟩) hS (fun q _ z => hF q z) hF (fun r28 M29 t H locs ht _ h hB1 _ _ hS => ?_)
      have hW := hw_back hF ht hB1
      clear h9
      refine lq_load_n hx hb d_Ch_release_21 rfl (lv_at hl 1 rfl) ?_
      obtain ⟨h0, h1⟩ := h
      refine lv_acmp_ne (rx := r28) (ry := l1b2) (tgt := 37) hx hb d_Ch_release_22 (by decide) (fun c30 => ?_) (fun c30 => ?_)
      · have h := h0 c30
        refine lv_iinc (v := l3b2 + 1) (lv' := [(3, .int (l3b2 + 1)), (0, .ref l0b2), (1, va_rf l1b2), (2, .int l2b2)]) hx hb d_Ch_release_37 hl (k := 3) rfl rfl (by decide) rfl (fun ls hl => ?_)
        refine lv_goto (tgt := 2) hx hb d_Ch_release_40 (by decide) ?_
        exact hk_2 _ _ _ _ l0b2 l1b2 l2b2 (l3b2 + 1) h hW hS (lv_sub hl [1, 2, 3, 0] rfl)
      · have h := h1 c30
        refine lv_aload_n hx hb d_Ch_release_25 rfl (lv_at hl 0 rfl) ?_
        obtain ⟨fs, v31, h1, h2, h⟩ := h
        refine va_get (D := D) (ci := 0) (v := va_rf v31) (C := "ChannelHall$Channel") (T := TCh) (N := 10) hx hb hts uCh hown hK (hw_one hW h1) 0 rfl rfl 5 (by decide) (hts _ bw_260) (fun _ h9 => h9) h2 d_Ch_release_26 ?_
        refine lv_iload_n hx hb d_Ch_release_29 rfl (lv_at hl 3 rfl) ?_
        obtain ⟨b32, rfl, h⟩ := h
        obtain ⟨⟨fs, h1⟩, h⟩ := h
        have h9 := h
        clear h
        have hF := hW.free hS hA
        refine va_callq (va_runV (As := [.int l3b2]) (rest := []) ⟨hx, hb, hml, hown, hts⟩ (c_Al_remove _ h9) (cwV 1 hts (gi_V bw_783 bw_784 bw_785 bw_14 bw_786) rfl rfl rfl (by decide +kernel) ⟨Nat.le_of_ble_eq_true rfl, Nat.le_of_ble_eq_true rfl⟩) ⟨hI.blind, hw_recv hK hW h1 rfl, hI.give hW hS hA hK hZ0⟩ rfl rfl hl.1 rfl (lv_room (Nat.le_of_ble_eq_true rfl)) d_Ch_release_30 ⟨(show _ ≤ 0 by omega), (show _ ≤ 0 by omega)⟩) hS (fun q _ z => hF q z) hF (fun r33 M34 t H locs ht _ h hB1 _ _ hS => ?_)
        have hW := hw_back hF ht hB1
        clear h9
        refine lv_pop hx hb d_Ch_release_33 (by cases r33 <;> rfl) ?_
        refine lv_goto (tgt := 43) hx hb d_Ch_release_34 (by decide) ?_
        exact l_Ch_release_43 C0 l1b2 l2b2 h hW hS (lv_sub hl [1, 2] rfl)
set_option maxHeartbeats 1000000 in
set_option maxRecDepth 20000 in
theorem l_Ch_release_e {p : Program} {l : Launch} {e : Env} {s : State} {m : MethodId} {args : Array Value} {below : List Frame} {meth : Method} {c : Code} {D : va_G} {ca G : Nat → Nat} {A : Nat → Prop} (C0 : hC p s m args meth c D ca G prog_2_method_20_code 4 (none) "ChannelHall$Channel" A) {post : hM → Prop} {M : hM} {H : Heap} {locs : List Loc} {ls : Array Slot} (a0 : Nat) (a1 : Option Nat) (x2 : Int32) (h : wp_Ch_release G ca post M a0 a1 x2) (hW : hw D wCl A M H) (hS : va_S A s.heap H locs) (hl : lv_has ls 4 [(0, .ref a0), (1, va_rf a1), (2, .int x2)]) : W p l e rm_Ch_release s m args below meth c H locs 0 0 (MQ below (va_Qv post (fun M' t => hw D wCl A M' t.heap) A) args s 0 0 A) (F0 m 0 ls []) := by
  obtain ⟨hx, hb, hr, hml, hown, hts, hlocks, hK, hA, hZ0⟩ := id C0
  refine lv_iconst (v := 0) hx hb d_Ch_release_0 (by decide) ?_
  refine lv_istore_n (lv' := [(3, .int 0), (0, .ref a0), (1, va_rf a1), (2, .int x2)]) hx hb d_Ch_release_1 rfl hl (by decide) rfl (fun ls hl => ?_)
  obtain ⟨n, h⟩ := h
  exact l_Ch_release_2 C0 n a0 a1 x2 0 h hW hS (lv_sub hl [1, 2, 3, 0] rfl)
set_option maxRecDepth 20000 in
theorem c_Ch_release {l : Launch} {D : va_G} {ca G : Nat → Nat} (post : hM → Prop) {M : hM} {sz : Nat} {a0 : Nat} {a1 : Option Nat} {x2 : Int32} (h : wp_Ch_release G ca post M a0 a1 x2) : Met l y_Ch_release (wz y_Ch_release prog_2_method_20_code 4 (none)) rm_Ch_release (va_Pc [.ref a0, va_rf a1, .int x2] (hI D ca G sz M)) (va_Qv post (hB D M sz) (hp_A M sz)) 0 0 (hp_A M sz) := by
  refine Met.ofW (cc := prog_2_method_20_code) (maxL := 4) (ret := none) (by decide) rfl ?_
  intro p e s m args below meth c s₁ B hml hv
  obtain ⟨rfl, hsz, hW, hK, hZ0⟩ := hv
  have hts := fun w hw => atoms_spec (ws := wz y_Ch_release prog_2_method_20_code 4 (none)) B.pre w (List.mem_cons_of_mem _ hw)
  have hown : s.vm.findClass "ChannelHall$Channel" = some m.cls := findClass_of_methodNamed B.named
  subst hsz
  have hl : lv_has ((lg_sl [.ref a0, va_rf a1, .int x2] ++ List.replicate (4 - (lg_sl [.ref a0, va_rf a1, .int x2]).length) Slot.unset).toArray) 4 [(0, .ref a0), (1, va_rf a1), (2, .int x2)] := by cases a1 <;> exact lv_entry _ (Nat.le_of_ble_eq_true rfl)
  rw [lg_entry_eq]
  exact l_Ch_release_e ⟨B.exec, B.bytes, B.returns, hml, hown, hts, B.notSynchronized, hK, fun q h => Or.inr h, hZ0⟩ a0 a1 x2 h hW va_S.rf hl

theorem d_Ch_releaseAll_0 : decode prog_2_method_21_code 0 = .ok (.iconst 0, 1) := by decide +kernel
theorem d_Ch_releaseAll_1 : decode prog_2_method_21_code 1 = .ok (.istore_n 2, 1) := by decide +kernel
theorem d_Ch_releaseAll_2 : decode prog_2_method_21_code 2 = .ok (.iload_n 2, 1) := by decide +kernel
theorem d_Ch_releaseAll_3 : decode prog_2_method_21_code 3 = .ok (.aload_n 0, 1) := by decide +kernel
theorem d_Ch_releaseAll_4 : decode prog_2_method_21_code 4 = .ok (.getfield 18, 3) := by decide +kernel
theorem d_Ch_releaseAll_7 : decode prog_2_method_21_code 7 = .ok (.invokevirtual 79, 3) := by decide +kernel
theorem d_Ch_releaseAll_10 : decode prog_2_method_21_code 10 = .ok (.if_icmp .ge 39, 3) := by decide +kernel
theorem d_Ch_releaseAll_13 : decode prog_2_method_21_code 13 = .ok (.aload_n 0, 1) := by decide +kernel
theorem d_Ch_releaseAll_14 : decode prog_2_method_21_code 14 = .ok (.getfield 18, 3) := by decide +kernel
theorem d_Ch_releaseAll_17 : decode prog_2_method_21_code 17 = .ok (.iload_n 2, 1) := by decide +kernel
theorem d_Ch_releaseAll_18 : decode prog_2_method_21_code 18 = .ok (.invokevirtual 56, 3) := by decide +kernel
theorem d_Ch_releaseAll_21 : decode prog_2_method_21_code 21 = .ok (.checkcast 83, 3) := by decide +kernel
theorem d_Ch_releaseAll_24 : decode prog_2_method_21_code 24 = .ok (.aconst_null, 1) := by decide +kernel
theorem d_Ch_releaseAll_25 : decode prog_2_method_21_code 25 = .ok (.putfield 140, 3) := by decide +kernel
theorem d_Ch_releaseAll_28 : decode prog_2_method_21_code 28 = .ok (.aload_n 0, 1) := by decide +kernel
theorem d_Ch_releaseAll_29 : decode prog_2_method_21_code 29 = .ok (.getfield 18, 3) := by decide +kernel
theorem d_Ch_releaseAll_32 : decode prog_2_method_21_code 32 = .ok (.iload_n 2, 1) := by decide +kernel
theorem d_Ch_releaseAll_33 : decode prog_2_method_21_code 33 = .ok (.invokevirtual 56, 3) := by decide +kernel
theorem d_Ch_releaseAll_36 : decode prog_2_method_21_code 36 = .ok (.checkcast 83, 3) := by decide +kernel
theorem d_Ch_releaseAll_39 : decode prog_2_method_21_code 39 = .ok (.iload_n 1, 1) := by decide +kernel
theorem d_Ch_releaseAll_40 : decode prog_2_method_21_code 40 = .ok (.putfield 144, 3) := by decide +kernel
theorem d_Ch_releaseAll_43 : decode prog_2_method_21_code 43 = .ok (.iinc 2 1, 3) := by decide +kernel
theorem d_Ch_releaseAll_46 : decode prog_2_method_21_code 46 = .ok (.goto (-44), 3) := by decide +kernel
theorem d_Ch_releaseAll_49 : decode prog_2_method_21_code 49 = .ok (.aload_n 0, 1) := by decide +kernel
theorem d_Ch_releaseAll_50 : decode prog_2_method_21_code 50 = .ok (.getfield 18, 3) := by decide +kernel
theorem d_Ch_releaseAll_53 : decode prog_2_method_21_code 53 = .ok (.invokevirtual 147, 3) := by decide +kernel
theorem d_Ch_releaseAll_56 : decode prog_2_method_21_code 56 = .ok (.return_, 1) := by decide +kernel
def y_Ch_releaseAll : MethodName := ⟨"ChannelHall$Channel", "releaseAll", "(I)V"⟩
abbrev rm_Ch_releaseAll : Room := { frames := 3, cells := 0, slots := 0, locals := 64 }
def wp_Ch_releaseAll_2 (G ca : Nat → Nat) (post : hM → Prop) : Nat → hM → Nat → Int32 → Int32 → Prop
  | 0, _, _, _, _ => False
  | n + 1, M, l0b2, l1b2, l2b2 => gR M l0b2 0 5 fun v21 => nN v21 fun b22 => rC M b22 4 (wp_Al_size G ca (fun r23 M24 => (r23 ≤ l2b2 → gR M24 l0b2 0 5 fun v26 => nN v26 fun b27 => rC M24 b27 4 (wp_Al_clear G ca (fun M28 => post M28) M24 b27)) ∧ (¬ r23 ≤ l2b2 → gR M24 l0b2 0 5 fun v29 => nN v29 fun b30 => rC M24 b30 4 (wp_Al_get G ca (fun r31 M32 => cO M32 r31 2 fun b33 => pF M32 b33 2 5 (.null) fun M34 => gR M34 l0b2 0 5 fun v35 => nN v35 fun b36 => rC M34 b36 4 (wp_Al_get G ca (fun r37 M38 => cO M38 r37 2 fun b39 => pF M38 b39 2 2 (.int l1b2) fun M40 => (wp_Ch_releaseAll_2 G ca post n) M40 l0b2 l1b2 (l2b2 + 1)) M34 b36 l2b2)) M24 b30 l2b2))) M b22)
def wp_Ch_releaseAll (G ca : Nat → Nat) (post : hM → Prop) (M : hM) (a0 : Nat) (x1 : Int32) : Prop := ∃ n, wp_Ch_releaseAll_2 G ca post n M a0 x1 0
set_option maxHeartbeats 1000000 in
set_option maxRecDepth 20000 in
theorem l_Ch_releaseAll_2 {p : Program} {l : Launch} {e : Env} {s : State} {m : MethodId} {args : Array Value} {below : List Frame} {meth : Method} {c : Code} {D : va_G} {ca G : Nat → Nat} {A : Nat → Prop} (C0 : hC p s m args meth c D ca G prog_2_method_21_code 3 (none) "ChannelHall$Channel" A) {post : hM → Prop} : ∀ (n : Nat) {M : hM} {H : Heap} {locs : List Loc} {ls : Array Slot} (l0b2 : Nat) (l1b2 : Int32) (l2b2 : Int32) (h : wp_Ch_releaseAll_2 G ca post n M l0b2 l1b2 l2b2) (hW : hw D wCl A M H) (hS : va_S A s.heap H locs) (hl : lv_has ls 3 [(0, .ref l0b2), (1, .int l1b2), (2, .int l2b2)]), W p l e rm_Ch_releaseAll s m args below meth c H locs 0 0 (MQ below (va_Qv post (fun M' t => hw D wCl A M' t.heap) A) args s 0 0 A) (F0 m 2 ls []) := by
  obtain ⟨hx, hb, hr, hml, hown, hts, hlocks, hK, hA, hZ0⟩ := id C0
  intro n
  induction n with
  | zero =>
    intro M H locs ls l0b2 l1b2 l2b2 h
    exact False.elim h
  | succ n ih =>
    intro M H locs ls l0b2 l1b2 l2b2 h hW hS hl
    have hk_2 := fun M H locs ls l0b2 l1b2 l2b2 h hW hS hl => @ih M H locs ls l0b2 l1b2 l2b2 h hW hS hl
    refine lv_iload_n hx hb d_Ch_releaseAll_2 rfl (lv_at hl 2 rfl) ?_
    refine lv_aload_n hx hb d_Ch_releaseAll_3 rfl (lv_at hl 0 rfl) ?_
    obtain ⟨fs, v21, h1, h2, h⟩ := h
    refine va_get (D := D) (ci := 0) (v := va_rf v21) (C := "ChannelHall$Channel") (T := TCh) (N := 10) hx hb hts uCh hown hK (hw_one hW h1) 0 rfl rfl 5 (by decide) (hts _ bw_260) (fun _ h9 => h9) h2 d_Ch_releaseAll_4 ?_
    obtain ⟨b22, rfl, h⟩ := h
    obtain ⟨⟨fs, h1⟩, h⟩ := h
    have h9 := h
    clear h
    have hF := hW.free hS hA
    refine va_calli (va_runV (As := []) (rest := [.int l2b2]) ⟨hx, hb, hml, hown, hts⟩ (c_Al_size _ h9) (cwV 0 hts (gi_V bw_376 bw_377 bw_378 bw_14 bw_379) rfl rfl rfl (by decide +kernel) ⟨Nat.le_of_ble_eq_true rfl, Nat.le_of_ble_eq_true rfl⟩) ⟨hI.blind, hw_recv hK hW h1 rfl, hI.give hW hS hA hK hZ0⟩ rfl rfl hl.1 rfl (lv_room (Nat.le_of_ble_eq_true rfl)) d_Ch_releaseAll_7 ⟨(show _ ≤ 0 by omega), (show _ ≤ 0 by omega)⟩) hS (fun q _ z => hF q z) hF (fun r23 M24 t H locs ht _ h hB1 _ _ hS => ?_)
    have hW := hw_back hF ht hB1
    clear h9
    obtain ⟨h0, h1⟩ := h
    refine lv_icmp_ge (tgt := 49) hx hb d_Ch_releaseAll_10 (by decide) (fun c25 => ?_) (fun c25 => ?_)
    · have h := h0 c25
      refine lv_aload_n hx hb d_Ch_releaseAll_49 rfl (lv_at hl 0 rfl) ?_
      obtain ⟨fs, v26, h1, h2, h⟩ := h
      refine va_get (D := D) (ci := 0) (v := va_rf v26) (C := "ChannelHall$Channel") (T := TCh) (N := 10) hx hb hts uCh hown hK (hw_one hW h1) 0 rfl rfl 5 (by decide) (hts _ bw_260) (fun _ h9 => h9) h2 d_Ch_releaseAll_50 ?_
      obtain ⟨b27, rfl, h⟩ := h
      obtain ⟨⟨fs, h1⟩, h⟩ := h
      have h9 := h
      clear h
      have hF := hW.free hS hA
      refine va_callv (va_runV (As := []) (rest := []) ⟨hx, hb, hml, hown, hts⟩ (c_Al_clear _ h9) (cwV 0 hts (gi_V bw_869 bw_870 bw_871 bw_14 bw_872) rfl rfl rfl (by decide +kernel) ⟨Nat.le_of_ble_eq_true rfl, Nat.le_of_ble_eq_true rfl⟩) ⟨hI.blind, hw_recv hK hW h1 rfl, hI.give hW hS hA hK hZ0⟩ rfl rfl hl.1 rfl (lv_room (Nat.le_of_ble_eq_true rfl)) d_Ch_releaseAll_53 ⟨(show _ ≤ 0 by omega), (show _ ≤ 0 by omega)⟩) hS (fun q _ z => hF q z) hF (fun M28 t H locs ht _ h hB1 _ _ hS => ?_)
      have hW := hw_back hF ht hB1
      clear h9
      exact W.vret hx hb hr (fun t ht hWm => ⟨⟨_, rfl, h, hw_t ht hW⟩, hS.F ht⟩) hS.2.2 d_Ch_releaseAll_56
    · have h := h1 c25
      refine lv_aload_n hx hb d_Ch_releaseAll_13 rfl (lv_at hl 0 rfl) ?_
      obtain ⟨fs, v29, h1, h2, h⟩ := h
      refine va_get (D := D) (ci := 0) (v := va_rf v29) (C := "ChannelHall$Channel") (T := TCh) (N := 10) hx hb hts uCh hown hK (hw_one hW h1) 0 rfl rfl 5 (by decide) (hts _ bw_260) (fun _ h9 => h9) h2 d_Ch_releaseAll_14 ?_
      refine lv_iload_n hx hb d_Ch_releaseAll_17 rfl (lv_at hl 2 rfl) ?_
      obtain ⟨b30, rfl, h⟩ := h
      obtain ⟨⟨fs, h1⟩, h⟩ := h
      have h9 := h
      clear h
      have hF := hW.free hS hA
      refine va_callq (va_runV (As := [.int l2b2]) (rest := []) ⟨hx, hb, hml, hown, hts⟩ (c_Al_get _ h9) (cwV 1 hts (gi_V bw_380 bw_381 bw_382 bw_14 bw_383) rfl rfl rfl (by decide +kernel) ⟨Nat.le_of_ble_eq_true rfl, Nat.le_of_ble_eq_true rfl⟩) ⟨hI.blind, hw_recv hK hW h1 rfl, hI.give hW hS hA hK hZ0⟩ rfl rfl hl.1 rfl (lv_room (Nat.le_of_ble_eq_true rfl)) d_Ch_releaseAll_18 ⟨(show _ ≤ 0 by omega), (show _ ≤ 0 by omega)⟩) hS (fun q _ z => hF q z) hF (fun r31 M32 t H locs ht _ h hB1 _ _ hS => ?_)
      have hW := hw_back hF ht hB1
      clear h9
      obtain ⟨b33, fs, rfl, h1, h⟩ := h
      refine va_castS (cC := D.1 2) hx hb hown (hts _ bw_394) (hK.1 2 _ rfl).2 (hw_recv hK hW h1 rfl) d_Ch_releaseAll_21 ?_
      refine lv_null hx hb d_Ch_releaseAll_24 ?_
      obtain ⟨fs, h1, h2, h⟩ := h
      obtain ⟨ws, q0, hq, hP, hD, hback, -⟩ := hw_open hW h1
      refine va_put (D := D) (ci := 2) (v := .null) (ty := .object "ChannelHall$Channel") (C := "ChannelHall$Worker") (T := TWo) (N := 11) hx hb hts uWo tWo tWo_ok nWo hown hK hP hD hS q0 hq rfl 5 (by decide) (hts _ bw_64) (fun _ h9 => h9) rfl (by decide +kernel) rfl rfl h2 d_Ch_releaseAll_25 (fun H locs hP hD hS => ?_)
      have hW := hback _ _ hP hD
      generalize (va_up M32 b33 (some (.inr (2, fs.set 5 (.null))))) = M34 at h hW
      refine lv_aload_n hx hb d_Ch_releaseAll_28 rfl (lv_at hl 0 rfl) ?_
      obtain ⟨fs, v35, h1, h2, h⟩ := h
      refine va_get (D := D) (ci := 0) (v := va_rf v35) (C := "ChannelHall$Channel") (T := TCh) (N := 10) hx hb hts uCh hown hK (hw_one hW h1) 0 rfl rfl 5 (by decide) (hts _ bw_260) (fun _ h9 => h9) h2 d_Ch_releaseAll_29 ?_
      refine lv_iload_n hx hb d_Ch_releaseAll_32 rfl (lv_at hl 2 rfl) ?_
      obtain ⟨b36, rfl, h⟩ := h
      obtain ⟨⟨fs, h1⟩, h⟩ := h
      have h9 := h
      clear h
      have hF := hW.free hS hA
      refine va_callq (va_runV (As := [.int l2b2]) (rest := []) ⟨hx, hb, hml, hown, hts⟩ (c_Al_get _ h9) (cwV 1 hts (gi_V bw_380 bw_381 bw_382 bw_14 bw_383) rfl rfl rfl (by decide +kernel) ⟨Nat.le_of_ble_eq_true rfl, Nat.le_of_ble_eq_true rfl⟩) ⟨hI.blind, hw_recv hK hW h1 rfl, hI.give hW hS hA hK hZ0⟩ rfl rfl hl.1 rfl (lv_room (Nat.le_of_ble_eq_true rfl)) d_Ch_releaseAll_33 ⟨(show _ ≤ 0 by omega), (show _ ≤ 0 by omega)⟩) hS (fun q _ z => hF q z) hF (fun r37 M38 t H locs ht _ h hB1 _ _ hS => ?_)
      have hW := hw_back hF ht hB1
      clear h9
      obtain ⟨b39, fs, rfl, h1, h⟩ := h
      refine va_castS (cC := D.1 2) hx hb hown (hts _ bw_394) (hK.1 2 _ rfl).2 (hw_recv hK hW h1 rfl) d_Ch_releaseAll_36 ?_
      refine lv_iload_n hx hb d_Ch_releaseAll_39 rfl (lv_at hl 1 rfl) ?_
      obtain ⟨fs, h1, h2, h⟩ := h
      obtain ⟨ws, q0, hq, hP, hD, hback, -⟩ := hw_open hW h1
      refine va_put (D := D) (ci := 2) (v := .int l1b2) (ty := .int) (C := "ChannelHall$Worker") (T := TWo) (N := 11) hx hb hts uWo tWo tWo_ok nWo hown hK hP hD hS q0 hq rfl 2 (by decide) (hts _ bw_57) (fun _ h9 => h9) rfl (by decide +kernel) rfl rfl h2 d_Ch_releaseAll_40 (fun H locs hP hD hS => ?_)
      have hW := hback _ _ hP hD
      generalize (va_up M38 b39 (some (.inr (2, fs.set 2 (.int l1b2))))) = M40 at h hW
      refine lv_iinc (v := l2b2 + 1) (lv' := [(2, .int (l2b2 + 1)), (0, .ref l0b2), (1, .int l1b2)]) hx hb d_Ch_releaseAll_43 hl (k := 2) rfl rfl (by decide) rfl (fun ls hl => ?_)
      refine lv_goto (tgt := 2) hx hb d_Ch_releaseAll_46 (by decide) ?_
      exact hk_2 _ _ _ _ l0b2 l1b2 (l2b2 + 1) h hW hS (lv_sub hl [1, 2, 0] rfl)
set_option maxHeartbeats 1000000 in
set_option maxRecDepth 20000 in
theorem l_Ch_releaseAll_e {p : Program} {l : Launch} {e : Env} {s : State} {m : MethodId} {args : Array Value} {below : List Frame} {meth : Method} {c : Code} {D : va_G} {ca G : Nat → Nat} {A : Nat → Prop} (C0 : hC p s m args meth c D ca G prog_2_method_21_code 3 (none) "ChannelHall$Channel" A) {post : hM → Prop} {M : hM} {H : Heap} {locs : List Loc} {ls : Array Slot} (a0 : Nat) (x1 : Int32) (h : wp_Ch_releaseAll G ca post M a0 x1) (hW : hw D wCl A M H) (hS : va_S A s.heap H locs) (hl : lv_has ls 3 [(0, .ref a0), (1, .int x1)]) : W p l e rm_Ch_releaseAll s m args below meth c H locs 0 0 (MQ below (va_Qv post (fun M' t => hw D wCl A M' t.heap) A) args s 0 0 A) (F0 m 0 ls []) := by
  obtain ⟨hx, hb, hr, hml, hown, hts, hlocks, hK, hA, hZ0⟩ := id C0
  refine lv_iconst (v := 0) hx hb d_Ch_releaseAll_0 (by decide) ?_
  refine lv_istore_n (lv' := [(2, .int 0), (0, .ref a0), (1, .int x1)]) hx hb d_Ch_releaseAll_1 rfl hl (by decide) rfl (fun ls hl => ?_)
  obtain ⟨n, h⟩ := h
  exact l_Ch_releaseAll_2 C0 n a0 x1 0 h hW hS (lv_sub hl [1, 2, 0] rfl)
set_option maxRecDepth 20000 in
theorem c_Ch_releaseAll {l : Launch} {D : va_G} {ca G : Nat → Nat} (post : hM → Prop) {M : hM} {sz : Nat} {a0 : Nat} {x1 : Int32} (h : wp_Ch_releaseAll G ca post M a0 x1) : Met l y_Ch_releaseAll (wz y_Ch_releaseAll prog_2_method_21_code 3 (none)) rm_Ch_releaseAll (va_Pc [.ref a0, .int x1] (hI D ca G sz M)) (va_Qv post (hB D M sz) (hp_A M sz)) 0 0 (hp_A M sz) := by
  refine Met.ofW (cc := prog_2_method_21_code) (maxL := 3) (ret := none) (by decide) rfl ?_
  intro p e s m args below meth c s₁ B hml hv
  obtain ⟨rfl, hsz, hW, hK, hZ0⟩ := hv
  have hts := fun w hw => atoms_spec (ws := wz y_Ch_releaseAll prog_2_method_21_code 3 (none)) B.pre w (List.mem_cons_of_mem _ hw)
  have hown : s.vm.findClass "ChannelHall$Channel" = some m.cls := findClass_of_methodNamed B.named
  subst hsz
  have hl := lv_entry [.ref a0, .int x1] (n := 3) (Nat.le_of_ble_eq_true rfl)
  rw [lg_entry_eq]
  exact l_Ch_releaseAll_e ⟨B.exec, B.bytes, B.returns, hml, hown, hts, B.notSynchronized, hK, fun q h => Or.inr h, hZ0⟩ a0 x1 h hW va_S.rf hl

theorem d_Ch_breakUp_0 : decode prog_2_method_22_code 0 = .ok (.aload_n 0, 1) := by decide +kernel
theorem d_Ch_breakUp_1 : decode prog_2_method_22_code 1 = .ok (.iconst 1, 1) := by decide +kernel
theorem d_Ch_breakUp_2 : decode prog_2_method_22_code 2 = .ok (.putfield 21, 3) := by decide +kernel
theorem d_Ch_breakUp_5 : decode prog_2_method_22_code 5 = .ok (.aload_n 0, 1) := by decide +kernel
theorem d_Ch_breakUp_6 : decode prog_2_method_22_code 6 = .ok (.iconst 4, 1) := by decide +kernel
theorem d_Ch_breakUp_7 : decode prog_2_method_22_code 7 = .ok (.invokevirtual 150, 3) := by decide +kernel
theorem d_Ch_breakUp_10 : decode prog_2_method_22_code 10 = .ok (.return_, 1) := by decide +kernel
def y_Ch_breakUp : MethodName := ⟨"ChannelHall$Channel", "breakUp", "()V"⟩
abbrev rm_Ch_breakUp : Room := { frames := 4, cells := 0, slots := 0, locals := 86 }
def wp_Ch_breakUp (G ca : Nat → Nat) (post : hM → Prop) (M : hM) (a0 : Nat) : Prop := pF M a0 0 6 (.int 1) fun M3 => rC M3 a0 0 (wp_Ch_releaseAll G ca (fun M4 => post M4) M3 a0 4)
set_option maxHeartbeats 1000000 in
set_option maxRecDepth 20000 in
theorem l_Ch_breakUp_e {p : Program} {l : Launch} {e : Env} {s : State} {m : MethodId} {args : Array Value} {below : List Frame} {meth : Method} {c : Code} {D : va_G} {ca G : Nat → Nat} {A : Nat → Prop} (C0 : hC p s m args meth c D ca G prog_2_method_22_code 1 (none) "ChannelHall$Channel" A) {post : hM → Prop} {M : hM} {H : Heap} {locs : List Loc} {ls : Array Slot} (a0 : Nat) (h : wp_Ch_breakUp G ca post M a0) (hW : hw D wCl A M H) (hS : va_S A s.heap H locs) (hl : lv_has ls 1 [(0, .ref a0)]) : W p l e rm_Ch_breakUp s m args below meth c H locs 0 0 (MQ below (va_Qv post (fun M' t => hw D wCl A M' t.heap) A) args s 0 0 A) (F0 m 0 ls []) := by
  obtain ⟨hx, hb, hr, hml, hown, hts, hlocks, hK, hA, hZ0⟩ := id C0
  refine lv_aload_n hx hb d_Ch_breakUp_0 rfl (lv_at hl 0 rfl) ?_
  refine lv_iconst (v := 1) hx hb d_Ch_breakUp_1 (by decide) ?_
  obtain ⟨fs, h1, h2, h⟩ := h
  obtain ⟨ws, q0, hq, hP, hD, hback, -⟩ := hw_open hW h1
  refine va_put (D := D) (ci := 0) (v := .int 1) (ty := .boolean) (C := "ChannelHall$Channel") (T := TCh) (N := 10) hx hb hts uCh tCh tCh_ok nCh hown hK hP hD hS q0 hq rfl 6 (by decide) (hts _ bw_262) (fun _ h9 => h9) rfl (by decide +kernel) (by decide) (by decide) h2 d_Ch_breakUp_2 (fun H locs hP hD hS => ?_)
  have hW := hback _ _ hP hD
  generalize (va_up M a0 (some (.inr (0, fs.set 6 (.int 1))))) = M3 at h hW
  refine lv_aload_n hx hb d_Ch_breakUp_5 rfl (lv_at hl 0 rfl) ?_
  refine lv_iconst (v := 4) hx hb d_Ch_breakUp_6 (by decide) ?_
  obtain ⟨⟨fs, h1⟩, h⟩ := h
  have h9 := h
  clear h
  have hF := hW.free hS hA
  refine va_callv (va_runV (As := [.int 4]) (rest := []) ⟨hx, hb, hml, hown, hts⟩ (c_Ch_releaseAll _ h9) (cwV 1 hts (gi_V bw_865 bw_866 bw_867 bw_11 bw_868) rfl rfl rfl (by decide +kernel) ⟨Nat.le_of_ble_eq_true rfl, Nat.le_of_ble_eq_true rfl⟩) ⟨hI.blind, hw_recv hK hW h1 rfl, hI.give hW hS hA hK hZ0⟩ rfl rfl hl.1 rfl (lv_room (Nat.le_of_ble_eq_true rfl)) d_Ch_breakUp_7 ⟨(show _ ≤ 0 by omega), (show _ ≤ 0 by omega)⟩) hS (fun q _ z => hF q z) hF (fun M4 t H locs ht _ h hB1 _ _ hS => ?_)
  have hW := hw_back hF ht hB1
  clear h9
  exact W.vret hx hb hr (fun t ht hWm => ⟨⟨_, rfl, h, hw_t ht hW⟩, hS.F ht⟩) hS.2.2 d_Ch_breakUp_10
set_option maxRecDepth 20000 in
theorem c_Ch_breakUp {l : Launch} {D : va_G} {ca G : Nat → Nat} (post : hM → Prop) {M : hM} {sz : Nat} {a0 : Nat} (h : wp_Ch_breakUp G ca post M a0) : Met l y_Ch_breakUp (wz y_Ch_breakUp prog_2_method_22_code 1 (none)) rm_Ch_breakUp (va_Pc [.ref a0] (hI D ca G sz M)) (va_Qv post (hB D M sz) (hp_A M sz)) 0 0 (hp_A M sz) := by
  refine Met.ofW (cc := prog_2_method_22_code) (maxL := 1) (ret := none) (by decide) rfl ?_
  intro p e s m args below meth c s₁ B hml hv
  obtain ⟨rfl, hsz, hW, hK, hZ0⟩ := hv
  have hts := fun w hw => atoms_spec (ws := wz y_Ch_breakUp prog_2_method_22_code 1 (none)) B.pre w (List.mem_cons_of_mem _ hw)
  have hown : s.vm.findClass "ChannelHall$Channel" = some m.cls := findClass_of_methodNamed B.named
  subst hsz
  have hl := lv_entry [.ref a0] (n := 1) (Nat.le_of_ble_eq_true rfl)
  rw [lg_entry_eq]
  exact l_Ch_breakUp_e ⟨B.exec, B.bytes, B.returns, hml, hown, hts, B.notSynchronized, hK, fun q h => Or.inr h, hZ0⟩ a0 h hW va_S.rf hl

theorem d_Ch_handOver_0 : decode prog_2_method_18_code 0 = .ok (.aload_n 2, 1) := by decide +kernel
theorem d_Ch_handOver_1 : decode prog_2_method_18_code 1 = .ok (.iload_n 1, 1) := by decide +kernel
theorem d_Ch_handOver_2 : decode prog_2_method_18_code 2 = .ok (.invokevirtual 129, 3) := by decide +kernel
theorem d_Ch_handOver_5 : decode prog_2_method_18_code 5 = .ok (.aload_n 0, 1) := by decide +kernel
theorem d_Ch_handOver_6 : decode prog_2_method_18_code 6 = .ok (.dconst 0, 1) := by decide +kernel
theorem d_Ch_handOver_7 : decode prog_2_method_18_code 7 = .ok (.invokevirtual 136, 3) := by decide +kernel
theorem d_Ch_handOver_10 : decode prog_2_method_18_code 10 = .ok (.return_, 1) := by decide +kernel
def y_Ch_handOver : MethodName := ⟨"ChannelHall$Channel", "handOver", "(ILChannelHall$Worker;)V"⟩
abbrev rm_Ch_handOver : Room := { frames := 1, cells := 0, slots := 0, locals := 22 }
def wp_Ch_handOver (G ca : Nat → Nat) (post : hM → Prop) (M : hM) (a0 : Nat) (x1 : Int32) (a2 : Option Nat) : Prop := nN a2 fun b4 => rC M b4 2 (wp_Wo_receive G ca (fun M5 => rC M5 a0 0 (wp_Ch_addStay G ca (fun M6 => post M6) M5 a0 FP.dconst0)) M b4 x1)
set_option maxHeartbeats 1000000 in
set_option maxRecDepth 20000 in
theorem l_Ch_handOver_e {p : Program} {l : Launch} {e : Env} {s : State} {m : MethodId} {args : Array Value} {below : List Frame} {meth : Method} {c : Code} {D : va_G} {ca G : Nat → Nat} {A : Nat → Prop} (C0 : hC p s m args meth c D ca G prog_2_method_18_code 3 (none) "ChannelHall$Channel" A) {post : hM → Prop} {M : hM} {H : Heap} {locs : List Loc} {ls : Array Slot} (a0 : Nat) (x1 : Int32) (a2 : Option Nat) (h : wp_Ch_handOver G ca post M a0 x1 a2) (hW : hw D wCl A M H) (hS : va_S A s.heap H locs) (hl : lv_has ls 3 [(0, .ref a0), (1, .int x1), (2, va_rf a2)]) : W p l e rm_Ch_handOver s m args below meth c H locs 0 0 (MQ below (va_Qv post (fun M' t => hw D wCl A M' t.heap) A) args s 0 0 A) (F0 m 0 ls []) := by
  obtain ⟨hx, hb, hr, hml, hown, hts, hlocks, hK, hA, hZ0⟩ := id C0
  refine lq_load_n hx hb d_Ch_handOver_0 rfl (lv_at hl 2 rfl) ?_
  refine lv_iload_n hx hb d_Ch_handOver_1 rfl (lv_at hl 1 rfl) ?_
  obtain ⟨b4, rfl, h⟩ := h
  obtain ⟨⟨fs, h1⟩, h⟩ := h
  have h9 := h
  clear h
  have hF := hW.free hS hA
  refine va_callv (va_runV (As := [.int x1]) (rest := []) ⟨hx, hb, hml, hown, hts⟩ (c_Wo_receive _ h9) (cwV 1 hts (gi_V bw_771 bw_772 bw_773 bw_2 bw_774) rfl rfl rfl (by decide +kernel) ⟨Nat.le_of_ble_eq_true rfl, Nat.le_of_ble_eq_true rfl⟩) ⟨hI.blind, hw_recv hK hW h1 rfl, hI.give hW hS hA hK hZ0⟩ rfl rfl hl.1 rfl (lv_room (Nat.le_of_ble_eq_true rfl)) d_Ch_handOver_2 ⟨(show _ ≤ 0 by omega), (show _ ≤ 0 by omega)⟩) hS (fun q _ z => hF q z) hF (fun M5 t H locs ht _ h hB1 _ _ hS => ?_)
  have hW := hw_back hF ht hB1
  clear h9
  refine lv_aload_n hx hb d_Ch_handOver_5 rfl (lv_at hl 0 rfl) ?_
  refine lv_dconst0 hx hb d_Ch_handOver_6 ?_
  obtain ⟨⟨fs, h1⟩, h⟩ := h
  have h9 := h
  clear h
  have hF := hW.free hS hA
  refine va_callv (va_runV (As := [.double FP.dconst0]) (rest := []) ⟨hx, hb, hml, hown, hts⟩ (c_Ch_addStay _ h9) (cwV 1 hts (gi_V bw_775 bw_777 bs_11 bw_11 bw_778) rfl rfl rfl (by decide +kernel) ⟨Nat.le_of_ble_eq_true rfl, Nat.le_of_ble_eq_true rfl⟩) ⟨hI.blind, hw_recv hK hW h1 rfl, hI.give hW hS hA hK hZ0⟩ rfl rfl hl.1 rfl (lv_room (Nat.le_of_ble_eq_true rfl)) d_Ch_handOver_7 ⟨(show _ ≤ 0 by omega), (show _ ≤ 0 by omega)⟩) hS (fun q _ z => hF q z) hF (fun M6 t H locs ht _ h hB1 _ _ hS => ?_)
  have hW := hw_back hF ht hB1
  clear h9
  exact W.vret hx hb hr (fun t ht hWm => ⟨⟨_, rfl, h, hw_t ht hW⟩, hS.F ht⟩) hS.2.2 d_Ch_handOver_10
set_option maxRecDepth 20000 in
theorem c_Ch_handOver {l : Launch} {D : va_G} {ca G : Nat → Nat} (post : hM → Prop) {M : hM} {sz : Nat} {a0 : Nat} {x1 : Int32} {a2 : Option Nat} (h : wp_Ch_handOver G ca post M a0 x1 a2) : Met l y_Ch_handOver (wz y_Ch_handOver prog_2_method_18_code 3 (none)) rm_Ch_handOver (va_Pc [.ref a0, .int x1, va_rf a2] (hI D ca G sz M)) (va_Qv post (hB D M sz) (hp_A M sz)) 0 0 (hp_A M sz) := by
  refine Met.ofW (cc := prog_2_method_18_code) (maxL := 3) (ret := none) (by decide) rfl ?_
  intro p e s m args below meth c s₁ B hml hv
  obtain ⟨rfl, hsz, hW, hK, hZ0⟩ := hv
  have hts := fun w hw => atoms_spec (ws := wz y_Ch_handOver prog_2_method_18_code 3 (none)) B.pre w (List.mem_cons_of_mem _ hw)
  have hown : s.vm.findClass "ChannelHall$Channel" = some m.cls := findClass_of_methodNamed B.named
  subst hsz
  have hl : lv_has ((lg_sl [.ref a0, .int x1, va_rf a2] ++ List.replicate (3 - (lg_sl [.ref a0, .int x1, va_rf a2]).length) Slot.unset).toArray) 3 [(0, .ref a0), (1, .int x1), (2, va_rf a2)] := by cases a2 <;> exact lv_entry _ (Nat.le_of_ble_eq_true rfl)
  rw [lg_entry_eq]
  exact l_Ch_handOver_e ⟨B.exec, B.bytes, B.returns, hml, hown, hts, B.notSynchronized, hK, fun q h => Or.inr h, hZ0⟩ a0 x1 a2 h hW va_S.rf hl

theorem d_Ch_handFirst_0 : decode prog_2_method_17_code 0 = .ok (.aload_n 0, 1) := by decide +kernel
theorem d_Ch_handFirst_1 : decode prog_2_method_17_code 1 = .ok (.getfield 12, 3) := by decide +kernel
theorem d_Ch_handFirst_4 : decode prog_2_method_17_code 4 = .ok (.invokevirtual 52, 3) := by decide +kernel
theorem d_Ch_handFirst_7 : decode prog_2_method_17_code 7 = .ok (.ifCond .eq 4, 3) := by decide +kernel
theorem d_Ch_handFirst_10 : decode prog_2_method_17_code 10 = .ok (.return_, 1) := by decide +kernel
theorem d_Ch_handFirst_11 : decode prog_2_method_17_code 11 = .ok (.aload_n 0, 1) := by decide +kernel
theorem d_Ch_handFirst_12 : decode prog_2_method_17_code 12 = .ok (.getfield 12, 3) := by decide +kernel
theorem d_Ch_handFirst_15 : decode prog_2_method_17_code 15 = .ok (.iconst 0, 1) := by decide +kernel
theorem d_Ch_handFirst_16 : decode prog_2_method_17_code 16 = .ok (.invokevirtual 123, 3) := by decide +kernel
theorem d_Ch_handFirst_19 : decode prog_2_method_17_code 19 = .ok (.checkcast 60, 3) := by decide +kernel
theorem d_Ch_handFirst_22 : decode prog_2_method_17_code 22 = .ok (.astore 4, 2) := by decide +kernel
theorem d_Ch_handFirst_24 : decode prog_2_method_17_code 24 = .ok (.aload_n 1, 1) := by decide +kernel
theorem d_Ch_handFirst_25 : decode prog_2_method_17_code 25 = .ok (.aload 4, 2) := by decide +kernel
theorem d_Ch_handFirst_27 : decode prog_2_method_17_code 27 = .ok (.getfield 126, 3) := by decide +kernel
theorem d_Ch_handFirst_30 : decode prog_2_method_17_code 30 = .ok (.invokevirtual 129, 3) := by decide +kernel
theorem d_Ch_handFirst_33 : decode prog_2_method_17_code 33 = .ok (.aload_n 0, 1) := by decide +kernel
theorem d_Ch_handFirst_34 : decode prog_2_method_17_code 34 = .ok (.dload_n 2, 1) := by decide +kernel
theorem d_Ch_handFirst_35 : decode prog_2_method_17_code 35 = .ok (.aload 4, 2) := by decide +kernel
theorem d_Ch_handFirst_37 : decode prog_2_method_17_code 37 = .ok (.getfield 133, 3) := by decide +kernel
theorem d_Ch_handFirst_40 : decode prog_2_method_17_code 40 = .ok (.dsub, 1) := by decide +kernel
theorem d_Ch_handFirst_41 : decode prog_2_method_17_code 41 = .ok (.invokevirtual 136, 3) := by decide +kernel
theorem d_Ch_handFirst_44 : decode prog_2_method_17_code 44 = .ok (.return_, 1) := by decide +kernel
def y_Ch_handFirst : MethodName := ⟨"ChannelHall$Channel", "handFirst", "(LChannelHall$Worker;D)V"⟩
abbrev rm_Ch_handFirst : Room := { frames := 3, cells := 0, slots := 0, locals := 86 }
def wp_Ch_handFirst (G ca : Nat → Nat) (post : hM → Prop) (M : hM) (a0 : Nat) (a1 : Option Nat) (x2 : UInt64) : Prop := gR M a0 0 4 fun v16 => nN v16 fun b17 => rC M b17 4 (wp_Al_isEmpty G ca (fun r18 M19 => (r18 = 0 → gR M19 a0 0 4 fun v21 => nN v21 fun b22 => rC M19 b22 4 (wp_Al_remove G ca (fun r23 M24 => cO M24 r23 1 fun b25 => gI M24 b25 1 0 fun v26 => nN a1 fun b27 => rC M24 b27 2 (wp_Wo_receive G ca (fun M28 => gD M28 b25 1 2 fun v29 => nD (FP.dsub x2 v29) (rC M28 a0 0 (wp_Ch_addStay G ca (fun M30 => post M30) M28 a0 (FP.dsub x2 v29)))) M24 b27 v26)) M19 b22 0)) ∧ (¬ r18 = 0 → post M19)) M b17)
set_option maxHeartbeats 1000000 in
set_option maxRecDepth 20000 in
theorem l_Ch_handFirst_e {p : Program} {l : Launch} {e : Env} {s : State} {m : MethodId} {args : Array Value} {below : List Frame} {meth : Method} {c : Code} {D : va_G} {ca G : Nat → Nat} {A : Nat → Prop} (C0 : hC p s m args meth c D ca G prog_2_method_17_code 5 (none) "ChannelHall$Channel" A) {post : hM → Prop} {M : hM} {H : Heap} {locs : List Loc} {ls : Array Slot} (a0 : Nat) (a1 : Option Nat) (x2 : UInt64) (h : wp_Ch_handFirst G ca post M a0 a1 x2) (hW : hw D wCl A M H) (hS : va_S A s.heap H locs) (hl : lv_has ls 5 [(0, .ref a0), (1, va_rf a1), (2, .double x2)]) : W p l e rm_Ch_handFirst s m args below meth c H locs 0 0 (MQ below (va_Qv post (fun M' t => hw D wCl A M' t.heap) A) args s 0 0 A) (F0 m 0 ls []) := by
  obtain ⟨hx, hb, hr, hml, hown, hts, hlocks, hK, hA, hZ0⟩ := id C0
  refine lv_aload_n hx hb d_Ch_handFirst_0 rfl (lv_at hl 0 rfl) ?_
  obtain ⟨fs, v16, h1, h2, h⟩ := h
  refine va_get (D := D) (ci := 0) (v := va_rf v16) (C := "ChannelHall$Channel") (T := TCh) (N := 10) hx hb hts uCh hown hK (hw_one hW h1) 0 rfl rfl 4 (by decide) (hts _ bw_258) (fun _ h9 => h9) h2 d_Ch_handFirst_1 ?_
  obtain ⟨b17, rfl, h⟩ := h
  obtain ⟨⟨fs, h1⟩, h⟩ := h
  have h9 := h
  clear h
  have hF := hW.free hS hA
  refine va_calli (va_runV (As := []) (rest := []) ⟨hx, hb, hml, hown, hts⟩ (c_Al_isEmpty _ h9) (cwV 0 hts (gi_V bw_803 bw_804 bw_805 bw_14 bw_806) rfl rfl rfl (by decide +kernel) ⟨Nat.le_of_ble_eq_true rfl, Nat.le_of_ble_eq_true rfl⟩) ⟨hI.blind, hw_recv hK hW h1 rfl, hI.give hW hS hA hK hZ0⟩ rfl rfl hl.1 rfl (lv_room (Nat.le_of_ble_eq_true rfl)) d_Ch_handFirst_4 ⟨(show _ ≤ 0 by omega), (show _ ≤ 0 by omega)⟩) hS (fun q _ z => hF q z) hF (fun r18 M19 t H locs ht _ h hB1 _ _ hS => ?_)
  have hW := hw_back hF ht hB1
  clear h9
  obtain ⟨h0, h1⟩ := h
  refine lv_if_eq (tgt := 11) hx hb d_Ch_handFirst_7 (by decide) (fun c20 => ?_) (fun c20 => ?_)
  · have h := h0 c20
    refine lv_aload_n hx hb d_Ch_handFirst_11 rfl (lv_at hl 0 rfl) ?_
    obtain ⟨fs, v21, h1, h2, h⟩ := h
    refine va_get (D := D) (ci := 0) (v := va_rf v21) (C := "ChannelHall$Channel") (T := TCh) (N := 10) hx hb hts uCh hown hK (hw_one hW h1) 0 rfl rfl 4 (by decide) (hts _ bw_258) (fun _ h9 => h9) h2 d_Ch_handFirst_12 ?_
    refine lv_iconst (v := 0) hx hb d_Ch_handFirst_15 (by decide) ?_
    obtain ⟨b22, rfl, h⟩ := h
    obtain ⟨⟨fs, h1⟩, h⟩ := h
    have h9 := h
    clear h
    have hF := hW.free hS hA
    refine va_callq (va_runV (As := [.int 0]) (rest := []) ⟨hx, hb, hml, hown, hts⟩ (c_Al_remove _ h9) (cwV 1 hts (gi_V bw_783 bw_784 bw_785 bw_14 bw_786) rfl rfl rfl (by decide +kernel) ⟨Nat.le_of_ble_eq_true rfl, Nat.le_of_ble_eq_true rfl⟩) ⟨hI.blind, hw_recv hK hW h1 rfl, hI.give hW hS hA hK hZ0⟩ rfl rfl hl.1 rfl (lv_room (Nat.le_of_ble_eq_true rfl)) d_Ch_handFirst_16 ⟨(show _ ≤ 0 by omega), (show _ ≤ 0 by omega)⟩) hS (fun q _ z => hF q z) hF (fun r23 M24 t H locs ht _ h hB1 _ _ hS => ?_)
    have hW := hw_back hF ht hB1
    clear h9
    obtain ⟨b25, fs, rfl, h1, h⟩ := h
    refine va_castS (cC := D.1 1) hx hb hown (hts _ bw_476) (hK.1 1 _ rfl).2 (hw_recv hK hW h1 rfl) d_Ch_handFirst_19 ?_
    refine lv_astore (lv' := [(4, .ref b25), (0, .ref a0), (1, va_rf a1), (2, .double x2)]) hx hb d_Ch_handFirst_22 hl (by decide) rfl (fun ls hl => ?_)
    refine lq_load_n hx hb d_Ch_handFirst_24 rfl (lv_at hl 2 rfl) ?_
    refine lv_aload hx hb d_Ch_handFirst_25 (lv_at hl 0 rfl) ?_
    obtain ⟨fs, v26, h1, h2, h⟩ := h
    refine va_get (D := D) (ci := 1) (v := .int v26) (C := "ChannelHall$Item") (T := TIt) (N := 3) hx hb hts uIt hown hK (hw_one hW h1) 0 rfl rfl 0 (by decide) (hts _ bw_484) (fun _ h9 => h9) h2 d_Ch_handFirst_27 ?_
    obtain ⟨b27, rfl, h⟩ := h
    obtain ⟨⟨fs, h1⟩, h⟩ := h
    have h9 := h
    clear h
    have hF := hW.free hS hA
    refine va_callv (va_runV (As := [.int v26]) (rest := []) ⟨hx, hb, hml, hown, hts⟩ (c_Wo_receive _ h9) (cwV 1 hts (gi_V bw_771 bw_772 bw_773 bw_2 bw_774) rfl rfl rfl (by decide +kernel) ⟨Nat.le_of_ble_eq_true rfl, Nat.le_of_ble_eq_true rfl⟩) ⟨hI.blind, hw_recv hK hW h1 rfl, hI.give hW hS hA hK hZ0⟩ rfl rfl hl.1 rfl (lv_room (Nat.le_of_ble_eq_true rfl)) d_Ch_handFirst_30 ⟨(show _ ≤ 0 by omega), (show _ ≤ 0 by omega)⟩) hS (fun q _ z => hF q z) hF (fun M28 t H locs ht _ h hB1 _ _ hS => ?_)
    have hW := hw_back hF ht hB1
    clear h9
    refine lv_aload_n hx hb d_Ch_handFirst_33 rfl (lv_at hl 1 rfl) ?_
    refine lv_dload_n hx hb d_Ch_handFirst_34 rfl (lv_at hl 3 rfl) ?_
    refine lv_aload hx hb d_Ch_handFirst_35 (lv_at hl 0 rfl) ?_
    obtain ⟨fs, v29, h1, h2, h⟩ := h
    refine va_get (D := D) (ci := 1) (v := .double v29) (C := "ChannelHall$Item") (T := TIt) (N := 3) hx hb hts uIt hown hK (hw_one hW h1) 0 rfl rfl 2 (by decide) (hts _ bw_488) (fun _ h9 => h9) h2 d_Ch_handFirst_37 ?_
    obtain ⟨hn, h⟩ := h
    refine lv_dsub hx hb d_Ch_handFirst_40 hn ?_
    obtain ⟨⟨fs, h1⟩, h⟩ := h
    have h9 := h
    clear h
    have hF := hW.free hS hA
    refine va_callv (va_runV (As := [.double (FP.dsub x2 v29)]) (rest := []) ⟨hx, hb, hml, hown, hts⟩ (c_Ch_addStay _ h9) (cwV 1 hts (gi_V bw_775 bw_777 bs_11 bw_11 bw_778) rfl rfl rfl (by decide +kernel) ⟨Nat.le_of_ble_eq_true rfl, Nat.le_of_ble_eq_true rfl⟩) ⟨hI.blind, hw_recv hK hW h1 rfl, hI.give hW hS hA hK hZ0⟩ rfl rfl hl.1 rfl (lv_room (Nat.le_of_ble_eq_true rfl)) d_Ch_handFirst_41 ⟨(show _ ≤ 0 by omega), (show _ ≤ 0 by omega)⟩) hS (fun q _ z => hF q z) hF (fun M30 t H locs ht _ h hB1 _ _ hS => ?_)
    have hW := hw_back hF ht hB1
    clear h9
    exact W.vret hx hb hr (fun t ht hWm => ⟨⟨_, rfl, h, hw_t ht hW⟩, hS.F ht⟩) hS.2.2 d_Ch_handFirst_44
  · have h := h1 c20
    exact W.vret hx hb hr (fun t ht hWm => ⟨⟨_, rfl, h, hw_t ht hW⟩, hS.F ht⟩) hS.2.2 d_Ch_handFirst_10
set_option maxRecDepth 20000 in
theorem c_Ch_handFirst {l : Launch} {D : va_G} {ca G : Nat → Nat} (post : hM → Prop) {M : hM} {sz : Nat} {a0 : Nat} {a1 : Option Nat} {x2 : UInt64} (h : wp_Ch_handFirst G ca post M a0 a1 x2) : Met l y_Ch_handFirst (wz y_Ch_handFirst prog_2_method_17_code 5 (none)) rm_Ch_handFirst (va_Pc [.ref a0, va_rf a1, .double x2] (hI D ca G sz M)) (va_Qv post (hB D M sz) (hp_A M sz)) 0 0 (hp_A M sz) := by
  refine Met.ofW (cc := prog_2_method_17_code) (maxL := 5) (ret := none) (by decide) rfl ?_
  intro p e s m args below meth c s₁ B hml hv
  obtain ⟨rfl, hsz, hW, hK, hZ0⟩ := hv
  have hts := fun w hw => atoms_spec (ws := wz y_Ch_handFirst prog_2_method_17_code 5 (none)) B.pre w (List.mem_cons_of_mem _ hw)
  have hown : s.vm.findClass "ChannelHall$Channel" = some m.cls := findClass_of_methodNamed B.named
  subst hsz
  have hl : lv_has ((lg_sl [.ref a0, va_rf a1, .double x2] ++ List.replicate (5 - (lg_sl [.ref a0, va_rf a1, .double x2]).length) Slot.unset).toArray) 5 [(0, .ref a0), (1, va_rf a1), (2, .double x2)] := by cases a1 <;> exact lv_entry _ (Nat.le_of_ble_eq_true rfl)
  rw [lg_entry_eq]
  exact l_Ch_handFirst_e ⟨B.exec, B.bytes, B.returns, hml, hown, hts, B.notSynchronized, hK, fun q h => Or.inr h, hZ0⟩ a0 a1 x2 h hW va_S.rf hl

theorem d_Ch_put_0 : decode prog_2_method_16_code 0 = .ok (.aload_n 0, 1) := by decide +kernel
theorem d_Ch_put_1 : decode prog_2_method_16_code 1 = .ok (.getfield 12, 3) := by decide +kernel
theorem d_Ch_put_4 : decode prog_2_method_16_code 4 = .ok (.invokevirtual 79, 3) := by decide +kernel
theorem d_Ch_put_7 : decode prog_2_method_16_code 7 = .ok (.istore 6, 2) := by decide +kernel
theorem d_Ch_put_9 : decode prog_2_method_16_code 9 = .ok (.iload 6, 2) := by decide +kernel
theorem d_Ch_put_11 : decode prog_2_method_16_code 11 = .ok (.ifCond .le 31, 3) := by decide +kernel
theorem d_Ch_put_14 : decode prog_2_method_16_code 14 = .ok (.aload_n 0, 1) := by decide +kernel
theorem d_Ch_put_15 : decode prog_2_method_16_code 15 = .ok (.getfield 12, 3) := by decide +kernel
theorem d_Ch_put_18 : decode prog_2_method_16_code 18 = .ok (.iload 6, 2) := by decide +kernel
theorem d_Ch_put_20 : decode prog_2_method_16_code 20 = .ok (.iconst 1, 1) := by decide +kernel
theorem d_Ch_put_21 : decode prog_2_method_16_code 21 = .ok (.isub, 1) := by decide +kernel
theorem d_Ch_put_22 : decode prog_2_method_16_code 22 = .ok (.invokevirtual 56, 3) := by decide +kernel
theorem d_Ch_put_25 : decode prog_2_method_16_code 25 = .ok (.checkcast 60, 3) := by decide +kernel
theorem d_Ch_put_28 : decode prog_2_method_16_code 28 = .ok (.getfield 62, 3) := by decide +kernel
theorem d_Ch_put_31 : decode prog_2_method_16_code 31 = .ok (.dload_n 2, 1) := by decide +kernel
theorem d_Ch_put_32 : decode prog_2_method_16_code 32 = .ok (.dcmp .l, 1) := by decide +kernel
theorem d_Ch_put_33 : decode prog_2_method_16_code 33 = .ok (.ifCond .le 9, 3) := by decide +kernel
theorem d_Ch_put_36 : decode prog_2_method_16_code 36 = .ok (.iinc 6 (-1), 3) := by decide +kernel
theorem d_Ch_put_39 : decode prog_2_method_16_code 39 = .ok (.goto (-30), 3) := by decide +kernel
theorem d_Ch_put_42 : decode prog_2_method_16_code 42 = .ok (.aload_n 0, 1) := by decide +kernel
theorem d_Ch_put_43 : decode prog_2_method_16_code 43 = .ok (.getfield 12, 3) := by decide +kernel
theorem d_Ch_put_46 : decode prog_2_method_16_code 46 = .ok (.iload 6, 2) := by decide +kernel
theorem d_Ch_put_48 : decode prog_2_method_16_code 48 = .ok (.new 60, 3) := by decide +kernel
theorem d_Ch_put_51 : decode prog_2_method_16_code 51 = .ok (.dup, 1) := by decide +kernel
theorem d_Ch_put_52 : decode prog_2_method_16_code 52 = .ok (.iload_n 1, 1) := by decide +kernel
theorem d_Ch_put_53 : decode prog_2_method_16_code 53 = .ok (.dload_n 2, 1) := by decide +kernel
theorem d_Ch_put_54 : decode prog_2_method_16_code 54 = .ok (.dload 4, 2) := by decide +kernel
theorem d_Ch_put_56 : decode prog_2_method_16_code 56 = .ok (.invokespecial 117, 3) := by decide +kernel
theorem d_Ch_put_59 : decode prog_2_method_16_code 59 = .ok (.invokevirtual 119, 3) := by decide +kernel
theorem d_Ch_put_62 : decode prog_2_method_16_code 62 = .ok (.return_, 1) := by decide +kernel
def y_Ch_put : MethodName := ⟨"ChannelHall$Channel", "put", "(IDD)V"⟩
abbrev rm_Ch_put : Room := { frames := 6, cells := 2, slots := 25, locals := 151 }
def wp_Ch_put_42 (G ca : Nat → Nat) (post : hM → Prop) (M : hM) (l0b42 : Nat) (l1b42 : Int32) (l2b42 : UInt64) (l4b42 : UInt64) (l6b42 : Int32) : Prop := gR M l0b42 0 4 fun v19 => nO M (.inr (1, [.int 0, .double FP.dconst0, .double FP.dconst0])) fun q20 M21 => wp_It_init G ca (fun M22 => nN v19 fun b23 => rC M22 b23 4 (wp_Al_add_IObject G ca (fun M24 => post M24) M22 b23 l6b42 (some q20))) M21 q20 l1b42 l2b42 l4b42
def wp_Ch_put_9 (G ca : Nat → Nat) (post : hM → Prop) : Nat → hM → Nat → Int32 → UInt64 → UInt64 → Int32 → Prop
  | 0, _, _, _, _, _, _ => False
  | n + 1, M, l0b9, l1b9, l2b9, l4b9, l6b9 => (l6b9 ≤ 0 → wp_Ch_put_42 G ca post M l0b9 l1b9 l2b9 l4b9 l6b9) ∧ (¬ l6b9 ≤ 0 → gR M l0b9 0 4 fun v26 => nN v26 fun b27 => rC M b27 4 (wp_Al_get G ca (fun r28 M29 => cO M29 r28 1 fun b30 => gD M29 b30 1 1 fun v31 => ((Op.cmpValue (FP.dcmp v31 l2b9) .l) ≤ 0 → wp_Ch_put_42 G ca post M29 l0b9 l1b9 l2b9 l4b9 l6b9) ∧ (¬ (Op.cmpValue (FP.dcmp v31 l2b9) .l) ≤ 0 → (wp_Ch_put_9 G ca post n) M29 l0b9 l1b9 l2b9 l4b9 (l6b9 + (-1)))) M b27 (l6b9 - 1)))
def wp_Ch_put (G ca : Nat → Nat) (post : hM → Prop) (M : hM) (a0 : Nat) (x1 : Int32) (x2 : UInt64) (x4 : UInt64) : Prop := gR M a0 0 4 fun v33 => nN v33 fun b34 => rC M b34 4 (wp_Al_size G ca (fun r35 M36 => ∃ n, wp_Ch_put_9 G ca post n M36 a0 x1 x2 x4 r35) M b34)
set_option maxHeartbeats 1000000 in
set_option maxRecDepth 20000 in
theorem l_Ch_put_42 {p : Program} {l : Launch} {e : Env} {s : State} {m : MethodId} {args : Array Value} {below : List Frame} {meth : Method} {c : Code} {D : va_G} {ca G : Nat → Nat} {A : Nat → Prop} (C0 : hC p s m args meth c D ca G prog_2_method_16_code 7 (none) "ChannelHall$Channel" A) {post : hM → Prop} {M : hM} {H : Heap} {locs : List Loc} {ls : Array Slot} {cells slots : Nat} (l0b42 : Nat) (l1b42 : Int32) (l2b42 : UInt64) (l4b42 : UInt64) (l6b42 : Int32) (hc : cells ≤ 0) (hs : slots ≤ 0) (h : wp_Ch_put_42 G ca post M l0b42 l1b42 l2b42 l4b42 l6b42) (hW : hw D wCl A M H) (hS : va_S A s.heap H locs) (hl : lv_has ls 7 [(0, .ref l0b42), (1, .int l1b42), (2, .double l2b42), (4, .double l4b42), (6, .int l6b42)]) : W p l e rm_Ch_put s m args below meth c H locs cells slots (MQ below (va_Qv post (fun M' t => hw D wCl A M' t.heap) A) args s 2 25 A) (F0 m 42 ls []) := by
  obtain ⟨hx, hb, hr, hml, hown, hts, hlocks, hK, hA, hZ0⟩ := id C0
  refine lv_aload_n hx hb d_Ch_put_42 rfl (lv_at hl 0 rfl) ?_
  obtain ⟨fs, v19, h1, h2, h⟩ := h
  refine va_get (D := D) (ci := 0) (v := va_rf v19) (C := "ChannelHall$Channel") (T := TCh) (N := 10) hx hb hts uCh hown hK (hw_one hW h1) 0 rfl rfl 4 (by decide) (hts _ bw_258) (fun _ h9 => h9) h2 d_Ch_put_43 ?_
  refine lv_iload hx hb d_Ch_put_46 (lv_at hl 4 rfl) ?_
  obtain ⟨ws, hP, hD, hmake⟩ := hw_make hW
  refine va_new (ci := 1) (fs := [.int 0, .double FP.dconst0, .double FP.dconst0]) (C := "ChannelHall$Item") (T := TIt) (N := 3) hx hb hts uIt tIt tIt_ok hown (hts _ bw_476) (hts _ bw_477) (hts _ bw_23) hK hP hD hS hA rfl (by decide) (show _ ≤ 2 by omega) (show _ ≤ 25 by omega) d_Ch_put_48 (fun q20 H hP hD hS => ?_)
  obtain ⟨hfr, hW⟩ := hmake _ _ _ hP hD
  replace h := h q20 hfr
  generalize va_up M q20 _ = M21 at h hW
  refine lv_dup hx hb d_Ch_put_51 rfl ?_
  refine lv_iload_n hx hb d_Ch_put_52 rfl (lv_at hl 1 rfl) ?_
  refine lv_dload_n hx hb d_Ch_put_53 rfl (lv_at hl 2 rfl) ?_
  refine lv_dload hx hb d_Ch_put_54 (lv_at hl 3 rfl) ?_
  have h9 := h
  clear h
  have hF := hW.free hS hA
  refine va_callv (va_runI (As := [.int l1b42, .double l2b42, .double l4b42]) (rest := [.ref q20, .int l6b42, va_rf v19]) ⟨hx, hb, hml, hown, hts⟩ (c_It_init _ h9) (cwI 3 hts (gi_z bw_480) rfl rfl rfl (hts _ bw_23) (hts _ bw_478) (hts _ bw_479) rfl (by decide +kernel) ⟨Nat.le_of_ble_eq_true rfl, Nat.le_of_ble_eq_true rfl⟩) ⟨hI.blind, hI.give hW hS hA hK hZ0⟩ rfl rfl hl.1 rfl (lv_room (by cases v19 <;> exact Nat.le_of_ble_eq_true rfl)) d_Ch_put_56 ⟨(show _ ≤ 2 by omega), (show _ ≤ 25 by omega)⟩) hS (fun q _ z => hF q z) hF (fun M22 t H locs ht _ h hB1 _ _ hS => ?_)
  have hW := hw_back hF ht hB1
  clear h9
  obtain ⟨b23, rfl, h⟩ := h
  obtain ⟨⟨fs, h1⟩, h⟩ := h
  have h9 := h
  clear h
  have hF := hW.free hS hA
  refine va_callv (va_runV (As := [.int l6b42, .ref q20]) (rest := []) ⟨hx, hb, hml, hown, hts⟩ (c_Al_add_IObject _ h9) (cwV 2 hts (gi_V bw_496 bw_497 bw_498 bw_14 bw_499) rfl rfl rfl (by decide +kernel) ⟨Nat.le_of_ble_eq_true rfl, Nat.le_of_ble_eq_true rfl⟩) ⟨hI.blind, hw_recv hK hW h1 rfl, hI.give hW hS hA hK hZ0⟩ rfl rfl hl.1 rfl (lv_room (Nat.le_of_ble_eq_true rfl)) d_Ch_put_59 ⟨(show _ ≤ 2 by omega), (show _ ≤ 25 by omega)⟩) hS (fun q _ z => hF q z) hF (fun M24 t H locs ht _ h hB1 _ _ hS => ?_)
  have hW := hw_back hF ht hB1
  clear h9
  refine W.widen (k := 2) (n := 25) (by omega) (by omega) ?_
  exact W.vret hx hb hr (fun t ht hWm => ⟨⟨_, rfl, h, hw_t ht hW⟩, hS.F ht⟩) hS.2.2 d_Ch_put_62
set_option maxHeartbeats 1000000 in
set_option maxRecDepth 20000 in
theorem l_Ch_put_9 {p : Program} {l : Launch} {e : Env} {s : State} {m : MethodId} {args : Array Value} {below : List Frame} {meth : Method} {c : Code} {D : va_G} {ca G : Nat → Nat} {A : Nat → Prop} (C0 : hC p s m args meth c D ca G prog_2_method_16_code 7 (none) "ChannelHall$Channel" A) {post : hM → Prop} : ∀ (n : Nat) {M : hM} {H : Heap} {locs : List Loc} {ls : Array Slot} {cells slots : Nat} (l0b9 : Nat) (l1b9 : Int32) (l2b9 : UInt64) (l4b9 : UInt64) (l6b9 : Int32) (hc : cells ≤ 0) (hs : slots ≤ 0) (h : wp_Ch_put_9 G ca post n M l0b9 l1b9 l2b9 l4b9 l6b9) (hW : hw D wCl A M H) (hS : va_S A s.heap H locs) (hl : lv_has ls 7 [(0, .ref l0b9), (1, .int l1b9), (2, .double l2b9), (4, .double l4b9), (6, .int l6b9)]), W p l e rm_Ch_put s m args below meth c H locs cells slots (MQ below (va_Qv post (fun M' t => hw D wCl A M' t.heap) A) args s 2 25 A) (F0 m 9 ls []) := by
  obtain ⟨hx, hb, hr, hml, hown, hts, hlocks, hK, hA, hZ0⟩ := id C0
  intro n
  induction n with
  | zero =>
    intro M H locs ls cells slots l0b9 l1b9 l2b9 l4b9 l6b9 hc hs h
    exact False.elim h
  | succ n ih =>
    intro M H locs ls cells slots l0b9 l1b9 l2b9 l4b9 l6b9 hc hs h hW hS hl
    have hk_4 := fun M H locs ls cells slots l0b9 l1b9 l2b9 l4b9 l6b9 hc hs h hW hS hl => @ih M H locs ls cells slots l0b9 l1b9 l2b9 l4b9 l6b9 hc hs h hW hS hl
    refine lv_iload hx hb d_Ch_put_9 (lv_at hl 4 rfl) ?_
    obtain ⟨h0, h1⟩ := h
    refine lv_if_le (tgt := 42) hx hb d_Ch_put_11 (by decide) (fun c25 => ?_) (fun c25 => ?_)
    · have h := h0 c25
      exact l_Ch_put_42 C0 l0b9 l1b9 l2b9 l4b9 l6b9 (by omega) (by omega) h hW hS (lv_sub hl [0, 1, 2, 3, 4] rfl)
    · have h := h1 c25
      refine lv_aload_n hx hb d_Ch_put_14 rfl (lv_at hl 0 rfl) ?_
      obtain ⟨fs, v26, h1, h2, h⟩ := h
      refine va_get (D := D) (ci := 0) (v := va_rf v26) (C := "ChannelHall$Channel") (T := TCh) (N := 10) hx hb hts uCh hown hK (hw_one hW h1) 0 rfl rfl 4 (by decide) (hts _ bw_258) (fun _ h9 => h9) h2 d_Ch_put_15 ?_
      refine lv_iload hx hb d_Ch_put_18 (lv_at hl 4 rfl) ?_
      refine lv_iconst (v := 1) hx hb d_Ch_put_20 (by decide) ?_
      refine lv_isub hx hb d_Ch_put_21 ?_
      obtain ⟨b27, rfl, h⟩ := h
      obtain ⟨⟨fs, h1⟩, h⟩ := h
      have h9 := h
      clear h
      have hF := hW.free hS hA
      refine va_callq (va_runV (As := [.int (l6b9 - 1)]) (rest := []) ⟨hx, hb, hml, hown, hts⟩ (c_Al_get _ h9) (cwV 1 hts (gi_V bw_380 bw_381 bw_382 bw_14 bw_383) rfl rfl rfl (by decide +kernel) ⟨Nat.le_of_ble_eq_true rfl, Nat.le_of_ble_eq_true rfl⟩) ⟨hI.blind, hw_recv hK hW h1 rfl, hI.give hW hS hA hK hZ0⟩ rfl rfl hl.1 rfl (lv_room (Nat.le_of_ble_eq_true rfl)) d_Ch_put_22 ⟨(show _ ≤ 2 by omega), (show _ ≤ 25 by omega)⟩) hS (fun q _ z => hF q z) hF (fun r28 M29 t H locs ht _ h hB1 _ _ hS => ?_)
      have hW := hw_back hF ht hB1
      clear h9
      obtain ⟨b30, fs, rfl, h1, h⟩ := h
      refine va_castS (cC := D.1 1) hx hb hown (hts _ bw_476) (hK.1 1 _ rfl).2 (hw_recv hK hW h1 rfl) d_Ch_put_25 ?_
      obtain ⟨fs, v31, h1, h2, h⟩ := h
      refine va_get (D := D) (ci := 1) (v := .double v31) (C := "ChannelHall$Item") (T := TIt) (N := 3) hx hb hts uIt hown hK (hw_one hW h1) 0 rfl rfl 1 (by decide) (hts _ bw_486) (fun _ h9 => h9) h2 d_Ch_put_28 ?_
      refine lv_dload_n hx hb d_Ch_put_31 rfl (lv_at hl 2 rfl) ?_
      refine lv_dcmp hx hb d_Ch_put_32 ?_
      obtain ⟨h0, h1⟩ := h
      refine lv_if_le (tgt := 42) hx hb d_Ch_put_33 (by decide) (fun c32 => ?_) (fun c32 => ?_)
      · have h := h0 c32
        exact l_Ch_put_42 C0 l0b9 l1b9 l2b9 l4b9 l6b9 (by omega) (by omega) h hW hS (lv_sub hl [0, 1, 2, 3, 4] rfl)
      · have h := h1 c32
        refine lv_iinc (v := l6b9 + (-1)) (lv' := [(6, .int (l6b9 + (-1))), (0, .ref l0b9), (1, .int l1b9), (2, .double l2b9), (4, .double l4b9)]) hx hb d_Ch_put_36 hl (k := 4) rfl rfl (by decide) rfl (fun ls hl => ?_)
        refine lv_goto (tgt := 9) hx hb d_Ch_put_39 (by decide) ?_
        exact hk_4 _ _ _ _ _ _ l0b9 l1b9 l2b9 l4b9 (l6b9 + (-1)) (by omega) (by omega) h hW hS (lv_sub hl [1, 2, 3, 4, 0] rfl)
set_option maxHeartbeats 1000000 in
set_option maxRecDepth 20000 in
theorem l_Ch_put_e {p : Program} {l : Launch} {e : Env} {s : State} {m : MethodId} {args : Array Value} {below : List Frame} {meth : Method} {c : Code} {D : va_G} {ca G : Nat → Nat} {A : Nat → Prop} (C0 : hC p s m args meth c D ca G prog_2_method_16_code 7 (none) "ChannelHall$Channel" A) {post : hM → Prop} {M : hM} {H : Heap} {locs : List Loc} {ls : Array Slot} {cells slots : Nat} (a0 : Nat) (x1 : Int32) (x2 : UInt64) (x4 : UInt64) (hc : cells ≤ 0) (hs : slots ≤ 0) (h : wp_Ch_put G ca post M a0 x1 x2 x4) (hW : hw D wCl A M H) (hS : va_S A s.heap H locs) (hl : lv_has ls 7 [(0, .ref a0), (1, .int x1), (2, .double x2), (4, .double x4)]) : W p l e rm_Ch_put s m args below meth c H locs cells slots (MQ below (va_Qv post (fun M' t => hw D wCl A M' t.heap) A) args s 2 25 A) (F0 m 0 ls []) := by
  obtain ⟨hx, hb, hr, hml, hown, hts, hlocks, hK, hA, hZ0⟩ := id C0
  refine lv_aload_n hx hb d_Ch_put_0 rfl (lv_at hl 0 rfl) ?_
  obtain ⟨fs, v33, h1, h2, h⟩ := h
  refine va_get (D := D) (ci := 0) (v := va_rf v33) (C := "ChannelHall$Channel") (T := TCh) (N := 10) hx hb hts uCh hown hK (hw_one hW h1) 0 rfl rfl 4 (by decide) (hts _ bw_258) (fun _ h9 => h9) h2 d_Ch_put_1 ?_
  obtain ⟨b34, rfl, h⟩ := h
  obtain ⟨⟨fs, h1⟩, h⟩ := h
  have h9 := h
  clear h
  have hF := hW.free hS hA
  refine va_calli (va_runV (As := []) (rest := []) ⟨hx, hb, hml, hown, hts⟩ (c_Al_size _ h9) (cwV 0 hts (gi_V bw_376 bw_377 bw_378 bw_14 bw_379) rfl rfl rfl (by decide +kernel) ⟨Nat.le_of_ble_eq_true rfl, Nat.le_of_ble_eq_true rfl⟩) ⟨hI.blind, hw_recv hK hW h1 rfl, hI.give hW hS hA hK hZ0⟩ rfl rfl hl.1 rfl (lv_room (Nat.le_of_ble_eq_true rfl)) d_Ch_put_4 ⟨(show _ ≤ 2 by omega), (show _ ≤ 25 by omega)⟩) hS (fun q _ z => hF q z) hF (fun r35 M36 t H locs ht _ h hB1 _ _ hS => ?_)
  have hW := hw_back hF ht hB1
  clear h9
  refine lv_istore (lv' := [(6, .int r35), (0, .ref a0), (1, .int x1), (2, .double x2), (4, .double x4)]) hx hb d_Ch_put_7 hl (by decide) rfl (fun ls hl => ?_)
  obtain ⟨n, h⟩ := h
  exact l_Ch_put_9 C0 n a0 x1 x2 x4 r35 (by omega) (by omega) h hW hS (lv_sub hl [1, 2, 3, 4, 0] rfl)
set_option maxRecDepth 20000 in
theorem c_Ch_put {l : Launch} {D : va_G} {ca G : Nat → Nat} (post : hM → Prop) {M : hM} {sz : Nat} {a0 : Nat} {x1 : Int32} {x2 : UInt64} {x4 : UInt64} (h : wp_Ch_put G ca post M a0 x1 x2 x4) : Met l y_Ch_put (wz y_Ch_put prog_2_method_16_code 7 (none)) rm_Ch_put (va_Pc [.ref a0, .int x1, .double x2, .double x4] (hI D ca G sz M)) (va_Qv post (hB D M sz) (hp_A M sz)) 2 25 (hp_A M sz) := by
  refine Met.ofW (cc := prog_2_method_16_code) (maxL := 7) (ret := none) (by decide) rfl ?_
  intro p e s m args below meth c s₁ B hml hv
  obtain ⟨rfl, hsz, hW, hK, hZ0⟩ := hv
  have hts := fun w hw => atoms_spec (ws := wz y_Ch_put prog_2_method_16_code 7 (none)) B.pre w (List.mem_cons_of_mem _ hw)
  have hown : s.vm.findClass "ChannelHall$Channel" = some m.cls := findClass_of_methodNamed B.named
  subst hsz
  have hl := lv_entry [.ref a0, .int x1, .double x2, .double x4] (n := 7) (Nat.le_of_ble_eq_true rfl)
  rw [lg_entry_eq]
  exact l_Ch_put_e ⟨B.exec, B.bytes, B.returns, hml, hown, hts, B.notSynchronized, hK, fun q h => Or.inr h, hZ0⟩ a0 x1 x2 x4 (Nat.zero_le _) (Nat.zero_le _) h hW va_S.rf hl

theorem d_Ch_accept_0 : decode prog_2_method_11_code 0 = .ok (.aload_n 0, 1) := by decide +kernel
theorem d_Ch_accept_1 : decode prog_2_method_11_code 1 = .ok (.getstatic 69, 3) := by decide +kernel
theorem d_Ch_accept_4 : decode prog_2_method_11_code 4 = .ok (.invokevirtual 75, 3) := by decide +kernel
theorem d_Ch_accept_7 : decode prog_2_method_11_code 7 = .ok (.astore 6, 2) := by decide +kernel
theorem d_Ch_accept_9 : decode prog_2_method_11_code 9 = .ok (.aload_n 0, 1) := by decide +kernel
theorem d_Ch_accept_10 : decode prog_2_method_11_code 10 = .ok (.getfield 39, 3) := by decide +kernel
theorem d_Ch_accept_13 : decode prog_2_method_11_code 13 = .ok (.iconst 2, 1) := by decide +kernel
theorem d_Ch_accept_14 : decode prog_2_method_11_code 14 = .ok (.if_icmp .eq 14, 3) := by decide +kernel
theorem d_Ch_accept_17 : decode prog_2_method_11_code 17 = .ok (.aload_n 0, 1) := by decide +kernel
theorem d_Ch_accept_18 : decode prog_2_method_11_code 18 = .ok (.iload_n 1, 1) := by decide +kernel
theorem d_Ch_accept_19 : decode prog_2_method_11_code 19 = .ok (.dload_n 2, 1) := by decide +kernel
theorem d_Ch_accept_20 : decode prog_2_method_11_code 20 = .ok (.dload 4, 2) := by decide +kernel
theorem d_Ch_accept_22 : decode prog_2_method_11_code 22 = .ok (.invokevirtual 92, 3) := by decide +kernel
theorem d_Ch_accept_25 : decode prog_2_method_11_code 25 = .ok (.goto 22, 3) := by decide +kernel
theorem d_Ch_accept_28 : decode prog_2_method_11_code 28 = .ok (.aload 6, 2) := by decide +kernel
theorem d_Ch_accept_30 : decode prog_2_method_11_code 30 = .ok (.ifnull 17, 3) := by decide +kernel
theorem d_Ch_accept_33 : decode prog_2_method_11_code 33 = .ok (.aload_n 0, 1) := by decide +kernel
theorem d_Ch_accept_34 : decode prog_2_method_11_code 34 = .ok (.iload_n 1, 1) := by decide +kernel
theorem d_Ch_accept_35 : decode prog_2_method_11_code 35 = .ok (.aload 6, 2) := by decide +kernel
theorem d_Ch_accept_37 : decode prog_2_method_11_code 37 = .ok (.invokevirtual 96, 3) := by decide +kernel
theorem d_Ch_accept_40 : decode prog_2_method_11_code 40 = .ok (.aload_n 0, 1) := by decide +kernel
theorem d_Ch_accept_41 : decode prog_2_method_11_code 41 = .ok (.aload 6, 2) := by decide +kernel
theorem d_Ch_accept_43 : decode prog_2_method_11_code 43 = .ok (.iconst 1, 1) := by decide +kernel
theorem d_Ch_accept_44 : decode prog_2_method_11_code 44 = .ok (.invokevirtual 100, 3) := by decide +kernel
theorem d_Ch_accept_47 : decode prog_2_method_11_code 47 = .ok (.return_, 1) := by decide +kernel
def y_Ch_accept : MethodName := ⟨"ChannelHall$Channel", "accept", "(IDD)V"⟩
abbrev rm_Ch_accept : Room := { frames := 7, cells := 2, slots := 25, locals := 177 }
def wp_Ch_accept_47 (G ca : Nat → Nat) (post : hM → Prop) (M : hM)  : Prop := post M
def wp_Ch_accept (G ca : Nat → Nat) (post : hM → Prop) (M : hM) (a0 : Nat) (x1 : Int32) (x2 : UInt64) (x4 : UInt64) : Prop := rC M a0 0 (wp_Ch_firstWaiter G ca (fun r9 M10 => gI M10 a0 0 1 fun v11 => (v11 = 2 → (r9 = none → wp_Ch_accept_47 G ca post M10) ∧ (∀ b13 : Nat, r9 = some b13 → rC M10 a0 0 (wp_Ch_handOver G ca (fun M14 => rC M14 a0 0 (wp_Ch_release G ca (fun M15 => wp_Ch_accept_47 G ca post M15) M14 a0 (some b13) 1)) M10 a0 x1 (some b13)))) ∧ (¬ v11 = 2 → rC M10 a0 0 (wp_Ch_put G ca (fun M16 => wp_Ch_accept_47 G ca post M16) M10 a0 x1 x2 x4))) M a0 (some (G 1)))
set_option maxHeartbeats 1000000 in
set_option maxRecDepth 20000 in
theorem l_Ch_accept_47 {p : Program} {l : Launch} {e : Env} {s : State} {m : MethodId} {args : Array Value} {below : List Frame} {meth : Method} {c : Code} {D : va_G} {ca G : Nat → Nat} {A : Nat → Prop} (C0 : hC p s m args meth c D ca G prog_2_method_11_code 7 (none) "ChannelHall$Channel" A) {post : hM → Prop} {M : hM} {H : Heap} {locs : List Loc} {ls : Array Slot} {cells slots : Nat}  (hc : cells ≤ 2) (hs : slots ≤ 25) (h : wp_Ch_accept_47 G ca post M) (hW : hw D wCl A M H) (hS : va_S A s.heap H locs) (hl : lv_has ls 7 []) : W p l e rm_Ch_accept s m args below meth c H locs cells slots (MQ below (va_Qv post (fun M' t => hw D wCl A M' t.heap) A) args s 2 25 A) (F0 m 47 ls []) := by
  obtain ⟨hx, hb, hr, hml, hown, hts, hlocks, hK, hA, hZ0⟩ := id C0
  refine W.widen (k := 2) (n := 25) (by omega) (by omega) ?_
  exact W.vret hx hb hr (fun t ht hWm => ⟨⟨_, rfl, h, hw_t ht hW⟩, hS.F ht⟩) hS.2.2 d_Ch_accept_47
set_option maxHeartbeats 1000000 in
set_option maxRecDepth 20000 in
theorem l_Ch_accept_e {p : Program} {l : Launch} {e : Env} {s : State} {m : MethodId} {args : Array Value} {below : List Frame} {meth : Method} {c : Code} {D : va_G} {ca G : Nat → Nat} {A : Nat → Prop} (C0 : hC p s m args meth c D ca G prog_2_method_11_code 7 (none) "ChannelHall$Channel" A) {post : hM → Prop} {M : hM} {H : Heap} {locs : List Loc} {ls : Array Slot} {cells slots : Nat} (a0 : Nat) (x1 : Int32) (x2 : UInt64) (x4 : UInt64) (hc : cells ≤ 0) (hs : slots ≤ 0) (h : wp_Ch_accept G ca post M a0 x1 x2 x4) (hW : hw D wCl A M H) (hS : va_S A s.heap H locs) (hl : lv_has ls 7 [(0, .ref a0), (1, .int x1), (2, .double x2), (4, .double x4)]) : W p l e rm_Ch_accept s m args below meth c H locs cells slots (MQ below (va_Qv post (fun M' t => hw D wCl A M' t.heap) A) args s 2 25 A) (F0 m 0 ls []) := by
  obtain ⟨hx, hb, hr, hml, hown, hts, hlocks, hK, hA, hZ0⟩ := id C0
  refine lv_aload_n hx hb d_Ch_accept_0 rfl (lv_at hl 0 rfl) ?_
  refine va_gets (v := .ref (G 1)) hx hb (hZ0.2.1) hS hown (hts _ bw_395) (fun _ h9 => h9) d_Ch_accept_1 ?_
  obtain ⟨⟨fs, h1⟩, h⟩ := h
  have h9 := h
  clear h
  have hF := hW.free hS hA
  refine va_callq (va_runV (As := [.ref (G 1)]) (rest := []) ⟨hx, hb, hml, hown, hts⟩ (c_Ch_firstWaiter _ h9) (cwV 1 hts (gi_V bw_372 bw_373 bw_374 bw_11 bw_375) rfl rfl rfl (by decide +kernel) ⟨Nat.le_of_ble_eq_true rfl, Nat.le_of_ble_eq_true rfl⟩) ⟨hI.blind, hw_recv hK hW h1 rfl, hI.give hW hS hA hK hZ0⟩ rfl rfl hl.1 rfl (lv_room (Nat.le_of_ble_eq_true rfl)) d_Ch_accept_4 ⟨(show _ ≤ 2 by omega), (show _ ≤ 25 by omega)⟩) hS (fun q _ z => hF q z) hF (fun r9 M10 t H locs ht _ h hB1 _ _ hS => ?_)
  have hW := hw_back hF ht hB1
  clear h9
  refine lq_store (lv' := [(6, va_rf r9), (0, .ref a0), (1, .int x1), (2, .double x2), (4, .double x4)]) hx hb d_Ch_accept_7 hl (by decide) rfl (fun ls hl => ?_)
  refine lv_aload_n hx hb d_Ch_accept_9 rfl (lv_at hl 1 rfl) ?_
  obtain ⟨fs, v11, h1, h2, h⟩ := h
  refine va_get (D := D) (ci := 0) (v := .int v11) (C := "ChannelHall$Channel") (T := TCh) (N := 10) hx hb hts uCh hown hK (hw_one hW h1) 0 rfl rfl 1 (by decide) (hts _ bw_253) (fun _ h9 => h9) h2 d_Ch_accept_10 ?_
  refine lv_iconst (v := 2) hx hb d_Ch_accept_13 (by decide) ?_
  obtain ⟨h0, h1⟩ := h
  refine lv_icmp_eq (tgt := 28) hx hb d_Ch_accept_14 (by decide) (fun c12 => ?_) (fun c12 => ?_)
  · have h := h0 c12
    refine lq_load hx hb d_Ch_accept_28 (lv_at hl 0 rfl) ?_
    obtain ⟨h0, h1⟩ := h
    cases r9 with
    | none =>
      have h := h0 rfl
      refine lv_ifnullN (tgt := 47) hx hb d_Ch_accept_30 (by decide) ?_
      exact l_Ch_accept_47 C0  (by omega) (by omega) h hW hS (lv_sub hl [] rfl)
    | some b13 =>
      have h := h1 b13 rfl
      refine lv_ifnull hx hb d_Ch_accept_30 ?_
      refine lv_aload_n hx hb d_Ch_accept_33 rfl (lv_at hl 1 rfl) ?_
      refine lv_iload_n hx hb d_Ch_accept_34 rfl (lv_at hl 2 rfl) ?_
      refine lv_aload hx hb d_Ch_accept_35 (lv_at hl 0 rfl) ?_
      obtain ⟨⟨fs, h1⟩, h⟩ := h
      have h9 := h
      clear h
      have hF := hW.free hS hA
      refine va_callv (va_runV (As := [.int x1, .ref b13]) (rest := []) ⟨hx, hb, hml, hown, hts⟩ (c_Ch_handOver _ h9) (cwV 2 hts (gi_V bw_767 bw_769 bs_10 bw_11 bw_770) rfl rfl rfl (by decide +kernel) ⟨Nat.le_of_ble_eq_true rfl, Nat.le_of_ble_eq_true rfl⟩) ⟨hI.blind, hw_recv hK hW h1 rfl, hI.give hW hS hA hK hZ0⟩ rfl rfl hl.1 rfl (lv_room (Nat.le_of_ble_eq_true rfl)) d_Ch_accept_37 ⟨(show _ ≤ 2 by omega), (show _ ≤ 25 by omega)⟩) hS (fun q _ z => hF q z) hF (fun M14 t H locs ht _ h hB1 _ _ hS => ?_)
      have hW := hw_back hF ht hB1
      clear h9
      refine lv_aload_n hx hb d_Ch_accept_40 rfl (lv_at hl 1 rfl) ?_
      refine lv_aload hx hb d_Ch_accept_41 (lv_at hl 0 rfl) ?_
      refine lv_iconst (v := 1) hx hb d_Ch_accept_43 (by decide) ?_
      obtain ⟨⟨fs, h1⟩, h⟩ := h
      have h9 := h
      clear h
      have hF := hW.free hS hA
      refine va_callv (va_runV (As := [.ref b13, .int 1]) (rest := []) ⟨hx, hb, hml, hown, hts⟩ (c_Ch_release _ h9) (cwV 2 hts (gi_V bw_779 bw_780 bw_781 bw_11 bw_782) rfl rfl rfl (by decide +kernel) ⟨Nat.le_of_ble_eq_true rfl, Nat.le_of_ble_eq_true rfl⟩) ⟨hI.blind, hw_recv hK hW h1 rfl, hI.give hW hS hA hK hZ0⟩ rfl rfl hl.1 rfl (lv_room (Nat.le_of_ble_eq_true rfl)) d_Ch_accept_44 ⟨(show _ ≤ 2 by omega), (show _ ≤ 25 by omega)⟩) hS (fun q _ z => hF q z) hF (fun M15 t H locs ht _ h hB1 _ _ hS => ?_)
      have hW := hw_back hF ht hB1
      clear h9
      exact l_Ch_accept_47 C0  (by omega) (by omega) h hW hS (lv_sub hl [] rfl)
  · have h := h1 c12
    refine lv_aload_n hx hb d_Ch_accept_17 rfl (lv_at hl 1 rfl) ?_
    refine lv_iload_n hx hb d_Ch_accept_18 rfl (lv_at hl 2 rfl) ?_
    refine lv_dload_n hx hb d_Ch_accept_19 rfl (lv_at hl 3 rfl) ?_
    refine lv_dload hx hb d_Ch_accept_20 (lv_at hl 4 rfl) ?_
    obtain ⟨⟨fs, h1⟩, h⟩ := h
    have h9 := h
    clear h
    have hF := hW.free hS hA
    refine va_callv (va_runV (As := [.int x1, .double x2, .double x4]) (rest := []) ⟨hx, hb, hml, hown, hts⟩ (c_Ch_put _ h9) (cwV 3 hts (gi_V bw_472 bw_474 bs_7 bw_11 bw_475) rfl rfl rfl (by decide +kernel) ⟨Nat.le_of_ble_eq_true rfl, Nat.le_of_ble_eq_true rfl⟩) ⟨hI.blind, hw_recv hK hW h1 rfl, hI.give hW hS hA hK hZ0⟩ rfl rfl hl.1 rfl (lv_room (Nat.le_of_ble_eq_true rfl)) d_Ch_accept_22 ⟨(show _ ≤ 2 by omega), (show _ ≤ 25 by omega)⟩) hS (fun q _ z => hF q z) hF (fun M16 t H locs ht _ h hB1 _ _ hS => ?_)
    have hW := hw_back hF ht hB1
    clear h9
    refine lv_goto (tgt := 47) hx hb d_Ch_accept_25 (by decide) ?_
    exact l_Ch_accept_47 C0  (by omega) (by omega) h hW hS (lv_sub hl [] rfl)
set_option maxRecDepth 20000 in
theorem c_Ch_accept {l : Launch} {D : va_G} {ca G : Nat → Nat} (post : hM → Prop) {M : hM} {sz : Nat} {a0 : Nat} {x1 : Int32} {x2 : UInt64} {x4 : UInt64} (h : wp_Ch_accept G ca post M a0 x1 x2 x4) : Met l y_Ch_accept (wz y_Ch_accept prog_2_method_11_code 7 (none)) rm_Ch_accept (va_Pc [.ref a0, .int x1, .double x2, .double x4] (hI D ca G sz M)) (va_Qv post (hB D M sz) (hp_A M sz)) 2 25 (hp_A M sz) := by
  refine Met.ofW (cc := prog_2_method_11_code) (maxL := 7) (ret := none) (by decide) rfl ?_
  intro p e s m args below meth c s₁ B hml hv
  obtain ⟨rfl, hsz, hW, hK, hZ0⟩ := hv
  have hts := fun w hw => atoms_spec (ws := wz y_Ch_accept prog_2_method_11_code 7 (none)) B.pre w (List.mem_cons_of_mem _ hw)
  have hown : s.vm.findClass "ChannelHall$Channel" = some m.cls := findClass_of_methodNamed B.named
  subst hsz
  have hl := lv_entry [.ref a0, .int x1, .double x2, .double x4] (n := 7) (Nat.le_of_ble_eq_true rfl)
  rw [lg_entry_eq]
  exact l_Ch_accept_e ⟨B.exec, B.bytes, B.returns, hml, hown, hts, B.notSynchronized, hK, fun q h => Or.inr h, hZ0⟩ a0 x1 x2 x4 (Nat.zero_le _) (Nat.zero_le _) h hW va_S.rf hl

theorem d_Ch_yieldTo_0 : decode prog_2_method_13_code 0 = .ok (.aload_n 0, 1) := by decide +kernel
theorem d_Ch_yieldTo_1 : decode prog_2_method_13_code 1 = .ok (.getstatic 89, 3) := by decide +kernel
theorem d_Ch_yieldTo_4 : decode prog_2_method_13_code 4 = .ok (.invokevirtual 75, 3) := by decide +kernel
theorem d_Ch_yieldTo_7 : decode prog_2_method_13_code 7 = .ok (.astore 4, 2) := by decide +kernel
theorem d_Ch_yieldTo_9 : decode prog_2_method_13_code 9 = .ok (.aload_n 0, 1) := by decide +kernel
theorem d_Ch_yieldTo_10 : decode prog_2_method_13_code 10 = .ok (.getfield 39, 3) := by decide +kernel
theorem d_Ch_yieldTo_13 : decode prog_2_method_13_code 13 = .ok (.iconst 2, 1) := by decide +kernel
theorem d_Ch_yieldTo_14 : decode prog_2_method_13_code 14 = .ok (.if_icmp .eq 12, 3) := by decide +kernel
theorem d_Ch_yieldTo_17 : decode prog_2_method_13_code 17 = .ok (.aload_n 0, 1) := by decide +kernel
theorem d_Ch_yieldTo_18 : decode prog_2_method_13_code 18 = .ok (.aload_n 1, 1) := by decide +kernel
theorem d_Ch_yieldTo_19 : decode prog_2_method_13_code 19 = .ok (.dload_n 2, 1) := by decide +kernel
theorem d_Ch_yieldTo_20 : decode prog_2_method_13_code 20 = .ok (.invokevirtual 104, 3) := by decide +kernel
theorem d_Ch_yieldTo_23 : decode prog_2_method_13_code 23 = .ok (.goto 25, 3) := by decide +kernel
theorem d_Ch_yieldTo_26 : decode prog_2_method_13_code 26 = .ok (.aload 4, 2) := by decide +kernel
theorem d_Ch_yieldTo_28 : decode prog_2_method_13_code 28 = .ok (.ifnull 20, 3) := by decide +kernel
theorem d_Ch_yieldTo_31 : decode prog_2_method_13_code 31 = .ok (.aload_n 0, 1) := by decide +kernel
theorem d_Ch_yieldTo_32 : decode prog_2_method_13_code 32 = .ok (.aload 4, 2) := by decide +kernel
theorem d_Ch_yieldTo_34 : decode prog_2_method_13_code 34 = .ok (.getfield 108, 3) := by decide +kernel
theorem d_Ch_yieldTo_37 : decode prog_2_method_13_code 37 = .ok (.aload_n 1, 1) := by decide +kernel
theorem d_Ch_yieldTo_38 : decode prog_2_method_13_code 38 = .ok (.invokevirtual 96, 3) := by decide +kernel
theorem d_Ch_yieldTo_41 : decode prog_2_method_13_code 41 = .ok (.aload_n 0, 1) := by decide +kernel
theorem d_Ch_yieldTo_42 : decode prog_2_method_13_code 42 = .ok (.aload 4, 2) := by decide +kernel
theorem d_Ch_yieldTo_44 : decode prog_2_method_13_code 44 = .ok (.iconst 1, 1) := by decide +kernel
theorem d_Ch_yieldTo_45 : decode prog_2_method_13_code 45 = .ok (.invokevirtual 100, 3) := by decide +kernel
theorem d_Ch_yieldTo_48 : decode prog_2_method_13_code 48 = .ok (.return_, 1) := by decide +kernel
def y_Ch_yieldTo : MethodName := ⟨"ChannelHall$Channel", "yieldTo", "(LChannelHall$Worker;D)V"⟩
abbrev rm_Ch_yieldTo : Room := { frames := 4, cells := 0, slots := 0, locals := 110 }
def wp_Ch_yieldTo_48 (G ca : Nat → Nat) (post : hM → Prop) (M : hM)  : Prop := post M
def wp_Ch_yieldTo (G ca : Nat → Nat) (post : hM → Prop) (M : hM) (a0 : Nat) (a1 : Option Nat) (x2 : UInt64) : Prop := rC M a0 0 (wp_Ch_firstWaiter G ca (fun r10 M11 => gI M11 a0 0 1 fun v12 => (v12 = 2 → (r10 = none → wp_Ch_yieldTo_48 G ca post M11) ∧ (∀ b14 : Nat, r10 = some b14 → gI M11 b14 2 7 fun v15 => rC M11 a0 0 (wp_Ch_handOver G ca (fun M16 => rC M16 a0 0 (wp_Ch_release G ca (fun M17 => wp_Ch_yieldTo_48 G ca post M17) M16 a0 (some b14) 1)) M11 a0 v15 a1))) ∧ (¬ v12 = 2 → rC M11 a0 0 (wp_Ch_handFirst G ca (fun M18 => wp_Ch_yieldTo_48 G ca post M18) M11 a0 a1 x2))) M a0 (some (G 0)))
set_option maxHeartbeats 1000000 in
set_option maxRecDepth 20000 in
theorem l_Ch_yieldTo_48 {p : Program} {l : Launch} {e : Env} {s : State} {m : MethodId} {args : Array Value} {below : List Frame} {meth : Method} {c : Code} {D : va_G} {ca G : Nat → Nat} {A : Nat → Prop} (C0 : hC p s m args meth c D ca G prog_2_method_13_code 5 (none) "ChannelHall$Channel" A) {post : hM → Prop} {M : hM} {H : Heap} {locs : List Loc} {ls : Array Slot}  (h : wp_Ch_yieldTo_48 G ca post M) (hW : hw D wCl A M H) (hS : va_S A s.heap H locs) (hl : lv_has ls 5 []) : W p l e rm_Ch_yieldTo s m args below meth c H locs 0 0 (MQ below (va_Qv post (fun M' t => hw D wCl A M' t.heap) A) args s 0 0 A) (F0 m 48 ls []) := by
  obtain ⟨hx, hb, hr, hml, hown, hts, hlocks, hK, hA, hZ0⟩ := id C0
  exact W.vret hx hb hr (fun t ht hWm => ⟨⟨_, rfl, h, hw_t ht hW⟩, hS.F ht⟩) hS.2.2 d_Ch_yieldTo_48
set_option maxHeartbeats 1000000 in
set_option maxRecDepth 20000 in
theorem l_Ch_yieldTo_e {p : Program} {l : Launch} {e : Env} {s : State} {m : MethodId} {args : Array Value} {below : List Frame} {meth : Method} {c : Code} {D : va_G} {ca G : Nat → Nat} {A : Nat → Prop} (C0 : hC p s m args meth c D ca G prog_2_method_13_code 5 (none) "ChannelHall$Channel" A) {post : hM → Prop} {M : hM} {H : Heap} {locs : List Loc} {ls : Array Slot} (a0 : Nat) (a1 : Option Nat) (x2 : UInt64) (h : wp_Ch_yieldTo G ca post M a0 a1 x2) (hW : hw D wCl A M H) (hS : va_S A s.heap H locs) (hl : lv_has ls 5 [(0, .ref a0), (1, va_rf a1), (2, .double x2)]) : W p l e rm_Ch_yieldTo s m args below meth c H locs 0 0 (MQ below (va_Qv post (fun M' t => hw D wCl A M' t.heap) A) args s 0 0 A) (F0 m 0 ls []) := by
  obtain ⟨hx, hb, hr, hml, hown, hts, hlocks, hK, hA, hZ0⟩ := id C0
  refine lv_aload_n hx hb d_Ch_yieldTo_0 rfl (lv_at hl 0 rfl) ?_
  refine va_gets (v := .ref (G 0)) hx hb (hZ0.1) hS hown (hts _ bw_370) (fun _ h9 => h9) d_Ch_yieldTo_1 ?_
  obtain ⟨⟨fs, h1⟩, h⟩ := h
  have h9 := h
  clear h
  have hF := hW.free hS hA
  refine va_callq (va_runV (As := [.ref (G 0)]) (rest := []) ⟨hx, hb, hml, hown, hts⟩ (c_Ch_firstWaiter _ h9) (cwV 1 hts (gi_V bw_372 bw_373 bw_374 bw_11 bw_375) rfl rfl rfl (by decide +kernel) ⟨Nat.le_of_ble_eq_true rfl, Nat.le_of_ble_eq_true rfl⟩) ⟨hI.blind, hw_recv hK hW h1 rfl, hI.give hW hS hA hK hZ0⟩ rfl rfl hl.1 rfl (lv_room (Nat.le_of_ble_eq_true rfl)) d_Ch_yieldTo_4 ⟨(show _ ≤ 0 by omega), (show _ ≤ 0 by omega)⟩) hS (fun q _ z => hF q z) hF (fun r10 M11 t H locs ht _ h hB1 _ _ hS => ?_)
  have hW := hw_back hF ht hB1
  clear h9
  refine lq_store (lv' := [(4, va_rf r10), (0, .ref a0), (1, va_rf a1), (2, .double x2)]) hx hb d_Ch_yieldTo_7 hl (by decide) rfl (fun ls hl => ?_)
  refine lv_aload_n hx hb d_Ch_yieldTo_9 rfl (lv_at hl 1 rfl) ?_
  obtain ⟨fs, v12, h1, h2, h⟩ := h
  refine va_get (D := D) (ci := 0) (v := .int v12) (C := "ChannelHall$Channel") (T := TCh) (N := 10) hx hb hts uCh hown hK (hw_one hW h1) 0 rfl rfl 1 (by decide) (hts _ bw_253) (fun _ h9 => h9) h2 d_Ch_yieldTo_10 ?_
  refine lv_iconst (v := 2) hx hb d_Ch_yieldTo_13 (by decide) ?_
  obtain ⟨h0, h1⟩ := h
  refine lv_icmp_eq (tgt := 26) hx hb d_Ch_yieldTo_14 (by decide) (fun c13 => ?_) (fun c13 => ?_)
  · have h := h0 c13
    refine lq_load hx hb d_Ch_yieldTo_26 (lv_at hl 0 rfl) ?_
    obtain ⟨h0, h1⟩ := h
    cases r10 with
    | none =>
      have h := h0 rfl
      refine lv_ifnullN (tgt := 48) hx hb d_Ch_yieldTo_28 (by decide) ?_
      exact l_Ch_yieldTo_48 C0  h hW hS (lv_sub hl [] rfl)
    | some b14 =>
      have h := h1 b14 rfl
      refine lv_ifnull hx hb d_Ch_yieldTo_28 ?_
      refine lv_aload_n hx hb d_Ch_yieldTo_31 rfl (lv_at hl 1 rfl) ?_
      refine lv_aload hx hb d_Ch_yieldTo_32 (lv_at hl 0 rfl) ?_
      obtain ⟨fs, v15, h1, h2, h⟩ := h
      refine va_get (D := D) (ci := 2) (v := .int v15) (C := "ChannelHall$Worker") (T := TWo) (N := 11) hx hb hts uWo hown hK (hw_one hW h1) 0 rfl rfl 7 (by decide) (hts _ bw_70) (fun _ h9 => h9) h2 d_Ch_yieldTo_34 ?_
      refine lq_load_n hx hb d_Ch_yieldTo_37 rfl (lv_at hl 2 rfl) ?_
      obtain ⟨⟨fs, h1⟩, h⟩ := h
      have h9 := h
      clear h
      have hF := hW.free hS hA
      refine va_callv (va_runV (As := [.int v15, va_rf a1]) (rest := []) ⟨hx, hb, hml, hown, hts⟩ (c_Ch_handOver _ h9) (cwV 2 hts (gi_V bw_767 bw_769 bs_10 bw_11 bw_770) rfl rfl rfl (by decide +kernel) ⟨Nat.le_of_ble_eq_true rfl, Nat.le_of_ble_eq_true rfl⟩) ⟨hI.blind, hw_recv hK hW h1 rfl, hI.give hW hS hA hK hZ0⟩ rfl rfl hl.1 rfl (lv_room (Nat.le_of_ble_eq_true rfl)) d_Ch_yieldTo_38 ⟨(show _ ≤ 0 by omega), (show _ ≤ 0 by omega)⟩) hS (fun q _ z => hF q z) hF (fun M16 t H locs ht _ h hB1 _ _ hS => ?_)
      have hW := hw_back hF ht hB1
      clear h9
      refine lv_aload_n hx hb d_Ch_yieldTo_41 rfl (lv_at hl 1 rfl) ?_
      refine lv_aload hx hb d_Ch_yieldTo_42 (lv_at hl 0 rfl) ?_
      refine lv_iconst (v := 1) hx hb d_Ch_yieldTo_44 (by decide) ?_
      obtain ⟨⟨fs, h1⟩, h⟩ := h
      have h9 := h
      clear h
      have hF := hW.free hS hA
      refine va_callv (va_runV (As := [.ref b14, .int 1]) (rest := []) ⟨hx, hb, hml, hown, hts⟩ (c_Ch_release _ h9) (cwV 2 hts (gi_V bw_779 bw_780 bw_781 bw_11 bw_782) rfl rfl rfl (by decide +kernel) ⟨Nat.le_of_ble_eq_true rfl, Nat.le_of_ble_eq_true rfl⟩) ⟨hI.blind, hw_recv hK hW h1 rfl, hI.give hW hS hA hK hZ0⟩ rfl rfl hl.1 rfl (lv_room (Nat.le_of_ble_eq_true rfl)) d_Ch_yieldTo_45 ⟨(show _ ≤ 0 by omega), (show _ ≤ 0 by omega)⟩) hS (fun q _ z => hF q z) hF (fun M17 t H locs ht _ h hB1 _ _ hS => ?_)
      have hW := hw_back hF ht hB1
      clear h9
      exact l_Ch_yieldTo_48 C0  h hW hS (lv_sub hl [] rfl)
  · have h := h1 c13
    refine lv_aload_n hx hb d_Ch_yieldTo_17 rfl (lv_at hl 1 rfl) ?_
    refine lq_load_n hx hb d_Ch_yieldTo_18 rfl (lv_at hl 2 rfl) ?_
    refine lv_dload_n hx hb d_Ch_yieldTo_19 rfl (lv_at hl 3 rfl) ?_
    obtain ⟨⟨fs, h1⟩, h⟩ := h
    have h9 := h
    clear h
    have hF := hW.free hS hA
    refine va_callv (va_runV (As := [va_rf a1, .double x2]) (rest := []) ⟨hx, hb, hml, hown, hts⟩ (c_Ch_handFirst _ h9) (cwV 2 hts (gi_V bw_807 bw_809 bs_14 bw_11 bw_810) rfl rfl rfl (by decide +kernel) ⟨Nat.le_of_ble_eq_true rfl, Nat.le_of_ble_eq_true rfl⟩) ⟨hI.blind, hw_recv hK hW h1 rfl, hI.give hW hS hA hK hZ0⟩ rfl rfl hl.1 rfl (lv_room (Nat.le_of_ble_eq_true rfl)) d_Ch_yieldTo_20 ⟨(show _ ≤ 0 by omega), (show _ ≤ 0 by omega)⟩) hS (fun q _ z => hF q z) hF (fun M18 t H locs ht _ h hB1 _ _ hS => ?_)
    have hW := hw_back hF ht hB1
    clear h9
    refine lv_goto (tgt := 48) hx hb d_Ch_yieldTo_23 (by decide) ?_
    exact l_Ch_yieldTo_48 C0  h hW hS (lv_sub hl [] rfl)
set_option maxRecDepth 20000 in
theorem c_Ch_yieldTo {l : Launch} {D : va_G} {ca G : Nat → Nat} (post : hM → Prop) {M : hM} {sz : Nat} {a0 : Nat} {a1 : Option Nat} {x2 : UInt64} (h : wp_Ch_yieldTo G ca post M a0 a1 x2) : Met l y_Ch_yieldTo (wz y_Ch_yieldTo prog_2_method_13_code 5 (none)) rm_Ch_yieldTo (va_Pc [.ref a0, va_rf a1, .double x2] (hI D ca G sz M)) (va_Qv post (hB D M sz) (hp_A M sz)) 0 0 (hp_A M sz) := by
  refine Met.ofW (cc := prog_2_method_13_code) (maxL := 5) (ret := none) (by decide) rfl ?_
  intro p e s m args below meth c s₁ B hml hv
  obtain ⟨rfl, hsz, hW, hK, hZ0⟩ := hv
  have hts := fun w hw => atoms_spec (ws := wz y_Ch_yieldTo prog_2_method_13_code 5 (none)) B.pre w (List.mem_cons_of_mem _ hw)
  have hown : s.vm.findClass "ChannelHall$Channel" = some m.cls := findClass_of_methodNamed B.named
  subst hsz
  have hl : lv_has ((lg_sl [.ref a0, va_rf a1, .double x2] ++ List.replicate (5 - (lg_sl [.ref a0, va_rf a1, .double x2]).length) Slot.unset).toArray) 5 [(0, .ref a0), (1, va_rf a1), (2, .double x2)] := by cases a1 <;> exact lv_entry _ (Nat.le_of_ble_eq_true rfl)
  rw [lg_entry_eq]
  exact l_Ch_yieldTo_e ⟨B.exec, B.bytes, B.returns, hml, hown, hts, B.notSynchronized, hK, fun q h => Or.inr h, hZ0⟩ a0 a1 x2 h hW va_S.rf hl

theorem d_Ch_serveOnce_0 : decode prog_2_method_15_code 0 = .ok (.aload_n 0, 1) := by decide +kernel
theorem d_Ch_serveOnce_1 : decode prog_2_method_15_code 1 = .ok (.getstatic 69, 3) := by decide +kernel
theorem d_Ch_serveOnce_4 : decode prog_2_method_15_code 4 = .ok (.invokevirtual 75, 3) := by decide +kernel
theorem d_Ch_serveOnce_7 : decode prog_2_method_15_code 7 = .ok (.astore_n 3, 1) := by decide +kernel
theorem d_Ch_serveOnce_8 : decode prog_2_method_15_code 8 = .ok (.aload_n 0, 1) := by decide +kernel
theorem d_Ch_serveOnce_9 : decode prog_2_method_15_code 9 = .ok (.getstatic 89, 3) := by decide +kernel
theorem d_Ch_serveOnce_12 : decode prog_2_method_15_code 12 = .ok (.invokevirtual 75, 3) := by decide +kernel
theorem d_Ch_serveOnce_15 : decode prog_2_method_15_code 15 = .ok (.astore 4, 2) := by decide +kernel
theorem d_Ch_serveOnce_17 : decode prog_2_method_15_code 17 = .ok (.aload_n 3, 1) := by decide +kernel
theorem d_Ch_serveOnce_18 : decode prog_2_method_15_code 18 = .ok (.ifnull 25, 3) := by decide +kernel
theorem d_Ch_serveOnce_21 : decode prog_2_method_15_code 21 = .ok (.aload_n 0, 1) := by decide +kernel
theorem d_Ch_serveOnce_22 : decode prog_2_method_15_code 22 = .ok (.dload_n 1, 1) := by decide +kernel
theorem d_Ch_serveOnce_23 : decode prog_2_method_15_code 23 = .ok (.invokevirtual 65, 3) := by decide +kernel
theorem d_Ch_serveOnce_26 : decode prog_2_method_15_code 26 = .ok (.ifCond .eq 17, 3) := by decide +kernel
theorem d_Ch_serveOnce_29 : decode prog_2_method_15_code 29 = .ok (.aload_n 0, 1) := by decide +kernel
theorem d_Ch_serveOnce_30 : decode prog_2_method_15_code 30 = .ok (.aload_n 3, 1) := by decide +kernel
theorem d_Ch_serveOnce_31 : decode prog_2_method_15_code 31 = .ok (.dload_n 1, 1) := by decide +kernel
theorem d_Ch_serveOnce_32 : decode prog_2_method_15_code 32 = .ok (.invokevirtual 104, 3) := by decide +kernel
theorem d_Ch_serveOnce_35 : decode prog_2_method_15_code 35 = .ok (.aload_n 0, 1) := by decide +kernel
theorem d_Ch_serveOnce_36 : decode prog_2_method_15_code 36 = .ok (.aload_n 3, 1) := by decide +kernel
theorem d_Ch_serveOnce_37 : decode prog_2_method_15_code 37 = .ok (.iconst 1, 1) := by decide +kernel
theorem d_Ch_serveOnce_38 : decode prog_2_method_15_code 38 = .ok (.invokevirtual 100, 3) := by decide +kernel
theorem d_Ch_serveOnce_41 : decode prog_2_method_15_code 41 = .ok (.iconst 1, 1) := by decide +kernel
theorem d_Ch_serveOnce_42 : decode prog_2_method_15_code 42 = .ok (.ireturn, 1) := by decide +kernel
theorem d_Ch_serveOnce_43 : decode prog_2_method_15_code 43 = .ok (.aload 4, 2) := by decide +kernel
theorem d_Ch_serveOnce_45 : decode prog_2_method_15_code 45 = .ok (.ifnull 41, 3) := by decide +kernel
theorem d_Ch_serveOnce_48 : decode prog_2_method_15_code 48 = .ok (.aload_n 0, 1) := by decide +kernel
theorem d_Ch_serveOnce_49 : decode prog_2_method_15_code 49 = .ok (.getfield 12, 3) := by decide +kernel
theorem d_Ch_serveOnce_52 : decode prog_2_method_15_code 52 = .ok (.invokevirtual 79, 3) := by decide +kernel
theorem d_Ch_serveOnce_55 : decode prog_2_method_15_code 55 = .ok (.aload_n 0, 1) := by decide +kernel
theorem d_Ch_serveOnce_56 : decode prog_2_method_15_code 56 = .ok (.getfield 46, 3) := by decide +kernel
theorem d_Ch_serveOnce_59 : decode prog_2_method_15_code 59 = .ok (.if_icmp .ge 27, 3) := by decide +kernel
theorem d_Ch_serveOnce_62 : decode prog_2_method_15_code 62 = .ok (.aload_n 0, 1) := by decide +kernel
theorem d_Ch_serveOnce_63 : decode prog_2_method_15_code 63 = .ok (.aload 4, 2) := by decide +kernel
theorem d_Ch_serveOnce_65 : decode prog_2_method_15_code 65 = .ok (.getfield 108, 3) := by decide +kernel
theorem d_Ch_serveOnce_68 : decode prog_2_method_15_code 68 = .ok (.aload 4, 2) := by decide +kernel
theorem d_Ch_serveOnce_70 : decode prog_2_method_15_code 70 = .ok (.getfield 114, 3) := by decide +kernel
theorem d_Ch_serveOnce_73 : decode prog_2_method_15_code 73 = .ok (.dload_n 1, 1) := by decide +kernel
theorem d_Ch_serveOnce_74 : decode prog_2_method_15_code 74 = .ok (.invokevirtual 92, 3) := by decide +kernel
theorem d_Ch_serveOnce_77 : decode prog_2_method_15_code 77 = .ok (.aload_n 0, 1) := by decide +kernel
theorem d_Ch_serveOnce_78 : decode prog_2_method_15_code 78 = .ok (.aload 4, 2) := by decide +kernel
theorem d_Ch_serveOnce_80 : decode prog_2_method_15_code 80 = .ok (.iconst 1, 1) := by decide +kernel
theorem d_Ch_serveOnce_81 : decode prog_2_method_15_code 81 = .ok (.invokevirtual 100, 3) := by decide +kernel
theorem d_Ch_serveOnce_84 : decode prog_2_method_15_code 84 = .ok (.iconst 1, 1) := by decide +kernel
theorem d_Ch_serveOnce_85 : decode prog_2_method_15_code 85 = .ok (.ireturn, 1) := by decide +kernel
theorem d_Ch_serveOnce_86 : decode prog_2_method_15_code 86 = .ok (.aload_n 0, 1) := by decide +kernel
theorem d_Ch_serveOnce_87 : decode prog_2_method_15_code 87 = .ok (.getfield 39, 3) := by decide +kernel
theorem d_Ch_serveOnce_90 : decode prog_2_method_15_code 90 = .ok (.iconst 2, 1) := by decide +kernel
theorem d_Ch_serveOnce_91 : decode prog_2_method_15_code 91 = .ok (.if_icmp .ne 37, 3) := by decide +kernel
theorem d_Ch_serveOnce_94 : decode prog_2_method_15_code 94 = .ok (.aload 4, 2) := by decide +kernel
theorem d_Ch_serveOnce_96 : decode prog_2_method_15_code 96 = .ok (.ifnull 32, 3) := by decide +kernel
theorem d_Ch_serveOnce_99 : decode prog_2_method_15_code 99 = .ok (.aload_n 3, 1) := by decide +kernel
theorem d_Ch_serveOnce_100 : decode prog_2_method_15_code 100 = .ok (.ifnull 28, 3) := by decide +kernel
theorem d_Ch_serveOnce_103 : decode prog_2_method_15_code 103 = .ok (.aload_n 0, 1) := by decide +kernel
theorem d_Ch_serveOnce_104 : decode prog_2_method_15_code 104 = .ok (.aload 4, 2) := by decide +kernel
theorem d_Ch_serveOnce_106 : decode prog_2_method_15_code 106 = .ok (.getfield 108, 3) := by decide +kernel
theorem d_Ch_serveOnce_109 : decode prog_2_method_15_code 109 = .ok (.aload_n 3, 1) := by decide +kernel
theorem d_Ch_serveOnce_110 : decode prog_2_method_15_code 110 = .ok (.invokevirtual 96, 3) := by decide +kernel
theorem d_Ch_serveOnce_113 : decode prog_2_method_15_code 113 = .ok (.aload_n 0, 1) := by decide +kernel
theorem d_Ch_serveOnce_114 : decode prog_2_method_15_code 114 = .ok (.aload 4, 2) := by decide +kernel
theorem d_Ch_serveOnce_116 : decode prog_2_method_15_code 116 = .ok (.iconst 1, 1) := by decide +kernel
theorem d_Ch_serveOnce_117 : decode prog_2_method_15_code 117 = .ok (.invokevirtual 100, 3) := by decide +kernel
theorem d_Ch_serveOnce_120 : decode prog_2_method_15_code 120 = .ok (.aload_n 0, 1) := by decide +kernel
theorem d_Ch_serveOnce_121 : decode prog_2_method_15_code 121 = .ok (.aload_n 3, 1) := by decide +kernel
theorem d_Ch_serveOnce_122 : decode prog_2_method_15_code 122 = .ok (.iconst 1, 1) := by decide +kernel
theorem d_Ch_serveOnce_123 : decode prog_2_method_15_code 123 = .ok (.invokevirtual 100, 3) := by decide +kernel
theorem d_Ch_serveOnce_126 : decode prog_2_method_15_code 126 = .ok (.iconst 1, 1) := by decide +kernel
theorem d_Ch_serveOnce_127 : decode prog_2_method_15_code 127 = .ok (.ireturn, 1) := by decide +kernel
theorem d_Ch_serveOnce_128 : decode prog_2_method_15_code 128 = .ok (.iconst 0, 1) := by decide +kernel
theorem d_Ch_serveOnce_129 : decode prog_2_method_15_code 129 = .ok (.ireturn, 1) := by decide +kernel
def y_Ch_serveOnce : MethodName := ⟨"ChannelHall$Channel", "serveOnce", "(D)Z"⟩
abbrev rm_Ch_serveOnce : Room := { frames := 7, cells := 2, slots := 25, locals := 177 }
def wp_Ch_serveOnce_128 (G ca : Nat → Nat) (post : Int32 → hM → Prop) (M : hM)  : Prop := post 0 M
def wp_Ch_serveOnce_86 (G ca : Nat → Nat) (post : Int32 → hM → Prop) (M : hM) (l0b86 : Nat) (l3b86 : Option Nat) (l4b86 : Option Nat) : Prop := gI M l0b86 0 1 fun v30 => (¬ v30 = 2 → wp_Ch_serveOnce_128 G ca post M) ∧ (v30 = 2 → (l4b86 = none → wp_Ch_serveOnce_128 G ca post M) ∧ (∀ b32 : Nat, l4b86 = some b32 → (l3b86 = none → wp_Ch_serveOnce_128 G ca post M) ∧ (∀ b33 : Nat, l3b86 = some b33 → gI M b32 2 7 fun v34 => rC M l0b86 0 (wp_Ch_handOver G ca (fun M35 => rC M35 l0b86 0 (wp_Ch_release G ca (fun M36 => rC M36 l0b86 0 (wp_Ch_release G ca (fun M37 => post 1 M37) M36 l0b86 (some b33) 1)) M35 l0b86 (some b32) 1)) M l0b86 v34 (some b33)))))
def wp_Ch_serveOnce_43 (G ca : Nat → Nat) (post : Int32 → hM → Prop) (M : hM) (l0b43 : Nat) (l1b43 : UInt64) (l3b43 : Option Nat) (l4b43 : Option Nat) : Prop := (l4b43 = none → wp_Ch_serveOnce_86 G ca post M l0b43 l3b43 none) ∧ (∀ b38 : Nat, l4b43 = some b38 → gR M l0b43 0 4 fun v39 => nN v39 fun b40 => rC M b40 4 (wp_Al_size G ca (fun r41 M42 => gI M42 l0b43 0 2 fun v43 => (v43 ≤ r41 → wp_Ch_serveOnce_86 G ca post M42 l0b43 l3b43 (some b38)) ∧ (¬ v43 ≤ r41 → gI M42 b38 2 7 fun v45 => gD M42 b38 2 8 fun v46 => rC M42 l0b43 0 (wp_Ch_put G ca (fun M47 => rC M47 l0b43 0 (wp_Ch_release G ca (fun M48 => post 1 M48) M47 l0b43 (some b38) 1)) M42 l0b43 v45 v46 l1b43))) M b40))
def wp_Ch_serveOnce (G ca : Nat → Nat) (post : Int32 → hM → Prop) (M : hM) (a0 : Nat) (x1 : UInt64) : Prop := rC M a0 0 (wp_Ch_firstWaiter G ca (fun r49 M50 => rC M50 a0 0 (wp_Ch_firstWaiter G ca (fun r51 M52 => (r49 = none → wp_Ch_serveOnce_43 G ca post M52 a0 x1 none r51) ∧ (∀ b53 : Nat, r49 = some b53 → rC M52 a0 0 (wp_Ch_isReady G ca (fun r54 M55 => (r54 = 0 → wp_Ch_serveOnce_43 G ca post M55 a0 x1 (some b53) r51) ∧ (¬ r54 = 0 → rC M55 a0 0 (wp_Ch_handFirst G ca (fun M57 => rC M57 a0 0 (wp_Ch_release G ca (fun M58 => post 1 M58) M57 a0 (some b53) 1)) M55 a0 (some b53) x1))) M52 a0 x1))) M50 a0 (some (G 0)))) M a0 (some (G 1)))
set_option maxHeartbeats 1000000 in
set_option maxRecDepth 20000 in
theorem l_Ch_serveOnce_128 {p : Program} {l : Launch} {e : Env} {s : State} {m : MethodId} {args : Array Value} {below : List Frame} {meth : Method} {c : Code} {D : va_G} {ca G : Nat → Nat} {A : Nat → Prop} (C0 : hC p s m args meth c D ca G prog_2_method_15_code 5 (some .boolean) "ChannelHall$Channel" A) {post : Int32 → hM → Prop} {M : hM} {H : Heap} {locs : List Loc} {ls : Array Slot} {cells slots : Nat}  (hc : cells ≤ 0) (hs : slots ≤ 0) (h : wp_Ch_serveOnce_128 G ca post M) (hW : hw D wCl A M H) (hS : va_S A s.heap H locs) (hl : lv_has ls 5 []) : W p l e rm_Ch_serveOnce s m args below meth c H locs cells slots (MQ below (va_Qi post (fun M' t => hw D wCl A M' t.heap) A) args s 2 25 A) (F0 m 128 ls []) := by
  obtain ⟨hx, hb, hr, hml, hown, hts, hlocks, hK, hA, hZ0⟩ := id C0
  refine lv_iconst (v := 0) hx hb d_Ch_serveOnce_128 (by decide) ?_
  refine W.widen (k := 2) (n := 25) (by omega) (by omega) ?_
  exact W.zret hx hb hr (by decide) (fun t ht hWm => ⟨⟨_, _, rfl, h, hw_t ht hW⟩, hS.F ht⟩) hS.2.2 d_Ch_serveOnce_129
set_option maxHeartbeats 1000000 in
set_option maxRecDepth 20000 in
theorem l_Ch_serveOnce_86 {p : Program} {l : Launch} {e : Env} {s : State} {m : MethodId} {args : Array Value} {below : List Frame} {meth : Method} {c : Code} {D : va_G} {ca G : Nat → Nat} {A : Nat → Prop} (C0 : hC p s m args meth c D ca G prog_2_method_15_code 5 (some .boolean) "ChannelHall$Channel" A) {post : Int32 → hM → Prop} {M : hM} {H : Heap} {locs : List Loc} {ls : Array Slot} {cells slots : Nat} (l0b86 : Nat) (l3b86 : Option Nat) (l4b86 : Option Nat) (hc : cells ≤ 0) (hs : slots ≤ 0) (h : wp_Ch_serveOnce_86 G ca post M l0b86 l3b86 l4b86) (hW : hw D wCl A M H) (hS : va_S A s.heap H locs) (hl : lv_has ls 5 [(0, .ref l0b86), (3, va_rf l3b86), (4, va_rf l4b86)]) : W p l e rm_Ch_serveOnce s m args below meth c H locs cells slots (MQ below (va_Qi post (fun M' t => hw D wCl A M' t.heap) A) args s 2 25 A) (F0 m 86 ls []) := by
  obtain ⟨hx, hb, hr, hml, hown, hts, hlocks, hK, hA, hZ0⟩ := id C0
  refine lv_aload_n hx hb d_Ch_serveOnce_86 rfl (lv_at hl 0 rfl) ?_
  obtain ⟨fs, v30, h1, h2, h⟩ := h
  refine va_get (D := D) (ci := 0) (v := .int v30) (C := "ChannelHall$Channel") (T := TCh) (N := 10) hx hb hts uCh hown hK (hw_one hW h1) 0 rfl rfl 1 (by decide) (hts _ bw_253) (fun _ h9 => h9) h2 d_Ch_serveOnce_87 ?_
  refine lv_iconst (v := 2) hx hb d_Ch_serveOnce_90 (by decide) ?_
  obtain ⟨h0, h1⟩ := h
  refine lv_icmp_ne (tgt := 128) hx hb d_Ch_serveOnce_91 (by decide) (fun c31 => ?_) (fun c31 => ?_)
  · have h := h0 c31
    exact l_Ch_serveOnce_128 C0  (by omega) (by omega) h hW hS (lv_sub hl [] rfl)
  · have h := h1 c31
    refine lq_load hx hb d_Ch_serveOnce_94 (lv_at hl 2 rfl) ?_
    obtain ⟨h0, h1⟩ := h
    cases l4b86 with
    | none =>
      have h := h0 rfl
      refine lv_ifnullN (tgt := 128) hx hb d_Ch_serveOnce_96 (by decide) ?_
      exact l_Ch_serveOnce_128 C0  (by omega) (by omega) h hW hS (lv_sub hl [] rfl)
    | some b32 =>
      have h := h1 b32 rfl
      refine lv_ifnull hx hb d_Ch_serveOnce_96 ?_
      refine lq_load_n hx hb d_Ch_serveOnce_99 rfl (lv_at hl 1 rfl) ?_
      obtain ⟨h0, h1⟩ := h
      cases l3b86 with
      | none =>
        have h := h0 rfl
        refine lv_ifnullN (tgt := 128) hx hb d_Ch_serveOnce_100 (by decide) ?_
        exact l_Ch_serveOnce_128 C0  (by omega) (by omega) h hW hS (lv_sub hl [] rfl)
      | some b33 =>
        have h := h1 b33 rfl
        refine lv_ifnull hx hb d_Ch_serveOnce_100 ?_
        refine lv_aload_n hx hb d_Ch_serveOnce_103 rfl (lv_at hl 0 rfl) ?_
        refine lv_aload hx hb d_Ch_serveOnce_104 (lv_at hl 2 rfl) ?_
        obtain ⟨fs, v34, h1, h2, h⟩ := h
        refine va_get (D := D) (ci := 2) (v := .int v34) (C := "ChannelHall$Worker") (T := TWo) (N := 11) hx hb hts uWo hown hK (hw_one hW h1) 0 rfl rfl 7 (by decide) (hts _ bw_70) (fun _ h9 => h9) h2 d_Ch_serveOnce_106 ?_
        refine lv_aload_n hx hb d_Ch_serveOnce_109 rfl (lv_at hl 1 rfl) ?_
        obtain ⟨⟨fs, h1⟩, h⟩ := h
        have h9 := h
        clear h
        have hF := hW.free hS hA
        refine va_callv (va_runV (As := [.int v34, .ref b33]) (rest := []) ⟨hx, hb, hml, hown, hts⟩ (c_Ch_handOver _ h9) (cwV 2 hts (gi_V bw_767 bw_769 bs_10 bw_11 bw_770) rfl rfl rfl (by decide +kernel) ⟨Nat.le_of_ble_eq_true rfl, Nat.le_of_ble_eq_true rfl⟩) ⟨hI.blind, hw_recv hK hW h1 rfl, hI.give hW hS hA hK hZ0⟩ rfl rfl hl.1 rfl (lv_room (Nat.le_of_ble_eq_true rfl)) d_Ch_serveOnce_110 ⟨(show _ ≤ 2 by omega), (show _ ≤ 25 by omega)⟩) hS (fun q _ z => hF q z) hF (fun M35 t H locs ht _ h hB1 _ _ hS => ?_)
        have hW := hw_back hF ht hB1
        clear h9
        refine lv_aload_n hx hb d_Ch_serveOnce_113 rfl (lv_at hl 0 rfl) ?_
        refine lv_aload hx hb d_Ch_serveOnce_114 (lv_at hl 2 rfl) ?_
        refine lv_iconst (v := 1) hx hb d_Ch_serveOnce_116 (by decide) ?_
        obtain ⟨⟨fs, h1⟩, h⟩ := h
        have h9 := h
        clear h
        have hF := hW.free hS hA
        refine va_callv (va_runV (As := [.ref b32, .int 1]) (rest := []) ⟨hx, hb, hml, hown, hts⟩ (c_Ch_release _ h9) (cwV 2 hts (gi_V bw_779 bw_780 bw_781 bw_11 bw_782) rfl rfl rfl (by decide +kernel) ⟨Nat.le_of_ble_eq_true rfl, Nat.le_of_ble_eq_true rfl⟩) ⟨hI.blind, hw_recv hK hW h1 rfl, hI.give hW hS hA hK hZ0⟩ rfl rfl hl.1 rfl (lv_room (Nat.le_of_ble_eq_true rfl)) d_Ch_serveOnce_117 ⟨(show _ ≤ 2 by omega), (show _ ≤ 25 by omega)⟩) hS (fun q _ z => hF q z) hF (fun M36 t H locs ht _ h hB1 _ _ hS => ?_)
        have hW := hw_back hF ht hB1
        clear h9
        refine lv_aload_n hx hb d_Ch_serveOnce_120 rfl (lv_at hl 0 rfl) ?_
        refine lv_aload_n hx hb d_Ch_serveOnce_121 rfl (lv_at hl 1 rfl) ?_
        refine lv_iconst (v := 1) hx hb d_Ch_serveOnce_122 (by decide) ?_
        obtain ⟨⟨fs, h1⟩, h⟩ := h
        have h9 := h
        clear h
        have hF := hW.free hS hA
        refine va_callv (va_runV (As := [.ref b33, .int 1]) (rest := []) ⟨hx, hb, hml, hown, hts⟩ (c_Ch_release _ h9) (cwV 2 hts (gi_V bw_779 bw_780 bw_781 bw_11 bw_782) rfl rfl rfl (by decide +kernel) ⟨Nat.le_of_ble_eq_true rfl, Nat.le_of_ble_eq_true rfl⟩) ⟨hI.blind, hw_recv hK hW h1 rfl, hI.give hW hS hA hK hZ0⟩ rfl rfl hl.1 rfl (lv_room (Nat.le_of_ble_eq_true rfl)) d_Ch_serveOnce_123 ⟨(show _ ≤ 2 by omega), (show _ ≤ 25 by omega)⟩) hS (fun q _ z => hF q z) hF (fun M37 t H locs ht _ h hB1 _ _ hS => ?_)
        have hW := hw_back hF ht hB1
        clear h9
        refine lv_iconst (v := 1) hx hb d_Ch_serveOnce_126 (by decide) ?_
        refine W.widen (k := 2) (n := 25) (by omega) (by omega) ?_
        exact W.zret hx hb hr (by decide) (fun t ht hWm => ⟨⟨_, _, rfl, h, hw_t ht hW⟩, hS.F ht⟩) hS.2.2 d_Ch_serveOnce_127
set_option maxHeartbeats 1000000 in
set_option maxRecDepth 20000 in
theorem l_Ch_serveOnce_43 {p : Program} {l : Launch} {e : Env} {s : State} {m : MethodId} {args : Array Value} {below : List Frame} {meth : Method} {c : Code} {D : va_G} {ca G : Nat → Nat} {A : Nat → Prop} (C0 : hC p s m args meth c D ca G prog_2_method_15_code 5 (some .boolean) "ChannelHall$Channel" A) {post : Int32 → hM → Prop} {M : hM} {H : Heap} {locs : List Loc} {ls : Array Slot} {cells slots : Nat} (l0b43 : Nat) (l1b43 : UInt64) (l3b43 : Option Nat) (l4b43 : Option Nat) (hc : cells ≤ 0) (hs : slots ≤ 0) (h : wp_Ch_serveOnce_43 G ca post M l0b43 l1b43 l3b43 l4b43) (hW : hw D wCl A M H) (hS : va_S A s.heap H locs) (hl : lv_has ls 5 [(0, .ref l0b43), (1, .double l1b43), (3, va_rf l3b43), (4, va_rf l4b43)]) : W p l e rm_Ch_serveOnce s m args below meth c H locs cells slots (MQ below (va_Qi post (fun M' t => hw D wCl A M' t.heap) A) args s 2 25 A) (F0 m 43 ls []) := by
  obtain ⟨hx, hb, hr, hml, hown, hts, hlocks, hK, hA, hZ0⟩ := id C0
  refine lq_load hx hb d_Ch_serveOnce_43 (lv_at hl 3 rfl) ?_
  obtain ⟨h0, h1⟩ := h
  cases l4b43 with
  | none =>
    have h := h0 rfl
    refine lv_ifnullN (tgt := 86) hx hb d_Ch_serveOnce_45 (by decide) ?_
    exact l_Ch_serveOnce_86 C0 l0b43 l3b43 none (by omega) (by omega) h hW hS (lv_sub hl [0, 2, 3] rfl)
  | some b38 =>
    have h := h1 b38 rfl
    refine lv_ifnull hx hb d_Ch_serveOnce_45 ?_
    refine lv_aload_n hx hb d_Ch_serveOnce_48 rfl (lv_at hl 0 rfl) ?_
    obtain ⟨fs, v39, h1, h2, h⟩ := h
    refine va_get (D := D) (ci := 0) (v := va_rf v39) (C := "ChannelHall$Channel") (T := TCh) (N := 10) hx hb hts uCh hown hK (hw_one hW h1) 0 rfl rfl 4 (by decide) (hts _ bw_258) (fun _ h9 => h9) h2 d_Ch_serveOnce_49 ?_
    obtain ⟨b40, rfl, h⟩ := h
    obtain ⟨⟨fs, h1⟩, h⟩ := h
    have h9 := h
    clear h
    have hF := hW.free hS hA
    refine va_calli (va_runV (As := []) (rest := []) ⟨hx, hb, hml, hown, hts⟩ (c_Al_size _ h9) (cwV 0 hts (gi_V bw_376 bw_377 bw_378 bw_14 bw_379) rfl rfl rfl (by decide +kernel) ⟨Nat.le_of_ble_eq_true rfl, Nat.le_of_ble_eq_true rfl⟩) ⟨hI.blind, hw_recv hK hW h1 rfl, hI.give hW hS hA hK hZ0⟩ rfl rfl hl.1 rfl (lv_room (Nat.le_of_ble_eq_true rfl)) d_Ch_serveOnce_52 ⟨(show _ ≤ 2 by omega), (show _ ≤ 25 by omega)⟩) hS (fun q _ z => hF q z) hF (fun r41 M42 t H locs ht _ h hB1 _ _ hS => ?_)
    have hW := hw_back hF ht hB1
    clear h9
    refine lv_aload_n hx hb d_Ch_serveOnce_55 rfl (lv_at hl 0 rfl) ?_
    obtain ⟨fs, v43, h1, h2, h⟩ := h
    refine va_get (D := D) (ci := 0) (v := .int v43) (C := "ChannelHall$Channel") (T := TCh) (N := 10) hx hb hts uCh hown hK (hw_one hW h1) 0 rfl rfl 2 (by decide) (hts _ bw_255) (fun _ h9 => h9) h2 d_Ch_serveOnce_56 ?_
    obtain ⟨h0, h1⟩ := h
    refine lv_icmp_ge (tgt := 86) hx hb d_Ch_serveOnce_59 (by decide) (fun c44 => ?_) (fun c44 => ?_)
    · have h := h0 c44
      exact l_Ch_serveOnce_86 C0 l0b43 l3b43 (some b38) (by omega) (by omega) h hW hS (lv_sub hl [0, 2, 3] rfl)
    · have h := h1 c44
      refine lv_aload_n hx hb d_Ch_serveOnce_62 rfl (lv_at hl 0 rfl) ?_
      refine lv_aload hx hb d_Ch_serveOnce_63 (lv_at hl 3 rfl) ?_
      obtain ⟨fs, v45, h1, h2, h⟩ := h
      refine va_get (D := D) (ci := 2) (v := .int v45) (C := "ChannelHall$Worker") (T := TWo) (N := 11) hx hb hts uWo hown hK (hw_one hW h1) 0 rfl rfl 7 (by decide) (hts _ bw_70) (fun _ h9 => h9) h2 d_Ch_serveOnce_65 ?_
      refine lv_aload hx hb d_Ch_serveOnce_68 (lv_at hl 3 rfl) ?_
      obtain ⟨fs, v46, h1, h2, h⟩ := h
      refine va_get (D := D) (ci := 2) (v := .double v46) (C := "ChannelHall$Worker") (T := TWo) (N := 11) hx hb hts uWo hown hK (hw_one hW h1) 0 rfl rfl 8 (by decide) (hts _ bw_72) (fun _ h9 => h9) h2 d_Ch_serveOnce_70 ?_
      refine lv_dload_n hx hb d_Ch_serveOnce_73 rfl (lv_at hl 1 rfl) ?_
      obtain ⟨⟨fs, h1⟩, h⟩ := h
      have h9 := h
      clear h
      have hF := hW.free hS hA
      refine va_callv (va_runV (As := [.int v45, .double v46, .double l1b43]) (rest := []) ⟨hx, hb, hml, hown, hts⟩ (c_Ch_put _ h9) (cwV 3 hts (gi_V bw_472 bw_474 bs_7 bw_11 bw_475) rfl rfl rfl (by decide +kernel) ⟨Nat.le_of_ble_eq_true rfl, Nat.le_of_ble_eq_true rfl⟩) ⟨hI.blind, hw_recv hK hW h1 rfl, hI.give hW hS hA hK hZ0⟩ rfl rfl hl.1 rfl (lv_room (Nat.le_of_ble_eq_true rfl)) d_Ch_serveOnce_74 ⟨(show _ ≤ 2 by omega), (show _ ≤ 25 by omega)⟩) hS (fun q _ z => hF q z) hF (fun M47 t H locs ht _ h hB1 _ _ hS => ?_)
      have hW := hw_back hF ht hB1
      clear h9
      refine lv_aload_n hx hb d_Ch_serveOnce_77 rfl (lv_at hl 0 rfl) ?_
      refine lv_aload hx hb d_Ch_serveOnce_78 (lv_at hl 3 rfl) ?_
      refine lv_iconst (v := 1) hx hb d_Ch_serveOnce_80 (by decide) ?_
      obtain ⟨⟨fs, h1⟩, h⟩ := h
      have h9 := h
      clear h
      have hF := hW.free hS hA
      refine va_callv (va_runV (As := [.ref b38, .int 1]) (rest := []) ⟨hx, hb, hml, hown, hts⟩ (c_Ch_release _ h9) (cwV 2 hts (gi_V bw_779 bw_780 bw_781 bw_11 bw_782) rfl rfl rfl (by decide +kernel) ⟨Nat.le_of_ble_eq_true rfl, Nat.le_of_ble_eq_true rfl⟩) ⟨hI.blind, hw_recv hK hW h1 rfl, hI.give hW hS hA hK hZ0⟩ rfl rfl hl.1 rfl (lv_room (Nat.le_of_ble_eq_true rfl)) d_Ch_serveOnce_81 ⟨(show _ ≤ 2 by omega), (show _ ≤ 25 by omega)⟩) hS (fun q _ z => hF q z) hF (fun M48 t H locs ht _ h hB1 _ _ hS => ?_)
      have hW := hw_back hF ht hB1
      clear h9
      refine lv_iconst (v := 1) hx hb d_Ch_serveOnce_84 (by decide) ?_
      refine W.widen (k := 2) (n := 25) (by omega) (by omega) ?_
      exact W.zret hx hb hr (by decide) (fun t ht hWm => ⟨⟨_, _, rfl, h, hw_t ht hW⟩, hS.F ht⟩) hS.2.2 d_Ch_serveOnce_85
set_option maxHeartbeats 1000000 in
set_option maxRecDepth 20000 in
theorem l_Ch_serveOnce_e {p : Program} {l : Launch} {e : Env} {s : State} {m : MethodId} {args : Array Value} {below : List Frame} {meth : Method} {c : Code} {D : va_G} {ca G : Nat → Nat} {A : Nat → Prop} (C0 : hC p s m args meth c D ca G prog_2_method_15_code 5 (some .boolean) "ChannelHall$Channel" A) {post : Int32 → hM → Prop} {M : hM} {H : Heap} {locs : List Loc} {ls : Array Slot} {cells slots : Nat} (a0 : Nat) (x1 : UInt64) (hc : cells ≤ 0) (hs : slots ≤ 0) (h : wp_Ch_serveOnce G ca post M a0 x1) (hW : hw D wCl A M H) (hS : va_S A s.heap H locs) (hl : lv_has ls 5 [(0, .ref a0), (1, .double x1)]) : W p l e rm_Ch_serveOnce s m args below meth c H locs cells slots (MQ below (va_Qi post (fun M' t => hw D wCl A M' t.heap) A) args s 2 25 A) (F0 m 0 ls []) := by
  obtain ⟨hx, hb, hr, hml, hown, hts, hlocks, hK, hA, hZ0⟩ := id C0
  refine lv_aload_n hx hb d_Ch_serveOnce_0 rfl (lv_at hl 0 rfl) ?_
  refine va_gets (v := .ref (G 1)) hx hb (hZ0.2.1) hS hown (hts _ bw_395) (fun _ h9 => h9) d_Ch_serveOnce_1 ?_
  obtain ⟨⟨fs, h1⟩, h⟩ := h
  have h9 := h
  clear h
  have hF := hW.free hS hA
  refine va_callq (va_runV (As := [.ref (G 1)]) (rest := []) ⟨hx, hb, hml, hown, hts⟩ (c_Ch_firstWaiter _ h9) (cwV 1 hts (gi_V bw_372 bw_373 bw_374 bw_11 bw_375) rfl rfl rfl (by decide +kernel) ⟨Nat.le_of_ble_eq_true rfl, Nat.le_of_ble_eq_true rfl⟩) ⟨hI.blind, hw_recv hK hW h1 rfl, hI.give hW hS hA hK hZ0⟩ rfl rfl hl.1 rfl (lv_room (Nat.le_of_ble_eq_true rfl)) d_Ch_serveOnce_4 ⟨(show _ ≤ 2 by omega), (show _ ≤ 25 by omega)⟩) hS (fun q _ z => hF q z) hF (fun r49 M50 t H locs ht _ h hB1 _ _ hS => ?_)
  have hW := hw_back hF ht hB1
  clear h9
  refine lq_store_n (lv' := [(3, va_rf r49), (0, .ref a0), (1, .double x1)]) hx hb d_Ch_serveOnce_7 rfl hl (by decide) rfl (fun ls hl => ?_)
  refine lv_aload_n hx hb d_Ch_serveOnce_8 rfl (lv_at hl 1 rfl) ?_
  refine va_gets (v := .ref (G 0)) hx hb (hZ0.1) hS hown (hts _ bw_370) (fun _ h9 => h9) d_Ch_serveOnce_9 ?_
  obtain ⟨⟨fs, h1⟩, h⟩ := h
  have h9 := h
  clear h
  have hF := hW.free hS hA
  refine va_callq (va_runV (As := [.ref (G 0)]) (rest := []) ⟨hx, hb, hml, hown, hts⟩ (c_Ch_firstWaiter _ h9) (cwV 1 hts (gi_V bw_372 bw_373 bw_374 bw_11 bw_375) rfl rfl rfl (by decide +kernel) ⟨Nat.le_of_ble_eq_true rfl, Nat.le_of_ble_eq_true rfl⟩) ⟨hI.blind, hw_recv hK hW h1 rfl, hI.give hW hS hA hK hZ0⟩ rfl rfl hl.1 rfl (lv_room (Nat.le_of_ble_eq_true rfl)) d_Ch_serveOnce_12 ⟨(show _ ≤ 2 by omega), (show _ ≤ 25 by omega)⟩) hS (fun q _ z => hF q z) hF (fun r51 M52 t H locs ht _ h hB1 _ _ hS => ?_)
  have hW := hw_back hF ht hB1
  clear h9
  refine lq_store (lv' := [(4, va_rf r51), (3, va_rf r49), (0, .ref a0), (1, .double x1)]) hx hb d_Ch_serveOnce_15 hl (by decide) (by cases r49 <;> rfl) (fun ls hl => ?_)
  refine lq_load_n hx hb d_Ch_serveOnce_17 rfl (lv_at hl 1 rfl) ?_
  obtain ⟨h0, h1⟩ := h
  cases r49 with
  | none =>
    have h := h0 rfl
    refine lv_ifnullN (tgt := 43) hx hb d_Ch_serveOnce_18 (by decide) ?_
    exact l_Ch_serveOnce_43 C0 a0 x1 none r51 (by omega) (by omega) h hW hS (lv_sub hl [2, 3, 1, 0] rfl)
  | some b53 =>
    have h := h1 b53 rfl
    refine lv_ifnull hx hb d_Ch_serveOnce_18 ?_
    refine lv_aload_n hx hb d_Ch_serveOnce_21 rfl (lv_at hl 2 rfl) ?_
    refine lv_dload_n hx hb d_Ch_serveOnce_22 rfl (lv_at hl 3 rfl) ?_
    obtain ⟨⟨fs, h1⟩, h⟩ := h
    have h9 := h
    clear h
    have hF := hW.free hS hA
    refine va_calli (va_runV (As := [.double x1]) (rest := []) ⟨hx, hb, hml, hown, hts⟩ (c_Ch_isReady _ h9) (cwV 1 hts (gi_V bw_799 bw_800 bw_801 bw_11 bw_802) rfl rfl rfl (by decide +kernel) ⟨Nat.le_of_ble_eq_true rfl, Nat.le_of_ble_eq_true rfl⟩) ⟨hI.blind, hw_recv hK hW h1 rfl, hI.give hW hS hA hK hZ0⟩ rfl rfl hl.1 rfl (lv_room (Nat.le_of_ble_eq_true rfl)) d_Ch_serveOnce_23 ⟨(show _ ≤ 2 by omega), (show _ ≤ 25 by omega)⟩) hS (fun q _ z => hF q z) hF (fun r54 M55 t H locs ht _ h hB1 _ _ hS => ?_)
    have hW := hw_back hF ht hB1
    clear h9
    obtain ⟨h0, h1⟩ := h
    refine lv_if_eq (tgt := 43) hx hb d_Ch_serveOnce_26 (by decide) (fun c56 => ?_) (fun c56 => ?_)
    · have h := h0 c56
      exact l_Ch_serveOnce_43 C0 a0 x1 (some b53) r51 (by omega) (by omega) h hW hS (lv_sub hl [2, 3, 1, 0] rfl)
    · have h := h1 c56
      refine lv_aload_n hx hb d_Ch_serveOnce_29 rfl (lv_at hl 2 rfl) ?_
      refine lv_aload_n hx hb d_Ch_serveOnce_30 rfl (lv_at hl 1 rfl) ?_
      refine lv_dload_n hx hb d_Ch_serveOnce_31 rfl (lv_at hl 3 rfl) ?_
      obtain ⟨⟨fs, h1⟩, h⟩ := h
      have h9 := h
      clear h
      have hF := hW.free hS hA
      refine va_callv (va_runV (As := [.ref b53, .double x1]) (rest := []) ⟨hx, hb, hml, hown, hts⟩ (c_Ch_handFirst _ h9) (cwV 2 hts (gi_V bw_807 bw_809 bs_14 bw_11 bw_810) rfl rfl rfl (by decide +kernel) ⟨Nat.le_of_ble_eq_true rfl, Nat.le_of_ble_eq_true rfl⟩) ⟨hI.blind, hw_recv hK hW h1 rfl, hI.give hW hS hA hK hZ0⟩ rfl rfl hl.1 rfl (lv_room (Nat.le_of_ble_eq_true rfl)) d_Ch_serveOnce_32 ⟨(show _ ≤ 2 by omega), (show _ ≤ 25 by omega)⟩) hS (fun q _ z => hF q z) hF (fun M57 t H locs ht _ h hB1 _ _ hS => ?_)
      have hW := hw_back hF ht hB1
      clear h9
      refine lv_aload_n hx hb d_Ch_serveOnce_35 rfl (lv_at hl 2 rfl) ?_
      refine lv_aload_n hx hb d_Ch_serveOnce_36 rfl (lv_at hl 1 rfl) ?_
      refine lv_iconst (v := 1) hx hb d_Ch_serveOnce_37 (by decide) ?_
      obtain ⟨⟨fs, h1⟩, h⟩ := h
      have h9 := h
      clear h
      have hF := hW.free hS hA
      refine va_callv (va_runV (As := [.ref b53, .int 1]) (rest := []) ⟨hx, hb, hml, hown, hts⟩ (c_Ch_release _ h9) (cwV 2 hts (gi_V bw_779 bw_780 bw_781 bw_11 bw_782) rfl rfl rfl (by decide +kernel) ⟨Nat.le_of_ble_eq_true rfl, Nat.le_of_ble_eq_true rfl⟩) ⟨hI.blind, hw_recv hK hW h1 rfl, hI.give hW hS hA hK hZ0⟩ rfl rfl hl.1 rfl (lv_room (Nat.le_of_ble_eq_true rfl)) d_Ch_serveOnce_38 ⟨(show _ ≤ 2 by omega), (show _ ≤ 25 by omega)⟩) hS (fun q _ z => hF q z) hF (fun M58 t H locs ht _ h hB1 _ _ hS => ?_)
      have hW := hw_back hF ht hB1
      clear h9
      refine lv_iconst (v := 1) hx hb d_Ch_serveOnce_41 (by decide) ?_
      refine W.widen (k := 2) (n := 25) (by omega) (by omega) ?_
      exact W.zret hx hb hr (by decide) (fun t ht hWm => ⟨⟨_, _, rfl, h, hw_t ht hW⟩, hS.F ht⟩) hS.2.2 d_Ch_serveOnce_42
set_option maxRecDepth 20000 in
theorem c_Ch_serveOnce {l : Launch} {D : va_G} {ca G : Nat → Nat} (post : Int32 → hM → Prop) {M : hM} {sz : Nat} {a0 : Nat} {x1 : UInt64} (h : wp_Ch_serveOnce G ca post M a0 x1) : Met l y_Ch_serveOnce (wz y_Ch_serveOnce prog_2_method_15_code 5 (some .boolean)) rm_Ch_serveOnce (va_Pc [.ref a0, .double x1] (hI D ca G sz M)) (va_Qi post (hB D M sz) (hp_A M sz)) 2 25 (hp_A M sz) := by
  refine Met.ofW (cc := prog_2_method_15_code) (maxL := 5) (ret := some .boolean) (by decide) rfl ?_
  intro p e s m args below meth c s₁ B hml hv
  obtain ⟨rfl, hsz, hW, hK, hZ0⟩ := hv
  have hts := fun w hw => atoms_spec (ws := wz y_Ch_serveOnce prog_2_method_15_code 5 (some .boolean)) B.pre w (List.mem_cons_of_mem _ hw)
  have hown : s.vm.findClass "ChannelHall$Channel" = some m.cls := findClass_of_methodNamed B.named
  subst hsz
  have hl := lv_entry [.ref a0, .double x1] (n := 5) (Nat.le_of_ble_eq_true rfl)
  rw [lg_entry_eq]
  exact l_Ch_serveOnce_e ⟨B.exec, B.bytes, B.returns, hml, hown, hts, B.notSynchronized, hK, fun q h => Or.inr h, hZ0⟩ a0 x1 (Nat.zero_le _) (Nat.zero_le _) h hW va_S.rf hl

theorem d_Ch_serve_0 : decode prog_2_method_14_code 0 = .ok (.iconst 0, 1) := by decide +kernel
theorem d_Ch_serve_1 : decode prog_2_method_14_code 1 = .ok (.istore_n 3, 1) := by decide +kernel
theorem d_Ch_serve_2 : decode prog_2_method_14_code 2 = .ok (.iload_n 3, 1) := by decide +kernel
theorem d_Ch_serve_3 : decode prog_2_method_14_code 3 = .ok (.bipush 6, 2) := by decide +kernel
theorem d_Ch_serve_5 : decode prog_2_method_14_code 5 = .ok (.if_icmp .ge 18, 3) := by decide +kernel
theorem d_Ch_serve_8 : decode prog_2_method_14_code 8 = .ok (.aload_n 0, 1) := by decide +kernel
theorem d_Ch_serve_9 : decode prog_2_method_14_code 9 = .ok (.dload_n 1, 1) := by decide +kernel
theorem d_Ch_serve_10 : decode prog_2_method_14_code 10 = .ok (.invokevirtual 111, 3) := by decide +kernel
theorem d_Ch_serve_13 : decode prog_2_method_14_code 13 = .ok (.ifCond .ne 4, 3) := by decide +kernel
theorem d_Ch_serve_16 : decode prog_2_method_14_code 16 = .ok (.return_, 1) := by decide +kernel
theorem d_Ch_serve_17 : decode prog_2_method_14_code 17 = .ok (.iinc 3 1, 3) := by decide +kernel
theorem d_Ch_serve_20 : decode prog_2_method_14_code 20 = .ok (.goto (-18), 3) := by decide +kernel
theorem d_Ch_serve_23 : decode prog_2_method_14_code 23 = .ok (.return_, 1) := by decide +kernel
def y_Ch_serve : MethodName := ⟨"ChannelHall$Channel", "serve", "(D)V"⟩
abbrev rm_Ch_serve : Room := { frames := 8, cells := 12, slots := 150, locals := 201 }
def wp_Ch_serve_2 (G ca : Nat → Nat) (post : hM → Prop) : Nat → hM → Nat → UInt64 → Int32 → Prop
  | 0, _, _, _, _ => False
  | n + 1, M, l0b2, l1b2, l3b2 => (6 ≤ l3b2 → post M) ∧ (¬ 6 ≤ l3b2 → 0 < n ∧ rC M l0b2 0 (wp_Ch_serveOnce G ca (fun r6 M7 => (¬ r6 = 0 → (wp_Ch_serve_2 G ca post n) M7 l0b2 l1b2 (l3b2 + 1)) ∧ (r6 = 0 → post M7)) M l0b2 l1b2))
def wp_Ch_serve (G ca : Nat → Nat) (post : hM → Prop) (M : hM) (a0 : Nat) (x1 : UInt64) : Prop := ∃ n, n ≤ 7 ∧ wp_Ch_serve_2 G ca post n M a0 x1 0
set_option maxHeartbeats 1000000 in
set_option maxRecDepth 20000 in
theorem l_Ch_serve_2 {p : Program} {l : Launch} {e : Env} {s : State} {m : MethodId} {args : Array Value} {below : List Frame} {meth : Method} {c : Code} {D : va_G} {ca G : Nat → Nat} {A : Nat → Prop} (C0 : hC p s m args meth c D ca G prog_2_method_14_code 4 (none) "ChannelHall$Channel" A) {post : hM → Prop} : ∀ (n : Nat) {M : hM} {H : Heap} {locs : List Loc} {ls : Array Slot} {cells slots : Nat} (l0b2 : Nat) (l1b2 : UInt64) (l3b2 : Int32) (hc : cells + n * 2 ≤ 14) (hs : slots + n * 25 ≤ 175) (h : wp_Ch_serve_2 G ca post n M l0b2 l1b2 l3b2) (hW : hw D wCl A M H) (hS : va_S A s.heap H locs) (hl : lv_has ls 4 [(0, .ref l0b2), (1, .double l1b2), (3, .int l3b2)]), W p l e rm_Ch_serve s m args below meth c H locs cells slots (MQ below (va_Qv post (fun M' t => hw D wCl A M' t.heap) A) args s 12 150 A) (F0 m 2 ls []) := by
  obtain ⟨hx, hb, hr, hml, hown, hts, hlocks, hK, hA, hZ0⟩ := id C0
  intro n
  induction n with
  | zero =>
    intro M H locs ls cells slots l0b2 l1b2 l3b2 hc hs h
    exact False.elim h
  | succ n ih =>
    intro M H locs ls cells slots l0b2 l1b2 l3b2 hc hs h hW hS hl
    have hk_2 := fun M H locs ls cells slots l0b2 l1b2 l3b2 hc hs h hW hS hl => @ih M H locs ls cells slots l0b2 l1b2 l3b2 hc hs h hW hS hl
    refine lv_iload_n hx hb d_Ch_serve_2 rfl (lv_at hl 2 rfl) ?_
    refine lv_bipush (v := 6) hx hb d_Ch_serve_3 (by decide) ?_
    obtain ⟨h0, h1⟩ := h
    refine lv_icmp_ge (tgt := 23) hx hb d_Ch_serve_5 (by decide) (fun c5 => ?_) (fun c5 => ?_)
    · have h := h0 c5
      refine W.widen (k := 12) (n := 150) (by omega) (by omega) ?_
      exact W.vret hx hb hr (fun t ht hWm => ⟨⟨_, rfl, h, hw_t ht hW⟩, hS.F ht⟩) hS.2.2 d_Ch_serve_23
    · have h := h1 c5
      obtain ⟨hn_2, h⟩ := h
      refine lv_aload_n hx hb d_Ch_serve_8 rfl (lv_at hl 0 rfl) ?_
      refine lv_dload_n hx hb d_Ch_serve_9 rfl (lv_at hl 1 rfl) ?_
      obtain ⟨⟨fs, h1⟩, h⟩ := h
      have h9 := h
      clear h
      have hF := hW.free hS hA
      refine va_calli (va_runV (As := [.double l1b2]) (rest := []) ⟨hx, hb, hml, hown, hts⟩ (c_Ch_serveOnce _ h9) (cwV 1 hts (gi_V bw_795 bw_797 bs_13 bw_11 bw_798) rfl rfl rfl (by decide +kernel) ⟨Nat.le_of_ble_eq_true rfl, Nat.le_of_ble_eq_true rfl⟩) ⟨hI.blind, hw_recv hK hW h1 rfl, hI.give hW hS hA hK hZ0⟩ rfl rfl hl.1 rfl (lv_room (Nat.le_of_ble_eq_true rfl)) d_Ch_serve_10 ⟨(show _ ≤ 12 by omega), (show _ ≤ 150 by omega)⟩) hS (fun q _ z => hF q z) hF (fun r6 M7 t H locs ht _ h hB1 _ _ hS => ?_)
      have hW := hw_back hF ht hB1
      clear h9
      obtain ⟨h0, h1⟩ := h
      refine lv_if_ne (tgt := 17) hx hb d_Ch_serve_13 (by decide) (fun c8 => ?_) (fun c8 => ?_)
      · have h := h0 c8
        refine lv_iinc (v := l3b2 + 1) (lv' := [(3, .int (l3b2 + 1)), (0, .ref l0b2), (1, .double l1b2)]) hx hb d_Ch_serve_17 hl (k := 2) rfl rfl (by decide) rfl (fun ls hl => ?_)
        refine lv_goto (tgt := 2) hx hb d_Ch_serve_20 (by decide) ?_
        exact hk_2 _ _ _ _ _ _ l0b2 l1b2 (l3b2 + 1) (by omega) (by omega) h hW hS (lv_sub hl [1, 2, 0] rfl)
      · have h := h1 c8
        refine W.widen (k := 12) (n := 150) (by omega) (by omega) ?_
        exact W.vret hx hb hr (fun t ht hWm => ⟨⟨_, rfl, h, hw_t ht hW⟩, hS.F ht⟩) hS.2.2 d_Ch_serve_16
set_option maxHeartbeats 1000000 in
set_option maxRecDepth 20000 in
theorem l_Ch_serve_e {p : Program} {l : Launch} {e : Env} {s : State} {m : MethodId} {args : Array Value} {below : List Frame} {meth : Method} {c : Code} {D : va_G} {ca G : Nat → Nat} {A : Nat → Prop} (C0 : hC p s m args meth c D ca G prog_2_method_14_code 4 (none) "ChannelHall$Channel" A) {post : hM → Prop} {M : hM} {H : Heap} {locs : List Loc} {ls : Array Slot} {cells slots : Nat} (a0 : Nat) (x1 : UInt64) (hc : cells ≤ 0) (hs : slots ≤ 0) (h : wp_Ch_serve G ca post M a0 x1) (hW : hw D wCl A M H) (hS : va_S A s.heap H locs) (hl : lv_has ls 4 [(0, .ref a0), (1, .double x1)]) : W p l e rm_Ch_serve s m args below meth c H locs cells slots (MQ below (va_Qv post (fun M' t => hw D wCl A M' t.heap) A) args s 12 150 A) (F0 m 0 ls []) := by
  obtain ⟨hx, hb, hr, hml, hown, hts, hlocks, hK, hA, hZ0⟩ := id C0
  refine lv_iconst (v := 0) hx hb d_Ch_serve_0 (by decide) ?_
  refine lv_istore_n (lv' := [(3, .int 0), (0, .ref a0), (1, .double x1)]) hx hb d_Ch_serve_1 rfl hl (by decide) rfl (fun ls hl => ?_)
  obtain ⟨n, hn0, h⟩ := h
  exact l_Ch_serve_2 C0 n a0 x1 0 (by omega) (by omega) h hW hS (lv_sub hl [1, 2, 0] rfl)
set_option maxRecDepth 20000 in
theorem c_Ch_serve {l : Launch} {D : va_G} {ca G : Nat → Nat} (post : hM → Prop) {M : hM} {sz : Nat} {a0 : Nat} {x1 : UInt64} (h : wp_Ch_serve G ca post M a0 x1) : Met l y_Ch_serve (wz y_Ch_serve prog_2_method_14_code 4 (none)) rm_Ch_serve (va_Pc [.ref a0, .double x1] (hI D ca G sz M)) (va_Qv post (hB D M sz) (hp_A M sz)) 12 150 (hp_A M sz) := by
  refine Met.ofW (cc := prog_2_method_14_code) (maxL := 4) (ret := none) (by decide) rfl ?_
  intro p e s m args below meth c s₁ B hml hv
  obtain ⟨rfl, hsz, hW, hK, hZ0⟩ := hv
  have hts := fun w hw => atoms_spec (ws := wz y_Ch_serve prog_2_method_14_code 4 (none)) B.pre w (List.mem_cons_of_mem _ hw)
  have hown : s.vm.findClass "ChannelHall$Channel" = some m.cls := findClass_of_methodNamed B.named
  subst hsz
  have hl := lv_entry [.ref a0, .double x1] (n := 4) (Nat.le_of_ble_eq_true rfl)
  rw [lg_entry_eq]
  exact l_Ch_serve_e ⟨B.exec, B.bytes, B.returns, hml, hown, hts, B.notSynchronized, hK, fun q h => Or.inr h, hZ0⟩ a0 x1 (Nat.zero_le _) (Nat.zero_le _) h hW va_S.rf hl
end

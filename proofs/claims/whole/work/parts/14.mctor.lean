theorem d_Mo_init_0 : decode prog_7_method_1_code 0 = .ok (.aload_n 0, 1) := by decide +kernel
theorem d_Mo_init_1 : decode prog_7_method_1_code 1 = .ok (.invokespecial 1, 3) := by decide +kernel
theorem d_Mo_init_4 : decode prog_7_method_1_code 4 = .ok (.aload_n 0, 1) := by decide +kernel
theorem d_Mo_init_5 : decode prog_7_method_1_code 5 = .ok (.bipush 6, 2) := by decide +kernel
theorem d_Mo_init_7 : decode prog_7_method_1_code 7 = .ok (.newarray .boolean, 2) := by decide +kernel
theorem d_Mo_init_9 : decode prog_7_method_1_code 9 = .ok (.putfield 7, 3) := by decide +kernel
theorem d_Mo_init_12 : decode prog_7_method_1_code 12 = .ok (.aload_n 0, 1) := by decide +kernel
theorem d_Mo_init_13 : decode prog_7_method_1_code 13 = .ok (.bipush 6, 2) := by decide +kernel
theorem d_Mo_init_15 : decode prog_7_method_1_code 15 = .ok (.newarray .boolean, 2) := by decide +kernel
theorem d_Mo_init_17 : decode prog_7_method_1_code 17 = .ok (.putfield 13, 3) := by decide +kernel
theorem d_Mo_init_20 : decode prog_7_method_1_code 20 = .ok (.aload_n 0, 1) := by decide +kernel
theorem d_Mo_init_21 : decode prog_7_method_1_code 21 = .ok (.bipush 6, 2) := by decide +kernel
theorem d_Mo_init_23 : decode prog_7_method_1_code 23 = .ok (.newarray .int, 2) := by decide +kernel
theorem d_Mo_init_25 : decode prog_7_method_1_code 25 = .ok (.putfield 16, 3) := by decide +kernel
theorem d_Mo_init_28 : decode prog_7_method_1_code 28 = .ok (.aload_n 0, 1) := by decide +kernel
theorem d_Mo_init_29 : decode prog_7_method_1_code 29 = .ok (.bipush 6, 2) := by decide +kernel
theorem d_Mo_init_31 : decode prog_7_method_1_code 31 = .ok (.newarray .boolean, 2) := by decide +kernel
theorem d_Mo_init_33 : decode prog_7_method_1_code 33 = .ok (.putfield 20, 3) := by decide +kernel
theorem d_Mo_init_36 : decode prog_7_method_1_code 36 = .ok (.aload_n 0, 1) := by decide +kernel
theorem d_Mo_init_37 : decode prog_7_method_1_code 37 = .ok (.bipush 6, 2) := by decide +kernel
theorem d_Mo_init_39 : decode prog_7_method_1_code 39 = .ok (.newarray .int, 2) := by decide +kernel
theorem d_Mo_init_41 : decode prog_7_method_1_code 41 = .ok (.putfield 23, 3) := by decide +kernel
theorem d_Mo_init_44 : decode prog_7_method_1_code 44 = .ok (.aload_n 0, 1) := by decide +kernel
theorem d_Mo_init_45 : decode prog_7_method_1_code 45 = .ok (.bipush 6, 2) := by decide +kernel
theorem d_Mo_init_47 : decode prog_7_method_1_code 47 = .ok (.newarray .int, 2) := by decide +kernel
theorem d_Mo_init_49 : decode prog_7_method_1_code 49 = .ok (.putfield 26, 3) := by decide +kernel
theorem d_Mo_init_52 : decode prog_7_method_1_code 52 = .ok (.aload_n 0, 1) := by decide +kernel
theorem d_Mo_init_53 : decode prog_7_method_1_code 53 = .ok (.bipush 6, 2) := by decide +kernel
theorem d_Mo_init_55 : decode prog_7_method_1_code 55 = .ok (.newarray .int, 2) := by decide +kernel
theorem d_Mo_init_57 : decode prog_7_method_1_code 57 = .ok (.putfield 29, 3) := by decide +kernel
theorem d_Mo_init_60 : decode prog_7_method_1_code 60 = .ok (.aload_n 0, 1) := by decide +kernel
theorem d_Mo_init_61 : decode prog_7_method_1_code 61 = .ok (.bipush 6, 2) := by decide +kernel
theorem d_Mo_init_63 : decode prog_7_method_1_code 63 = .ok (.newarray .int, 2) := by decide +kernel
theorem d_Mo_init_65 : decode prog_7_method_1_code 65 = .ok (.putfield 32, 3) := by decide +kernel
theorem d_Mo_init_68 : decode prog_7_method_1_code 68 = .ok (.aload_n 0, 1) := by decide +kernel
theorem d_Mo_init_69 : decode prog_7_method_1_code 69 = .ok (.bipush 6, 2) := by decide +kernel
theorem d_Mo_init_71 : decode prog_7_method_1_code 71 = .ok (.newarray .double, 2) := by decide +kernel
theorem d_Mo_init_73 : decode prog_7_method_1_code 73 = .ok (.putfield 35, 3) := by decide +kernel
theorem d_Mo_init_76 : decode prog_7_method_1_code 76 = .ok (.aload_n 0, 1) := by decide +kernel
theorem d_Mo_init_77 : decode prog_7_method_1_code 77 = .ok (.bipush 6, 2) := by decide +kernel
theorem d_Mo_init_79 : decode prog_7_method_1_code 79 = .ok (.newarray .double, 2) := by decide +kernel
theorem d_Mo_init_81 : decode prog_7_method_1_code 81 = .ok (.putfield 39, 3) := by decide +kernel
theorem d_Mo_init_84 : decode prog_7_method_1_code 84 = .ok (.aload_n 0, 1) := by decide +kernel
theorem d_Mo_init_85 : decode prog_7_method_1_code 85 = .ok (.bipush 6, 2) := by decide +kernel
theorem d_Mo_init_87 : decode prog_7_method_1_code 87 = .ok (.newarray .double, 2) := by decide +kernel
theorem d_Mo_init_89 : decode prog_7_method_1_code 89 = .ok (.putfield 42, 3) := by decide +kernel
theorem d_Mo_init_92 : decode prog_7_method_1_code 92 = .ok (.aload_n 0, 1) := by decide +kernel
theorem d_Mo_init_93 : decode prog_7_method_1_code 93 = .ok (.bipush 8, 2) := by decide +kernel
theorem d_Mo_init_95 : decode prog_7_method_1_code 95 = .ok (.newarray .int, 2) := by decide +kernel
theorem d_Mo_init_97 : decode prog_7_method_1_code 97 = .ok (.putfield 45, 3) := by decide +kernel
theorem d_Mo_init_100 : decode prog_7_method_1_code 100 = .ok (.aload_n 0, 1) := by decide +kernel
theorem d_Mo_init_101 : decode prog_7_method_1_code 101 = .ok (.bipush 8, 2) := by decide +kernel
theorem d_Mo_init_103 : decode prog_7_method_1_code 103 = .ok (.newarray .int, 2) := by decide +kernel
theorem d_Mo_init_105 : decode prog_7_method_1_code 105 = .ok (.putfield 48, 3) := by decide +kernel
theorem d_Mo_init_108 : decode prog_7_method_1_code 108 = .ok (.aload_n 0, 1) := by decide +kernel
theorem d_Mo_init_109 : decode prog_7_method_1_code 109 = .ok (.bipush 8, 2) := by decide +kernel
theorem d_Mo_init_111 : decode prog_7_method_1_code 111 = .ok (.newarray .boolean, 2) := by decide +kernel
theorem d_Mo_init_113 : decode prog_7_method_1_code 113 = .ok (.putfield 51, 3) := by decide +kernel
theorem d_Mo_init_116 : decode prog_7_method_1_code 116 = .ok (.aload_n 0, 1) := by decide +kernel
theorem d_Mo_init_117 : decode prog_7_method_1_code 117 = .ok (.bipush 8, 2) := by decide +kernel
theorem d_Mo_init_119 : decode prog_7_method_1_code 119 = .ok (.newarray .int, 2) := by decide +kernel
theorem d_Mo_init_121 : decode prog_7_method_1_code 121 = .ok (.putfield 54, 3) := by decide +kernel
theorem d_Mo_init_124 : decode prog_7_method_1_code 124 = .ok (.aload_n 0, 1) := by decide +kernel
theorem d_Mo_init_125 : decode prog_7_method_1_code 125 = .ok (.bipush 48, 2) := by decide +kernel
theorem d_Mo_init_127 : decode prog_7_method_1_code 127 = .ok (.newarray .int, 2) := by decide +kernel
theorem d_Mo_init_129 : decode prog_7_method_1_code 129 = .ok (.putfield 57, 3) := by decide +kernel
theorem d_Mo_init_132 : decode prog_7_method_1_code 132 = .ok (.aload_n 0, 1) := by decide +kernel
theorem d_Mo_init_133 : decode prog_7_method_1_code 133 = .ok (.bipush 8, 2) := by decide +kernel
theorem d_Mo_init_135 : decode prog_7_method_1_code 135 = .ok (.newarray .int, 2) := by decide +kernel
theorem d_Mo_init_137 : decode prog_7_method_1_code 137 = .ok (.putfield 60, 3) := by decide +kernel
theorem d_Mo_init_140 : decode prog_7_method_1_code 140 = .ok (.aload_n 0, 1) := by decide +kernel
theorem d_Mo_init_141 : decode prog_7_method_1_code 141 = .ok (.sipush 128, 3) := by decide +kernel
theorem d_Mo_init_144 : decode prog_7_method_1_code 144 = .ok (.newarray .int, 2) := by decide +kernel
theorem d_Mo_init_146 : decode prog_7_method_1_code 146 = .ok (.putfield 63, 3) := by decide +kernel
theorem d_Mo_init_149 : decode prog_7_method_1_code 149 = .ok (.aload_n 0, 1) := by decide +kernel
theorem d_Mo_init_150 : decode prog_7_method_1_code 150 = .ok (.sipush 128, 3) := by decide +kernel
theorem d_Mo_init_153 : decode prog_7_method_1_code 153 = .ok (.newarray .double, 2) := by decide +kernel
theorem d_Mo_init_155 : decode prog_7_method_1_code 155 = .ok (.putfield 66, 3) := by decide +kernel
theorem d_Mo_init_158 : decode prog_7_method_1_code 158 = .ok (.aload_n 0, 1) := by decide +kernel
theorem d_Mo_init_159 : decode prog_7_method_1_code 159 = .ok (.sipush 128, 3) := by decide +kernel
theorem d_Mo_init_162 : decode prog_7_method_1_code 162 = .ok (.newarray .double, 2) := by decide +kernel
theorem d_Mo_init_164 : decode prog_7_method_1_code 164 = .ok (.putfield 69, 3) := by decide +kernel
theorem d_Mo_init_167 : decode prog_7_method_1_code 167 = .ok (.aload_n 0, 1) := by decide +kernel
theorem d_Mo_init_168 : decode prog_7_method_1_code 168 = .ok (.sipush 128, 3) := by decide +kernel
theorem d_Mo_init_171 : decode prog_7_method_1_code 171 = .ok (.newarray .double, 2) := by decide +kernel
theorem d_Mo_init_173 : decode prog_7_method_1_code 173 = .ok (.putfield 72, 3) := by decide +kernel
theorem d_Mo_init_176 : decode prog_7_method_1_code 176 = .ok (.aload_n 0, 1) := by decide +kernel
theorem d_Mo_init_177 : decode prog_7_method_1_code 177 = .ok (.bipush 8, 2) := by decide +kernel
theorem d_Mo_init_179 : decode prog_7_method_1_code 179 = .ok (.newarray .int, 2) := by decide +kernel
theorem d_Mo_init_181 : decode prog_7_method_1_code 181 = .ok (.putfield 75, 3) := by decide +kernel
theorem d_Mo_init_184 : decode prog_7_method_1_code 184 = .ok (.aload_n 0, 1) := by decide +kernel
theorem d_Mo_init_185 : decode prog_7_method_1_code 185 = .ok (.bipush 8, 2) := by decide +kernel
theorem d_Mo_init_187 : decode prog_7_method_1_code 187 = .ok (.newarray .double, 2) := by decide +kernel
theorem d_Mo_init_189 : decode prog_7_method_1_code 189 = .ok (.putfield 78, 3) := by decide +kernel
theorem d_Mo_init_192 : decode prog_7_method_1_code 192 = .ok (.aload_n 0, 1) := by decide +kernel
theorem d_Mo_init_193 : decode prog_7_method_1_code 193 = .ok (.bipush 8, 2) := by decide +kernel
theorem d_Mo_init_195 : decode prog_7_method_1_code 195 = .ok (.newarray .int, 2) := by decide +kernel
theorem d_Mo_init_197 : decode prog_7_method_1_code 197 = .ok (.putfield 81, 3) := by decide +kernel
theorem d_Mo_init_200 : decode prog_7_method_1_code 200 = .ok (.iconst 0, 1) := by decide +kernel
theorem d_Mo_init_201 : decode prog_7_method_1_code 201 = .ok (.istore_n 1, 1) := by decide +kernel
theorem d_Mo_init_202 : decode prog_7_method_1_code 202 = .ok (.iload_n 1, 1) := by decide +kernel
theorem d_Mo_init_203 : decode prog_7_method_1_code 203 = .ok (.bipush 6, 2) := by decide +kernel
theorem d_Mo_init_205 : decode prog_7_method_1_code 205 = .ok (.if_icmp .ge 32, 3) := by decide +kernel
theorem d_Mo_init_208 : decode prog_7_method_1_code 208 = .ok (.aload_n 0, 1) := by decide +kernel
theorem d_Mo_init_209 : decode prog_7_method_1_code 209 = .ok (.getfield 16, 3) := by decide +kernel
theorem d_Mo_init_212 : decode prog_7_method_1_code 212 = .ok (.iload_n 1, 1) := by decide +kernel
theorem d_Mo_init_213 : decode prog_7_method_1_code 213 = .ok (.iconst (-1), 1) := by decide +kernel
theorem d_Mo_init_214 : decode prog_7_method_1_code 214 = .ok (.iastore, 1) := by decide +kernel
theorem d_Mo_init_215 : decode prog_7_method_1_code 215 = .ok (.aload_n 0, 1) := by decide +kernel
theorem d_Mo_init_216 : decode prog_7_method_1_code 216 = .ok (.getfield 26, 3) := by decide +kernel
theorem d_Mo_init_219 : decode prog_7_method_1_code 219 = .ok (.iload_n 1, 1) := by decide +kernel
theorem d_Mo_init_220 : decode prog_7_method_1_code 220 = .ok (.iconst (-1), 1) := by decide +kernel
theorem d_Mo_init_221 : decode prog_7_method_1_code 221 = .ok (.iastore, 1) := by decide +kernel
theorem d_Mo_init_222 : decode prog_7_method_1_code 222 = .ok (.aload_n 0, 1) := by decide +kernel
theorem d_Mo_init_223 : decode prog_7_method_1_code 223 = .ok (.getfield 42, 3) := by decide +kernel
theorem d_Mo_init_226 : decode prog_7_method_1_code 226 = .ok (.iload_n 1, 1) := by decide +kernel
theorem d_Mo_init_227 : decode prog_7_method_1_code 227 = .ok (.ldc2_w 84, 3) := by decide +kernel
theorem d_Mo_init_230 : decode prog_7_method_1_code 230 = .ok (.dastore, 1) := by decide +kernel
theorem d_Mo_init_231 : decode prog_7_method_1_code 231 = .ok (.iinc 1 1, 3) := by decide +kernel
theorem d_Mo_init_234 : decode prog_7_method_1_code 234 = .ok (.goto (-32), 3) := by decide +kernel
theorem d_Mo_init_237 : decode prog_7_method_1_code 237 = .ok (.iconst 0, 1) := by decide +kernel
theorem d_Mo_init_238 : decode prog_7_method_1_code 238 = .ok (.istore_n 1, 1) := by decide +kernel
theorem d_Mo_init_239 : decode prog_7_method_1_code 239 = .ok (.iload_n 1, 1) := by decide +kernel
theorem d_Mo_init_240 : decode prog_7_method_1_code 240 = .ok (.bipush 8, 2) := by decide +kernel
theorem d_Mo_init_242 : decode prog_7_method_1_code 242 = .ok (.if_icmp .ge 16, 3) := by decide +kernel
theorem d_Mo_init_245 : decode prog_7_method_1_code 245 = .ok (.aload_n 0, 1) := by decide +kernel
theorem d_Mo_init_246 : decode prog_7_method_1_code 246 = .ok (.getfield 45, 3) := by decide +kernel
theorem d_Mo_init_249 : decode prog_7_method_1_code 249 = .ok (.iload_n 1, 1) := by decide +kernel
theorem d_Mo_init_250 : decode prog_7_method_1_code 250 = .ok (.iconst (-1), 1) := by decide +kernel
theorem d_Mo_init_251 : decode prog_7_method_1_code 251 = .ok (.iastore, 1) := by decide +kernel
theorem d_Mo_init_252 : decode prog_7_method_1_code 252 = .ok (.iinc 1 1, 3) := by decide +kernel
theorem d_Mo_init_255 : decode prog_7_method_1_code 255 = .ok (.goto (-16), 3) := by decide +kernel
theorem d_Mo_init_258 : decode prog_7_method_1_code 258 = .ok (.return_, 1) := by decide +kernel
def y_Mo_init : MethodName := ⟨"ChannelHallModel", "<init>", "()V"⟩
abbrev rm_Mo_init : Room := { frames := 1, cells := 24, slots := 690, locals := 12 }
def wp_Mo_init_239 (G ca : Nat → Nat) (post : hM → Prop) : Nat → hM → Nat → Int32 → Prop
  | 0, _, _, _ => False
  | n + 1, M, l0b239, l1b239 => (8 ≤ l1b239 → post M) ∧ (¬ 8 ≤ l1b239 → gR M l0b239 5 13 fun v88 => nN v88 fun b89 => sI M b89 (ca 5) l1b239 (-1) fun M90 => (wp_Mo_init_239 G ca post n) M90 l0b239 (l1b239 + 1))
def wp_Mo_init_202 (G ca : Nat → Nat) (post : hM → Prop) : Nat → hM → Nat → Int32 → Prop
  | 0, _, _, _ => False
  | n + 1, M, l0b202, l1b202 => (6 ≤ l1b202 → ∃ n, wp_Mo_init_239 G ca post n M l0b202 0) ∧ (¬ 6 ≤ l1b202 → gR M l0b202 5 3 fun v92 => nN v92 fun b93 => sI M b93 (ca 5) l1b202 (-1) fun M94 => gR M94 l0b202 5 6 fun v95 => nN v95 fun b96 => sI M94 b96 (ca 5) l1b202 (-1) fun M97 => gR M97 l0b202 5 11 fun v98 => nN v98 fun b99 => sD M97 b99 (ca 4) l1b202 13830554455654793216 fun M100 => (wp_Mo_init_202 G ca post n) M100 l0b202 (l1b202 + 1))
def wp_Mo_init (G ca : Nat → Nat) (post : hM → Prop) (M : hM) (a0 : Nat) : Prop := nA M 6 6 (fun N => .inl (ca 6, N, .inl (fun _ => 0))) fun q101 M102 => pF M102 a0 5 1 (.ref q101) fun M103 => nA M103 6 6 (fun N => .inl (ca 6, N, .inl (fun _ => 0))) fun q104 M105 => pF M105 a0 5 2 (.ref q104) fun M106 => nA M106 6 6 (fun N => .inl (ca 5, N, .inl (fun _ => 0))) fun q107 M108 => pF M108 a0 5 3 (.ref q107) fun M109 => nA M109 6 6 (fun N => .inl (ca 6, N, .inl (fun _ => 0))) fun q110 M111 => pF M111 a0 5 4 (.ref q110) fun M112 => nA M112 6 6 (fun N => .inl (ca 5, N, .inl (fun _ => 0))) fun q113 M114 => pF M114 a0 5 5 (.ref q113) fun M115 => nA M115 6 6 (fun N => .inl (ca 5, N, .inl (fun _ => 0))) fun q116 M117 => pF M117 a0 5 6 (.ref q116) fun M118 => nA M118 6 6 (fun N => .inl (ca 5, N, .inl (fun _ => 0))) fun q119 M120 => pF M120 a0 5 7 (.ref q119) fun M121 => nA M121 6 6 (fun N => .inl (ca 5, N, .inl (fun _ => 0))) fun q122 M123 => pF M123 a0 5 8 (.ref q122) fun M124 => nA M124 6 6 (fun N => .inl (ca 4, N, .inr (.inr (.inr (.inl (fun _ => FP.dconst0)))))) fun q125 M126 => pF M126 a0 5 9 (.ref q125) fun M127 => nA M127 6 6 (fun N => .inl (ca 4, N, .inr (.inr (.inr (.inl (fun _ => FP.dconst0)))))) fun q128 M129 => pF M129 a0 5 10 (.ref q128) fun M130 => nA M130 6 6 (fun N => .inl (ca 4, N, .inr (.inr (.inr (.inl (fun _ => FP.dconst0)))))) fun q131 M132 => pF M132 a0 5 11 (.ref q131) fun M133 => nA M133 8 8 (fun N => .inl (ca 5, N, .inl (fun _ => 0))) fun q134 M135 => pF M135 a0 5 13 (.ref q134) fun M136 => nA M136 8 8 (fun N => .inl (ca 5, N, .inl (fun _ => 0))) fun q137 M138 => pF M138 a0 5 14 (.ref q137) fun M139 => nA M139 8 8 (fun N => .inl (ca 6, N, .inl (fun _ => 0))) fun q140 M141 => pF M141 a0 5 15 (.ref q140) fun M142 => nA M142 8 8 (fun N => .inl (ca 5, N, .inl (fun _ => 0))) fun q143 M144 => pF M144 a0 5 16 (.ref q143) fun M145 => nA M145 48 48 (fun N => .inl (ca 5, N, .inl (fun _ => 0))) fun q146 M147 => pF M147 a0 5 17 (.ref q146) fun M148 => nA M148 8 8 (fun N => .inl (ca 5, N, .inl (fun _ => 0))) fun q149 M150 => pF M150 a0 5 18 (.ref q149) fun M151 => nA M151 128 128 (fun N => .inl (ca 5, N, .inl (fun _ => 0))) fun q152 M153 => pF M153 a0 5 19 (.ref q152) fun M154 => nA M154 128 128 (fun N => .inl (ca 4, N, .inr (.inr (.inr (.inl (fun _ => FP.dconst0)))))) fun q155 M156 => pF M156 a0 5 20 (.ref q155) fun M157 => nA M157 128 128 (fun N => .inl (ca 4, N, .inr (.inr (.inr (.inl (fun _ => FP.dconst0)))))) fun q158 M159 => pF M159 a0 5 21 (.ref q158) fun M160 => nA M160 128 128 (fun N => .inl (ca 4, N, .inr (.inr (.inr (.inl (fun _ => FP.dconst0)))))) fun q161 M162 => pF M162 a0 5 22 (.ref q161) fun M163 => nA M163 8 8 (fun N => .inl (ca 5, N, .inl (fun _ => 0))) fun q164 M165 => pF M165 a0 5 23 (.ref q164) fun M166 => nA M166 8 8 (fun N => .inl (ca 4, N, .inr (.inr (.inr (.inl (fun _ => FP.dconst0)))))) fun q167 M168 => pF M168 a0 5 24 (.ref q167) fun M169 => nA M169 8 8 (fun N => .inl (ca 5, N, .inl (fun _ => 0))) fun q170 M171 => pF M171 a0 5 25 (.ref q170) fun M172 => ∃ n, wp_Mo_init_202 G ca post n M172 a0 0
set_option maxHeartbeats 1000000 in
set_option maxRecDepth 20000 in
theorem l_Mo_init_239 {p : Program} {l : Launch} {e : Env} {s : State} {m : MethodId} {args : Array Value} {below : List Frame} {meth : Method} {c : Code} {D : va_G} {ca G : Nat → Nat} {A : Nat → Prop} (C0 : hC p s m args meth c D ca G prog_7_method_1_code 2 (none) "ChannelHallModel" A) (hin : meth.name = "<init>") {post : hM → Prop} : ∀ (n : Nat) {M : hM} {H : Heap} {locs : List Loc} {ls : Array Slot} {cells slots : Nat} (l0b239 : Nat) (l1b239 : Int32) (hc : cells ≤ 24) (hs : slots ≤ 690) (h : wp_Mo_init_239 G ca post n M l0b239 l1b239) (hW : hw D wCl A M H) (hS : va_S A s.heap H locs) (hl : lv_has ls 2 [(0, .ref l0b239), (1, .int l1b239)]), W p l e rm_Mo_init s m args below meth c H locs cells slots (MQ below (va_Qv post (fun M' t => hw D wCl A M' t.heap) A) args s 24 690 A) (F0 m 239 ls []) := by
  obtain ⟨hx, hb, hr, hml, hown, hts, hlocks, hK, hA, hZ0⟩ := id C0
  intro n
  induction n with
  | zero =>
    intro M H locs ls cells slots l0b239 l1b239 hc hs h
    exact False.elim h
  | succ n ih =>
    intro M H locs ls cells slots l0b239 l1b239 hc hs h hW hS hl
    have hk_122 := fun M H locs ls cells slots l0b239 l1b239 hc hs h hW hS hl => @ih M H locs ls cells slots l0b239 l1b239 hc hs h hW hS hl
    refine lv_iload_n hx hb d_Mo_init_239 rfl (lv_at hl 1 rfl) ?_
    refine lv_bipush (v := 8) hx hb d_Mo_init_240 (by decide) ?_
    obtain ⟨h0, h1⟩ := h
    refine lv_icmp_ge (tgt := 258) hx hb d_Mo_init_242 (by decide) (fun c87 => ?_) (fun c87 => ?_)
    · have h := h0 c87
      refine W.widen (k := 24) (n := 690) (by omega) (by omega) ?_
      exact W.vret hx hb hr (fun t ht hWm => ⟨⟨_, rfl, h, hw_t ht hW⟩, hS.F ht⟩) hS.2.2 d_Mo_init_258
    · have h := h1 c87
      refine lv_aload_n hx hb d_Mo_init_245 rfl (lv_at hl 0 rfl) ?_
      obtain ⟨fs, v88, h1, h2, h⟩ := h
      refine va_get (D := D) (ci := 5) (v := va_rf v88) (C := "ChannelHallModel") (T := TMo) (N := 26) hx hb hts uMo hown hK (hw_one hW h1) 0 rfl rfl 13 (by decide) (hts _ bw_987) (fun _ h9 => h9) h2 d_Mo_init_246 ?_
      refine lv_iload_n hx hb d_Mo_init_249 rfl (lv_at hl 1 rfl) ?_
      refine lv_iconst (v := (-1)) hx hb d_Mo_init_250 (by decide) ?_
      obtain ⟨b89, rfl, h⟩ := h
      obtain ⟨n, f, h1, h2, h⟩ := h
      obtain ⟨ws, q0, hq, hP, hD, hback, -⟩ := hw_open hW h1
      refine va_iast hx hb hK hP hD hS q0 5 hq rfl h2 d_Mo_init_251 (fun H locs hP hD hS => ?_)
      have hW := hback _ _ hP hD
      generalize hM2 : va_up M b89 _ = M90 at h hW
      refine lv_iinc (v := l1b239 + 1) (lv' := [(1, .int (l1b239 + 1)), (0, .ref l0b239)]) hx hb d_Mo_init_252 hl (k := 1) rfl rfl (by decide) rfl (fun ls hl => ?_)
      refine lv_goto (tgt := 239) hx hb d_Mo_init_255 (by decide) ?_
      exact hk_122 _ _ _ _ _ _ l0b239 (l1b239 + 1) (by omega) (by omega) h hW hS (lv_sub hl [1, 0] rfl)
set_option maxHeartbeats 1000000 in
set_option maxRecDepth 20000 in
theorem l_Mo_init_202 {p : Program} {l : Launch} {e : Env} {s : State} {m : MethodId} {args : Array Value} {below : List Frame} {meth : Method} {c : Code} {D : va_G} {ca G : Nat → Nat} {A : Nat → Prop} (C0 : hC p s m args meth c D ca G prog_7_method_1_code 2 (none) "ChannelHallModel" A) (hin : meth.name = "<init>") {post : hM → Prop} : ∀ (n : Nat) {M : hM} {H : Heap} {locs : List Loc} {ls : Array Slot} {cells slots : Nat} (l0b202 : Nat) (l1b202 : Int32) (hc : cells ≤ 24) (hs : slots ≤ 690) (h : wp_Mo_init_202 G ca post n M l0b202 l1b202) (hW : hw D wCl A M H) (hS : va_S A s.heap H locs) (hl : lv_has ls 2 [(0, .ref l0b202), (1, .int l1b202)]), W p l e rm_Mo_init s m args below meth c H locs cells slots (MQ below (va_Qv post (fun M' t => hw D wCl A M' t.heap) A) args s 24 690 A) (F0 m 202 ls []) := by
  obtain ⟨hx, hb, hr, hml, hown, hts, hlocks, hK, hA, hZ0⟩ := id C0
  intro n
  induction n with
  | zero =>
    intro M H locs ls cells slots l0b202 l1b202 hc hs h
    exact False.elim h
  | succ n ih =>
    intro M H locs ls cells slots l0b202 l1b202 hc hs h hW hS hl
    have hk_100 := fun M H locs ls cells slots l0b202 l1b202 hc hs h hW hS hl => @ih M H locs ls cells slots l0b202 l1b202 hc hs h hW hS hl
    refine lv_iload_n hx hb d_Mo_init_202 rfl (lv_at hl 1 rfl) ?_
    refine lv_bipush (v := 6) hx hb d_Mo_init_203 (by decide) ?_
    obtain ⟨h0, h1⟩ := h
    refine lv_icmp_ge (tgt := 237) hx hb d_Mo_init_205 (by decide) (fun c91 => ?_) (fun c91 => ?_)
    · have h := h0 c91
      refine lv_iconst (v := 0) hx hb d_Mo_init_237 (by decide) ?_
      refine lv_istore_n (lv' := [(1, .int 0), (0, .ref l0b202)]) hx hb d_Mo_init_238 rfl hl (by decide) rfl (fun ls hl => ?_)
      obtain ⟨n, h⟩ := h
      exact l_Mo_init_239 C0 hin n l0b202 0 (by omega) (by omega) h hW hS (lv_sub hl [1, 0] rfl)
    · have h := h1 c91
      refine lv_aload_n hx hb d_Mo_init_208 rfl (lv_at hl 0 rfl) ?_
      obtain ⟨fs, v92, h1, h2, h⟩ := h
      refine va_get (D := D) (ci := 5) (v := va_rf v92) (C := "ChannelHallModel") (T := TMo) (N := 26) hx hb hts uMo hown hK (hw_one hW h1) 0 rfl rfl 3 (by decide) (hts _ bw_977) (fun _ h9 => h9) h2 d_Mo_init_209 ?_
      refine lv_iload_n hx hb d_Mo_init_212 rfl (lv_at hl 1 rfl) ?_
      refine lv_iconst (v := (-1)) hx hb d_Mo_init_213 (by decide) ?_
      obtain ⟨b93, rfl, h⟩ := h
      obtain ⟨n, f, h1, h2, h⟩ := h
      obtain ⟨ws, q0, hq, hP, hD, hback, -⟩ := hw_open hW h1
      refine va_iast hx hb hK hP hD hS q0 5 hq rfl h2 d_Mo_init_214 (fun H locs hP hD hS => ?_)
      have hW := hback _ _ hP hD
      generalize hM2 : va_up M b93 _ = M94 at h hW
      refine lv_aload_n hx hb d_Mo_init_215 rfl (lv_at hl 0 rfl) ?_
      obtain ⟨fs, v95, h1, h2, h⟩ := h
      refine va_get (D := D) (ci := 5) (v := va_rf v95) (C := "ChannelHallModel") (T := TMo) (N := 26) hx hb hts uMo hown hK (hw_one hW h1) 0 rfl rfl 6 (by decide) (hts _ bw_980) (fun _ h9 => h9) h2 d_Mo_init_216 ?_
      refine lv_iload_n hx hb d_Mo_init_219 rfl (lv_at hl 1 rfl) ?_
      refine lv_iconst (v := (-1)) hx hb d_Mo_init_220 (by decide) ?_
      obtain ⟨b96, rfl, h⟩ := h
      obtain ⟨n, f, h1, h2, h⟩ := h
      obtain ⟨ws, q0, hq, hP, hD, hback, -⟩ := hw_open hW h1
      refine va_iast hx hb hK hP hD hS q0 5 hq rfl h2 d_Mo_init_221 (fun H locs hP hD hS => ?_)
      have hW := hback _ _ hP hD
      generalize hM2 : va_up M94 b96 _ = M97 at h hW
      refine lv_aload_n hx hb d_Mo_init_222 rfl (lv_at hl 0 rfl) ?_
      obtain ⟨fs, v98, h1, h2, h⟩ := h
      refine va_get (D := D) (ci := 5) (v := va_rf v98) (C := "ChannelHallModel") (T := TMo) (N := 26) hx hb hts uMo hown hK (hw_one hW h1) 0 rfl rfl 11 (by decide) (hts _ bw_985) (fun _ h9 => h9) h2 d_Mo_init_223 ?_
      refine lv_iload_n hx hb d_Mo_init_226 rfl (lv_at hl 1 rfl) ?_
      refine lv_ldc2d (v := 13830554455654793216) hx hb hown (hts _ bw_973) d_Mo_init_227 ?_
      obtain ⟨b99, rfl, h⟩ := h
      obtain ⟨n, f, h1, h2, h⟩ := h
      obtain ⟨ws, q0, hq, hP, hD, hback, -⟩ := hw_open hW h1
      refine va_dast hx hb hK hP hD hS q0 4 hq rfl h2 d_Mo_init_230 (fun H locs hP hD hS => ?_)
      have hW := hback _ _ hP hD
      generalize hM2 : va_up M97 b99 _ = M100 at h hW
      refine lv_iinc (v := l1b202 + 1) (lv' := [(1, .int (l1b202 + 1)), (0, .ref l0b202)]) hx hb d_Mo_init_231 hl (k := 1) rfl rfl (by decide) rfl (fun ls hl => ?_)
      refine lv_goto (tgt := 202) hx hb d_Mo_init_234 (by decide) ?_
      exact hk_100 _ _ _ _ _ _ l0b202 (l1b202 + 1) (by omega) (by omega) h hW hS (lv_sub hl [1, 0] rfl)
set_option maxHeartbeats 1000000 in
set_option maxRecDepth 20000 in
theorem l_Mo_init_e {p : Program} {l : Launch} {e : Env} {s : State} {m : MethodId} {args : Array Value} {below : List Frame} {meth : Method} {c : Code} {D : va_G} {ca G : Nat → Nat} {A : Nat → Prop} (C0 : hC p s m args meth c D ca G prog_7_method_1_code 2 (none) "ChannelHallModel" A) (hin : meth.name = "<init>") {post : hM → Prop} {M : hM} {H : Heap} {locs : List Loc} {ls : Array Slot} {cells slots : Nat} (a0 : Nat) (hc : cells ≤ 0) (hs : slots ≤ 0) (h : wp_Mo_init G ca post M a0) (hW : hw D wCl A M H) (hS : va_S A s.heap H locs) (hl : lv_has ls 2 [(0, .ref a0)]) : W p l e rm_Mo_init s m args below meth c H locs cells slots (MQ below (va_Qv post (fun M' t => hw D wCl A M' t.heap) A) args s 24 690 A) (F0 m 0 ls []) := by
  obtain ⟨hx, hb, hr, hml, hown, hts, hlocks, hK, hA, hZ0⟩ := id C0
  refine lv_aload_n hx hb d_Mo_init_0 rfl (lv_at hl 0 rfl) ?_
  refine W.objInit (rest := []) hx hb hown (hts _ bw_972) (hts _ bw_38) (hts _ bw_39) rfl (hl.1.trans hml.symm) rfl d_Mo_init_1 (Nat.le_of_ble_eq_true rfl) (Nat.le_of_ble_eq_true rfl) ?_
  refine W.eq (g2 := F0 m 4 ls []) rfl ?_
  refine lv_aload_n hx hb d_Mo_init_4 rfl (lv_at hl 0 rfl) ?_
  refine lv_bipush (v := 6) hx hb d_Mo_init_5 (by decide) ?_
  have h9 := h
  clear h
  refine hq_newa 6 6 (atype := .boolean) (ty := .boolean) (fun N => (N, .inl (fun _ => 0))) hx hb (hts _ bw_1053) rfl (fun _ => rfl) hK hW hS hA (fun _ _ => rfl) h9 rfl (by decide) (by decide) (show _ ≤ 24 by omega) (show _ ≤ 690 by omega) d_Mo_init_7 (fun q101 M102 H h hW hS => ?_)
  clear h9
  obtain ⟨fs, h1, h2, h⟩ := h
  obtain ⟨ws, q0, hq, hP, hD, hback, -⟩ := hw_open hW h1
  refine va_putF (D := D) (ci := 5) (v := .ref q101) (ty := .array .boolean) (C := "ChannelHallModel") (T := TMo) (N := 26) hx hb hts uMo tMo tMo_ok nMo hown hK hP hD hS q0 hq rfl 1 (by decide) (hts _ bw_975) (fun _ h9 => h9) rfl hin rfl (by decide +kernel) rfl rfl h2 d_Mo_init_9 (fun H locs hP hD hS => ?_)
  have hW := hback _ _ hP hD
  generalize (va_up M102 a0 (some (.inr (5, fs.set 1 (.ref q101))))) = M103 at h hW
  refine lv_aload_n hx hb d_Mo_init_12 rfl (lv_at hl 0 rfl) ?_
  refine lv_bipush (v := 6) hx hb d_Mo_init_13 (by decide) ?_
  have h9 := h
  clear h
  refine hq_newa 6 6 (atype := .boolean) (ty := .boolean) (fun N => (N, .inl (fun _ => 0))) hx hb (hts _ bw_1053) rfl (fun _ => rfl) hK hW hS hA (fun _ _ => rfl) h9 rfl (by decide) (by decide) (show _ ≤ 24 by omega) (show _ ≤ 690 by omega) d_Mo_init_15 (fun q104 M105 H h hW hS => ?_)
  clear h9
  obtain ⟨fs, h1, h2, h⟩ := h
  obtain ⟨ws, q0, hq, hP, hD, hback, -⟩ := hw_open hW h1
  refine va_putF (D := D) (ci := 5) (v := .ref q104) (ty := .array .boolean) (C := "ChannelHallModel") (T := TMo) (N := 26) hx hb hts uMo tMo tMo_ok nMo hown hK hP hD hS q0 hq rfl 2 (by decide) (hts _ bw_976) (fun _ h9 => h9) rfl hin rfl (by decide +kernel) rfl rfl h2 d_Mo_init_17 (fun H locs hP hD hS => ?_)
  have hW := hback _ _ hP hD
  generalize (va_up M105 a0 (some (.inr (5, fs.set 2 (.ref q104))))) = M106 at h hW
  refine lv_aload_n hx hb d_Mo_init_20 rfl (lv_at hl 0 rfl) ?_
  refine lv_bipush (v := 6) hx hb d_Mo_init_21 (by decide) ?_
  have h9 := h
  clear h
  refine hq_newa 5 6 (atype := .int) (ty := .int) (fun N => (N, .inl (fun _ => 0))) hx hb (hts _ bw_1054) rfl (fun _ => rfl) hK hW hS hA (fun _ _ => rfl) h9 rfl (by decide) (by decide) (show _ ≤ 24 by omega) (show _ ≤ 690 by omega) d_Mo_init_23 (fun q107 M108 H h hW hS => ?_)
  clear h9
  obtain ⟨fs, h1, h2, h⟩ := h
  obtain ⟨ws, q0, hq, hP, hD, hback, -⟩ := hw_open hW h1
  refine va_putF (D := D) (ci := 5) (v := .ref q107) (ty := .array .int) (C := "ChannelHallModel") (T := TMo) (N := 26) hx hb hts uMo tMo tMo_ok nMo hown hK hP hD hS q0 hq rfl 3 (by decide) (hts _ bw_977) (fun _ h9 => h9) rfl hin rfl (by decide +kernel) rfl rfl h2 d_Mo_init_25 (fun H locs hP hD hS => ?_)
  have hW := hback _ _ hP hD
  generalize (va_up M108 a0 (some (.inr (5, fs.set 3 (.ref q107))))) = M109 at h hW
  refine lv_aload_n hx hb d_Mo_init_28 rfl (lv_at hl 0 rfl) ?_
  refine lv_bipush (v := 6) hx hb d_Mo_init_29 (by decide) ?_
  have h9 := h
  clear h
  refine hq_newa 6 6 (atype := .boolean) (ty := .boolean) (fun N => (N, .inl (fun _ => 0))) hx hb (hts _ bw_1053) rfl (fun _ => rfl) hK hW hS hA (fun _ _ => rfl) h9 rfl (by decide) (by decide) (show _ ≤ 24 by omega) (show _ ≤ 690 by omega) d_Mo_init_31 (fun q110 M111 H h hW hS => ?_)
  clear h9
  obtain ⟨fs, h1, h2, h⟩ := h
  obtain ⟨ws, q0, hq, hP, hD, hback, -⟩ := hw_open hW h1
  refine va_putF (D := D) (ci := 5) (v := .ref q110) (ty := .array .boolean) (C := "ChannelHallModel") (T := TMo) (N := 26) hx hb hts uMo tMo tMo_ok nMo hown hK hP hD hS q0 hq rfl 4 (by decide) (hts _ bw_978) (fun _ h9 => h9) rfl hin rfl (by decide +kernel) rfl rfl h2 d_Mo_init_33 (fun H locs hP hD hS => ?_)
  have hW := hback _ _ hP hD
  generalize (va_up M111 a0 (some (.inr (5, fs.set 4 (.ref q110))))) = M112 at h hW
  refine lv_aload_n hx hb d_Mo_init_36 rfl (lv_at hl 0 rfl) ?_
  refine lv_bipush (v := 6) hx hb d_Mo_init_37 (by decide) ?_
  have h9 := h
  clear h
  refine hq_newa 5 6 (atype := .int) (ty := .int) (fun N => (N, .inl (fun _ => 0))) hx hb (hts _ bw_1054) rfl (fun _ => rfl) hK hW hS hA (fun _ _ => rfl) h9 rfl (by decide) (by decide) (show _ ≤ 24 by omega) (show _ ≤ 690 by omega) d_Mo_init_39 (fun q113 M114 H h hW hS => ?_)
  clear h9
  obtain ⟨fs, h1, h2, h⟩ := h
  obtain ⟨ws, q0, hq, hP, hD, hback, -⟩ := hw_open hW h1
  refine va_putF (D := D) (ci := 5) (v := .ref q113) (ty := .array .int) (C := "ChannelHallModel") (T := TMo) (N := 26) hx hb hts uMo tMo tMo_ok nMo hown hK hP hD hS q0 hq rfl 5 (by decide) (hts _ bw_979) (fun _ h9 => h9) rfl hin rfl (by decide +kernel) rfl rfl h2 d_Mo_init_41 (fun H locs hP hD hS => ?_)
  have hW := hback _ _ hP hD
  generalize (va_up M114 a0 (some (.inr (5, fs.set 5 (.ref q113))))) = M115 at h hW
  refine lv_aload_n hx hb d_Mo_init_44 rfl (lv_at hl 0 rfl) ?_
  refine lv_bipush (v := 6) hx hb d_Mo_init_45 (by decide) ?_
  have h9 := h
  clear h
  refine hq_newa 5 6 (atype := .int) (ty := .int) (fun N => (N, .inl (fun _ => 0))) hx hb (hts _ bw_1054) rfl (fun _ => rfl) hK hW hS hA (fun _ _ => rfl) h9 rfl (by decide) (by decide) (show _ ≤ 24 by omega) (show _ ≤ 690 by omega) d_Mo_init_47 (fun q116 M117 H h hW hS => ?_)
  clear h9
  obtain ⟨fs, h1, h2, h⟩ := h
  obtain ⟨ws, q0, hq, hP, hD, hback, -⟩ := hw_open hW h1
  refine va_putF (D := D) (ci := 5) (v := .ref q116) (ty := .array .int) (C := "ChannelHallModel") (T := TMo) (N := 26) hx hb hts uMo tMo tMo_ok nMo hown hK hP hD hS q0 hq rfl 6 (by decide) (hts _ bw_980) (fun _ h9 => h9) rfl hin rfl (by decide +kernel) rfl rfl h2 d_Mo_init_49 (fun H locs hP hD hS => ?_)
  have hW := hback _ _ hP hD
  generalize (va_up M117 a0 (some (.inr (5, fs.set 6 (.ref q116))))) = M118 at h hW
  refine lv_aload_n hx hb d_Mo_init_52 rfl (lv_at hl 0 rfl) ?_
  refine lv_bipush (v := 6) hx hb d_Mo_init_53 (by decide) ?_
  have h9 := h
  clear h
  refine hq_newa 5 6 (atype := .int) (ty := .int) (fun N => (N, .inl (fun _ => 0))) hx hb (hts _ bw_1054) rfl (fun _ => rfl) hK hW hS hA (fun _ _ => rfl) h9 rfl (by decide) (by decide) (show _ ≤ 24 by omega) (show _ ≤ 690 by omega) d_Mo_init_55 (fun q119 M120 H h hW hS => ?_)
  clear h9
  obtain ⟨fs, h1, h2, h⟩ := h
  obtain ⟨ws, q0, hq, hP, hD, hback, -⟩ := hw_open hW h1
  refine va_putF (D := D) (ci := 5) (v := .ref q119) (ty := .array .int) (C := "ChannelHallModel") (T := TMo) (N := 26) hx hb hts uMo tMo tMo_ok nMo hown hK hP hD hS q0 hq rfl 7 (by decide) (hts _ bw_981) (fun _ h9 => h9) rfl hin rfl (by decide +kernel) rfl rfl h2 d_Mo_init_57 (fun H locs hP hD hS => ?_)
  have hW := hback _ _ hP hD
  generalize (va_up M120 a0 (some (.inr (5, fs.set 7 (.ref q119))))) = M121 at h hW
  refine lv_aload_n hx hb d_Mo_init_60 rfl (lv_at hl 0 rfl) ?_
  refine lv_bipush (v := 6) hx hb d_Mo_init_61 (by decide) ?_
  have h9 := h
  clear h
  refine hq_newa 5 6 (atype := .int) (ty := .int) (fun N => (N, .inl (fun _ => 0))) hx hb (hts _ bw_1054) rfl (fun _ => rfl) hK hW hS hA (fun _ _ => rfl) h9 rfl (by decide) (by decide) (show _ ≤ 24 by omega) (show _ ≤ 690 by omega) d_Mo_init_63 (fun q122 M123 H h hW hS => ?_)
  clear h9
  obtain ⟨fs, h1, h2, h⟩ := h
  obtain ⟨ws, q0, hq, hP, hD, hback, -⟩ := hw_open hW h1
  refine va_putF (D := D) (ci := 5) (v := .ref q122) (ty := .array .int) (C := "ChannelHallModel") (T := TMo) (N := 26) hx hb hts uMo tMo tMo_ok nMo hown hK hP hD hS q0 hq rfl 8 (by decide) (hts _ bw_982) (fun _ h9 => h9) rfl hin rfl (by decide +kernel) rfl rfl h2 d_Mo_init_65 (fun H locs hP hD hS => ?_)
  have hW := hback _ _ hP hD
  generalize (va_up M123 a0 (some (.inr (5, fs.set 8 (.ref q122))))) = M124 at h hW
  refine lv_aload_n hx hb d_Mo_init_68 rfl (lv_at hl 0 rfl) ?_
  refine lv_bipush (v := 6) hx hb d_Mo_init_69 (by decide) ?_
  have h9 := h
  clear h
  refine hq_newa 4 6 (atype := .double) (ty := .double) (fun N => (N, .inr (.inr (.inr (.inl (fun _ => FP.dconst0)))))) hx hb (hts _ bw_1055) rfl (fun _ => rfl) hK hW hS hA (fun _ _ => rfl) h9 rfl (by decide) (by decide) (show _ ≤ 24 by omega) (show _ ≤ 690 by omega) d_Mo_init_71 (fun q125 M126 H h hW hS => ?_)
  clear h9
  obtain ⟨fs, h1, h2, h⟩ := h
  obtain ⟨ws, q0, hq, hP, hD, hback, -⟩ := hw_open hW h1
  refine va_putF (D := D) (ci := 5) (v := .ref q125) (ty := .array .double) (C := "ChannelHallModel") (T := TMo) (N := 26) hx hb hts uMo tMo tMo_ok nMo hown hK hP hD hS q0 hq rfl 9 (by decide) (hts _ bw_983) (fun _ h9 => h9) rfl hin rfl (by decide +kernel) rfl rfl h2 d_Mo_init_73 (fun H locs hP hD hS => ?_)
  have hW := hback _ _ hP hD
  generalize (va_up M126 a0 (some (.inr (5, fs.set 9 (.ref q125))))) = M127 at h hW
  refine lv_aload_n hx hb d_Mo_init_76 rfl (lv_at hl 0 rfl) ?_
  refine lv_bipush (v := 6) hx hb d_Mo_init_77 (by decide) ?_
  have h9 := h
  clear h
  refine hq_newa 4 6 (atype := .double) (ty := .double) (fun N => (N, .inr (.inr (.inr (.inl (fun _ => FP.dconst0)))))) hx hb (hts _ bw_1055) rfl (fun _ => rfl) hK hW hS hA (fun _ _ => rfl) h9 rfl (by decide) (by decide) (show _ ≤ 24 by omega) (show _ ≤ 690 by omega) d_Mo_init_79 (fun q128 M129 H h hW hS => ?_)
  clear h9
  obtain ⟨fs, h1, h2, h⟩ := h
  obtain ⟨ws, q0, hq, hP, hD, hback, -⟩ := hw_open hW h1
  refine va_putF (D := D) (ci := 5) (v := .ref q128) (ty := .array .double) (C := "ChannelHallModel") (T := TMo) (N := 26) hx hb hts uMo tMo tMo_ok nMo hown hK hP hD hS q0 hq rfl 10 (by decide) (hts _ bw_984) (fun _ h9 => h9) rfl hin rfl (by decide +kernel) rfl rfl h2 d_Mo_init_81 (fun H locs hP hD hS => ?_)
  have hW := hback _ _ hP hD
  generalize (va_up M129 a0 (some (.inr (5, fs.set 10 (.ref q128))))) = M130 at h hW
  refine lv_aload_n hx hb d_Mo_init_84 rfl (lv_at hl 0 rfl) ?_
  refine lv_bipush (v := 6) hx hb d_Mo_init_85 (by decide) ?_
  have h9 := h
  clear h
  refine hq_newa 4 6 (atype := .double) (ty := .double) (fun N => (N, .inr (.inr (.inr (.inl (fun _ => FP.dconst0)))))) hx hb (hts _ bw_1055) rfl (fun _ => rfl) hK hW hS hA (fun _ _ => rfl) h9 rfl (by decide) (by decide) (show _ ≤ 24 by omega) (show _ ≤ 690 by omega) d_Mo_init_87 (fun q131 M132 H h hW hS => ?_)
  clear h9
  obtain ⟨fs, h1, h2, h⟩ := h
  obtain ⟨ws, q0, hq, hP, hD, hback, -⟩ := hw_open hW h1
  refine va_putF (D := D) (ci := 5) (v := .ref q131) (ty := .array .double) (C := "ChannelHallModel") (T := TMo) (N := 26) hx hb hts uMo tMo tMo_ok nMo hown hK hP hD hS q0 hq rfl 11 (by decide) (hts _ bw_985) (fun _ h9 => h9) rfl hin rfl (by decide +kernel) rfl rfl h2 d_Mo_init_89 (fun H locs hP hD hS => ?_)
  have hW := hback _ _ hP hD
  generalize (va_up M132 a0 (some (.inr (5, fs.set 11 (.ref q131))))) = M133 at h hW
  refine lv_aload_n hx hb d_Mo_init_92 rfl (lv_at hl 0 rfl) ?_
  refine lv_bipush (v := 8) hx hb d_Mo_init_93 (by decide) ?_
  have h9 := h
  clear h
  refine hq_newa 5 8 (atype := .int) (ty := .int) (fun N => (N, .inl (fun _ => 0))) hx hb (hts _ bw_1054) rfl (fun _ => rfl) hK hW hS hA (fun _ _ => rfl) h9 rfl (by decide) (by decide) (show _ ≤ 24 by omega) (show _ ≤ 690 by omega) d_Mo_init_95 (fun q134 M135 H h hW hS => ?_)
  clear h9
  obtain ⟨fs, h1, h2, h⟩ := h
  obtain ⟨ws, q0, hq, hP, hD, hback, -⟩ := hw_open hW h1
  refine va_putF (D := D) (ci := 5) (v := .ref q134) (ty := .array .int) (C := "ChannelHallModel") (T := TMo) (N := 26) hx hb hts uMo tMo tMo_ok nMo hown hK hP hD hS q0 hq rfl 13 (by decide) (hts _ bw_987) (fun _ h9 => h9) rfl hin rfl (by decide +kernel) rfl rfl h2 d_Mo_init_97 (fun H locs hP hD hS => ?_)
  have hW := hback _ _ hP hD
  generalize (va_up M135 a0 (some (.inr (5, fs.set 13 (.ref q134))))) = M136 at h hW
  refine lv_aload_n hx hb d_Mo_init_100 rfl (lv_at hl 0 rfl) ?_
  refine lv_bipush (v := 8) hx hb d_Mo_init_101 (by decide) ?_
  have h9 := h
  clear h
  refine hq_newa 5 8 (atype := .int) (ty := .int) (fun N => (N, .inl (fun _ => 0))) hx hb (hts _ bw_1054) rfl (fun _ => rfl) hK hW hS hA (fun _ _ => rfl) h9 rfl (by decide) (by decide) (show _ ≤ 24 by omega) (show _ ≤ 690 by omega) d_Mo_init_103 (fun q137 M138 H h hW hS => ?_)
  clear h9
  obtain ⟨fs, h1, h2, h⟩ := h
  obtain ⟨ws, q0, hq, hP, hD, hback, -⟩ := hw_open hW h1
  refine va_putF (D := D) (ci := 5) (v := .ref q137) (ty := .array .int) (C := "ChannelHallModel") (T := TMo) (N := 26) hx hb hts uMo tMo tMo_ok nMo hown hK hP hD hS q0 hq rfl 14 (by decide) (hts _ bw_988) (fun _ h9 => h9) rfl hin rfl (by decide +kernel) rfl rfl h2 d_Mo_init_105 (fun H locs hP hD hS => ?_)
  have hW := hback _ _ hP hD
  generalize (va_up M138 a0 (some (.inr (5, fs.set 14 (.ref q137))))) = M139 at h hW
  refine lv_aload_n hx hb d_Mo_init_108 rfl (lv_at hl 0 rfl) ?_
  refine lv_bipush (v := 8) hx hb d_Mo_init_109 (by decide) ?_
  have h9 := h
  clear h
  refine hq_newa 6 8 (atype := .boolean) (ty := .boolean) (fun N => (N, .inl (fun _ => 0))) hx hb (hts _ bw_1053) rfl (fun _ => rfl) hK hW hS hA (fun _ _ => rfl) h9 rfl (by decide) (by decide) (show _ ≤ 24 by omega) (show _ ≤ 690 by omega) d_Mo_init_111 (fun q140 M141 H h hW hS => ?_)
  clear h9
  obtain ⟨fs, h1, h2, h⟩ := h
  obtain ⟨ws, q0, hq, hP, hD, hback, -⟩ := hw_open hW h1
  refine va_putF (D := D) (ci := 5) (v := .ref q140) (ty := .array .boolean) (C := "ChannelHallModel") (T := TMo) (N := 26) hx hb hts uMo tMo tMo_ok nMo hown hK hP hD hS q0 hq rfl 15 (by decide) (hts _ bw_989) (fun _ h9 => h9) rfl hin rfl (by decide +kernel) rfl rfl h2 d_Mo_init_113 (fun H locs hP hD hS => ?_)
  have hW := hback _ _ hP hD
  generalize (va_up M141 a0 (some (.inr (5, fs.set 15 (.ref q140))))) = M142 at h hW
  refine lv_aload_n hx hb d_Mo_init_116 rfl (lv_at hl 0 rfl) ?_
  refine lv_bipush (v := 8) hx hb d_Mo_init_117 (by decide) ?_
  have h9 := h
  clear h
  refine hq_newa 5 8 (atype := .int) (ty := .int) (fun N => (N, .inl (fun _ => 0))) hx hb (hts _ bw_1054) rfl (fun _ => rfl) hK hW hS hA (fun _ _ => rfl) h9 rfl (by decide) (by decide) (show _ ≤ 24 by omega) (show _ ≤ 690 by omega) d_Mo_init_119 (fun q143 M144 H h hW hS => ?_)
  clear h9
  obtain ⟨fs, h1, h2, h⟩ := h
  obtain ⟨ws, q0, hq, hP, hD, hback, -⟩ := hw_open hW h1
  refine va_putF (D := D) (ci := 5) (v := .ref q143) (ty := .array .int) (C := "ChannelHallModel") (T := TMo) (N := 26) hx hb hts uMo tMo tMo_ok nMo hown hK hP hD hS q0 hq rfl 16 (by decide) (hts _ bw_990) (fun _ h9 => h9) rfl hin rfl (by decide +kernel) rfl rfl h2 d_Mo_init_121 (fun H locs hP hD hS => ?_)
  have hW := hback _ _ hP hD
  generalize (va_up M144 a0 (some (.inr (5, fs.set 16 (.ref q143))))) = M145 at h hW
  refine lv_aload_n hx hb d_Mo_init_124 rfl (lv_at hl 0 rfl) ?_
  refine lv_bipush (v := 48) hx hb d_Mo_init_125 (by decide) ?_
  have h9 := h
  clear h
  refine hq_newa 5 48 (atype := .int) (ty := .int) (fun N => (N, .inl (fun _ => 0))) hx hb (hts _ bw_1054) rfl (fun _ => rfl) hK hW hS hA (fun _ _ => rfl) h9 rfl (by decide) (by decide) (show _ ≤ 24 by omega) (show _ ≤ 690 by omega) d_Mo_init_127 (fun q146 M147 H h hW hS => ?_)
  clear h9
  obtain ⟨fs, h1, h2, h⟩ := h
  obtain ⟨ws, q0, hq, hP, hD, hback, -⟩ := hw_open hW h1
  refine va_putF (D := D) (ci := 5) (v := .ref q146) (ty := .array .int) (C := "ChannelHallModel") (T := TMo) (N := 26) hx hb hts uMo tMo tMo_ok nMo hown hK hP hD hS q0 hq rfl 17 (by decide) (hts _ bw_991) (fun _ h9 => h9) rfl hin rfl (by decide +kernel) rfl rfl h2 d_Mo_init_129 (fun H locs hP hD hS => ?_)
  have hW := hback _ _ hP hD
  generalize (va_up M147 a0 (some (.inr (5, fs.set 17 (.ref q146))))) = M148 at h hW
  refine lv_aload_n hx hb d_Mo_init_132 rfl (lv_at hl 0 rfl) ?_
  refine lv_bipush (v := 8) hx hb d_Mo_init_133 (by decide) ?_
  have h9 := h
  clear h
  refine hq_newa 5 8 (atype := .int) (ty := .int) (fun N => (N, .inl (fun _ => 0))) hx hb (hts _ bw_1054) rfl (fun _ => rfl) hK hW hS hA (fun _ _ => rfl) h9 rfl (by decide) (by decide) (show _ ≤ 24 by omega) (show _ ≤ 690 by omega) d_Mo_init_135 (fun q149 M150 H h hW hS => ?_)
  clear h9
  obtain ⟨fs, h1, h2, h⟩ := h
  obtain ⟨ws, q0, hq, hP, hD, hback, -⟩ := hw_open hW h1
  refine va_putF (D := D) (ci := 5) (v := .ref q149) (ty := .array .int) (C := "ChannelHallModel") (T := TMo) (N := 26) hx hb hts uMo tMo tMo_ok nMo hown hK hP hD hS q0 hq rfl 18 (by decide) (hts _ bw_992) (fun _ h9 => h9) rfl hin rfl (by decide +kernel) rfl rfl h2 d_Mo_init_137 (fun H locs hP hD hS => ?_)
  have hW := hback _ _ hP hD
  generalize (va_up M150 a0 (some (.inr (5, fs.set 18 (.ref q149))))) = M151 at h hW
  refine lv_aload_n hx hb d_Mo_init_140 rfl (lv_at hl 0 rfl) ?_
  refine lv_sipush (v := 128) hx hb d_Mo_init_141 (by decide) ?_
  have h9 := h
  clear h
  refine hq_newa 5 128 (atype := .int) (ty := .int) (fun N => (N, .inl (fun _ => 0))) hx hb (hts _ bw_1054) rfl (fun _ => rfl) hK hW hS hA (fun _ _ => rfl) h9 rfl (by decide) (by decide) (show _ ≤ 24 by omega) (show _ ≤ 690 by omega) d_Mo_init_144 (fun q152 M153 H h hW hS => ?_)
  clear h9
  obtain ⟨fs, h1, h2, h⟩ := h
  obtain ⟨ws, q0, hq, hP, hD, hback, -⟩ := hw_open hW h1
  refine va_putF (D := D) (ci := 5) (v := .ref q152) (ty := .array .int) (C := "ChannelHallModel") (T := TMo) (N := 26) hx hb hts uMo tMo tMo_ok nMo hown hK hP hD hS q0 hq rfl 19 (by decide) (hts _ bw_993) (fun _ h9 => h9) rfl hin rfl (by decide +kernel) rfl rfl h2 d_Mo_init_146 (fun H locs hP hD hS => ?_)
  have hW := hback _ _ hP hD
  generalize (va_up M153 a0 (some (.inr (5, fs.set 19 (.ref q152))))) = M154 at h hW
  refine lv_aload_n hx hb d_Mo_init_149 rfl (lv_at hl 0 rfl) ?_
  refine lv_sipush (v := 128) hx hb d_Mo_init_150 (by decide) ?_
  have h9 := h
  clear h
  refine hq_newa 4 128 (atype := .double) (ty := .double) (fun N => (N, .inr (.inr (.inr (.inl (fun _ => FP.dconst0)))))) hx hb (hts _ bw_1055) rfl (fun _ => rfl) hK hW hS hA (fun _ _ => rfl) h9 rfl (by decide) (by decide) (show _ ≤ 24 by omega) (show _ ≤ 690 by omega) d_Mo_init_153 (fun q155 M156 H h hW hS => ?_)
  clear h9
  obtain ⟨fs, h1, h2, h⟩ := h
  obtain ⟨ws, q0, hq, hP, hD, hback, -⟩ := hw_open hW h1
  refine va_putF (D := D) (ci := 5) (v := .ref q155) (ty := .array .double) (C := "ChannelHallModel") (T := TMo) (N := 26) hx hb hts uMo tMo tMo_ok nMo hown hK hP hD hS q0 hq rfl 20 (by decide) (hts _ bw_994) (fun _ h9 => h9) rfl hin rfl (by decide +kernel) rfl rfl h2 d_Mo_init_155 (fun H locs hP hD hS => ?_)
  have hW := hback _ _ hP hD
  generalize (va_up M156 a0 (some (.inr (5, fs.set 20 (.ref q155))))) = M157 at h hW
  refine lv_aload_n hx hb d_Mo_init_158 rfl (lv_at hl 0 rfl) ?_
  refine lv_sipush (v := 128) hx hb d_Mo_init_159 (by decide) ?_
  have h9 := h
  clear h
  refine hq_newa 4 128 (atype := .double) (ty := .double) (fun N => (N, .inr (.inr (.inr (.inl (fun _ => FP.dconst0)))))) hx hb (hts _ bw_1055) rfl (fun _ => rfl) hK hW hS hA (fun _ _ => rfl) h9 rfl (by decide) (by decide) (show _ ≤ 24 by omega) (show _ ≤ 690 by omega) d_Mo_init_162 (fun q158 M159 H h hW hS => ?_)
  clear h9
  obtain ⟨fs, h1, h2, h⟩ := h
  obtain ⟨ws, q0, hq, hP, hD, hback, -⟩ := hw_open hW h1
  refine va_putF (D := D) (ci := 5) (v := .ref q158) (ty := .array .double) (C := "ChannelHallModel") (T := TMo) (N := 26) hx hb hts uMo tMo tMo_ok nMo hown hK hP hD hS q0 hq rfl 21 (by decide) (hts _ bw_995) (fun _ h9 => h9) rfl hin rfl (by decide +kernel) rfl rfl h2 d_Mo_init_164 (fun H locs hP hD hS => ?_)
  have hW := hback _ _ hP hD
  generalize (va_up M159 a0 (some (.inr (5, fs.set 21 (.ref q158))))) = M160 at h hW
  refine lv_aload_n hx hb d_Mo_init_167 rfl (lv_at hl 0 rfl) ?_
  refine lv_sipush (v := 128) hx hb d_Mo_init_168 (by decide) ?_
  have h9 := h
  clear h
  refine hq_newa 4 128 (atype := .double) (ty := .double) (fun N => (N, .inr (.inr (.inr (.inl (fun _ => FP.dconst0)))))) hx hb (hts _ bw_1055) rfl (fun _ => rfl) hK hW hS hA (fun _ _ => rfl) h9 rfl (by decide) (by decide) (show _ ≤ 24 by omega) (show _ ≤ 690 by omega) d_Mo_init_171 (fun q161 M162 H h hW hS => ?_)
  clear h9
  obtain ⟨fs, h1, h2, h⟩ := h
  obtain ⟨ws, q0, hq, hP, hD, hback, -⟩ := hw_open hW h1
  refine va_putF (D := D) (ci := 5) (v := .ref q161) (ty := .array .double) (C := "ChannelHallModel") (T := TMo) (N := 26) hx hb hts uMo tMo tMo_ok nMo hown hK hP hD hS q0 hq rfl 22 (by decide) (hts _ bw_996) (fun _ h9 => h9) rfl hin rfl (by decide +kernel) rfl rfl h2 d_Mo_init_173 (fun H locs hP hD hS => ?_)
  have hW := hback _ _ hP hD
  generalize (va_up M162 a0 (some (.inr (5, fs.set 22 (.ref q161))))) = M163 at h hW
  refine lv_aload_n hx hb d_Mo_init_176 rfl (lv_at hl 0 rfl) ?_
  refine lv_bipush (v := 8) hx hb d_Mo_init_177 (by decide) ?_
  have h9 := h
  clear h
  refine hq_newa 5 8 (atype := .int) (ty := .int) (fun N => (N, .inl (fun _ => 0))) hx hb (hts _ bw_1054) rfl (fun _ => rfl) hK hW hS hA (fun _ _ => rfl) h9 rfl (by decide) (by decide) (show _ ≤ 24 by omega) (show _ ≤ 690 by omega) d_Mo_init_179 (fun q164 M165 H h hW hS => ?_)
  clear h9
  obtain ⟨fs, h1, h2, h⟩ := h
  obtain ⟨ws, q0, hq, hP, hD, hback, -⟩ := hw_open hW h1
  refine va_putF (D := D) (ci := 5) (v := .ref q164) (ty := .array .int) (C := "ChannelHallModel") (T := TMo) (N := 26) hx hb hts uMo tMo tMo_ok nMo hown hK hP hD hS q0 hq rfl 23 (by decide) (hts _ bw_997) (fun _ h9 => h9) rfl hin rfl (by decide +kernel) rfl rfl h2 d_Mo_init_181 (fun H locs hP hD hS => ?_)
  have hW := hback _ _ hP hD
  generalize (va_up M165 a0 (some (.inr (5, fs.set 23 (.ref q164))))) = M166 at h hW
  refine lv_aload_n hx hb d_Mo_init_184 rfl (lv_at hl 0 rfl) ?_
  refine lv_bipush (v := 8) hx hb d_Mo_init_185 (by decide) ?_
  have h9 := h
  clear h
  refine hq_newa 4 8 (atype := .double) (ty := .double) (fun N => (N, .inr (.inr (.inr (.inl (fun _ => FP.dconst0)))))) hx hb (hts _ bw_1055) rfl (fun _ => rfl) hK hW hS hA (fun _ _ => rfl) h9 rfl (by decide) (by decide) (show _ ≤ 24 by omega) (show _ ≤ 690 by omega) d_Mo_init_187 (fun q167 M168 H h hW hS => ?_)
  clear h9
  obtain ⟨fs, h1, h2, h⟩ := h
  obtain ⟨ws, q0, hq, hP, hD, hback, -⟩ := hw_open hW h1
  refine va_putF (D := D) (ci := 5) (v := .ref q167) (ty := .array .double) (C := "ChannelHallModel") (T := TMo) (N := 26) hx hb hts uMo tMo tMo_ok nMo hown hK hP hD hS q0 hq rfl 24 (by decide) (hts _ bw_998) (fun _ h9 => h9) rfl hin rfl (by decide +kernel) rfl rfl h2 d_Mo_init_189 (fun H locs hP hD hS => ?_)
  have hW := hback _ _ hP hD
  generalize (va_up M168 a0 (some (.inr (5, fs.set 24 (.ref q167))))) = M169 at h hW
  refine lv_aload_n hx hb d_Mo_init_192 rfl (lv_at hl 0 rfl) ?_
  refine lv_bipush (v := 8) hx hb d_Mo_init_193 (by decide) ?_
  have h9 := h
  clear h
  refine hq_newa 5 8 (atype := .int) (ty := .int) (fun N => (N, .inl (fun _ => 0))) hx hb (hts _ bw_1054) rfl (fun _ => rfl) hK hW hS hA (fun _ _ => rfl) h9 rfl (by decide) (by decide) (show _ ≤ 24 by omega) (show _ ≤ 690 by omega) d_Mo_init_195 (fun q170 M171 H h hW hS => ?_)
  clear h9
  obtain ⟨fs, h1, h2, h⟩ := h
  obtain ⟨ws, q0, hq, hP, hD, hback, -⟩ := hw_open hW h1
  refine va_putF (D := D) (ci := 5) (v := .ref q170) (ty := .array .int) (C := "ChannelHallModel") (T := TMo) (N := 26) hx hb hts uMo tMo tMo_ok nMo hown hK hP hD hS q0 hq rfl 25 (by decide) (hts _ bw_999) (fun _ h9 => h9) rfl hin rfl (by decide +kernel) rfl rfl h2 d_Mo_init_197 (fun H locs hP hD hS => ?_)
  have hW := hback _ _ hP hD
  generalize (va_up M171 a0 (some (.inr (5, fs.set 25 (.ref q170))))) = M172 at h hW
  refine lv_iconst (v := 0) hx hb d_Mo_init_200 (by decide) ?_
  refine lv_istore_n (lv' := [(1, .int 0), (0, .ref a0)]) hx hb d_Mo_init_201 rfl hl (by decide) rfl (fun ls hl => ?_)
  obtain ⟨n, h⟩ := h
  exact l_Mo_init_202 C0 hin n a0 0 (by omega) (by omega) h hW hS (lv_sub hl [1, 0] rfl)
set_option maxRecDepth 20000 in
theorem c_Mo_init {l : Launch} {D : va_G} {ca G : Nat → Nat} (post : hM → Prop) {M : hM} {sz : Nat} {a0 : Nat} (h : wp_Mo_init G ca post M a0) : Met l y_Mo_init (wz y_Mo_init prog_7_method_1_code 2 (none)) rm_Mo_init (va_Pc [.ref a0] (hI D ca G sz M)) (va_Qv post (hB D M sz) (hp_A M sz)) 24 690 (hp_A M sz) := by
  refine Met.ofW (cc := prog_7_method_1_code) (maxL := 2) (ret := none) (by decide) rfl ?_
  intro p e s m args below meth c s₁ B hml hv
  obtain ⟨rfl, hsz, hW, hK, hZ0⟩ := hv
  have hts := fun w hw => atoms_spec (ws := wz y_Mo_init prog_7_method_1_code 2 (none)) B.pre w (List.mem_cons_of_mem _ hw)
  have hown : s.vm.findClass "ChannelHallModel" = some m.cls := findClass_of_methodNamed B.named
  subst hsz
  have hl := lv_entry [.ref a0] (n := 2) (Nat.le_of_ble_eq_true rfl)
  rw [lg_entry_eq]
  exact l_Mo_init_e ⟨B.exec, B.bytes, B.returns, hml, hown, hts, B.notSynchronized, hK, fun q h => Or.inr h, hZ0⟩ (name_of_methodNamed B.named B.method).1 a0 (Nat.zero_le _) (Nat.zero_le _) h hW va_S.rf hl

/-! CONSTRUCTORS -/
def Y_X3_init : MT := (⟨"GlitchCourt$Dispute", "<init>", "()V"⟩, prog_5_method_1_code, 1, none, { frames := 1, cells := 0, slots := 0, locals := 20 }, [(0, .aload_n 0, 1), (1, .invokespecial 3, 3), (4, .aload_n 0, 1), (5, .iconst (-1), 1), (6, .putfield 9, 3), (9, .return_, 1)], [])
theorem is_X3_init : (yP Y_X3_init).all (okI (yB Y_X3_init)) = true := by decide +kernel
theorem mf_X3_init : MF Y_X3_init 0 := ⟨gw_in 80 (by decide +kernel) (by decide +kernel), gw_in 32 (by decide +kernel) (by decide +kernel), by decide, by decide +kernel⟩
theorem ml_X3_3 : Cond.methodLink "GlitchCourt$Dispute" 3 (⟨"java/lang/Object", "<init>", "()V"⟩ : MethodName) ∈ GW := gw_in 81 (by decide +kernel) (by decide +kernel)
theorem mi_Obj : Cond.instanceMethod (⟨"java/lang/Object", "<init>", "()V"⟩ : MethodName) ∈ GW := gw_in 58 (by decide +kernel) (by decide +kernel)
def Y_X6_init : MT := (⟨"GlitchCourt$State", "<init>", "()V"⟩, prog_8_method_1_code, 2, none, { frames := 2, cells := 30, slots := 286, locals := 40 }, [(0, .aload_n 0, 1), (1, .invokespecial 3, 3), (4, .aload_n 0, 1), (5, .iconst 3, 1), (6, .bipush 16, 2), (8, .multianewarray 9 2, 4), (12, .putfield 11, 3), (15, .aload_n 0, 1), (16, .iconst 4, 1), (17, .newarray .long, 2), (19, .putfield 16, 3), (22, .aload_n 0, 1), (23, .bipush 16, 2), (25, .newarray .long, 2), (27, .putfield 20, 3), (30, .aload_n 0, 1), (31, .bipush 16, 2), (33, .newarray .long, 2), (35, .putfield 23, 3), (38, .aload_n 0, 1), (39, .bipush 16, 2), (41, .newarray .long, 2), (43, .putfield 26, 3), (46, .aload_n 0, 1), (47, .iconst 3, 1), (48, .newarray .int, 2), (50, .putfield 29, 3), (53, .aload_n 0, 1), (54, .bipush 20, 2), (56, .anewarray 33, 3), (59, .putfield 35, 3), (62, .aload_n 0, 1), (63, .iconst 0, 1), (64, .putfield 39, 3), (67, .aload_n 0, 1), (68, .iconst 1, 1), (69, .putfield 43, 3), (72, .iconst 0, 1), (73, .istore_n 1, 1), (74, .iload_n 1, 1), (75, .bipush 20, 2), (77, .if_icmp .ge 22, 3), (80, .aload_n 0, 1), (81, .getfield 35, 3), (84, .iload_n 1, 1), (85, .new 33, 3), (88, .dup, 1), (89, .invokespecial 46, 3), (92, .aastore, 1), (93, .iinc 1 1, 3), (96, .goto (-22), 3), (99, .return_, 1)], [])
theorem is_X6_init : (yP Y_X6_init).all (okI (yB Y_X6_init)) = true := by decide +kernel
theorem mf_X6_init : MF Y_X6_init 0 := ⟨gw_in 71 (by decide +kernel) (by decide +kernel), gw_in 31 (by decide +kernel) (by decide +kernel), by decide, by decide +kernel⟩
theorem ml_X6_3 : Cond.methodLink "GlitchCourt$State" 3 (⟨"java/lang/Object", "<init>", "()V"⟩ : MethodName) ∈ GW := gw_in 72 (by decide +kernel) (by decide +kernel)
theorem cl_X6_9 : Cond.classLink "GlitchCourt$State" 9 "[[I" ∈ GW := gw_in 73 (by decide +kernel) (by decide +kernel)
theorem cl_X6_33 : Cond.classLink "GlitchCourt$State" 33 "GlitchCourt$Dispute" ∈ GW := gw_in 75 (by decide +kernel) (by decide +kernel)
theorem ic_X3 : Cond.instantiable "GlitchCourt$Dispute" 8 ∈ GW := gw_in 77 (by decide +kernel) (by decide +kernel)
theorem it_X3 : Cond.initialized "GlitchCourt$Dispute" ∈ GW := gw_in 32 (by decide +kernel) (by decide +kernel)
theorem nt_X6_46 : (("GlitchCourt$State", 46, (⟨"GlitchCourt$Dispute", "<init>", "()V"⟩ : MethodName), "GlitchCourt") : String × Nat × MethodName × String) ∈ nsts := by decide +kernel
theorem mi_X3_init : Cond.instanceMethod (⟨"GlitchCourt$Dispute", "<init>", "()V"⟩ : MethodName) ∈ GW := gw_in 79 (by decide +kernel) (by decide +kernel)
def Y_X2_init : MT := (⟨"GlitchCourt$Circuit", "<init>", "()V"⟩, prog_4_method_1_code, 1, none, { frames := 1, cells := 4, slots := 64, locals := 20 }, [(0, .aload_n 0, 1), (1, .invokespecial 3, 3), (4, .aload_n 0, 1), (5, .bipush 16, 2), (7, .newarray .int, 2), (9, .putfield 9, 3), (12, .aload_n 0, 1), (13, .bipush 16, 2), (15, .newarray .int, 2), (17, .putfield 15, 3), (20, .aload_n 0, 1), (21, .bipush 16, 2), (23, .newarray .int, 2), (25, .putfield 18, 3), (28, .aload_n 0, 1), (29, .bipush 16, 2), (31, .newarray .int, 2), (33, .putfield 21, 3), (36, .aload_n 0, 1), (37, .iconst 1, 1), (38, .putfield 24, 3), (41, .aload_n 0, 1), (42, .iconst 0, 1), (43, .putfield 28, 3), (46, .aload_n 0, 1), (47, .iconst 4, 1), (48, .putfield 31, 3), (51, .aload_n 0, 1), (52, .iconst 1, 1), (53, .putfield 34, 3), (56, .aload_n 0, 1), (57, .iconst 1, 1), (58, .putfield 37, 3), (61, .return_, 1)], [])
theorem is_X2_init : (yP Y_X2_init).all (okI (yB Y_X2_init)) = true := by decide +kernel
theorem mf_X2_init : MF Y_X2_init 0 := ⟨gw_in 257 (by decide +kernel) (by decide +kernel), gw_in 36 (by decide +kernel) (by decide +kernel), by decide, by decide +kernel⟩
theorem ml_X2_3 : Cond.methodLink "GlitchCourt$Circuit" 3 (⟨"java/lang/Object", "<init>", "()V"⟩ : MethodName) ∈ GW := gw_in 258 (by decide +kernel) (by decide +kernel)
theorem pf_X2_34 : FL "GlitchCourt$Circuit" 34 1 7 0 false := ⟨_, _, _, rfl, by decide, gw_in 279 (by decide +kernel) (by decide +kernel), rfl, rfl⟩
theorem pf_X2_37 : FL "GlitchCourt$Circuit" 37 1 8 0 false := ⟨_, _, _, rfl, by decide, gw_in 283 (by decide +kernel) (by decide +kernel), rfl, rfl⟩
def Y_X0_init : MT := (⟨"GlitchCourt$Bench", "<init>", "()V"⟩, prog_2_method_1_code, 1, none, { frames := 3, cells := 41, slots := 448, locals := 61 }, [(0, .aload_n 0, 1), (1, .invokespecial 3, 3), (4, .aload_n 0, 1), (5, .new 9, 3), (8, .dup, 1), (9, .invokespecial 11, 3), (12, .putfield 12, 3), (15, .aload_n 0, 1), (16, .new 18, 3), (19, .dup, 1), (20, .invokespecial 20, 3), (23, .putfield 21, 3), (26, .aload_n 0, 1), (27, .bipush 16, 2), (29, .newarray .long, 2), (31, .putfield 25, 3), (34, .aload_n 0, 1), (35, .bipush 16, 2), (37, .newarray .long, 2), (39, .putfield 29, 3), (42, .aload_n 0, 1), (43, .bipush 16, 2), (45, .newarray .long, 2), (47, .putfield 32, 3), (50, .aload_n 0, 1), (51, .bipush 16, 2), (53, .newarray .long, 2), (55, .putfield 35, 3), (58, .aload_n 0, 1), (59, .bipush 16, 2), (61, .newarray .int, 2), (63, .putfield 38, 3), (66, .return_, 1)], [])
theorem is_X0_init : (yP Y_X0_init).all (okI (yB Y_X0_init)) = true := by decide +kernel
theorem mf_X0_init : MF Y_X0_init 0 := ⟨gw_in 251 (by decide +kernel) (by decide +kernel), gw_in 35 (by decide +kernel) (by decide +kernel), by decide, by decide +kernel⟩
theorem ml_X0_3 : Cond.methodLink "GlitchCourt$Bench" 3 (⟨"java/lang/Object", "<init>", "()V"⟩ : MethodName) ∈ GW := gw_in 252 (by decide +kernel) (by decide +kernel)
theorem cl_X0_9 : Cond.classLink "GlitchCourt$Bench" 9 "GlitchCourt$Circuit" ∈ GW := gw_in 253 (by decide +kernel) (by decide +kernel)
theorem ic_X2 : Cond.instantiable "GlitchCourt$Circuit" 9 ∈ GW := gw_in 254 (by decide +kernel) (by decide +kernel)
theorem it_X2 : Cond.initialized "GlitchCourt$Circuit" ∈ GW := gw_in 36 (by decide +kernel) (by decide +kernel)
theorem nt_X0_11 : (("GlitchCourt$Bench", 11, (⟨"GlitchCourt$Circuit", "<init>", "()V"⟩ : MethodName), "GlitchCourt") : String × Nat × MethodName × String) ∈ nsts := by decide +kernel
theorem mi_X2_init : Cond.instanceMethod (⟨"GlitchCourt$Circuit", "<init>", "()V"⟩ : MethodName) ∈ GW := gw_in 256 (by decide +kernel) (by decide +kernel)
theorem cl_X0_18 : Cond.classLink "GlitchCourt$Bench" 18 "GlitchCourt$State" ∈ GW := gw_in 305 (by decide +kernel) (by decide +kernel)
theorem ic_X6 : Cond.instantiable "GlitchCourt$State" 9 ∈ GW := gw_in 68 (by decide +kernel) (by decide +kernel)
theorem it_X6 : Cond.initialized "GlitchCourt$State" ∈ GW := gw_in 31 (by decide +kernel) (by decide +kernel)
theorem ml_X0_20 : Cond.methodLink "GlitchCourt$Bench" 20 (⟨"GlitchCourt$State", "<init>", "()V"⟩ : MethodName) ∈ GW := gw_in 306 (by decide +kernel) (by decide +kernel)
theorem mi_X6_init : Cond.instanceMethod (⟨"GlitchCourt$State", "<init>", "()V"⟩ : MethodName) ∈ GW := gw_in 70 (by decide +kernel) (by decide +kernel)
theorem pf_X0_35 : FL "GlitchCourt$Bench" 35 0 5 3 true := ⟨_, _, _, rfl, by decide, gw_in 319 (by decide +kernel) (by decide +kernel), rfl, rfl⟩
def Y_X4_init : MT := (⟨"GlitchCourt$History", "<init>", "()V"⟩, prog_6_method_1_code, 2, none, { frames := 3, cells := 342, slots := 3255, locals := 61 }, [(0, .aload_n 0, 1), (1, .invokespecial 3, 3), (4, .aload_n 0, 1), (5, .bipush 10, 2), (7, .anewarray 9, 3), (10, .putfield 11, 3), (13, .aload_n 0, 1), (14, .new 9, 3), (17, .dup, 1), (18, .invokespecial 17, 3), (21, .putfield 18, 3), (24, .aload_n 0, 1), (25, .iconst 0, 1), (26, .putfield 22, 3), (29, .aload_n 0, 1), (30, .iconst 0, 1), (31, .putfield 26, 3), (34, .aload_n 0, 1), (35, .iconst 0, 1), (36, .putfield 30, 3), (39, .iconst 0, 1), (40, .istore_n 1, 1), (41, .iload_n 1, 1), (42, .bipush 10, 2), (44, .if_icmp .ge 22, 3), (47, .aload_n 0, 1), (48, .getfield 11, 3), (51, .iload_n 1, 1), (52, .new 9, 3), (55, .dup, 1), (56, .invokespecial 17, 3), (59, .aastore, 1), (60, .iinc 1 1, 3), (63, .goto (-22), 3), (66, .return_, 1)], [])
theorem is_X4_init : (yP Y_X4_init).all (okI (yB Y_X4_init)) = true := by decide +kernel
theorem mf_X4_init : MF Y_X4_init 0 := ⟨gw_in 64 (by decide +kernel) (by decide +kernel), gw_in 30 (by decide +kernel) (by decide +kernel), by decide, by decide +kernel⟩
theorem ml_X4_3 : Cond.methodLink "GlitchCourt$History" 3 (⟨"java/lang/Object", "<init>", "()V"⟩ : MethodName) ∈ GW := gw_in 65 (by decide +kernel) (by decide +kernel)
theorem cl_X4_9 : Cond.classLink "GlitchCourt$History" 9 "GlitchCourt$State" ∈ GW := gw_in 66 (by decide +kernel) (by decide +kernel)
theorem ml_X4_17 : Cond.methodLink "GlitchCourt$History" 17 (⟨"GlitchCourt$State", "<init>", "()V"⟩ : MethodName) ∈ GW := gw_in 69 (by decide +kernel) (by decide +kernel)
theorem pf_X4_18 : FL "GlitchCourt$History" 18 3 1 3 true := ⟨_, _, _, rfl, by decide, gw_in 169 (by decide +kernel) (by decide +kernel), rfl, rfl⟩
def Y_X7_init : MT := (⟨"GlitchCourt$Tokens", "<init>", "()V"⟩, prog_9_method_1_code, 1, none, { frames := 1, cells := 1, slots := 0, locals := 20 }, [(0, .aload_n 0, 1), (1, .invokespecial 3, 3), (4, .aload_n 0, 1), (5, .iconst 0, 1), (6, .newarray .byte, 2), (8, .putfield 9, 3), (11, .aload_n 0, 1), (12, .iconst 0, 1), (13, .putfield 15, 3), (16, .aload_n 0, 1), (17, .iconst 0, 1), (18, .putfield 19, 3), (21, .aload_n 0, 1), (22, .iconst 0, 1), (23, .putfield 22, 3), (26, .aload_n 0, 1), (27, .iconst 0, 1), (28, .putfield 25, 3), (31, .aload_n 0, 1), (32, .iconst 0, 1), (33, .putfield 28, 3), (36, .aload_n 0, 1), (37, .iconst 0, 1), (38, .putfield 31, 3), (41, .aload_n 0, 1), (42, .iconst (-1), 1), (43, .putfield 34, 3), (46, .return_, 1)], [])
theorem is_X7_init : (yP Y_X7_init).all (okI (yB Y_X7_init)) = true := by decide +kernel
theorem mf_X7_init : MF Y_X7_init 0 := ⟨gw_in 188 (by decide +kernel) (by decide +kernel), gw_in 33 (by decide +kernel) (by decide +kernel), by decide, by decide +kernel⟩
theorem ml_X7_3 : Cond.methodLink "GlitchCourt$Tokens" 3 (⟨"java/lang/Object", "<init>", "()V"⟩ : MethodName) ∈ GW := gw_in 189 (by decide +kernel) (by decide +kernel)
def Y_X5_init : MT := (⟨"GlitchCourt$QueryText", "<init>", "()V"⟩, prog_7_method_1_code, 1, none, { frames := 1, cells := 3, slots := 18, locals := 20 }, [(0, .aload_n 0, 1), (1, .invokespecial 3, 3), (4, .aload_n 0, 1), (5, .bipush 6, 2), (7, .newarray .boolean, 2), (9, .putfield 9, 3), (12, .aload_n 0, 1), (13, .bipush 6, 2), (15, .newarray .int, 2), (17, .putfield 15, 3), (20, .aload_n 0, 1), (21, .bipush 6, 2), (23, .newarray .int, 2), (25, .putfield 19, 3), (28, .aload_n 0, 1), (29, .iconst 0, 1), (30, .putfield 22, 3), (33, .aload_n 0, 1), (34, .iconst 0, 1), (35, .putfield 26, 3), (38, .aload_n 0, 1), (39, .iconst 0, 1), (40, .putfield 29, 3), (43, .aload_n 0, 1), (44, .iconst 0, 1), (45, .putfield 32, 3), (48, .return_, 1)], [])
theorem is_X5_init : (yP Y_X5_init).all (okI (yB Y_X5_init)) = true := by decide +kernel
theorem mf_X5_init : MF Y_X5_init 0 := ⟨gw_in 222 (by decide +kernel) (by decide +kernel), gw_in 34 (by decide +kernel) (by decide +kernel), by decide, by decide +kernel⟩
theorem ml_X5_3 : Cond.methodLink "GlitchCourt$QueryText" 3 (⟨"java/lang/Object", "<init>", "()V"⟩ : MethodName) ∈ GW := gw_in 223 (by decide +kernel) (by decide +kernel)
theorem pf_X5_9 : FL "GlitchCourt$QueryText" 9 4 0 3 true := ⟨_, _, _, rfl, by decide, gw_in 224 (by decide +kernel) (by decide +kernel), rfl, rfl⟩
theorem pf_X5_15 : FL "GlitchCourt$QueryText" 15 4 1 3 true := ⟨_, _, _, rfl, by decide, gw_in 225 (by decide +kernel) (by decide +kernel), rfl, rfl⟩
theorem pf_X5_19 : FL "GlitchCourt$QueryText" 19 4 2 3 true := ⟨_, _, _, rfl, by decide, gw_in 226 (by decide +kernel) (by decide +kernel), rfl, rfl⟩
theorem pf_X5_22 : FL "GlitchCourt$QueryText" 22 4 3 0 false := ⟨_, _, _, rfl, by decide, gw_in 227 (by decide +kernel) (by decide +kernel), rfl, rfl⟩
theorem pf_X5_26 : FL "GlitchCourt$QueryText" 26 4 4 0 false := ⟨_, _, _, rfl, by decide, gw_in 228 (by decide +kernel) (by decide +kernel), rfl, rfl⟩
theorem pf_X5_29 : FL "GlitchCourt$QueryText" 29 4 5 0 false := ⟨_, _, _, rfl, by decide, gw_in 229 (by decide +kernel) (by decide +kernel), rfl, rfl⟩
theorem pf_X5_32 : FL "GlitchCourt$QueryText" 32 4 6 0 false := ⟨_, _, _, rfl, by decide, gw_in 230 (by decide +kernel) (by decide +kernel), rfl, rfl⟩
def Y_X8_init : MT := (⟨"GlitchCourt", "<init>", "()V"⟩, prog_1_method_1_code, 1, none, { frames := 4, cells := 435, slots := 4864, locals := 82 }, [(0, .aload_n 0, 1), (1, .invokespecial 1, 3), (4, .aload_n 0, 1), (5, .new 7, 3), (8, .dup, 1), (9, .invokespecial 9, 3), (12, .putfield 10, 3), (15, .aload_n 0, 1), (16, .new 16, 3), (19, .dup, 1), (20, .invokespecial 18, 3), (23, .putfield 19, 3), (26, .aload_n 0, 1), (27, .new 23, 3), (30, .dup, 1), (31, .invokespecial 25, 3), (34, .putfield 26, 3), (37, .aload_n 0, 1), (38, .sipush 600, 3), (41, .newarray .byte, 2), (43, .putfield 30, 3), (46, .aload_n 0, 1), (47, .bipush 61, 2), (49, .newarray .byte, 2), (51, .putfield 34, 3), (54, .aload_n 0, 1), (55, .new 37, 3), (58, .dup, 1), (59, .invokespecial 39, 3), (62, .putfield 40, 3), (65, .aload_n 0, 1), (66, .new 37, 3), (69, .dup, 1), (70, .invokespecial 39, 3), (73, .putfield 44, 3), (76, .aload_n 0, 1), (77, .iconst 0, 1), (78, .putfield 47, 3), (81, .aload_n 0, 1), (82, .iconst 0, 1), (83, .putfield 51, 3), (86, .aload_n 0, 1), (87, .iconst (-1), 1), (88, .putfield 54, 3), (91, .return_, 1)], [])
theorem is_X8_init : (yP Y_X8_init).all (okI (yB Y_X8_init)) = true := by decide +kernel
theorem mf_X8_init : MF Y_X8_init 0 := ⟨gw_in 56 (by decide +kernel) (by decide +kernel), gw_in 29 (by decide +kernel) (by decide +kernel), by decide, by decide +kernel⟩
theorem ml_X8_1 : Cond.methodLink "GlitchCourt" 1 (⟨"java/lang/Object", "<init>", "()V"⟩ : MethodName) ∈ GW := gw_in 57 (by decide +kernel) (by decide +kernel)
theorem cl_X8_7 : Cond.classLink "GlitchCourt" 7 "GlitchCourt$History" ∈ GW := gw_in 60 (by decide +kernel) (by decide +kernel)
theorem ic_X4 : Cond.instantiable "GlitchCourt$History" 5 ∈ GW := gw_in 61 (by decide +kernel) (by decide +kernel)
theorem it_X4 : Cond.initialized "GlitchCourt$History" ∈ GW := gw_in 30 (by decide +kernel) (by decide +kernel)
theorem ml_X8_9 : Cond.methodLink "GlitchCourt" 9 (⟨"GlitchCourt$History", "<init>", "()V"⟩ : MethodName) ∈ GW := gw_in 62 (by decide +kernel) (by decide +kernel)
theorem mi_X4_init : Cond.instanceMethod (⟨"GlitchCourt$History", "<init>", "()V"⟩ : MethodName) ∈ GW := gw_in 63 (by decide +kernel) (by decide +kernel)
theorem cl_X8_16 : Cond.classLink "GlitchCourt" 16 "GlitchCourt$Tokens" ∈ GW := gw_in 184 (by decide +kernel) (by decide +kernel)
theorem ic_X7 : Cond.instantiable "GlitchCourt$Tokens" 8 ∈ GW := gw_in 185 (by decide +kernel) (by decide +kernel)
theorem it_X7 : Cond.initialized "GlitchCourt$Tokens" ∈ GW := gw_in 33 (by decide +kernel) (by decide +kernel)
theorem nt_X8_18 : (("GlitchCourt", 18, (⟨"GlitchCourt$Tokens", "<init>", "()V"⟩ : MethodName), "GlitchCourt") : String × Nat × MethodName × String) ∈ nsts := by decide +kernel
theorem mi_X7_init : Cond.instanceMethod (⟨"GlitchCourt$Tokens", "<init>", "()V"⟩ : MethodName) ∈ GW := gw_in 187 (by decide +kernel) (by decide +kernel)
theorem cl_X8_23 : Cond.classLink "GlitchCourt" 23 "GlitchCourt$QueryText" ∈ GW := gw_in 218 (by decide +kernel) (by decide +kernel)
theorem ic_X5 : Cond.instantiable "GlitchCourt$QueryText" 7 ∈ GW := gw_in 219 (by decide +kernel) (by decide +kernel)
theorem it_X5 : Cond.initialized "GlitchCourt$QueryText" ∈ GW := gw_in 34 (by decide +kernel) (by decide +kernel)
theorem nt_X8_25 : (("GlitchCourt", 25, (⟨"GlitchCourt$QueryText", "<init>", "()V"⟩ : MethodName), "GlitchCourt") : String × Nat × MethodName × String) ∈ nsts := by decide +kernel
theorem mi_X5_init : Cond.instanceMethod (⟨"GlitchCourt$QueryText", "<init>", "()V"⟩ : MethodName) ∈ GW := gw_in 221 (by decide +kernel) (by decide +kernel)
theorem pf_X8_26 : FL "GlitchCourt" 26 7 2 3 true := ⟨_, _, _, rfl, by decide, gw_in 338 (by decide +kernel) (by decide +kernel), rfl, rfl⟩
theorem pf_X8_34 : FL "GlitchCourt" 34 7 4 3 true := ⟨_, _, _, rfl, by decide, gw_in 340 (by decide +kernel) (by decide +kernel), rfl, rfl⟩
theorem cl_X8_37 : Cond.classLink "GlitchCourt" 37 "GlitchCourt$Bench" ∈ GW := gw_in 247 (by decide +kernel) (by decide +kernel)
theorem ic_X0 : Cond.instantiable "GlitchCourt$Bench" 7 ∈ GW := gw_in 248 (by decide +kernel) (by decide +kernel)
theorem it_X0 : Cond.initialized "GlitchCourt$Bench" ∈ GW := gw_in 35 (by decide +kernel) (by decide +kernel)
theorem nt_X8_39 : (("GlitchCourt", 39, (⟨"GlitchCourt$Bench", "<init>", "()V"⟩ : MethodName), "GlitchCourt") : String × Nat × MethodName × String) ∈ nsts := by decide +kernel
theorem mi_X0_init : Cond.instanceMethod (⟨"GlitchCourt$Bench", "<init>", "()V"⟩ : MethodName) ∈ GW := gw_in 250 (by decide +kernel) (by decide +kernel)
theorem pf_X8_51 : FL "GlitchCourt" 51 7 8 0 false := ⟨_, _, _, rfl, by decide, gw_in 344 (by decide +kernel) (by decide +kernel), rfl, rfl⟩
def Y_L_init : MT := (⟨"GlitchCourtLaw", "<init>", "()V"⟩, method_1_code, 1, none, { frames := 1, cells := 1, slots := 600, locals := 20 }, [(0, .aload_n 0, 1), (1, .invokespecial 1, 3), (4, .aload_n 0, 1), (5, .sipush 600, 3), (8, .newarray .int, 2), (10, .putfield 7, 3), (13, .return_, 1)], [])
theorem is_L_init : (yP Y_L_init).all (okI (yB Y_L_init)) = true := by decide +kernel
theorem mf_L_init : MF Y_L_init 0 := ⟨gw_in 371 (by decide +kernel) (by decide +kernel), gw_in 28 (by decide +kernel) (by decide +kernel), by decide, by decide +kernel⟩
theorem ml_L_1 : Cond.methodLink "GlitchCourtLaw" 1 (⟨"java/lang/Object", "<init>", "()V"⟩ : MethodName) ∈ GW := gw_in 372 (by decide +kernel) (by decide +kernel)
theorem co_Obj : Cond.code Lib.objectInit ⟨#[0xb1]⟩ 1 none ∈ GW := gw_in 59 (by decide +kernel) (by decide +kernel)
theorem ar_int : Cond.arrayClass .int ∈ GW := gw_in 122 (by decide +kernel) (by decide +kernel)
theorem ar_long : Cond.arrayClass .long ∈ GW := gw_in 123 (by decide +kernel) (by decide +kernel)
theorem ar_byte : Cond.arrayClass .byte ∈ GW := gw_in 217 (by decide +kernel) (by decide +kernel)
theorem ar_boolean : Cond.arrayClass .boolean ∈ GW := gw_in 246 (by decide +kernel) (by decide +kernel)
section CT
variable {G : GT} {Y Y2 : MT} {pc pc' : Nat} {ls ls' : List (Nat × Value)} {st : List Value} {u : MU} {c0 s0 : Nat} {Q Q1 : Option Value → MU → Prop} {QX QX1 : String → MU → Prop}
variable {I : Nat → Nat → Int32} {L : Nat → Nat → Int64} {R : Nat → Nat → Option Nat} {nx : Nat}
theorem aq_up {G : GT} {R : Nat → Nat → Option Nat} {a i v : Nat} (hv : v < 457) : va_up (fun j => (R a j).map (AD G)) i (some (g0 G + PO v)) = fun j => ((up2 R a i (some v)) a j).map (AD G) := by
  funext j
  rw [up2_self]
  show (if j = i then some (g0 G + PO v) else (R a j).map (AD G)) = ((if j = i then some v else R a j).map (AD G))
  by_cases h : j = i
  · rw [if_pos h, if_pos h]
    show some (g0 G + PO v) = some (AD G v)
    rw [AD_in G hv]
  · rw [if_neg h, if_neg h]
theorem v_aast5 (k : Nat) {i : Int32} {a v n : Nat} (hd : (yP Y)[k]? = some (pc, .aastore, 1)) (hp : pc + 1 = pc') (ha : LAY a = 25) (hn : LEN a = n) (hx : ST a nx) (hv : LAY v = 2) (hvx : ST v nx) (hi : vp_in i n) {j : Nat} (hj : i.toNatClampNeg = j) (kk : V G Y pc' ls st (I, L, up2 R a j (some v), nx) c0 s0 Q QX) : V G Y pc ls (.ref v :: .int i :: .ref a :: st) (I, L, R, nx) c0 s0 Q QX := by
  subst hj
  subst hp
  subst hn
  intro p e s m args below meth c C H locs arr hH hS hl hz
  show W _ _ _ _ _ _ _ _ _ _ _ _ _ _ _ (F0 m pc arr (cv G (.ref v) :: .int i :: cv G (.ref a) :: st.map (cv G)))
  rw [cv_ref hH hx, cv_ref hH hvx]
  have hset : ∀ d, d = dta G (I, L, up2 R a i.toNatClampNeg (some v), nx) a 5 → (wl G (I, L, R, nx)).set (PO a) (g0 G + PO a, .inl (gA G 5, LEN a, d)) = wl G (I, L, up2 R a i.toNatClampNeg (some v), nx) := by
    intro d hd9
    rw [hd9, ← cel_arr ha]
    exact wl_set G rfl (fun b hb => cel_same rfl rfl (up2_row hb))
  have hvc : (wl G (I, L, R, nx))[PO v]? = some (g0 G + PO v, .inr (2, fsl G (I, L, R, nx) v 2)) := by rw [wl_get G (I, L, R, nx) hvx, cel_obj hv (by decide)]
  refine va_astq (r := (RX3, TX3, 8)) (f := fun j => (R a j).map (AD G)) (cxx C) (cxb C) (cxk C).1 hH.1 (wl_D G _) hS (PO a) 5 (PO v) 2 (wl_arr hx (t := 5) ha) (tys_get G (by decide)) hvc rfl hi (cxd C hd) (fun H1 locs1 hP hD hS1 => ?_)
  rw [hset _ (by rw [aq_up (st_r hvx hH.2)]; rfl)] at hP
  exact kk p e s m args below meth c C H1 locs1 arr ⟨hP, hH.2⟩ hS1 hl hz
theorem v_aast4 (k : Nat) {i : Int32} {a v n : Nat} (hd : (yP Y)[k]? = some (pc, .aastore, 1)) (hp : pc + 1 = pc') (ha : LAY a = 24) (hn : LEN a = n) (hx : ST a nx) (hv : LAY v = 5) (hvx : ST v nx) (hi : vp_in i n) {j : Nat} (hj : i.toNatClampNeg = j) (kk : V G Y pc' ls st (I, L, up2 R a j (some v), nx) c0 s0 Q QX) : V G Y pc ls (.ref v :: .int i :: .ref a :: st) (I, L, R, nx) c0 s0 Q QX := by
  subst hj
  subst hp
  subst hn
  intro p e s m args below meth c C H locs arr hH hS hl hz
  show W _ _ _ _ _ _ _ _ _ _ _ _ _ _ _ (F0 m pc arr (cv G (.ref v) :: .int i :: cv G (.ref a) :: st.map (cv G)))
  rw [cv_ref hH hx, cv_ref hH hvx]
  have hset : ∀ d, d = dta G (I, L, up2 R a i.toNatClampNeg (some v), nx) a 4 → (wl G (I, L, R, nx)).set (PO a) (g0 G + PO a, .inl (gA G 4, LEN a, d)) = wl G (I, L, up2 R a i.toNatClampNeg (some v), nx) := by
    intro d hd9
    rw [hd9, ← cel_arr ha]
    exact wl_set G rfl (fun b hb => cel_same rfl rfl (up2_row hb))
  have hvc : (wl G (I, L, R, nx))[PO v]? = some (g0 G + PO v, .inr (5, fsl G (I, L, R, nx) v 5)) := by rw [wl_get G (I, L, R, nx) hvx, cel_obj hv (by decide)]
  refine va_astq (r := (RX6, TX6, 9)) (f := fun j => (R a j).map (AD G)) (cxx C) (cxb C) (cxk C).1 hH.1 (wl_D G _) hS (PO a) 4 (PO v) 5 (wl_arr hx (t := 4) ha) (tys_get G (by decide)) hvc rfl hi (cxd C hd) (fun H1 locs1 hP hD hS1 => ?_)
  rw [hset _ (by rw [aq_up (st_r hvx hH.2)]; rfl)] at hP
  exact kk p e s m args below meth c C H1 locs1 arr ⟨hP, hH.2⟩ hS1 hl hz
/-- the references that stand behind the constructors -/
def W0 : Nat → Nat → Option Nat := RT 352 394 345
theorem W0_n {q : Nat} (h1 : q ≠ 0) (h2 : q ≠ 344) (j : Nat) : W0 q j = RS q j := by
  unfold W0 RT
  split
  · exact absurd rfl h1
  · exact absurd rfl h2
  · rfl
theorem RS_no {q l : Nat} (hl : LAY q = l) (h : l = 20 ∨ l = 21 ∨ l = 22 ∨ l = 23 ∨ l = 2) (j : Nat) : RS q j = none := by
  unfold RS
  rw [hl]
  rcases h with rfl | rfl | rfl | rfl | rfl <;> rfl
theorem st_rng {a : Nat} (h : stOK a) : 3 ≤ a ∧ a + 31 ≤ 435 ∧ ∀ i, i < 31 → a + i ≠ 344 := (show ∀ x ∈ stE, 3 ≤ x ∧ x + 31 ≤ 435 ∧ ∀ i, i < 31 → x + i ≠ 344 by decide +kernel) a (st_mem h)
theorem st_ds {a i : Nat} (h : stOK a) (hi : i < 20) : LAY (a + 11 + i) = 2 := (show ∀ x ∈ stE, ∀ i, i < 20 → LAY (x + 11 + i) = 2 by decide +kernel) a (st_mem h) i hi
def mI (I : TI) (nx : Nat) : TI := fun a j => if nx ≤ a ∧ a < nx + 4 then 0 else I a j
def mL (L : TL) (nx : Nat) : TL := fun a j => if nx ≤ a ∧ a < nx + 4 then 0 else L a j
def mR (R : Nat → Nat → Option Nat) (nx : Nat) : Nat → Nat → Option Nat := fun a j => if a = nx then (if j < 3 then some (nx + 1 + j) else none) else if nx ≤ a ∧ a < nx + 4 then none else R a j
theorem mI_n {I : TI} {nx q : Nat} (h : q < nx ∨ nx + 4 ≤ q) : mI I nx q = I q := by funext j; exact if_neg (by omega)
theorem mL_n {L : TL} {nx q : Nat} (h : q < nx ∨ nx + 4 ≤ q) : mL L nx q = L q := by funext j; exact if_neg (by omega)
theorem mR_n {nx q : Nat} (h : q < nx ∨ nx + 4 ≤ q) : mR R nx q = R q := by
  funext j
  unfold mR
  rw [if_neg (by omega), if_neg (by omega)]
/-- a Dispute -/
theorem ok_X3_init {k : Nat} (hk : LAY k = 2) (hx : ST k nx) : MW G Y_X3_init [.ref k] (I, L, R, nx) (fun v9 u9 => v9 = none ∧ u9 = (up2 I k 7 (-1), L, R, nx)) (fun _ _ => False) := by
  refine MW.intro rfl (by decide) is_X3_init (Nat.le_of_ble_eq_true rfl) ?_
  show V G Y_X3_init 0 [(0, .ref k)] [] (I, L, R, nx) 0 0 _ _
  refine v_aload_n (pc' := 1) 0 0 rfl rfl rfl rfl ?_
  refine v_obj (pc' := 4) 1 rfl rfl ml_X3_3 mi_Obj co_Obj (by decide) (by decide) ?_
  refine v_aload_n (pc' := 5) 2 0 rfl rfl rfl rfl ?_
  refine v_iconst (v := -1) (pc' := 6) 3 rfl rfl (by decide) ?_
  refine v_putI (pc' := 9) 4 rfl rfl pf_X3_9 (fun q => absurd q (by decide)) hk hx ?_
  exact v_vret 5 rfl rfl (by decide) (by decide) ⟨rfl, rfl⟩
/-- what a new State holds -/
def ST0 (a : Nat) (I : TI) (L : TL) (R : Nat → Nat → Option Nat) (I' : TI) (L' : TL) (R' : Nat → Nat → Option Nat) : Prop :=
  (∀ q, q < a ∨ 436 ≤ q → I' q = I q) ∧ (∀ q, q < a → L' q = L q) ∧ (∀ q, q < a ∨ a + 31 ≤ q → R' q = R q) ∧ (∀ q, a ≤ q → q < a + 31 → R' q = W0 q) ∧ I' a 7 = 0 ∧ I' a 8 = 1 ∧ (∀ p, I' (a + 9) p = 0) ∧ ∀ p, L' (a + 5) p = 0 ∧ L' (a + 6) p = 0 ∧ L' (a + 7) p = 0 ∧ L' (a + 8) p = 0
def SL0 (a i : Nat) (I : TI) (L : TL) (R : Nat → Nat → Option Nat) (I' : TI) (L' : TL) (R' : Nat → Nat → Option Nat) : Prop :=
  (∀ q, q < a ∨ 436 ≤ q → I' q = I q) ∧ (∀ q, q < a → L' q = L q) ∧ (∀ q, q < a ∨ a + 31 ≤ q → R' q = R q) ∧ (∀ q, a ≤ q → q < a + 11 + i → q ≠ a + 10 → R' q = W0 q) ∧ (∀ j, R' (a + 10) j = if j < i then some (a + 11 + j) else none) ∧ I' a 7 = 0 ∧ I' a 8 = 1 ∧ (∀ p, I' (a + 9) p = 0) ∧ ∀ p, L' (a + 5) p = 0 ∧ L' (a + 6) p = 0 ∧ L' (a + 7) p = 0 ∧ L' (a + 8) p = 0
theorem st_loop {a : Nat} (ha : stOK a) : ∀ (n i : Nat) (I' : TI) (L' : TL) (R' : Nat → Nat → Option Nat), i + n = 20 → SL0 a i I L R I' L' R' → V G Y_X6_init 74 [(0, .ref a), (1, .int (nI i))] [] (I', L', R', a + 11 + i) (10 + i) (126 + 8 * i) (fun v9 u9 => v9 = none ∧ ∃ I9 L9 R9, u9 = (I9, L9, R9, a + 31) ∧ ST0 a I L R I9 L9 R9) (fun _ _ => False)
  | n, i, I', L', R', hi, h => by
    obtain ⟨g1, g2, g3⟩ := st_rng ha
    obtain ⟨h1, h2, h3, h4, h5, h6, h7, h8, h9⟩ := h
    refine v_iload_n (pc' := 75) 39 1 rfl rfl rfl rfl ?_
    refine v_bipush (v := 20) (pc' := 77) 40 rfl rfl (by decide) ?_
    refine v_icmp_ge (tgt := 99) (pc' := 80) 41 rfl rfl (by decide) (fun hc => ?_) (fun hc => ?_)
    · have : 20 ≤ i := (nI_leI (a := 20) (b := i) (by omega) (by omega)).mp hc
      have ei : i = 20 := by omega
      subst ei
      refine v_vret 51 rfl rfl (by decide) (by decide) ⟨rfl, I', L', R', rfl, h1, h2, h3, fun q q1 q2 => ?_, h6, h7, h8, h9⟩
      by_cases z : q = a + 10
      · subst z
        funext j
        rw [h5, W0_n (by omega) (g3 10 (by omega))]
        unfold RS
        rw [st10l ha]
        rfl
      · exact h4 q q1 (by omega) z
    · match n, hi with
      | 0, hi => exact absurd (nI_le (a := 20) (b := i) (by omega) (by omega)) hc
      | n + 1, hi =>
        have r6 : R' a 6 = some (a + 10) := by
          rw [h4 a (Nat.le_refl _) (by omega) (by omega)]
          exact rt_st_6 ha
        have hd2 := st_ds ha (show i < 20 by omega)
        refine v_aload_n (pc' := 81) 42 0 rfl rfl rfl rfl ?_
        refine v_getR (t := a + 10) (pc' := 84) 43 rfl rfl pf_X6_35 (st0l ha) (st_c (by omega) (by omega)) r6 ?_
        refine v_iload_n (pc' := 85) 44 1 rfl rfl rfl rfl ?_
        refine v_new (ci := 2) (pc' := 88) 45 rfl rfl rfl cl_X6_33 ic_X3 it_X3 hd2 (by omega) (by show 10 + i + 1 ≤ 30; omega) (by show 126 + 8 * i + 8 ≤ 286; omega) ?_
        refine v_dup (pc' := 89) 46 rfl rfl rfl ?_
        refine v_cNI (Y2 := Y_X3_init) (As := []) (b := a + 11 + i) (pc' := 92) (c1 := 10 + i + 1) (s1 := 126 + 8 * i + 8) 47 rfl rfl mf_X3_init rfl rfl nt_X6_46 mi_X3_init rfl rfl (st_c (Nat.lt_succ_self _) (show a + 11 + i + 1 ≤ 436 by omega)) rfl (Nat.le_of_ble_eq_true rfl) ⟨by show 10 + i + 1 + 0 ≤ 30; omega, by show 126 + 8 * i + 8 + 0 ≤ 286; omega⟩ rfl rfl (ok_X3_init hd2 (st_c (Nat.lt_succ_self _) (show a + 11 + i + 1 ≤ 436 by omega))) (fun _ _ q => q.elim) ?_
        intro v9 u9 hv9
        obtain ⟨rfl, rfl⟩ := hv9
        refine ⟨fun _ => rfl, ?_⟩
        refine v_aast5 (i := nI i) (n := 20) (pc' := 93) 48 rfl rfl (st10l ha) (st10n ha) (st_c (show a + 10 < a + 11 + i + 1 by omega) (show a + 11 + i + 1 ≤ 436 by omega)) hd2 (st_c (Nat.lt_succ_self _) (show a + 11 + i + 1 ≤ 436 by omega)) (pk_in i 20 (by omega) rfl) (pk_cl i rfl (by omega)) ?_
        refine v_iinc (v := nI i + 1) (ls' := [(1, .int (nI i + 1)), (0, .ref a)]) (pc' := 96) 49 1 rfl rfl rfl rfl (by decide) rfl ?_
        refine v_goto (tgt := 74) 50 rfl (by decide) ?_
        refine V.sub [1, 0] rfl ?_
        rw [nI_1]
        refine st_loop ha n (i + 1) _ _ _ (by omega) ⟨fun q hq => ?_, fun q hq => ?_, fun q hq => ?_, fun q q1 q2 q3 => ?_, fun j => ?_, ?_, ?_, fun p => ?_, fun p => ⟨?_, ?_, ?_, ?_⟩⟩
        · rw [up2_row (by omega), clr_n (by omega)]; exact h1 q hq
        · rw [clr_n (by omega)]; exact h2 q hq
        · rw [up2_row (by omega), clr_n (by omega)]; exact h3 q hq
        · rw [up2_row q3]
          by_cases z : q = a + 11 + i
          · subst z
            funext j
            rw [clr_s, W0_n (by omega) (by have := g3 (11 + i) (by omega); omega), RS_no hd2 (by omega)]
          · rw [clr_n z]; exact h4 q q1 (by omega) q3
        · rw [up2_at, clr_n (by omega)]
          by_cases z : j = i
          · rw [if_pos z, z, if_pos (Nat.lt_succ_self _)]
          · rw [if_neg z, h5 j]
            by_cases z2 : j < i
            · rw [if_pos z2, if_pos (by omega)]
            · rw [if_neg z2, if_neg (by omega)]
        · rw [up2_row (by omega), clr_n (by omega)]; exact h6
        · rw [up2_row (by omega), clr_n (by omega)]; exact h7
        · rw [up2_row (by omega), clr_n (by omega)]; exact h8 p
        · rw [clr_n (by omega)]; exact (h9 p).1
        · rw [clr_n (by omega)]; exact (h9 p).2.1
        · rw [clr_n (by omega)]; exact (h9 p).2.2.1
        · rw [clr_n (by omega)]; exact (h9 p).2.2.2
theorem ok_X6_init {a : Nat} (ha : stOK a) (hr : ∀ j, R a j = none) : MW G Y_X6_init [.ref a] (I, L, R, a + 1) (fun v9 u9 => v9 = none ∧ ∃ I9 L9 R9, u9 = (I9, L9, R9, a + 31) ∧ ST0 a I L R I9 L9 R9) (fun _ _ => False) := by
  obtain ⟨g1, g2, g3⟩ := st_rng ha
  refine MW.intro rfl (by decide) is_X6_init (Nat.le_of_ble_eq_true rfl) ?_
  show V G Y_X6_init 0 [(0, .ref a)] [] (I, L, R, a + 1) 0 0 _ _
  refine v_aload_n (pc' := 1) 0 0 rfl rfl rfl rfl ?_
  refine v_obj (pc' := 4) 1 rfl rfl ml_X6_3 mi_Obj co_Obj (by decide) (by decide) ?_
  refine v_aload_n (pc' := 5) 2 0 rfl rfl rfl rfl ?_
  refine v_iconst (v := 3) (pc' := 6) 3 rfl rfl (by decide) ?_
  refine v_bipush (v := 16) (pc' := 8) 4 rfl rfl (by decide) ?_
  refine v_mna (pc' := 12) 5 rfl rfl cl_X6_9 ar_int (st1l ha) (st2l ha) (st3l ha) (st4l ha) (st1n ha) (st2n ha) (st3n ha) (st4n ha) (by omega) (by decide) (by decide) ?_
  show V G Y_X6_init 12 _ _ (mI I (a + 1), mL L (a + 1), mR R (a + 1), a + 5) _ _ _ _
  refine v_putR (pc' := 15) 6 rfl rfl pf_X6_11 (fun _ => ⟨rfl, fun _ _ _ h => by cases h; rfl⟩) (st0l ha) (st_c (by omega) (by omega)) ?_
  refine v_aload_n (pc' := 16) 7 0 rfl rfl rfl rfl ?_
  refine v_iconst (v := 4) (pc' := 17) 8 rfl rfl (by decide) ?_
  refine v_newa (t := 1) (N := 4) (pc' := 19) 9 rfl rfl (by decide) rfl ar_long rfl (by decide) (st5l ha) (st5n ha) (by omega) (by decide) (by decide) ?_
  refine v_putR (pc' := 22) 10 rfl rfl pf_X6_16 (fun _ => ⟨rfl, fun _ _ _ h => by cases h; rfl⟩) (st0l ha) (st_c (by omega) (by omega)) ?_
  refine v_aload_n (pc' := 23) 11 0 rfl rfl rfl rfl ?_
  refine v_bipush (v := 16) (pc' := 25) 12 rfl rfl (by decide) ?_
  refine v_newa (t := 1) (N := 16) (pc' := 27) 13 rfl rfl (by decide) rfl ar_long rfl (by decide) (st6l ha) (st6n ha) (by omega) (by decide) (by decide) ?_
  refine v_putR (pc' := 30) 14 rfl rfl pf_X6_20 (fun _ => ⟨rfl, fun _ _ _ h => by cases h; rfl⟩) (st0l ha) (st_c (by omega) (by omega)) ?_
  refine v_aload_n (pc' := 31) 15 0 rfl rfl rfl rfl ?_
  refine v_bipush (v := 16) (pc' := 33) 16 rfl rfl (by decide) ?_
  refine v_newa (t := 1) (N := 16) (pc' := 35) 17 rfl rfl (by decide) rfl ar_long rfl (by decide) (st7l ha) (st7n ha) (by omega) (by decide) (by decide) ?_
  refine v_putR (pc' := 38) 18 rfl rfl pf_X6_23 (fun _ => ⟨rfl, fun _ _ _ h => by cases h; rfl⟩) (st0l ha) (st_c (by omega) (by omega)) ?_
  refine v_aload_n (pc' := 39) 19 0 rfl rfl rfl rfl ?_
  refine v_bipush (v := 16) (pc' := 41) 20 rfl rfl (by decide) ?_
  refine v_newa (t := 1) (N := 16) (pc' := 43) 21 rfl rfl (by decide) rfl ar_long rfl (by decide) (st8l ha) (st8n ha) (by omega) (by decide) (by decide) ?_
  refine v_putR (pc' := 46) 22 rfl rfl pf_X6_26 (fun _ => ⟨rfl, fun _ _ _ h => by cases h; rfl⟩) (st0l ha) (st_c (by omega) (by omega)) ?_
  refine v_aload_n (pc' := 47) 23 0 rfl rfl rfl rfl ?_
  refine v_iconst (v := 3) (pc' := 48) 24 rfl rfl (by decide) ?_
  refine v_newa (t := 0) (N := 3) (pc' := 50) 25 rfl rfl (by decide) rfl ar_int rfl (by decide) (st9l ha) (st9n ha) (by omega) (by decide) (by decide) ?_
  refine v_putR (pc' := 53) 26 rfl rfl pf_X6_29 (fun _ => ⟨rfl, fun _ _ _ h => by cases h; rfl⟩) (st0l ha) (st_c (by omega) (by omega)) ?_
  refine v_aload_n (pc' := 54) 27 0 rfl rfl rfl rfl ?_
  refine v_bipush (v := 20) (pc' := 56) 28 rfl rfl (by decide) ?_
  refine v_newq (t := 5) (N := 20) (C9 := "GlitchCourt$Dispute") (pc' := 59) 29 rfl rfl (Or.inr ⟨rfl, rfl⟩) cl_X6_33 rfl (by decide) (st10l ha) (st10n ha) (by omega) (by decide) (by decide) ?_
  refine v_putR (pc' := 62) 30 rfl rfl pf_X6_35 (fun _ => ⟨rfl, fun _ _ _ h => by cases h; rfl⟩) (st0l ha) (st_c (by omega) (by omega)) ?_
  refine v_aload_n (pc' := 63) 31 0 rfl rfl rfl rfl ?_
  refine v_iconst (v := 0) (pc' := 64) 32 rfl rfl (by decide) ?_
  refine v_putI (pc' := 67) 33 rfl rfl pf_X6_39 (fun q => absurd q (by decide)) (st0l ha) (st_c (by omega) (by omega)) ?_
  refine v_aload_n (pc' := 68) 34 0 rfl rfl rfl rfl ?_
  refine v_iconst (v := 1) (pc' := 69) 35 rfl rfl (by decide) ?_
  refine v_putI (pc' := 72) 36 rfl rfl pf_X6_43 (fun q => absurd q (by decide)) (st0l ha) (st_c (by omega) (by omega)) ?_
  refine v_iconst (v := 0) (pc' := 73) 37 rfl rfl (by decide) ?_
  refine v_istore_n (ls' := [(1, .int 0), (0, .ref a)]) (pc' := 74) 38 rfl rfl rfl (by decide) rfl ?_
  refine V.sub [1, 0] rfl ?_
  refine st_loop ha 20 0 _ _ _ rfl ⟨fun q hq => ?_, fun q hq => ?_, fun q hq => ?_, fun q q1 q2 q3 => ?_, fun j => ?_, ?_, ?_, fun p => ?_, fun p => ⟨?_, ?_, ?_, ?_⟩⟩
  · repeat (first | rw [up2_row (by omega)] | rw [clr_n (by omega)] | rw [mI_n (by omega)])
  · repeat (first | rw [clr_n (by omega)] | rw [mL_n (by omega)])
  · repeat (first | rw [up2_row (by omega)] | rw [clr_n (by omega)] | rw [mR_n (by omega)])
  · funext j
    have w : q = a ∨ q = a + 1 ∨ q = a + 2 ∨ q = a + 3 ∨ q = a + 4 ∨ q = a + 5 ∨ q = a + 6 ∨ q = a + 7 ∨ q = a + 8 ∨ q = a + 9 := by omega
    rcases w with rfl | rfl | rfl | rfl | rfl | rfl | rfl | rfl | rfl | rfl
    · have j7 : j = 0 ∨ j = 1 ∨ j = 2 ∨ j = 3 ∨ j = 4 ∨ j = 5 ∨ j = 6 ∨ 7 ≤ j := by omega
      rcases j7 with rfl | rfl | rfl | rfl | rfl | rfl | rfl | j7
      · repeat (first | rw [up2_s] | rw [up2_n (by omega)] | rw [clr_n (by omega)])
        exact (rt_st_0 ha).symm
      · repeat (first | rw [up2_s] | rw [up2_n (by omega)] | rw [clr_n (by omega)])
        exact (rt_st_1 ha).symm
      · repeat (first | rw [up2_s] | rw [up2_n (by omega)] | rw [clr_n (by omega)])
        exact (rt_st_2 ha).symm
      · repeat (first | rw [up2_s] | rw [up2_n (by omega)] | rw [clr_n (by omega)])
        exact (rt_st_3 ha).symm
      · repeat (first | rw [up2_s] | rw [up2_n (by omega)] | rw [clr_n (by omega)])
        exact (rt_st_4 ha).symm
      · repeat (first | rw [up2_s] | rw [up2_n (by omega)] | rw [clr_n (by omega)])
        exact (rt_st_5 ha).symm
      · repeat (first | rw [up2_s] | rw [up2_n (by omega)] | rw [clr_n (by omega)])
        exact (rt_st_6 ha).symm
      · repeat (first | rw [up2_n (by omega)] | rw [clr_n (by omega)] | rw [mR_n (by omega)])
        rw [hr, W0_n (by omega) (by have := g3 0 (by omega); omega)]
        unfold RS
        rw [st0l ha]
        match j, j7 with
        | j + 7, _ => rfl
    · repeat (first | rw [up2_row (by omega)] | rw [clr_n (by omega)])
      rw [W0_n (by omega) (g3 1 (by omega))]
      unfold RS mR
      rw [if_pos rfl, st1l ha]
      rfl
    · repeat (first | rw [up2_row (by omega)] | rw [clr_n (by omega)])
      rw [W0_n (by omega) (g3 2 (by omega)), RS_no (st2l ha) (by omega)]
      unfold mR
      rw [if_neg (by omega), if_pos (by omega)]
    · repeat (first | rw [up2_row (by omega)] | rw [clr_n (by omega)])
      rw [W0_n (by omega) (g3 3 (by omega)), RS_no (st3l ha) (by omega)]
      unfold mR
      rw [if_neg (by omega), if_pos (by omega)]
    · repeat (first | rw [up2_row (by omega)] | rw [clr_n (by omega)])
      rw [W0_n (by omega) (g3 4 (by omega)), RS_no (st4l ha) (by omega)]
      unfold mR
      rw [if_neg (by omega), if_pos (by omega)]
    · repeat (first | rw [up2_row (by omega)] | rw [clr_s] | rw [clr_n (by omega)])
      rw [W0_n (by omega) (g3 5 (by omega)), RS_no (st5l ha) (by omega)]
    · repeat (first | rw [up2_row (by omega)] | rw [clr_s] | rw [clr_n (by omega)])
      rw [W0_n (by omega) (g3 6 (by omega)), RS_no (st6l ha) (by omega)]
    · repeat (first | rw [up2_row (by omega)] | rw [clr_s] | rw [clr_n (by omega)])
      rw [W0_n (by omega) (g3 7 (by omega)), RS_no (st7l ha) (by omega)]
    · repeat (first | rw [up2_row (by omega)] | rw [clr_s] | rw [clr_n (by omega)])
      rw [W0_n (by omega) (g3 8 (by omega)), RS_no (st8l ha) (by omega)]
    · repeat (first | rw [up2_row (by omega)] | rw [clr_s] | rw [clr_n (by omega)])
      rw [W0_n (by omega) (g3 9 (by omega)), RS_no (st9l ha) (by omega)]
  · rw [if_neg (by omega)]
    repeat (first | rw [up2_row (by omega)] | rw [clr_s] | rw [clr_n (by omega)])
  · repeat (first | rw [up2_s] | rw [up2_n (by omega)])
  · exact up2_s
  · repeat (first | rw [up2_row (by omega)] | rw [clr_s] | rw [clr_n (by omega)])
  · repeat (first | rw [clr_s] | rw [clr_n (by omega)])
  · repeat (first | rw [clr_s] | rw [clr_n (by omega)])
  · repeat (first | rw [clr_s] | rw [clr_n (by omega)])
  · repeat (first | rw [clr_s] | rw [clr_n (by omega)])
end CT

section VS9
variable {G : GT} {Y Y2 : MT} {pc pc' : Nat} {ls ls' : List (Nat × Value)} {st : List Value} {u : MU} {c0 s0 : Nat} {Q Q1 : Option Value → MU → Prop} {QX QX1 : String → MU → Prop}
theorem cv_out (n : Nat) : cv G (.ref (458 + n)) = .ref (gs G n) := by
  simp only [cv, AD]
  rw [if_neg (by omega), if_neg (by omega), Nat.add_sub_cancel_left]
theorem cv_byt (pl : Nat) : cv G (.ref (558 + pl)) = .ref (gs G (100 + pl)) := by
  rw [show 558 + pl = 458 + (100 + pl) by omega, cv_out]
theorem v_sval (k : Nat) {idx pl : Nat} (hd : (yP Y)[k]? = some (pc, .getfield idx, 3)) (hp : pc + 3 = pc') (hpl : pl < nJS) (hl : Cond.fieldLink (yN Y).cls idx "java/lang/String" "value" "[B" ∈ GW) (kk : V G Y pc' ls (.ref (558 + pl) :: st) u c0 s0 Q QX) : V G Y pc ls (.ref (458 + pl) :: st) u c0 s0 Q QX := by
  subst hp
  intro p e s m args below meth c C H locs arr hH hS hl9 hz
  have k2 := kk p e s m args below meth c C H locs arr hH hS hl9 hz
  rw [List.map_cons, cv_byt] at k2
  rw [List.map_cons, cv_out]
  exact vk_getf (cxx C) (cxb C) ((cxs C).2.2.2.2.1.1 pl hpl).2.2.1 hS (cxo C) (cxw C _ hl) (fun _ h9 => h9) (cxd C hd) k2
theorem v_scod (k : Nat) {idx pl : Nat} (hd : (yP Y)[k]? = some (pc, .getfield idx, 3)) (hp : pc + 3 = pc') (hpl : pl < nJS) (hl : Cond.fieldLink (yN Y).cls idx "java/lang/String" "coder" "B" ∈ GW) (kk : V G Y pc' ls (.int 0 :: st) u c0 s0 Q QX) : V G Y pc ls (.ref (458 + pl) :: st) u c0 s0 Q QX := by
  subst hp
  intro p e s m args below meth c C H locs arr hH hS hl9 hz
  rw [List.map_cons, cv_out]
  exact vk_getf (cxx C) (cxb C) ((cxs C).2.2.2.2.1.1 pl hpl).2.1 hS (cxo C) (cxw C _ hl) (fun _ h9 => h9) (cxd C hd) (kk p e s m args below meth c C H locs arr hH hS hl9 hz)
theorem v_sblen (k : Nat) {pl : Nat} (hd : (yP Y)[k]? = some (pc, .arraylength, 1)) (hp : pc + 1 = pc') (hpl : pl < nJS) (kk : V G Y pc' ls (.int (nI (lenJS.getD pl 0)) :: st) u c0 s0 Q QX) : V G Y pc ls (.ref (558 + pl) :: st) u c0 s0 Q QX := by
  subst hp
  intro p e s m args below meth c C H locs arr hH hS hl9 hz
  rw [List.map_cons, cv_byt]
  exact va_tlen (cxx C) (cxb C) ((cxs C).2.2.2.2.1.1 pl hpl).2.2.2 hS rfl (cxd C hd) (kk p e s m args below meth c C H locs arr hH hS hl9 hz)
theorem v_sbld (k : Nat) {pl : Nat} {i : Int32} (hd : (yP Y)[k]? = some (pc, .baload, 1)) (hp : pc + 1 = pc') (hpl : pl < nJS) (hi : vp_in i (lenJS.getD pl 0)) (kk : V G Y pc' ls (.int ((bytJS.getD pl []).getD i.toNatClampNeg 0) :: st) u c0 s0 Q QX) : V G Y pc ls (.int i :: .ref (558 + pl) :: st) u c0 s0 Q QX := by
  subst hp
  intro p e s m args below meth c C H locs arr hH hS hl9 hz
  rw [List.map_cons, List.map_cons, cv_byt]
  exact va_tb (cxx C) (cxb C) ((cxs C).2.2.2.2.1.1 pl hpl).2.2.2 hS hi rfl (cxd C hd) (kk p e s m args below meth c C H locs arr hH hS hl9 hz)
theorem v_compact (k : Nat) {idx : Nat} (hd : (yP Y)[k]? = some (pc, .getstatic idx, 3)) (hp : pc + 3 = pc') (hl : Cond.fieldLink (yN Y).cls idx "java/lang/String" "COMPACT_STRINGS" "Z" ∈ GW) (kk : V G Y pc' ls (.int 1 :: st) u c0 s0 Q QX) : V G Y pc ls st u c0 s0 Q QX := by
  subst hp
  intro p e s m args below meth c C H locs arr hH hS hl9 hz
  exact va_gets (cxx C) (cxb C) (cxs C).2.2.2.2.2.1 hS (cxo C) (cxw C _ hl) (fun _ h9 => h9) (cxd C hd) (kk p e s m args below meth c C H locs arr hH hS hl9 hz)
theorem v_sio (k : Nat) {idx : Nat} (hd : (yP Y)[k]? = some (pc, .getstatic idx, 3)) (hp : pc + 3 = pc') (hl : Cond.fieldLink (yN Y).cls idx "jdk/internal/util/Preconditions" "SIOOBE_FORMATTER" "Ljava/util/function/BiFunction;" ∈ GW) (kk : ∀ v, v = .null ∨ v = .ref 658 → V G Y pc' ls (v :: st) u c0 s0 Q QX) : V G Y pc ls st u c0 s0 Q QX := by
  subst hp
  intro p e s m args below meth c C H locs arr hH hS hl9 hz
  rcases (cxs C).2.2.2.2.2.2 with hZ | hZ
  · exact va_gets (cxx C) (cxb C) hZ hS (cxo C) (cxw C _ hl) (fun _ h9 => h9) (cxd C hd) (kk .null (Or.inl rfl) p e s m args below meth c C H locs arr hH hS hl9 hz)
  · have k2 := kk (.ref 658) (Or.inr rfl) p e s m args below meth c C H locs arr hH hS hl9 hz
    rw [List.map_cons, show cv G (.ref 658) = .ref (gs G 200) from cv_out 200] at k2
    exact va_gets (cxx C) (cxb C) hZ hS (cxo C) (cxw C _ hl) (fun _ h9 => h9) (cxd C hd) k2
theorem v_cVS (k : Nat) {idx pl n : Nat} {As : List Value} (hd : (yP Y)[k]? = some (pc, .invokevirtual idx, 3)) (hp : pc + 3 = pc') (hF : MF Y2 n) (h0 : yH Y2 = []) (hR : RM Y Y2 = true) (hl : Cond.methodLink (yN Y).cls idx (yN Y2) ∈ GW) (hin : Cond.instanceMethod (yN Y2) ∈ GW) (hse : Cond.selects (yN Y2).cls (yN Y2) (yN Y2) ∈ GW)
    (hcl : (yN Y2).cls = "java/lang/String") (hpl : pl < nJS) (hn : As.length = n) (hst : (st.map fun v => v.category).sum ≤ 8) (hc : c0 + (yR Y2).cells ≤ (yR Y).cells ∧ s0 + (yR Y2).slots ≤ (yR Y).slots)
    {c1 s1 : Nat} (e1 : c0 + (yR Y2).cells = c1) (e2 : s0 + (yR Y2).slots = s1) (hM : MW G Y2 (.ref (458 + pl) :: As) u Q1 QX1) (kx : ∀ E u', QX1 E u' → VX G Y pc ls st E u' c1 s1 Q QX)
    (kk : ∀ v u', Q1 v u' → (u'.2.2.2 < 457 → u'.2.2.2 = u.2.2.2 + (yR Y2).cells) ∧ V G Y pc' ls (v.toList ++ st) u' c1 s1 Q QX) : V G Y pc ls (As.reverse ++ .ref (458 + pl) :: st) u c0 s0 Q QX := by
  subst e1
  subst e2
  refine v_call hp (fun p e s m args below meth c H locs arr T9 hsz => ?_) kx kk
  have hcv : cv G (.ref (458 + pl)) = .ref (gs G pl) := cv_out pl
  have hrec : ∃ cell : Cell, H[gs G pl]? = some cell ∧ cell.vm.isStatics = false ∧ s.vm.findClass (yN Y2).cls = some cell.cls := by
    rw [hcl]
    exact vk_recv (cxs T9.1).2.2.2.2.1 hpl T9.2.2.1
  refine vx_runV (b := gs G pl) (As := As.map (cv G)) (C := (yN Y2).cls) (cx_fix T9.1) hM ⟨mk_callB T9.1 hF h0 hR hl, cxw T9.1 _ hin, cxw T9.1 _ hse⟩ ⟨PC_blind G _ u, hrec, fun U hU hW => ?_⟩ rfl (by rw [List.length_map]; exact hn) hsz ?_ (lv_room (st_room hst)) (cxd T9.1 hd) hc
  · have h := T9.pc (.ref (458 + pl) :: As) U hU hW
    rw [List.map_cons, hcv] at h
    exact h
  · show (As.reverse ++ .ref (458 + pl) :: st).map (cv G) = (As.map (cv G)).reverse ++ .ref (gs G pl) :: st.map (cv G)
    rw [List.map_append, List.map_cons, hcv, List.map_reverse]
end VS9
def Y_J0_coder_7d493 : MT := (⟨"java/lang/String", "coder", "()B"⟩, prog_21_method_152_code, 1, (Option.some FieldType.byte), { frames := 0, cells := 0, slots := 0, locals := 0 }, [(0, .getstatic 38, 3), (3, .ifCond .eq 10, 3), (6, .aload_n 0, 1), (7, .getfield 15, 3), (10, .goto 4, 3), (13, .iconst 1, 1), (14, .ireturn, 1)], [])
theorem is_J0_coder_7d493 : (yP Y_J0_coder_7d493).all (okI (yB Y_J0_coder_7d493)) = true := by decide +kernel
theorem mf_J0_coder_7d493 : MF Y_J0_coder_7d493 0 := ⟨gw_in 415 (by decide +kernel) (by decide +kernel), gw_in 37 (by decide +kernel) (by decide +kernel), by decide, by decide +kernel⟩
def Y_J0_isLatin1_aae02 : MT := (⟨"java/lang/String", "isLatin1", "()Z"⟩, prog_21_method_154_code, 1, (Option.some FieldType.boolean), { frames := 0, cells := 0, slots := 0, locals := 0 }, [(0, .getstatic 38, 3), (3, .ifCond .eq 14, 3), (6, .aload_n 0, 1), (7, .getfield 15, 3), (10, .ifCond .ne 7, 3), (13, .iconst 1, 1), (14, .goto 4, 3), (17, .iconst 0, 1), (18, .ireturn, 1)], [])
theorem is_J0_isLatin1_aae02 : (yP Y_J0_isLatin1_aae02).all (okI (yB Y_J0_isLatin1_aae02)) = true := by decide +kernel
theorem mf_J0_isLatin1_aae02 : MF Y_J0_isLatin1_aae02 0 := ⟨gw_in 425 (by decide +kernel) (by decide +kernel), gw_in 37 (by decide +kernel) (by decide +kernel), by decide, by decide +kernel⟩
def Y_J0_length_8abf5 : MT := (⟨"java/lang/String", "length", "()I"⟩, prog_21_method_54_code, 1, (Option.some FieldType.int), { frames := 1, cells := 0, slots := 0, locals := 20 }, [(0, .aload_n 0, 1), (1, .getfield 9, 3), (4, .arraylength, 1), (5, .aload_n 0, 1), (6, .invokevirtual 335, 3), (9, .ishr, 1), (10, .ireturn, 1)], [])
theorem is_J0_length_8abf5 : (yP Y_J0_length_8abf5).all (okI (yB Y_J0_length_8abf5)) = true := by decide +kernel
theorem mf_J0_length_8abf5 : MF Y_J0_length_8abf5 0 := ⟨gw_in 411 (by decide +kernel) (by decide +kernel), gw_in 37 (by decide +kernel) (by decide +kernel), by decide, by decide +kernel⟩
def Y_J3_checkIndex_8e157 : MT := (⟨"jdk/internal/util/Preconditions", "checkIndex", "(IILjava/util/function/BiFunction;)I"⟩, prog_30_method_11_code, 3, (Option.some FieldType.int), { frames := 0, cells := 0, slots := 0, locals := 0 }, [(0, .iload_n 0, 1), (1, .ifCond .lt 8, 3), (4, .iload_n 0, 1), (5, .iload_n 1, 1), (6, .if_icmp .lt 10, 3), (9, .aload_n 2, 1), (10, .iload_n 0, 1), (11, .iload_n 1, 1), (12, .invokestatic 95, 3), (15, .athrow, 1), (16, .iload_n 0, 1), (17, .ireturn, 1)], [])
theorem is_J3_checkIndex_8e157 : (yP Y_J3_checkIndex_8e157).all (okI (yB Y_J3_checkIndex_8e157)) = true := by decide +kernel
theorem mf_J3_checkIndex_8e157 : MF Y_J3_checkIndex_8e157 3 := ⟨gw_in 436 (by decide +kernel) (by decide +kernel), gw_in 39 (by decide +kernel) (by decide +kernel), by decide, by decide +kernel⟩
def Y_J0_checkIndex_df160 : MT := (⟨"java/lang/String", "checkIndex", "(II)V"⟩, prog_21_method_155_code, 2, none, { frames := 1, cells := 0, slots := 0, locals := 22 }, [(0, .iload_n 0, 1), (1, .iload_n 1, 1), (2, .getstatic 1053, 3), (5, .invokestatic 1059, 3), (8, .pop, 1), (9, .return_, 1)], [])
theorem is_J0_checkIndex_df160 : (yP Y_J0_checkIndex_df160).all (okI (yB Y_J0_checkIndex_df160)) = true := by decide +kernel
theorem mf_J0_checkIndex_df160 : MF Y_J0_checkIndex_df160 2 := ⟨gw_in 431 (by decide +kernel) (by decide +kernel), gw_in 37 (by decide +kernel) (by decide +kernel), by decide, by decide +kernel⟩
def Y_J1_charAt_3b067 : MT := (⟨"java/lang/StringLatin1", "charAt", "([BI)C"⟩, prog_22_method_2_code, 2, (Option.some FieldType.char), { frames := 2, cells := 0, slots := 0, locals := 43 }, [(0, .iload_n 1, 1), (1, .aload_n 0, 1), (2, .arraylength, 1), (3, .invokestatic 9, 3), (6, .aload_n 0, 1), (7, .iload_n 1, 1), (8, .baload, 1), (9, .sipush 255, 3), (12, .iand, 1), (13, .i2c, 1), (14, .ireturn, 1)], [])
theorem is_J1_charAt_3b067 : (yP Y_J1_charAt_3b067).all (okI (yB Y_J1_charAt_3b067)) = true := by decide +kernel
theorem mf_J1_charAt_3b067 : MF Y_J1_charAt_3b067 2 := ⟨gw_in 428 (by decide +kernel) (by decide +kernel), gw_in 38 (by decide +kernel) (by decide +kernel), by decide, by decide +kernel⟩
def Y_J0_charAt_5068e : MT := (⟨"java/lang/String", "charAt", "(I)C"⟩, prog_21_method_56_code, 2, (Option.some FieldType.char), { frames := 4, cells := 0, slots := 0, locals := 85 }, [(0, .aload_n 0, 1), (1, .invokevirtual 492, 3), (4, .ifCond .eq 12, 3), (7, .aload_n 0, 1), (8, .getfield 9, 3), (11, .iload_n 1, 1), (12, .invokestatic 495, 3), (15, .ireturn, 1), (16, .aload_n 0, 1), (17, .getfield 9, 3), (20, .iload_n 1, 1), (21, .invokestatic 498, 3), (24, .ireturn, 1)], [])
theorem is_J0_charAt_5068e : (yP Y_J0_charAt_5068e).all (okI (yB Y_J0_charAt_5068e)) = true := by decide +kernel
theorem mf_J0_charAt_5068e : MF Y_J0_charAt_5068e 1 := ⟨gw_in 421 (by decide +kernel) (by decide +kernel), gw_in 37 (by decide +kernel) (by decide +kernel), by decide, by decide +kernel⟩
def Y_X7_isWord : MT := (⟨"GlitchCourt$Tokens", "isWord", "(Ljava/lang/String;)Z"⟩, prog_9_method_11_code, 4, (Option.some FieldType.boolean), { frames := 5, cells := 0, slots := 0, locals := 106 }, [(0, .aload_n 0, 1), (1, .invokevirtual 46, 3), (4, .ifCond .ne 38, 3), (7, .aload_n 0, 1), (8, .getfield 25, 3), (11, .iconst 1, 1), (12, .if_icmp .ne 30, 3), (15, .aload_n 0, 1), (16, .getfield 22, 3), (19, .aload_n 0, 1), (20, .getfield 15, 3), (23, .if_icmp .gt 19, 3), (26, .aload_n 0, 1), (27, .getfield 22, 3), (30, .aload_n 0, 1), (31, .getfield 19, 3), (34, .isub, 1), (35, .aload_n 1, 1), (36, .invokevirtual 57, 3), (39, .if_icmp .eq 5, 3), (42, .iconst 0, 1), (43, .ireturn, 1), (44, .iconst 1, 1), (45, .istore_n 2, 1), (46, .iconst 0, 1), (47, .istore_n 3, 1), (48, .iload_n 3, 1), (49, .aload_n 1, 1), (50, .invokevirtual 57, 3), (53, .if_icmp .ge 36, 3), (56, .iload_n 2, 1), (57, .aload_n 0, 1), (58, .getfield 9, 3), (61, .aload_n 0, 1), (62, .getfield 19, 3), (65, .iload_n 3, 1), (66, .iadd, 1), (67, .baload, 1), (68, .aload_n 1, 1), (69, .iload_n 3, 1), (70, .invokevirtual 62, 3), (73, .if_icmp .ne 7, 3), (76, .iconst 1, 1), (77, .goto 4, 3), (80, .iconst 0, 1), (81, .iand, 1), (82, .istore_n 2, 1), (83, .iinc 3 1, 3), (86, .goto (-38), 3), (89, .iload_n 2, 1), (90, .ireturn, 1)], [])
theorem is_X7_isWord : (yP Y_X7_isWord).all (okI (yB Y_X7_isWord)) = true := by decide +kernel
theorem mf_X7_isWord : MF Y_X7_isWord 1 := ⟨gw_in 619 (by decide +kernel) (by decide +kernel), gw_in 33 (by decide +kernel) (by decide +kernel), by decide, by decide +kernel⟩
theorem sf_J0_38 : Cond.fieldLink "java/lang/String" 38 "java/lang/String" "COMPACT_STRINGS" "Z" ∈ GW := gw_in 416 (by decide +kernel) (by decide +kernel)
theorem sf_J0_15 : Cond.fieldLink "java/lang/String" 15 "java/lang/String" "coder" "B" ∈ GW := gw_in 1044 (by decide +kernel) (by decide +kernel)
theorem sf_J0_9 : Cond.fieldLink "java/lang/String" 9 "java/lang/String" "value" "[B" ∈ GW := gw_in 1043 (by decide +kernel) (by decide +kernel)
theorem sf_J0_1053 : Cond.fieldLink "java/lang/String" 1053 "jdk/internal/util/Preconditions" "SIOOBE_FORMATTER" "Ljava/util/function/BiFunction;" ∈ GW := gw_in 432 (by decide +kernel) (by decide +kernel)
theorem mi_J0_charAt_5068e : Cond.instanceMethod (⟨"java/lang/String", "charAt", "(I)C"⟩ : MethodName) ∈ GW := gw_in 419 (by decide +kernel) (by decide +kernel)
theorem mi_J0_coder_7d493 : Cond.instanceMethod (⟨"java/lang/String", "coder", "()B"⟩ : MethodName) ∈ GW := gw_in 413 (by decide +kernel) (by decide +kernel)
theorem mi_J0_isLatin1_aae02 : Cond.instanceMethod (⟨"java/lang/String", "isLatin1", "()Z"⟩ : MethodName) ∈ GW := gw_in 423 (by decide +kernel) (by decide +kernel)
theorem mi_J0_length_8abf5 : Cond.instanceMethod (⟨"java/lang/String", "length", "()I"⟩ : MethodName) ∈ GW := gw_in 409 (by decide +kernel) (by decide +kernel)
theorem ml_X7_57 : Cond.methodLink "GlitchCourt$Tokens" 57 (⟨"java/lang/String", "length", "()I"⟩ : MethodName) ∈ GW := gw_in 620 (by decide +kernel) (by decide +kernel)
theorem ml_X7_62 : Cond.methodLink "GlitchCourt$Tokens" 62 (⟨"java/lang/String", "charAt", "(I)C"⟩ : MethodName) ∈ GW := gw_in 621 (by decide +kernel) (by decide +kernel)
theorem ml_J0_1059 : Cond.methodLink "java/lang/String" 1059 (⟨"jdk/internal/util/Preconditions", "checkIndex", "(IILjava/util/function/BiFunction;)I"⟩ : MethodName) ∈ GW := gw_in 434 (by decide +kernel) (by decide +kernel)
theorem ml_J0_335 : Cond.methodLink "java/lang/String" 335 (⟨"java/lang/String", "coder", "()B"⟩ : MethodName) ∈ GW := gw_in 412 (by decide +kernel) (by decide +kernel)
theorem ml_J0_492 : Cond.methodLink "java/lang/String" 492 (⟨"java/lang/String", "isLatin1", "()Z"⟩ : MethodName) ∈ GW := gw_in 422 (by decide +kernel) (by decide +kernel)
theorem ml_J0_495 : Cond.methodLink "java/lang/String" 495 (⟨"java/lang/StringLatin1", "charAt", "([BI)C"⟩ : MethodName) ∈ GW := gw_in 426 (by decide +kernel) (by decide +kernel)
theorem ml_J1_9 : Cond.methodLink "java/lang/StringLatin1" 9 (⟨"java/lang/String", "checkIndex", "(II)V"⟩ : MethodName) ∈ GW := gw_in 429 (by decide +kernel) (by decide +kernel)
theorem ms_J0_checkIndex_df160 : Cond.static (⟨"java/lang/String", "checkIndex", "(II)V"⟩ : MethodName) ∈ GW := gw_in 430 (by decide +kernel) (by decide +kernel)
theorem ms_J1_charAt_3b067 : Cond.static (⟨"java/lang/StringLatin1", "charAt", "([BI)C"⟩ : MethodName) ∈ GW := gw_in 427 (by decide +kernel) (by decide +kernel)
theorem ms_J3_checkIndex_8e157 : Cond.static (⟨"jdk/internal/util/Preconditions", "checkIndex", "(IILjava/util/function/BiFunction;)I"⟩ : MethodName) ∈ GW := gw_in 435 (by decide +kernel) (by decide +kernel)
theorem se_J0_charAt_5068e : Cond.selects "java/lang/String" (⟨"java/lang/String", "charAt", "(I)C"⟩ : MethodName) (⟨"java/lang/String", "charAt", "(I)C"⟩ : MethodName) ∈ GW := gw_in 420 (by decide +kernel) (by decide +kernel)
theorem se_J0_coder_7d493 : Cond.selects "java/lang/String" (⟨"java/lang/String", "coder", "()B"⟩ : MethodName) (⟨"java/lang/String", "coder", "()B"⟩ : MethodName) ∈ GW := gw_in 414 (by decide +kernel) (by decide +kernel)
theorem se_J0_isLatin1_aae02 : Cond.selects "java/lang/String" (⟨"java/lang/String", "isLatin1", "()Z"⟩ : MethodName) (⟨"java/lang/String", "isLatin1", "()Z"⟩ : MethodName) ∈ GW := gw_in 424 (by decide +kernel) (by decide +kernel)
theorem se_J0_length_8abf5 : Cond.selects "java/lang/String" (⟨"java/lang/String", "length", "()I"⟩ : MethodName) (⟨"java/lang/String", "length", "()I"⟩ : MethodName) ∈ GW := gw_in 410 (by decide +kernel) (by decide +kernel)
/-! the methods of String -/
theorem s_all : ∀ pl, pl < nJS → lenJS.getD pl 0 < 10 ∧ nI (lenJS.getD pl 0) >>> ((0 : Int32) &&& 31) = nI (lenJS.getD pl 0) ∧ ∀ k, k < lenJS.getD pl 0 → ((sch pl k &&& 255).toUInt32 % 65536).toInt32 = sch pl k ∧ (0 ≤ sch pl k ∧ sch pl k < 128) := by decide +kernel
theorem s_al2 : ∀ pl, pl < nJS → ∀ k, k < lenJS.getD pl 0 → ((sch pl k).toUInt32 % 65536).toInt32 = sch pl k := by decide +kernel
theorem s_nar {pl k : Nat} (hpl : pl < nJS) (hk : k < lenJS.getD pl 0) : narrow .char (.int (sch pl k)) = .int (sch pl k) := congrArg Value.int (s_al2 pl hpl k hk)
theorem ok_coder {G : GT} {pl : Nat} {u : MU} {Q : Option Value → MU → Prop} (hpl : pl < nJS) (h : Q (some (.int 0)) u) : MW G Y_J0_coder_7d493 [.ref (458 + pl)] u Q (fun _ _ => False) := by
  refine MW.intro rfl (by decide) is_J0_coder_7d493 (Nat.le_of_ble_eq_true rfl) ?_
  show V G Y_J0_coder_7d493 0 [(0, .ref (458 + pl))] [] u 0 0 _ _
  refine v_compact (pc' := 3) 0 rfl rfl sf_J0_38 ?_
  refine v_if_eq (tgt := 13) (pc' := 6) 1 rfl rfl (by decide) (fun hc => absurd hc (by decide)) (fun _ => ?_)
  refine v_aload_n (pc' := 7) 2 0 rfl rfl rfl rfl ?_
  refine v_scod (pc' := 10) 3 rfl rfl hpl sf_J0_15 ?_
  refine v_goto (tgt := 14) 4 rfl (by decide) ?_
  exact v_zret (ty := .byte) 6 rfl rfl rfl (by decide) (by decide) h
theorem ok_isLatin1 {G : GT} {pl : Nat} {u : MU} {Q : Option Value → MU → Prop} (hpl : pl < nJS) (h : Q (some (.int 1)) u) : MW G Y_J0_isLatin1_aae02 [.ref (458 + pl)] u Q (fun _ _ => False) := by
  refine MW.intro rfl (by decide) is_J0_isLatin1_aae02 (Nat.le_of_ble_eq_true rfl) ?_
  show V G Y_J0_isLatin1_aae02 0 [(0, .ref (458 + pl))] [] u 0 0 _ _
  refine v_compact (pc' := 3) 0 rfl rfl sf_J0_38 ?_
  refine v_if_eq (tgt := 17) (pc' := 6) 1 rfl rfl (by decide) (fun hc => absurd hc (by decide)) (fun _ => ?_)
  refine v_aload_n (pc' := 7) 2 0 rfl rfl rfl rfl ?_
  refine v_scod (pc' := 10) 3 rfl rfl hpl sf_J0_15 ?_
  refine v_if_ne (tgt := 17) (pc' := 13) 4 rfl rfl (by decide) (fun hc => absurd rfl hc) (fun _ => ?_)
  refine v_iconst (v := 1) (pc' := 14) 5 rfl rfl (by decide) ?_
  refine v_goto (tgt := 18) 6 rfl (by decide) ?_
  exact v_bret 8 rfl rfl (Or.inr rfl) (by decide) (by decide) h
theorem ok_slength {G : GT} {pl : Nat} {u : MU} {Q : Option Value → MU → Prop} (hpl : pl < nJS) (h : Q (some (.int (nI (lenJS.getD pl 0)))) u) : MW G Y_J0_length_8abf5 [.ref (458 + pl)] u Q (fun _ _ => False) := by
  refine MW.intro rfl (by decide) is_J0_length_8abf5 (Nat.le_of_ble_eq_true rfl) ?_
  show V G Y_J0_length_8abf5 0 [(0, .ref (458 + pl))] [] u 0 0 _ _
  refine v_aload_n (pc' := 1) 0 0 rfl rfl rfl rfl ?_
  refine v_sval (pc' := 4) 1 rfl rfl hpl sf_J0_9 ?_
  refine v_sblen (pc' := 5) 2 rfl rfl hpl ?_
  refine v_aload_n (pc' := 6) 3 0 rfl rfl rfl rfl ?_
  refine v_cVS (Y2 := Y_J0_coder_7d493) (As := []) (pl := pl) (pc' := 9) (c1 := 0) (s1 := 0) 4 rfl rfl mf_J0_coder_7d493 rfl rfl ml_J0_335 mi_J0_coder_7d493 se_J0_coder_7d493 rfl hpl rfl (Nat.le_of_ble_eq_true rfl) ⟨Nat.le_of_ble_eq_true rfl, Nat.le_of_ble_eq_true rfl⟩ rfl rfl (Q1 := fun v9 u9 => v9 = some (.int 0) ∧ u9 = u) (ok_coder hpl ⟨rfl, rfl⟩) (fun _ _ h9 => h9.elim) ?_
  intro v9 u9 hv9
  obtain ⟨rfl, rfl⟩ := hv9
  refine ⟨fun q => rfl, ?_⟩
  show V G Y_J0_length_8abf5 9 _ (.int 0 :: _) _ _ _ _ _
  refine v_ishr (pc' := 10) 5 rfl rfl ?_
  exact v_iret 6 rfl rfl (by decide) (by decide) (by rw [(s_all pl hpl).2.1]; exact h)
theorem ok_pcheck {G : GT} {i n : Int32} {v : Value} {u : MU} {Q : Option Value → MU → Prop} (hv : v = .null ∨ v = .ref 658) (h0 : ¬ i < 0) (h1 : i < n) (h : Q (some (.int i)) u) : MW G Y_J3_checkIndex_8e157 [.int i, .int n, v] u Q (fun _ _ => False) := by
  have hb : V G Y_J3_checkIndex_8e157 0 [(0, .int i), (1, .int n), (2, v)] [] u 0 0 Q (fun _ _ => False) := by
    refine v_iload_n (pc' := 1) 0 0 rfl rfl rfl rfl ?_
    refine v_if_lt (tgt := 9) (pc' := 4) 1 rfl rfl (by decide) (fun hc => absurd hc h0) (fun _ => ?_)
    refine v_iload_n (pc' := 5) 2 0 rfl rfl rfl rfl ?_
    refine v_iload_n (pc' := 6) 3 1 rfl rfl rfl rfl ?_
    refine v_icmp_lt (tgt := 16) (pc' := 9) 4 rfl rfl (by decide) (fun _ => ?_) (fun hc => absurd h1 hc)
    refine v_iload_n (pc' := 17) 10 0 rfl rfl rfl rfl ?_
    exact v_iret 11 rfl rfl (by decide) (by decide) h
  rcases hv with rfl | rfl
  · exact MW.intro rfl (by decide) is_J3_checkIndex_8e157 (Nat.le_of_ble_eq_true rfl) hb
  · exact MW.intro rfl (by decide) is_J3_checkIndex_8e157 (Nat.le_of_ble_eq_true rfl) hb
theorem ok_scheck {G : GT} {i n : Int32} {u : MU} {Q : Option Value → MU → Prop} (h0 : ¬ i < 0) (h1 : i < n) (h : Q none u) : MW G Y_J0_checkIndex_df160 [.int i, .int n] u Q (fun _ _ => False) := by
  refine MW.intro rfl (by decide) is_J0_checkIndex_df160 (Nat.le_of_ble_eq_true rfl) ?_
  show V G Y_J0_checkIndex_df160 0 [(0, .int i), (1, .int n)] [] u 0 0 _ _
  refine v_iload_n (pc' := 1) 0 0 rfl rfl rfl rfl ?_
  refine v_iload_n (pc' := 2) 1 1 rfl rfl rfl rfl ?_
  refine v_sio (pc' := 5) 2 rfl rfl sf_J0_1053 (fun v hv => ?_)
  refine v_cS (Y2 := Y_J3_checkIndex_8e157) (As := [.int i, .int n, v]) (pc' := 8) (c1 := 0) (s1 := 0) 3 rfl rfl mf_J3_checkIndex_8e157 rfl rfl ml_J0_1059 ms_J3_checkIndex_8e157 rfl (Nat.le_of_ble_eq_true rfl) ⟨Nat.le_of_ble_eq_true rfl, Nat.le_of_ble_eq_true rfl⟩ rfl rfl (Q1 := fun v9 u9 => v9 = some (.int i) ∧ u9 = u) (ok_pcheck hv h0 h1 ⟨rfl, rfl⟩) (fun _ _ h9 => h9.elim) ?_
  intro v9 u9 hv9
  obtain ⟨rfl, rfl⟩ := hv9
  refine ⟨fun q => rfl, ?_⟩
  show V G Y_J0_checkIndex_df160 8 _ (.int i :: _) _ _ _ _ _
  refine v_pop (pc' := 9) 4 rfl rfl rfl ?_
  exact v_vret 5 rfl rfl (by decide) (by decide) h
theorem ok_latAt {G : GT} {i : Int32} {pl : Nat} {u : MU} {Q : Option Value → MU → Prop} (hpl : pl < nJS) (hi : vp_in i (lenJS.getD pl 0)) (h : Q (some (.int (sch pl i.toNatClampNeg))) u) : MW G Y_J1_charAt_3b067 [.ref (558 + pl), .int i] u Q (fun _ _ => False) := by
  have hk : i.toNatClampNeg < lenJS.getD pl 0 := vp_nat hi
  obtain ⟨a1, a2, a3⟩ := s_all pl hpl
  obtain ⟨b1, b2, b3⟩ := a3 _ hk
  have h0 : ¬ i < 0 := fun q => hi (Or.inl q)
  have h1 : i < nI (lenJS.getD pl 0) := by
    have e1 : (nI (lenJS.getD pl 0)).toInt = (lenJS.getD pl 0 : Int) := Int32.toInt_ofNat_of_lt (by omega)
    have e0 : (0 : Int32).toInt = 0 := rfl
    rw [Int32.lt_iff_toInt_lt] at h0 ⊢
    unfold Int32.toNatClampNeg at hk
    omega
  refine MW.intro rfl (by decide) is_J1_charAt_3b067 (Nat.le_of_ble_eq_true rfl) ?_
  show V G Y_J1_charAt_3b067 0 [(0, .ref (558 + pl)), (1, .int i)] [] u 0 0 _ _
  refine v_iload_n (pc' := 1) 0 1 rfl rfl rfl rfl ?_
  refine v_aload_n (pc' := 2) 1 0 rfl rfl rfl rfl ?_
  refine v_sblen (pc' := 3) 2 rfl rfl hpl ?_
  refine v_cS (Y2 := Y_J0_checkIndex_df160) (As := [.int i, .int (nI (lenJS.getD pl 0))]) (pc' := 6) (c1 := 0) (s1 := 0) 3 rfl rfl mf_J0_checkIndex_df160 rfl rfl ml_J1_9 ms_J0_checkIndex_df160 rfl (Nat.le_of_ble_eq_true rfl) ⟨Nat.le_of_ble_eq_true rfl, Nat.le_of_ble_eq_true rfl⟩ rfl rfl (Q1 := fun v9 u9 => v9 = none ∧ u9 = u) (ok_scheck h0 h1 ⟨rfl, rfl⟩) (fun _ _ h9 => h9.elim) ?_
  intro v9 u9 hv9
  obtain ⟨rfl, rfl⟩ := hv9
  refine ⟨fun q => rfl, ?_⟩
  show V G Y_J1_charAt_3b067 6 _ [] _ _ _ _ _
  refine v_aload_n (pc' := 7) 4 0 rfl rfl rfl rfl ?_
  refine v_iload_n (pc' := 8) 5 1 rfl rfl rfl rfl ?_
  refine v_sbld (pc' := 9) 6 rfl rfl hpl hi ?_
  refine v_sipush (v := 255) (pc' := 12) 7 rfl rfl (by decide) ?_
  refine v_iand (pc' := 13) 8 rfl rfl ?_
  refine v_i2c (pc' := 14) 9 rfl rfl ?_
  show V G Y_J1_charAt_3b067 14 _ [.int ((sch pl i.toNatClampNeg &&& 255).toUInt32 % 65536).toInt32] _ _ _ _ _
  rw [b1]
  exact v_zret (ty := .char) 10 rfl rfl (s_nar hpl hk) (by decide) (by decide) h
theorem ok_charAt {G : GT} {i : Int32} {pl : Nat} {u : MU} {Q : Option Value → MU → Prop} (hpl : pl < nJS) (hi : vp_in i (lenJS.getD pl 0)) (h : Q (some (.int (sch pl i.toNatClampNeg))) u) : MW G Y_J0_charAt_5068e [.ref (458 + pl), .int i] u Q (fun _ _ => False) := by
  have hk : i.toNatClampNeg < lenJS.getD pl 0 := vp_nat hi
  obtain ⟨a1, a2, a3⟩ := s_all pl hpl
  obtain ⟨b1, b2, b3⟩ := a3 _ hk
  refine MW.intro rfl (by decide) is_J0_charAt_5068e (Nat.le_of_ble_eq_true rfl) ?_
  show V G Y_J0_charAt_5068e 0 [(0, .ref (458 + pl)), (1, .int i)] [] u 0 0 _ _
  refine v_aload_n (pc' := 1) 0 0 rfl rfl rfl rfl ?_
  refine v_cVS (Y2 := Y_J0_isLatin1_aae02) (As := []) (pl := pl) (pc' := 4) (c1 := 0) (s1 := 0) 1 rfl rfl mf_J0_isLatin1_aae02 rfl rfl ml_J0_492 mi_J0_isLatin1_aae02 se_J0_isLatin1_aae02 rfl hpl rfl (Nat.le_of_ble_eq_true rfl) ⟨Nat.le_of_ble_eq_true rfl, Nat.le_of_ble_eq_true rfl⟩ rfl rfl (Q1 := fun v9 u9 => v9 = some (.int 1) ∧ u9 = u) (ok_isLatin1 hpl ⟨rfl, rfl⟩) (fun _ _ h9 => h9.elim) ?_
  intro v9 u9 hv9
  obtain ⟨rfl, rfl⟩ := hv9
  refine ⟨fun q => rfl, ?_⟩
  show V G Y_J0_charAt_5068e 4 _ (.int 1 :: _) _ _ _ _ _
  refine v_if_eq (tgt := 16) (pc' := 7) 2 rfl rfl (by decide) (fun hc => absurd hc (by decide)) (fun _ => ?_)
  refine v_aload_n (pc' := 8) 3 0 rfl rfl rfl rfl ?_
  refine v_sval (pc' := 11) 4 rfl rfl hpl sf_J0_9 ?_
  refine v_iload_n (pc' := 12) 5 1 rfl rfl rfl rfl ?_
  refine v_cS (Y2 := Y_J1_charAt_3b067) (As := [.ref (558 + pl), .int i]) (pc' := 15) (c1 := 0) (s1 := 0) 6 rfl rfl mf_J1_charAt_3b067 rfl rfl ml_J0_495 ms_J1_charAt_3b067 rfl (Nat.le_of_ble_eq_true rfl) ⟨Nat.le_of_ble_eq_true rfl, Nat.le_of_ble_eq_true rfl⟩ rfl rfl (Q1 := fun v8 u8 => v8 = some (.int (sch pl i.toNatClampNeg)) ∧ u8 = u9) (ok_latAt hpl hi ⟨rfl, rfl⟩) (fun _ _ h9 => h9.elim) ?_
  intro v9 u9 hv9
  obtain ⟨rfl, rfl⟩ := hv9
  refine ⟨fun q => rfl, ?_⟩
  show V G Y_J0_charAt_5068e 15 _ [.int (sch pl i.toNatClampNeg)] _ _ _ _ _
  exact v_zret (ty := .char) 7 rfl rfl (s_nar hpl hk) (by decide) (by decide) h

theorem ok_X7_isWord {G : GT} {b d : Nat} (p1 : Nat) (I : TI) (L : TL) (t : Nat) (ht : txOK t) {Q : Int32 → Prop} (h : W_X7_isWord p1 I L t Q) : MW G Y_X7_isWord [.ref 344, .ref p1] (I, L, RT b d t, 457) (fun v9 u9 => ∃ (r9 : Int32), v9 = some (.int r9) ∧ u9 = (I, L, RT b d t, 457) ∧ Q r9) (fun _ _ => False) := by
  obtain ⟨pl, st, en, ln, rfl, hpl, h2, h3, h1, hse, hen, hln, hln2, k1, k0⟩ := h
  obtain ⟨a1, a2, a3⟩ := s_all pl hpl
  have hT : LEN t ≤ 600 := by rcases ht with rfl | rfl <;> decide +kernel
  have ed : I 344 3 - I 344 2 = nI (en - st) := by rw [h3, h2, pk_sub hse]
  refine MW.intro rfl (by decide) is_X7_isWord (Nat.le_of_ble_eq_true rfl) ?_
  show V G Y_X7_isWord 0 [(0, .ref 344), (1, .ref (458 + pl))] [] (I, L, RT b d t, 457) 0 0 _ _
  have no : ¬ isW I t pl st en ln → V G Y_X7_isWord 42 [(0, .ref 344), (1, .ref (458 + pl))] [] (I, L, RT b d t, 457) 0 0 (fun v9 u9 => ∃ (r9 : Int32), v9 = some (.int r9) ∧ u9 = (I, L, RT b d t, 457) ∧ Q r9) (fun _ _ => False) := by
    intro z
    refine v_iconst (v := 0) (pc' := 43) 20 rfl rfl (by decide) ?_
    exact v_bret 21 rfl rfl (Or.inl rfl) (by decide) (by decide) ⟨_, rfl, rfl, k0 z⟩
  refine v_aload_n (pc' := 1) 0 0 rfl rfl rfl rfl ?_
  refine v_cV (Y2 := Y_X7_failed) (As := []) (b := 344) (pc' := 4) (c1 := 0) (s1 := 0) 1 rfl rfl mf_X7_failed rfl rfl ml_X7_46 mi_X7_failed se_X7_failed (ci := 6) rfl ly_344 (lay_lt ly_344 (by decide)) rfl (Nat.le_of_ble_eq_true rfl) ⟨Nat.le_of_ble_eq_true rfl, Nat.le_of_ble_eq_true rfl⟩ rfl rfl (ok_X7_failed I L (Q := fun r => r = 0 ↔ I 344 6 = 0) (by unfold W_X7_failed; exact ⟨fun e => ⟨fun _ => e, fun _ => rfl⟩, fun e => ⟨fun z => absurd z (by decide), fun z => absurd z e⟩⟩)) ?_ ?_
  · intro e9 u9 hx9
    exact hx9.elim
  intro v9 u9 hv9
  obtain ⟨r1, rfl, rfl, hr⟩ := hv9
  refine ⟨fun q => absurd q (Nat.lt_irrefl _), ?_⟩
  show V G Y_X7_isWord 4 _ (.int r1 :: _) _ _ _ _ _
  refine v_if_ne (tgt := 42) (pc' := 7) 2 rfl rfl (by decide) (fun hc => no (fun z => hc (hr.mpr z.1))) (fun hc => ?_)
  have e6 := hr.mp hc
  refine v_aload_n (pc' := 8) 3 0 rfl rfl rfl rfl ?_
  refine v_getI (pc' := 11) 4 rfl rfl pf_X7_25 ly_344 (lay_lt ly_344 (by decide)) ?_
  refine v_iconst (v := 1) (pc' := 12) 5 rfl rfl (by decide) ?_
  refine v_icmp_ne (tgt := 42) (pc' := 15) 6 rfl rfl (by decide) (fun hc => no (fun z => hc z.2.1)) (fun e4 => ?_)
  refine v_aload_n (pc' := 16) 7 0 rfl rfl rfl rfl ?_
  refine v_getI (pc' := 19) 8 rfl rfl pf_X7_22 ly_344 (lay_lt ly_344 (by decide)) ?_
  refine v_aload_n (pc' := 20) 9 0 rfl rfl rfl rfl ?_
  refine v_getI (pc' := 23) 10 rfl rfl pf_X7_15 ly_344 (lay_lt ly_344 (by decide)) ?_
  refine v_icmp_gt (tgt := 42) (pc' := 26) 11 rfl rfl (by decide) (fun hc => no (fun z => ?_)) (fun hc => ?_)
  · rw [h1, h3] at hc
    have := (nI_ltI (a := ln) (b := en) (by omega) (by omega)).mp hc
    have := z.2.2.1
    omega
  have hel : en ≤ ln := by
    rcases Nat.lt_or_ge ln en with q | q
    · exact absurd (by rw [h1, h3]; exact nI_lt q (by omega)) hc
    · exact q
  refine v_aload_n (pc' := 27) 12 0 rfl rfl rfl rfl ?_
  refine v_getI (pc' := 30) 13 rfl rfl pf_X7_22 ly_344 (lay_lt ly_344 (by decide)) ?_
  refine v_aload_n (pc' := 31) 14 0 rfl rfl rfl rfl ?_
  refine v_getI (pc' := 34) 15 rfl rfl pf_X7_19 ly_344 (lay_lt ly_344 (by decide)) ?_
  refine v_isub (pc' := 35) 16 rfl rfl ?_
  refine v_aload_n (pc' := 36) 17 1 rfl rfl rfl rfl ?_
  refine v_cVS (Y2 := Y_J0_length_8abf5) (As := []) (pl := pl) (pc' := 39) (c1 := 0) (s1 := 0) 18 rfl rfl mf_J0_length_8abf5 rfl rfl ml_X7_57 mi_J0_length_8abf5 se_J0_length_8abf5 rfl hpl rfl (Nat.le_of_ble_eq_true rfl) ⟨Nat.le_of_ble_eq_true rfl, Nat.le_of_ble_eq_true rfl⟩ rfl rfl (Q1 := fun v9 u9 => v9 = some (.int (nI (lenJS.getD pl 0))) ∧ u9 = (I, L, RT b d t, 457)) (ok_slength hpl ⟨rfl, rfl⟩) (fun _ _ h9 => h9.elim) ?_
  intro v9 u9 hv9
  obtain ⟨rfl, rfl⟩ := hv9
  refine ⟨fun q => absurd q (Nat.lt_irrefl _), ?_⟩
  show V G Y_X7_isWord 39 _ (.int (nI (lenJS.getD pl 0)) :: _) _ _ _ _ _
  refine v_icmp_eq (tgt := 44) (pc' := 42) 19 rfl rfl (by decide) (fun hc => ?_) (fun hc => no (fun z => hc (by rw [ed, z.2.2.2.1])))
  have elen : en - st = lenJS.getD pl 0 := by
    rw [ed] at hc
    exact (nI_eq (by omega) (by omega)).mp hc
  refine v_iconst (v := 1) (pc' := 45) 22 rfl rfl (by decide) ?_
  refine v_istore_n (ls' := [(2, .int 1), (0, .ref 344), (1, .ref (458 + pl))]) (pc' := 46) 23 rfl rfl rfl (by decide) rfl ?_
  refine v_iconst (v := 0) (pc' := 47) 24 rfl rfl (by decide) ?_
  refine v_istore_n (ls' := [(3, .int 0), (2, .int 1), (0, .ref 344), (1, .ref (458 + pl))]) (pc' := 48) 25 rfl rfl rfl (by decide) rfl ?_
  have loop : ∀ (n j : Nat) (s : Int32), j + n = lenJS.getD pl 0 → (s = 0 ∨ s = 1) → (s = 1 ↔ ∀ k, k < j → I t (st + k) = sch pl k) → V G Y_X7_isWord 48 [(0, .ref 344), (1, .ref (458 + pl)), (2, .int s), (3, .int (nI j))] [] (I, L, RT b d t, 457) 0 0 (fun v9 u9 => ∃ (r9 : Int32), v9 = some (.int r9) ∧ u9 = (I, L, RT b d t, 457) ∧ Q r9) (fun _ _ => False) := by
    intro n
    induction n with
    | zero =>
      intro j s hj hs hk
      refine v_iload_n (pc' := 49) 26 3 rfl rfl rfl rfl ?_
      refine v_aload_n (pc' := 50) 27 1 rfl rfl rfl rfl ?_
      refine v_cVS (Y2 := Y_J0_length_8abf5) (As := []) (pl := pl) (pc' := 53) (c1 := 0) (s1 := 0) 28 rfl rfl mf_J0_length_8abf5 rfl rfl ml_X7_57 mi_J0_length_8abf5 se_J0_length_8abf5 rfl hpl rfl (Nat.le_of_ble_eq_true rfl) ⟨Nat.le_of_ble_eq_true rfl, Nat.le_of_ble_eq_true rfl⟩ rfl rfl (Q1 := fun v9 u9 => v9 = some (.int (nI (lenJS.getD pl 0))) ∧ u9 = (I, L, RT b d t, 457)) (ok_slength hpl ⟨rfl, rfl⟩) (fun _ _ h9 => h9.elim) ?_
      intro v9 u9 hv9
      obtain ⟨rfl, rfl⟩ := hv9
      refine ⟨fun q => absurd q (Nat.lt_irrefl _), ?_⟩
      show V G Y_X7_isWord 53 _ (.int (nI (lenJS.getD pl 0)) :: _) _ _ _ _ _
      refine v_icmp_ge (tgt := 89) (pc' := 56) 29 rfl rfl (by decide) (fun hc => ?_) (fun hc => absurd (by rw [← hj, Nat.add_zero]; exact nI_le (Nat.le_refl _) (by omega)) hc)
      refine v_iload_n (pc' := 90) 49 2 rfl rfl rfl rfl ?_
      refine v_bret 50 rfl rfl hs (by decide) (by decide) ⟨_, rfl, rfl, ?_⟩
      have ej : j = lenJS.getD pl 0 := by omega
      rcases hs with rfl | rfl
      · exact k0 (fun z => absurd (hk.mpr (fun k hk2 => z.2.2.2.2 k (by omega))) (by decide))
      · exact k1 ⟨e6, e4, hel, elen, fun k hk2 => hk.mp rfl k (by omega)⟩
    | succ n ih =>
      intro j s hj hs hk
      have hlt : j < lenJS.getD pl 0 := by omega
      refine v_iload_n (pc' := 49) 26 3 rfl rfl rfl rfl ?_
      refine v_aload_n (pc' := 50) 27 1 rfl rfl rfl rfl ?_
      refine v_cVS (Y2 := Y_J0_length_8abf5) (As := []) (pl := pl) (pc' := 53) (c1 := 0) (s1 := 0) 28 rfl rfl mf_J0_length_8abf5 rfl rfl ml_X7_57 mi_J0_length_8abf5 se_J0_length_8abf5 rfl hpl rfl (Nat.le_of_ble_eq_true rfl) ⟨Nat.le_of_ble_eq_true rfl, Nat.le_of_ble_eq_true rfl⟩ rfl rfl (Q1 := fun v9 u9 => v9 = some (.int (nI (lenJS.getD pl 0))) ∧ u9 = (I, L, RT b d t, 457)) (ok_slength hpl ⟨rfl, rfl⟩) (fun _ _ h9 => h9.elim) ?_
      intro v9 u9 hv9
      obtain ⟨rfl, rfl⟩ := hv9
      refine ⟨fun q => absurd q (Nat.lt_irrefl _), ?_⟩
      show V G Y_X7_isWord 53 _ (.int (nI (lenJS.getD pl 0)) :: _) _ _ _ _ _
      refine v_icmp_ge (tgt := 89) (pc' := 56) 29 rfl rfl (by decide) (fun hc => absurd ((nI_leI (by omega) (by omega)).mp hc) (by omega)) (fun hc => ?_)
      have tail : ∀ x : Int32, (x = 0 ∨ x = 1) → (x = 1 ↔ I t (st + j) = sch pl j) → V G Y_X7_isWord 81 [(0, .ref 344), (1, .ref (458 + pl)), (2, .int s), (3, .int (nI j))] [.int x, .int s] (I, L, RT b d t, 457) 0 0 (fun v9 u9 => ∃ (r9 : Int32), v9 = some (.int r9) ∧ u9 = (I, L, RT b d t, 457) ∧ Q r9) (fun _ _ => False) := by
        intro x hx hxk
        refine v_iand (pc' := 82) 45 rfl rfl ?_
        refine v_istore_n (ls' := [(2, .int (s &&& x)), (0, .ref 344), (1, .ref (458 + pl)), (3, .int (nI j))]) (pc' := 83) 46 rfl rfl rfl (by decide) rfl ?_
        refine v_iinc (v := (nI j + 1)) (ls' := [(3, .int (nI j + 1)), (2, .int (s &&& x)), (0, .ref 344), (1, .ref (458 + pl))]) (pc' := 86) 47 3 rfl rfl rfl rfl (by decide) rfl ?_
        refine v_goto (tgt := 48) 48 rfl (by decide) ?_
        refine V.sub [2, 3, 1, 0] rfl ?_
        rw [nI_1]
        have hsx : (s &&& x = 0 ∨ s &&& x = 1) ∧ (s &&& x = 1 ↔ s = 1 ∧ x = 1) := by rcases hs with rfl | rfl <;> rcases hx with rfl | rfl <;> decide
        refine ih (j + 1) _ (by omega) hsx.1 (hsx.2.trans ⟨fun z k hk2 => ?_, fun z => ⟨hk.mpr (fun k hk2 => z k (by omega)), hxk.mpr (z j (Nat.lt_succ_self _))⟩⟩)
        by_cases q : k = j
        · rw [q]; exact hxk.mp z.2
        · exact hk.mp z.1 k (by omega)
      refine v_iload_n (pc' := 57) 30 2 rfl rfl rfl rfl ?_
      refine v_aload_n (pc' := 58) 31 0 rfl rfl rfl rfl ?_
      refine v_getR (t := t) (pc' := 61) 32 rfl rfl pf_X7_9 ly_344 (lay_lt ly_344 (by decide)) rt_344_0 ?_
      refine v_aload_n (pc' := 62) 33 0 rfl rfl rfl rfl ?_
      refine v_getI (pc' := 65) 34 rfl rfl pf_X7_19 ly_344 (lay_lt ly_344 (by decide)) ?_
      refine v_iload_n (pc' := 66) 35 3 rfl rfl rfl rfl ?_
      refine v_iadd (pc' := 67) 36 rfl rfl ?_
      have ea : I 344 2 + nI j = nI (st + j) := by rw [h2, nI_add]
      refine v_bald (i := I 344 2 + nI j) (j := st + j) (pc' := 68) 37 rfl rfl (tx0l ht) rfl (lay_lt (tx0l ht) (by decide)) (pk_in (st + j) (LEN t) (by omega) ea (by omega)) (pk_cl (st + j) ea (by omega)) ?_
      refine v_aload_n (pc' := 69) 38 1 rfl rfl rfl rfl ?_
      refine v_iload_n (pc' := 70) 39 3 rfl rfl rfl rfl ?_
      refine v_cVS (Y2 := Y_J0_charAt_5068e) (As := [.int (nI j)]) (pl := pl) (pc' := 73) (c1 := 0) (s1 := 0) 40 rfl rfl mf_J0_charAt_5068e rfl rfl ml_X7_62 mi_J0_charAt_5068e se_J0_charAt_5068e rfl hpl rfl (Nat.le_of_ble_eq_true rfl) ⟨Nat.le_of_ble_eq_true rfl, Nat.le_of_ble_eq_true rfl⟩ rfl rfl (Q1 := fun v9 u9 => v9 = some (.int (sch pl j)) ∧ u9 = (I, L, RT b d t, 457)) (ok_charAt hpl (pk_in j _ hlt rfl (by omega)) ⟨by rw [pk_cl j rfl (by omega)], rfl⟩) (fun _ _ h9 => h9.elim) ?_
      intro v9 u9 hv9
      obtain ⟨rfl, rfl⟩ := hv9
      refine ⟨fun q => absurd q (Nat.lt_irrefl _), ?_⟩
      show V G Y_X7_isWord 73 _ (.int (sch pl j) :: _) _ _ _ _ _
      refine v_icmp_ne (tgt := 80) (pc' := 76) 41 rfl rfl (by decide) (fun hc => ?_) (fun hc => ?_)
      · refine v_iconst (v := 0) (pc' := 81) 44 rfl rfl (by decide) ?_
        exact tail 0 (Or.inl rfl) ⟨fun z => absurd z (by decide), fun z => absurd z hc⟩
      · refine v_iconst (v := 1) (pc' := 77) 42 rfl rfl (by decide) ?_
        refine v_goto (tgt := 81) 43 rfl (by decide) ?_
        exact tail 1 (Or.inr rfl) ⟨fun _ => hc, fun _ => rfl⟩
  refine V.sub [2, 3, 1, 0] rfl ?_
  exact loop (lenJS.getD pl 0) 0 1 (Nat.zero_add _) (Or.inr rfl) ⟨fun _ k hk => absurd hk (Nat.not_lt_zero _), fun _ => rfl⟩
